section
-- ===== PART A: goes FIRST, ahead of the names: the tables' words, and 'selects' of the private methods out of them =====
/-- a private method of a class that the tables say can be made, by its rows of tables_1 -/
def lw_okq (q : MethodName × Nat) : Prop := (q.1.cls ≠ "java/lang/invoke/MethodHandle" ∧ q.1.cls ≠ "java/lang/invoke/VarHandle") ∧ Cond.instantiable q.1.cls q.2 ∈ tables_1 ∧ Cond.privateMethod q.1 ∈ tables_1 ∧ Cond.instanceMethod q.1 ∈ tables_1
theorem lw_p0 : lw_okq (⟨"DebtChoir$Pad", "faultIn", "(I)I"⟩, 2) := ⟨⟨by decide +kernel, by decide +kernel⟩, List.mem_of_getElem? (i := 93) (by decide +kernel), List.mem_of_getElem? (i := 329) (by decide +kernel), List.mem_of_getElem? (i := 330) (by decide +kernel)⟩
theorem lw_p1 : lw_okq (⟨"DebtChoir$Trial", "act", "(III)I"⟩, 7) := ⟨⟨by decide +kernel, by decide +kernel⟩, List.mem_of_getElem? (i := 108) (by decide +kernel), List.mem_of_getElem? (i := 374) (by decide +kernel), List.mem_of_getElem? (i := 375) (by decide +kernel)⟩
theorem lw_p2 : lw_okq (⟨"DebtChoir$Choir", "owe", "(II)V"⟩, 10) := ⟨⟨by decide +kernel, by decide +kernel⟩, List.mem_of_getElem? (i := 23) (by decide +kernel), List.mem_of_getElem? (i := 392) (by decide +kernel), List.mem_of_getElem? (i := 393) (by decide +kernel)⟩
theorem lw_p3 : lw_okq (⟨"DebtChoir$Choir", "withBreath", "(I)I"⟩, 10) := ⟨⟨by decide +kernel, by decide +kernel⟩, List.mem_of_getElem? (i := 23) (by decide +kernel), List.mem_of_getElem? (i := 409) (by decide +kernel), List.mem_of_getElem? (i := 410) (by decide +kernel)⟩
theorem lw_p4 : lw_okq (⟨"DebtChoir$Choir", "deepestOf", "(I)I"⟩, 10) := ⟨⟨by decide +kernel, by decide +kernel⟩, List.mem_of_getElem? (i := 23) (by decide +kernel), List.mem_of_getElem? (i := 419) (by decide +kernel), List.mem_of_getElem? (i := 420) (by decide +kernel)⟩
theorem lw_p5 : lw_okq (⟨"DebtChoir$Choir", "singOff", "(II)V"⟩, 10) := ⟨⟨by decide +kernel, by decide +kernel⟩, List.mem_of_getElem? (i := 23) (by decide +kernel), List.mem_of_getElem? (i := 432) (by decide +kernel), List.mem_of_getElem? (i := 433) (by decide +kernel)⟩
theorem lw_p6 : lw_okq (⟨"DebtChoir$Trial", "noteFreed", "(I)V"⟩, 7) := ⟨⟨by decide +kernel, by decide +kernel⟩, List.mem_of_getElem? (i := 108) (by decide +kernel), List.mem_of_getElem? (i := 452) (by decide +kernel), List.mem_of_getElem? (i := 453) (by decide +kernel)⟩
theorem lw_p7 : lw_okq (⟨"DebtChoir$Nights", "takePays", "(LDebtChoir$Choir;I)V"⟩, 4) := ⟨⟨by decide +kernel, by decide +kernel⟩, List.mem_of_getElem? (i := 145) (by decide +kernel), List.mem_of_getElem? (i := 502) (by decide +kernel), List.mem_of_getElem? (i := 503) (by decide +kernel)⟩
theorem lw_p8 : lw_okq (⟨"DebtChoir$Nights", "fewestFrom", "(II)I"⟩, 4) := ⟨⟨by decide +kernel, by decide +kernel⟩, List.mem_of_getElem? (i := 145) (by decide +kernel), List.mem_of_getElem? (i := 508) (by decide +kernel), List.mem_of_getElem? (i := 509) (by decide +kernel)⟩
theorem lw_p9 : lw_okq (⟨"DebtChoir$Nights", "afterPiece", "(II)I"⟩, 4) := ⟨⟨by decide +kernel, by decide +kernel⟩, List.mem_of_getElem? (i := 145) (by decide +kernel), List.mem_of_getElem? (i := 512) (by decide +kernel), List.mem_of_getElem? (i := 513) (by decide +kernel)⟩
theorem lw_p10 : lw_okq (⟨"DebtChoir$Nights", "leastLeft", "(II)I"⟩, 4) := ⟨⟨by decide +kernel, by decide +kernel⟩, List.mem_of_getElem? (i := 145) (by decide +kernel), List.mem_of_getElem? (i := 520) (by decide +kernel), List.mem_of_getElem? (i := 521) (by decide +kernel)⟩
theorem lw_p11 : lw_okq (⟨"DebtChoir$Rings", "bestLeft", "(I)I"⟩, 4) := ⟨⟨by decide +kernel, by decide +kernel⟩, List.mem_of_getElem? (i := 166) (by decide +kernel), List.mem_of_getElem? (i := 571) (by decide +kernel), List.mem_of_getElem? (i := 572) (by decide +kernel)⟩
theorem lw_p12 : lw_okq (⟨"DebtChoir$Rings", "isInRing", "(I)Z"⟩, 4) := ⟨⟨by decide +kernel, by decide +kernel⟩, List.mem_of_getElem? (i := 166) (by decide +kernel), List.mem_of_getElem? (i := 577) (by decide +kernel), List.mem_of_getElem? (i := 578) (by decide +kernel)⟩
theorem lw_p13 : lw_okq (⟨"DebtChoir$Sights", "fitsAll", "(I)Z"⟩, 6) := ⟨⟨by decide +kernel, by decide +kernel⟩, List.mem_of_getElem? (i := 66) (by decide +kernel), List.mem_of_getElem? (i := 611) (by decide +kernel), List.mem_of_getElem? (i := 612) (by decide +kernel)⟩
theorem lw_p14 : lw_okq (⟨"DebtChoir", "tellPiece", "(II)I"⟩, 9) := ⟨⟨by decide +kernel, by decide +kernel⟩, List.mem_of_getElem? (i := 15) (by decide +kernel), List.mem_of_getElem? (i := 691) (by decide +kernel), List.mem_of_getElem? (i := 692) (by decide +kernel)⟩
theorem lw_p15 : lw_okq (⟨"DebtChoir", "tellSinger", "(II)I"⟩, 9) := ⟨⟨by decide +kernel, by decide +kernel⟩, List.mem_of_getElem? (i := 15) (by decide +kernel), List.mem_of_getElem? (i := 696) (by decide +kernel), List.mem_of_getElem? (i := 697) (by decide +kernel)⟩
def lw_privs_1 : List (MethodName × Nat) := [(⟨"DebtChoir$Pad", "faultIn", "(I)I"⟩, 2), (⟨"DebtChoir$Trial", "act", "(III)I"⟩, 7), (⟨"DebtChoir$Choir", "owe", "(II)V"⟩, 10), (⟨"DebtChoir$Choir", "withBreath", "(I)I"⟩, 10), (⟨"DebtChoir$Choir", "deepestOf", "(I)I"⟩, 10), (⟨"DebtChoir$Choir", "singOff", "(II)V"⟩, 10), (⟨"DebtChoir$Trial", "noteFreed", "(I)V"⟩, 7), (⟨"DebtChoir$Nights", "takePays", "(LDebtChoir$Choir;I)V"⟩, 4), (⟨"DebtChoir$Nights", "fewestFrom", "(II)I"⟩, 4), (⟨"DebtChoir$Nights", "afterPiece", "(II)I"⟩, 4), (⟨"DebtChoir$Nights", "leastLeft", "(II)I"⟩, 4), (⟨"DebtChoir$Rings", "bestLeft", "(I)I"⟩, 4), (⟨"DebtChoir$Rings", "isInRing", "(I)Z"⟩, 4), (⟨"DebtChoir$Sights", "fitsAll", "(I)Z"⟩, 6), (⟨"DebtChoir", "tellPiece", "(II)I"⟩, 9), (⟨"DebtChoir", "tellSinger", "(II)I"⟩, 9)]
theorem lw_r1 : ∀ q ∈ lw_privs_1, lw_okq q := List.forall_mem_cons.mpr ⟨lw_p0, List.forall_mem_cons.mpr ⟨lw_p1, List.forall_mem_cons.mpr ⟨lw_p2, List.forall_mem_cons.mpr ⟨lw_p3, List.forall_mem_cons.mpr ⟨lw_p4, List.forall_mem_cons.mpr ⟨lw_p5, List.forall_mem_cons.mpr ⟨lw_p6, List.forall_mem_cons.mpr ⟨lw_p7, List.forall_mem_cons.mpr ⟨lw_p8, List.forall_mem_cons.mpr ⟨lw_p9, List.forall_mem_cons.mpr ⟨lw_p10, List.forall_mem_cons.mpr ⟨lw_p11, List.forall_mem_cons.mpr ⟨lw_p12, List.forall_mem_cons.mpr ⟨lw_p13, List.forall_mem_cons.mpr ⟨lw_p14, List.forall_mem_cons.mpr ⟨lw_p15, fun _ h => absurd h List.not_mem_nil⟩⟩⟩⟩⟩⟩⟩⟩⟩⟩⟩⟩⟩⟩⟩⟩
theorem lw_p16 : lw_okq (⟨"DebtChoirModel", "isSinger", "(I)Z"⟩, 36) := ⟨⟨by decide +kernel, by decide +kernel⟩, List.mem_of_getElem? (i := 701) (by decide +kernel), List.mem_of_getElem? (i := 834) (by decide +kernel), List.mem_of_getElem? (i := 835) (by decide +kernel)⟩
theorem lw_p17 : lw_okq (⟨"DebtChoirModel", "readOn", "(II)I"⟩, 36) := ⟨⟨by decide +kernel, by decide +kernel⟩, List.mem_of_getElem? (i := 701) (by decide +kernel), List.mem_of_getElem? (i := 863) (by decide +kernel), List.mem_of_getElem? (i := 864) (by decide +kernel)⟩
theorem lw_p18 : lw_okq (⟨"DebtChoirModel", "begin", "(I)I"⟩, 36) := ⟨⟨by decide +kernel, by decide +kernel⟩, List.mem_of_getElem? (i := 701) (by decide +kernel), List.mem_of_getElem? (i := 867) (by decide +kernel), List.mem_of_getElem? (i := 868) (by decide +kernel)⟩
theorem lw_p19 : lw_okq (⟨"DebtChoirModel", "close", "(II)I"⟩, 36) := ⟨⟨by decide +kernel, by decide +kernel⟩, List.mem_of_getElem? (i := 701) (by decide +kernel), List.mem_of_getElem? (i := 875) (by decide +kernel), List.mem_of_getElem? (i := 876) (by decide +kernel)⟩
theorem lw_p20 : lw_okq (⟨"DebtChoirModel", "refusal", "()I"⟩, 36) := ⟨⟨by decide +kernel, by decide +kernel⟩, List.mem_of_getElem? (i := 701) (by decide +kernel), List.mem_of_getElem? (i := 886) (by decide +kernel), List.mem_of_getElem? (i := 887) (by decide +kernel)⟩
theorem lw_p21 : lw_okq (⟨"DebtChoirModel", "keepNow", "()V"⟩, 36) := ⟨⟨by decide +kernel, by decide +kernel⟩, List.mem_of_getElem? (i := 701) (by decide +kernel), List.mem_of_getElem? (i := 890) (by decide +kernel), List.mem_of_getElem? (i := 891) (by decide +kernel)⟩
theorem lw_p22 : lw_okq (⟨"DebtChoirModel", "goEvenings", "()V"⟩, 36) := ⟨⟨by decide +kernel, by decide +kernel⟩, List.mem_of_getElem? (i := 701) (by decide +kernel), List.mem_of_getElem? (i := 895) (by decide +kernel), List.mem_of_getElem? (i := 896) (by decide +kernel)⟩
theorem lw_p23 : lw_okq (⟨"DebtChoirModel", "whyNot", "(III)I"⟩, 36) := ⟨⟨by decide +kernel, by decide +kernel⟩, List.mem_of_getElem? (i := 701) (by decide +kernel), List.mem_of_getElem? (i := 899) (by decide +kernel), List.mem_of_getElem? (i := 900) (by decide +kernel)⟩
theorem lw_p24 : lw_okq (⟨"DebtChoirModel", "canBeSung", "(I)Z"⟩, 36) := ⟨⟨by decide +kernel, by decide +kernel⟩, List.mem_of_getElem? (i := 701) (by decide +kernel), List.mem_of_getElem? (i := 903) (by decide +kernel), List.mem_of_getElem? (i := 904) (by decide +kernel)⟩
theorem lw_p25 : lw_okq (⟨"DebtChoirModel", "ready", "(IZ)I"⟩, 36) := ⟨⟨by decide +kernel, by decide +kernel⟩, List.mem_of_getElem? (i := 701) (by decide +kernel), List.mem_of_getElem? (i := 907) (by decide +kernel), List.mem_of_getElem? (i := 908) (by decide +kernel)⟩
theorem lw_p26 : lw_okq (⟨"DebtChoirModel", "mayHere", "(II)Z"⟩, 36) := ⟨⟨by decide +kernel, by decide +kernel⟩, List.mem_of_getElem? (i := 701) (by decide +kernel), List.mem_of_getElem? (i := 911) (by decide +kernel), List.mem_of_getElem? (i := 912) (by decide +kernel)⟩
theorem lw_p27 : lw_okq (⟨"DebtChoirModel", "whyNotTake", "(II)I"⟩, 36) := ⟨⟨by decide +kernel, by decide +kernel⟩, List.mem_of_getElem? (i := 701) (by decide +kernel), List.mem_of_getElem? (i := 915) (by decide +kernel), List.mem_of_getElem? (i := 916) (by decide +kernel)⟩
theorem lw_p28 : lw_okq (⟨"DebtChoirModel", "goOne", "(I)V"⟩, 36) := ⟨⟨by decide +kernel, by decide +kernel⟩, List.mem_of_getElem? (i := 701) (by decide +kernel), List.mem_of_getElem? (i := 919) (by decide +kernel), List.mem_of_getElem? (i := 920) (by decide +kernel)⟩
theorem lw_p29 : lw_okq (⟨"DebtChoirModel", "owing", "()I"⟩, 36) := ⟨⟨by decide +kernel, by decide +kernel⟩, List.mem_of_getElem? (i := 701) (by decide +kernel), List.mem_of_getElem? (i := 923) (by decide +kernel), List.mem_of_getElem? (i := 924) (by decide +kernel)⟩
theorem lw_p30 : lw_okq (⟨"DebtChoirModel", "happen", "(III)V"⟩, 36) := ⟨⟨by decide +kernel, by decide +kernel⟩, List.mem_of_getElem? (i := 701) (by decide +kernel), List.mem_of_getElem? (i := 927) (by decide +kernel), List.mem_of_getElem? (i := 928) (by decide +kernel)⟩
theorem lw_p31 : lw_okq (⟨"DebtChoirModel", "singPiece", "(I)V"⟩, 36) := ⟨⟨by decide +kernel, by decide +kernel⟩, List.mem_of_getElem? (i := 701) (by decide +kernel), List.mem_of_getElem? (i := 931) (by decide +kernel), List.mem_of_getElem? (i := 932) (by decide +kernel)⟩
def lw_privs_2 : List (MethodName × Nat) := [(⟨"DebtChoirModel", "isSinger", "(I)Z"⟩, 36), (⟨"DebtChoirModel", "readOn", "(II)I"⟩, 36), (⟨"DebtChoirModel", "begin", "(I)I"⟩, 36), (⟨"DebtChoirModel", "close", "(II)I"⟩, 36), (⟨"DebtChoirModel", "refusal", "()I"⟩, 36), (⟨"DebtChoirModel", "keepNow", "()V"⟩, 36), (⟨"DebtChoirModel", "goEvenings", "()V"⟩, 36), (⟨"DebtChoirModel", "whyNot", "(III)I"⟩, 36), (⟨"DebtChoirModel", "canBeSung", "(I)Z"⟩, 36), (⟨"DebtChoirModel", "ready", "(IZ)I"⟩, 36), (⟨"DebtChoirModel", "mayHere", "(II)Z"⟩, 36), (⟨"DebtChoirModel", "whyNotTake", "(II)I"⟩, 36), (⟨"DebtChoirModel", "goOne", "(I)V"⟩, 36), (⟨"DebtChoirModel", "owing", "()I"⟩, 36), (⟨"DebtChoirModel", "happen", "(III)V"⟩, 36), (⟨"DebtChoirModel", "singPiece", "(I)V"⟩, 36)]
theorem lw_r2 : ∀ q ∈ lw_privs_2, lw_okq q := List.forall_mem_cons.mpr ⟨lw_p16, List.forall_mem_cons.mpr ⟨lw_p17, List.forall_mem_cons.mpr ⟨lw_p18, List.forall_mem_cons.mpr ⟨lw_p19, List.forall_mem_cons.mpr ⟨lw_p20, List.forall_mem_cons.mpr ⟨lw_p21, List.forall_mem_cons.mpr ⟨lw_p22, List.forall_mem_cons.mpr ⟨lw_p23, List.forall_mem_cons.mpr ⟨lw_p24, List.forall_mem_cons.mpr ⟨lw_p25, List.forall_mem_cons.mpr ⟨lw_p26, List.forall_mem_cons.mpr ⟨lw_p27, List.forall_mem_cons.mpr ⟨lw_p28, List.forall_mem_cons.mpr ⟨lw_p29, List.forall_mem_cons.mpr ⟨lw_p30, List.forall_mem_cons.mpr ⟨lw_p31, fun _ h => absurd h List.not_mem_nil⟩⟩⟩⟩⟩⟩⟩⟩⟩⟩⟩⟩⟩⟩⟩⟩
theorem lw_p32 : lw_okq (⟨"DebtChoirModel", "singOne", "(II)V"⟩, 36) := ⟨⟨by decide +kernel, by decide +kernel⟩, List.mem_of_getElem? (i := 701) (by decide +kernel), List.mem_of_getElem? (i := 935) (by decide +kernel), List.mem_of_getElem? (i := 936) (by decide +kernel)⟩
theorem lw_p33 : lw_okq (⟨"DebtChoirModel", "endEvening", "()V"⟩, 36) := ⟨⟨by decide +kernel, by decide +kernel⟩, List.mem_of_getElem? (i := 701) (by decide +kernel), List.mem_of_getElem? (i := 939) (by decide +kernel), List.mem_of_getElem? (i := 940) (by decide +kernel)⟩
theorem lw_p34 : lw_okq (⟨"DebtChoirModel", "back", "(I)I"⟩, 36) := ⟨⟨by decide +kernel, by decide +kernel⟩, List.mem_of_getElem? (i := 701) (by decide +kernel), List.mem_of_getElem? (i := 946) (by decide +kernel), List.mem_of_getElem? (i := 947) (by decide +kernel)⟩
theorem lw_p35 : lw_okq (⟨"DebtChoirModel", "allDebts", "()I"⟩, 36) := ⟨⟨by decide +kernel, by decide +kernel⟩, List.mem_of_getElem? (i := 701) (by decide +kernel), List.mem_of_getElem? (i := 958) (by decide +kernel), List.mem_of_getElem? (i := 959) (by decide +kernel)⟩
theorem lw_p36 : lw_okq (⟨"DebtChoirModel", "fewestNights", "(III)I"⟩, 36) := ⟨⟨by decide +kernel, by decide +kernel⟩, List.mem_of_getElem? (i := 701) (by decide +kernel), List.mem_of_getElem? (i := 978) (by decide +kernel), List.mem_of_getElem? (i := 979) (by decide +kernel)⟩
theorem lw_p37 : lw_okq (⟨"DebtChoirModel", "bestOwed", "(II)I"⟩, 36) := ⟨⟨by decide +kernel, by decide +kernel⟩, List.mem_of_getElem? (i := 701) (by decide +kernel), List.mem_of_getElem? (i := 982) (by decide +kernel), List.mem_of_getElem? (i := 983) (by decide +kernel)⟩
theorem lw_p38 : lw_okq (⟨"DebtChoirModel", "isFor", "(II)Z"⟩, 36) := ⟨⟨by decide +kernel, by decide +kernel⟩, List.mem_of_getElem? (i := 701) (by decide +kernel), List.mem_of_getElem? (i := 986) (by decide +kernel), List.mem_of_getElem? (i := 987) (by decide +kernel)⟩
theorem lw_p39 : lw_okq (⟨"DebtChoirModel", "firstNight", "(II)I"⟩, 36) := ⟨⟨by decide +kernel, by decide +kernel⟩, List.mem_of_getElem? (i := 701) (by decide +kernel), List.mem_of_getElem? (i := 993) (by decide +kernel), List.mem_of_getElem? (i := 994) (by decide +kernel)⟩
theorem lw_p40 : lw_okq (⟨"DebtChoirModel", "barsOf", "(I)I"⟩, 36) := ⟨⟨by decide +kernel, by decide +kernel⟩, List.mem_of_getElem? (i := 701) (by decide +kernel), List.mem_of_getElem? (i := 1002) (by decide +kernel), List.mem_of_getElem? (i := 1003) (by decide +kernel)⟩
theorem lw_p41 : lw_okq (⟨"DebtChoirModel", "paysOf", "(I)I"⟩, 36) := ⟨⟨by decide +kernel, by decide +kernel⟩, List.mem_of_getElem? (i := 701) (by decide +kernel), List.mem_of_getElem? (i := 1006) (by decide +kernel), List.mem_of_getElem? (i := 1007) (by decide +kernel)⟩
theorem lw_p42 : lw_okq (⟨"DebtChoirModel", "needsOf", "(I)I"⟩, 36) := ⟨⟨by decide +kernel, by decide +kernel⟩, List.mem_of_getElem? (i := 701) (by decide +kernel), List.mem_of_getElem? (i := 1010) (by decide +kernel), List.mem_of_getElem? (i := 1011) (by decide +kernel)⟩
theorem lw_p43 : lw_okq (⟨"DebtChoirModel", "ruined", "(II)I"⟩, 36) := ⟨⟨by decide +kernel, by decide +kernel⟩, List.mem_of_getElem? (i := 701) (by decide +kernel), List.mem_of_getElem? (i := 1018) (by decide +kernel), List.mem_of_getElem? (i := 1019) (by decide +kernel)⟩
theorem lw_p44 : lw_okq (⟨"DebtChoirModel", "ahead", "(I)I"⟩, 36) := ⟨⟨by decide +kernel, by decide +kernel⟩, List.mem_of_getElem? (i := 701) (by decide +kernel), List.mem_of_getElem? (i := 1028) (by decide +kernel), List.mem_of_getElem? (i := 1029) (by decide +kernel)⟩
theorem lw_p45 : lw_okq (⟨"DebtChoirModel", "areRanks", "(II)Z"⟩, 36) := ⟨⟨by decide +kernel, by decide +kernel⟩, List.mem_of_getElem? (i := 701) (by decide +kernel), List.mem_of_getElem? (i := 1036) (by decide +kernel), List.mem_of_getElem? (i := 1037) (by decide +kernel)⟩
theorem lw_p46 : lw_okq (⟨"DebtChoirModel", "deal", "()V"⟩, 36) := ⟨⟨by decide +kernel, by decide +kernel⟩, List.mem_of_getElem? (i := 701) (by decide +kernel), List.mem_of_getElem? (i := 1041) (by decide +kernel), List.mem_of_getElem? (i := 1042) (by decide +kernel)⟩
theorem lw_p47 : lw_okq (⟨"DebtChoirModel", "ringed", "(I)I"⟩, 36) := ⟨⟨by decide +kernel, by decide +kernel⟩, List.mem_of_getElem? (i := 701) (by decide +kernel), List.mem_of_getElem? (i := 1045) (by decide +kernel), List.mem_of_getElem? (i := 1046) (by decide +kernel)⟩
def lw_privs_3 : List (MethodName × Nat) := [(⟨"DebtChoirModel", "singOne", "(II)V"⟩, 36), (⟨"DebtChoirModel", "endEvening", "()V"⟩, 36), (⟨"DebtChoirModel", "back", "(I)I"⟩, 36), (⟨"DebtChoirModel", "allDebts", "()I"⟩, 36), (⟨"DebtChoirModel", "fewestNights", "(III)I"⟩, 36), (⟨"DebtChoirModel", "bestOwed", "(II)I"⟩, 36), (⟨"DebtChoirModel", "isFor", "(II)Z"⟩, 36), (⟨"DebtChoirModel", "firstNight", "(II)I"⟩, 36), (⟨"DebtChoirModel", "barsOf", "(I)I"⟩, 36), (⟨"DebtChoirModel", "paysOf", "(I)I"⟩, 36), (⟨"DebtChoirModel", "needsOf", "(I)I"⟩, 36), (⟨"DebtChoirModel", "ruined", "(II)I"⟩, 36), (⟨"DebtChoirModel", "ahead", "(I)I"⟩, 36), (⟨"DebtChoirModel", "areRanks", "(II)Z"⟩, 36), (⟨"DebtChoirModel", "deal", "()V"⟩, 36), (⟨"DebtChoirModel", "ringed", "(I)I"⟩, 36)]
theorem lw_r3 : ∀ q ∈ lw_privs_3, lw_okq q := List.forall_mem_cons.mpr ⟨lw_p32, List.forall_mem_cons.mpr ⟨lw_p33, List.forall_mem_cons.mpr ⟨lw_p34, List.forall_mem_cons.mpr ⟨lw_p35, List.forall_mem_cons.mpr ⟨lw_p36, List.forall_mem_cons.mpr ⟨lw_p37, List.forall_mem_cons.mpr ⟨lw_p38, List.forall_mem_cons.mpr ⟨lw_p39, List.forall_mem_cons.mpr ⟨lw_p40, List.forall_mem_cons.mpr ⟨lw_p41, List.forall_mem_cons.mpr ⟨lw_p42, List.forall_mem_cons.mpr ⟨lw_p43, List.forall_mem_cons.mpr ⟨lw_p44, List.forall_mem_cons.mpr ⟨lw_p45, List.forall_mem_cons.mpr ⟨lw_p46, List.forall_mem_cons.mpr ⟨lw_p47, fun _ h => absurd h List.not_mem_nil⟩⟩⟩⟩⟩⟩⟩⟩⟩⟩⟩⟩⟩⟩⟩⟩
theorem lw_p48 : lw_okq (⟨"DebtChoirModel", "pointsTo", "(II)I"⟩, 36) := ⟨⟨by decide +kernel, by decide +kernel⟩, List.mem_of_getElem? (i := 701) (by decide +kernel), List.mem_of_getElem? (i := 1049) (by decide +kernel), List.mem_of_getElem? (i := 1050) (by decide +kernel)⟩
theorem lw_p49 : lw_okq (⟨"DebtChoirModel", "fits", "(I)Z"⟩, 36) := ⟨⟨by decide +kernel, by decide +kernel⟩, List.mem_of_getElem? (i := 701) (by decide +kernel), List.mem_of_getElem? (i := 1066) (by decide +kernel), List.mem_of_getElem? (i := 1067) (by decide +kernel)⟩
theorem lw_p50 : lw_okq (⟨"DebtChoirModel", "mostLeft", "(I)I"⟩, 36) := ⟨⟨by decide +kernel, by decide +kernel⟩, List.mem_of_getElem? (i := 701) (by decide +kernel), List.mem_of_getElem? (i := 1077) (by decide +kernel), List.mem_of_getElem? (i := 1078) (by decide +kernel)⟩
theorem lw_p51 : lw_okq (⟨"DebtChoirModel", "fugueGood", "(IIIII)Z"⟩, 36) := ⟨⟨by decide +kernel, by decide +kernel⟩, List.mem_of_getElem? (i := 701) (by decide +kernel), List.mem_of_getElem? (i := 1085) (by decide +kernel), List.mem_of_getElem? (i := 1086) (by decide +kernel)⟩
theorem lw_p52 : lw_okq (⟨"DebtChoirModel", "sung", "(II)J"⟩, 36) := ⟨⟨by decide +kernel, by decide +kernel⟩, List.mem_of_getElem? (i := 701) (by decide +kernel), List.mem_of_getElem? (i := 1092) (by decide +kernel), List.mem_of_getElem? (i := 1093) (by decide +kernel)⟩
theorem lw_p53 : lw_okq (⟨"DebtChoirModel", "passAll", "()V"⟩, 36) := ⟨⟨by decide +kernel, by decide +kernel⟩, List.mem_of_getElem? (i := 701) (by decide +kernel), List.mem_of_getElem? (i := 1117) (by decide +kernel), List.mem_of_getElem? (i := 1118) (by decide +kernel)⟩
theorem lw_p54 : lw_okq (⟨"DebtChoirModel", "pass", "(I)I"⟩, 36) := ⟨⟨by decide +kernel, by decide +kernel⟩, List.mem_of_getElem? (i := 701) (by decide +kernel), List.mem_of_getElem? (i := 1121) (by decide +kernel), List.mem_of_getElem? (i := 1122) (by decide +kernel)⟩
theorem lw_p55 : lw_okq (⟨"DebtChoirModel", "passRow", "([II)V"⟩, 36) := ⟨⟨by decide +kernel, by decide +kernel⟩, List.mem_of_getElem? (i := 701) (by decide +kernel), List.mem_of_getElem? (i := 1125) (by decide +kernel), List.mem_of_getElem? (i := 1126) (by decide +kernel)⟩
theorem lw_p56 : lw_okq (⟨"DebtChoirModel", "toldOfPiece", "(II)I"⟩, 36) := ⟨⟨by decide +kernel, by decide +kernel⟩, List.mem_of_getElem? (i := 701) (by decide +kernel), List.mem_of_getElem? (i := 1139) (by decide +kernel), List.mem_of_getElem? (i := 1140) (by decide +kernel)⟩
theorem lw_p57 : lw_okq (⟨"DebtChoirModel", "toldOfSinger", "(II)I"⟩, 36) := ⟨⟨by decide +kernel, by decide +kernel⟩, List.mem_of_getElem? (i := 701) (by decide +kernel), List.mem_of_getElem? (i := 1144) (by decide +kernel), List.mem_of_getElem? (i := 1145) (by decide +kernel)⟩
def lw_privs_4 : List (MethodName × Nat) := [(⟨"DebtChoirModel", "pointsTo", "(II)I"⟩, 36), (⟨"DebtChoirModel", "fits", "(I)Z"⟩, 36), (⟨"DebtChoirModel", "mostLeft", "(I)I"⟩, 36), (⟨"DebtChoirModel", "fugueGood", "(IIIII)Z"⟩, 36), (⟨"DebtChoirModel", "sung", "(II)J"⟩, 36), (⟨"DebtChoirModel", "passAll", "()V"⟩, 36), (⟨"DebtChoirModel", "pass", "(I)I"⟩, 36), (⟨"DebtChoirModel", "passRow", "([II)V"⟩, 36), (⟨"DebtChoirModel", "toldOfPiece", "(II)I"⟩, 36), (⟨"DebtChoirModel", "toldOfSinger", "(II)I"⟩, 36)]
theorem lw_r4 : ∀ q ∈ lw_privs_4, lw_okq q := List.forall_mem_cons.mpr ⟨lw_p48, List.forall_mem_cons.mpr ⟨lw_p49, List.forall_mem_cons.mpr ⟨lw_p50, List.forall_mem_cons.mpr ⟨lw_p51, List.forall_mem_cons.mpr ⟨lw_p52, List.forall_mem_cons.mpr ⟨lw_p53, List.forall_mem_cons.mpr ⟨lw_p54, List.forall_mem_cons.mpr ⟨lw_p55, List.forall_mem_cons.mpr ⟨lw_p56, List.forall_mem_cons.mpr ⟨lw_p57, fun _ h => absurd h List.not_mem_nil⟩⟩⟩⟩⟩⟩⟩⟩⟩⟩
def lw_privs : List (MethodName × Nat) := lw_privs_1 ++ (lw_privs_2 ++ (lw_privs_3 ++ (lw_privs_4)))
def lw_tbl : List Cond := k2_sels lw_privs ++ tables_1
theorem lw_privs_ok : ∀ q ∈ lw_privs, lw_okq q := by
  show ∀ q ∈ lw_privs_1 ++ (lw_privs_2 ++ (lw_privs_3 ++ (lw_privs_4))), lw_okq q
  exact List.forall_mem_append.mpr ⟨lw_r1, List.forall_mem_append.mpr ⟨lw_r2, List.forall_mem_append.mpr ⟨lw_r3, lw_r4⟩⟩⟩
end
section
def RX0 : String := "DebtChoir$Choir"
def TX0 : u_T := fun k => match k with
  | 0 => ("DebtChoir$Choir", "there", "I", false)
  | 1 => ("DebtChoir$Choir", "hoarse", "I", false)
  | 2 => ("DebtChoir$Choir", "sang", "I", false)
  | 3 => ("DebtChoir$Choir", "evenings", "I", false)
  | 4 => ("DebtChoir$Choir", "sungOff", "I", false)
  | 5 => ("DebtChoir$Choir", "voices", "[I", true)
  | 6 => ("DebtChoir$Choir", "debts", "[I", true)
  | 7 => ("DebtChoir$Choir", "needs", "[I", true)
  | 8 => ("DebtChoir$Choir", "bars", "[I", true)
  | _ => ("DebtChoir$Choir", "pays", "[I", true)
def tyX0 : Nat → FieldType := fun k => match k with
  | 0 => .int
  | 1 => .int
  | 2 => .int
  | 3 => .int
  | 4 => .int
  | 5 => .array .int
  | 6 => .array .int
  | 7 => .array .int
  | 8 => .array .int
  | _ => .array .int
abbrev wsX00 : List Cond := u_ws RX0 TX0 10
theorem nmX0 : ∀ a, a < 10 → ∀ b, b < 10 → a ≠ b → (TX0 a).2.1 ≠ (TX0 b).2.1 := by decide +kernel
theorem tyX0_ok : ∀ k, k < 10 → parseFieldDescriptor (TX0 k).2.2.1 = some (tyX0 k) := by decide +kernel
abbrev cX0_init : ByteArray := prog_2_method_1_code
def yX0_init : MethodName := ⟨RX0, "<init>", "()V"⟩
abbrev cX0_copyFrom : ByteArray := prog_2_method_2_code
def yX0_copyFrom : MethodName := ⟨RX0, "copyFrom", "(LDebtChoir$Choir;)V"⟩
abbrev cX0_has : ByteArray := prog_2_method_3_code
def yX0_has : MethodName := ⟨RX0, "has", "(I)Z"⟩
abbrev cX0_come : ByteArray := prog_2_method_4_code
def yX0_come : MethodName := ⟨RX0, "come", "(III)V"⟩
abbrev cX0_go : ByteArray := prog_2_method_5_code
def yX0_go : MethodName := ⟨RX0, "go", "(I)V"⟩
abbrev cX0_voiceOf : ByteArray := prog_2_method_6_code
def yX0_voiceOf : MethodName := ⟨RX0, "voiceOf", "(I)I"⟩
abbrev cX0_debtOf : ByteArray := prog_2_method_7_code
def yX0_debtOf : MethodName := ⟨RX0, "debtOf", "(I)I"⟩
abbrev cX0_owe : ByteArray := prog_2_method_8_code
def yX0_owe : MethodName := ⟨RX0, "owe", "(II)V"⟩
abbrev cX0_allDebts : ByteArray := prog_2_method_9_code
def yX0_allDebts : MethodName := ⟨RX0, "allDebts", "()I"⟩
abbrev cX0_freeSingers : ByteArray := prog_2_method_10_code
def yX0_freeSingers : MethodName := ⟨RX0, "freeSingers", "()I"⟩
abbrev cX0_write : ByteArray := prog_2_method_11_code
def yX0_write : MethodName := ⟨RX0, "write", "(IIII)V"⟩
abbrev cX0_needOf : ByteArray := prog_2_method_12_code
def yX0_needOf : MethodName := ⟨RX0, "needOf", "(II)I"⟩
abbrev cX0_barsOf : ByteArray := prog_2_method_13_code
def yX0_barsOf : MethodName := ⟨RX0, "barsOf", "(I)I"⟩
abbrev cX0_payOf : ByteArray := prog_2_method_14_code
def yX0_payOf : MethodName := ⟨RX0, "payOf", "(I)I"⟩
abbrev cX0_worthOf : ByteArray := prog_2_method_15_code
def yX0_worthOf : MethodName := ⟨RX0, "worthOf", "(I)I"⟩
abbrev cX0_barsOfSet : ByteArray := prog_2_method_16_code
def yX0_barsOfSet : MethodName := ⟨RX0, "barsOfSet", "(I)I"⟩
abbrev cX0_payOfSet : ByteArray := prog_2_method_17_code
def yX0_payOfSet : MethodName := ⟨RX0, "payOfSet", "(I)I"⟩
abbrev cX0_withBreath : ByteArray := prog_2_method_18_code
def yX0_withBreath : MethodName := ⟨RX0, "withBreath", "(I)I"⟩
abbrev cX0_readyIn : ByteArray := prog_2_method_19_code
def yX0_readyIn : MethodName := ⟨RX0, "readyIn", "(I)I"⟩
abbrev cX0_leastFree : ByteArray := prog_2_method_20_code
def yX0_leastFree : MethodName := ⟨RX0, "leastFree", "(II)I"⟩
abbrev cX0_canBeSung : ByteArray := prog_2_method_21_code
def yX0_canBeSung : MethodName := ⟨RX0, "canBeSung", "(I)Z"⟩
abbrev cX0_deepestOf : ByteArray := prog_2_method_22_code
def yX0_deepestOf : MethodName := ⟨RX0, "deepestOf", "(I)I"⟩
abbrev cX0_sing : ByteArray := prog_2_method_23_code
def yX0_sing : MethodName := ⟨RX0, "sing", "(I)I"⟩
abbrev cX0_singOff : ByteArray := prog_2_method_24_code
def yX0_singOff : MethodName := ⟨RX0, "singOff", "(II)V"⟩
abbrev cX0_borrow : ByteArray := prog_2_method_25_code
def yX0_borrow : MethodName := ⟨RX0, "borrow", "(II)I"⟩
abbrev cX0_turnHoarse : ByteArray := prog_2_method_26_code
def yX0_turnHoarse : MethodName := ⟨RX0, "turnHoarse", "(I)I"⟩
abbrev cX0_takeOver : ByteArray := prog_2_method_27_code
def yX0_takeOver : MethodName := ⟨RX0, "takeOver", "(II)I"⟩
abbrev cX0_letGo : ByteArray := prog_2_method_28_code
def yX0_letGo : MethodName := ⟨RX0, "letGo", "(I)I"⟩
abbrev cX0_endEvening : ByteArray := prog_2_method_29_code
def yX0_endEvening : MethodName := ⟨RX0, "endEvening", "()I"⟩
def RX1 : String := "DebtChoir$Fugue"
def TX1 : u_T := fun k => match k with
  | 0 => ("DebtChoir$Fugue", "unit", "J", false)
  | 1 => ("DebtChoir$Fugue", "borrowing", "I", false)
  | 2 => ("DebtChoir$Fugue", "best", "[J", true)
  | _ => ("DebtChoir$Fugue", "sung", "[J", true)
def tyX1 : Nat → FieldType := fun k => match k with
  | 0 => .long
  | 1 => .int
  | 2 => .array .long
  | _ => .array .long
abbrev wsX10 : List Cond := u_ws RX1 TX1 4
theorem nmX1 : ∀ a, a < 4 → ∀ b, b < 4 → a ≠ b → (TX1 a).2.1 ≠ (TX1 b).2.1 := by decide +kernel
theorem tyX1_ok : ∀ k, k < 4 → parseFieldDescriptor (TX1 k).2.2.1 = some (tyX1 k) := by decide +kernel
abbrev cX1_init : ByteArray := prog_3_method_1_code
def yX1_init : MethodName := ⟨RX1, "<init>", "()V"⟩
abbrev cX1_start : ByteArray := prog_3_method_2_code
def yX1_start : MethodName := ⟨RX1, "start", "(I)V"⟩
abbrev cX1_evening : ByteArray := prog_3_method_3_code
def yX1_evening : MethodName := ⟨RX1, "evening", "(II)V"⟩
abbrev cX1_bestOf : ByteArray := prog_3_method_4_code
def yX1_bestOf : MethodName := ⟨RX1, "bestOf", "(I)J"⟩
def RX2 : String := "DebtChoir$Image"
def TX2 : u_T := fun k => match k with
  | 0 => ("DebtChoir$Image", "choir", "LDebtChoir$Choir;", true)
  | 1 => ("DebtChoir$Image", "sights", "LDebtChoir$Sights;", true)
  | _ => ("DebtChoir$Image", "kept", "Z", false)
def tyX2 : Nat → FieldType := fun k => match k with
  | 0 => .object "DebtChoir$Choir"
  | 1 => .object "DebtChoir$Sights"
  | _ => .boolean
abbrev wsX20 : List Cond := u_ws RX2 TX2 3
theorem nmX2 : ∀ a, a < 3 → ∀ b, b < 3 → a ≠ b → (TX2 a).2.1 ≠ (TX2 b).2.1 := by decide +kernel
theorem tyX2_ok : ∀ k, k < 3 → parseFieldDescriptor (TX2 k).2.2.1 = some (tyX2 k) := by decide +kernel
abbrev cX2_init : ByteArray := prog_4_method_1_code
def yX2_init : MethodName := ⟨RX2, "<init>", "()V"⟩
def RX3 : String := "DebtChoir$Nights"
def TX3 : u_T := fun k => match k with
  | 0 => ("DebtChoir$Nights", "fewest", "I", false)
  | 1 => ("DebtChoir$Nights", "firstPiece", "I", false)
  | 2 => ("DebtChoir$Nights", "pays", "[I", true)
  | _ => ("DebtChoir$Nights", "left", "[I", true)
def tyX3 : Nat → FieldType := fun k => match k with
  | 0 => .int
  | 1 => .int
  | 2 => .array .int
  | _ => .array .int
abbrev wsX30 : List Cond := u_ws RX3 TX3 4
theorem nmX3 : ∀ a, a < 4 → ∀ b, b < 4 → a ≠ b → (TX3 a).2.1 ≠ (TX3 b).2.1 := by decide +kernel
theorem tyX3_ok : ∀ k, k < 4 → parseFieldDescriptor (TX3 k).2.2.1 = some (tyX3 k) := by decide +kernel
abbrev cX3_init : ByteArray := prog_5_method_1_code
def yX3_init : MethodName := ⟨RX3, "<init>", "()V"⟩
abbrev cX3_find : ByteArray := prog_5_method_2_code
def yX3_find : MethodName := ⟨RX3, "find", "(LDebtChoir$Choir;I)V"⟩
abbrev cX3_takePays : ByteArray := prog_5_method_3_code
def yX3_takePays : MethodName := ⟨RX3, "takePays", "(LDebtChoir$Choir;I)V"⟩
abbrev cX3_fewestFrom : ByteArray := prog_5_method_4_code
def yX3_fewestFrom : MethodName := ⟨RX3, "fewestFrom", "(II)I"⟩
abbrev cX3_leastLeft : ByteArray := prog_5_method_5_code
def yX3_leastLeft : MethodName := ⟨RX3, "leastLeft", "(II)I"⟩
abbrev cX3_afterPiece : ByteArray := prog_5_method_6_code
def yX3_afterPiece : MethodName := ⟨RX3, "afterPiece", "(II)I"⟩
def RX4 : String := "DebtChoir$Pad"
def TX4 : u_T := fun k => match k with
  | 0 => ("DebtChoir$Pad", "count", "I", false)
  | _ => ("DebtChoir$Pad", "signs", "[I", true)
def tyX4 : Nat → FieldType := fun k => match k with
  | 0 => .int
  | _ => .array .int
abbrev wsX40 : List Cond := u_ws RX4 TX4 2
theorem nmX4 : ∀ a, a < 2 → ∀ b, b < 2 → a ≠ b → (TX4 a).2.1 ≠ (TX4 b).2.1 := by decide +kernel
theorem tyX4_ok : ∀ k, k < 2 → parseFieldDescriptor (TX4 k).2.2.1 = some (tyX4 k) := by decide +kernel
abbrev cX4_init : ByteArray := prog_6_method_1_code
def yX4_init : MethodName := ⟨RX4, "<init>", "()V"⟩
abbrev cX4_add : ByteArray := prog_6_method_2_code
def yX4_add : MethodName := ⟨RX4, "add", "(I)Z"⟩
abbrev cX4_signAt : ByteArray := prog_6_method_3_code
def yX4_signAt : MethodName := ⟨RX4, "signAt", "(I)I"⟩
abbrev cX4_isPiece : ByteArray := prog_6_method_4_code
def yX4_isPiece : MethodName := ⟨RX4, "isPiece", "(I)Z"⟩
abbrev cX4_isLetter : ByteArray := prog_6_method_5_code
def yX4_isLetter : MethodName := ⟨RX4, "isLetter", "(I)Z"⟩
abbrev cX4_lengthOf : ByteArray := prog_6_method_6_code
def yX4_lengthOf : MethodName := ⟨RX4, "lengthOf", "(II)I"⟩
abbrev cX4_isMark : ByteArray := prog_6_method_7_code
def yX4_isMark : MethodName := ⟨RX4, "isMark", "(I)Z"⟩
abbrev cX4_faultIn : ByteArray := prog_6_method_8_code
def yX4_faultIn : MethodName := ⟨RX4, "faultIn", "(I)I"⟩
abbrev cX4_faultPlace : ByteArray := prog_6_method_9_code
def yX4_faultPlace : MethodName := ⟨RX4, "faultPlace", "()I"⟩
def RX5 : String := "DebtChoir$Rings"
def TX5 : u_T := fun k => match k with
  | 0 => ("DebtChoir$Rings", "ranks", "[I", true)
  | 1 => ("DebtChoir$Rings", "parts", "[I", true)
  | 2 => ("DebtChoir$Rings", "points", "[I", true)
  | _ => ("DebtChoir$Rings", "left", "I", false)
def tyX5 : Nat → FieldType := fun k => match k with
  | 0 => .array .int
  | 1 => .array .int
  | 2 => .array .int
  | _ => .int
abbrev wsX50 : List Cond := u_ws RX5 TX5 4
theorem nmX5 : ∀ a, a < 4 → ∀ b, b < 4 → a ≠ b → (TX5 a).2.1 ≠ (TX5 b).2.1 := by decide +kernel
theorem tyX5_ok : ∀ k, k < 4 → parseFieldDescriptor (TX5 k).2.2.1 = some (tyX5 k) := by decide +kernel
abbrev cX5_init : ByteArray := prog_7_method_1_code
def yX5_init : MethodName := ⟨RX5, "<init>", "()V"⟩
abbrev cX5_start : ByteArray := prog_7_method_2_code
def yX5_start : MethodName := ⟨RX5, "start", "(IIII)V"⟩
abbrev cX5_swap : ByteArray := prog_7_method_3_code
def yX5_swap : MethodName := ⟨RX5, "swap", "()V"⟩
abbrev cX5_bestLeft : ByteArray := prog_7_method_4_code
def yX5_bestLeft : MethodName := ⟨RX5, "bestLeft", "(I)I"⟩
abbrev cX5_isInRing : ByteArray := prog_7_method_5_code
def yX5_isInRing : MethodName := ⟨RX5, "isInRing", "(I)Z"⟩
abbrev cX5_partsAsDigits : ByteArray := prog_7_method_6_code
def yX5_partsAsDigits : MethodName := ⟨RX5, "partsAsDigits", "()I"⟩
abbrev cX5_countOwn : ByteArray := prog_7_method_7_code
def yX5_countOwn : MethodName := ⟨RX5, "countOwn", "()I"⟩
def RX6 : String := "DebtChoir$Sights"
def TX6 : u_T := fun k => match k with
  | 0 => ("DebtChoir$Sights", "count", "I", false)
  | 1 => ("DebtChoir$Sights", "found", "I", false)
  | 2 => ("DebtChoir$Sights", "pays", "[I", true)
  | 3 => ("DebtChoir$Sights", "sums", "[I", true)
  | 4 => ("DebtChoir$Sights", "rows", "[I", true)
  | _ => ("DebtChoir$Sights", "tally", "[I", true)
def tyX6 : Nat → FieldType := fun k => match k with
  | 0 => .int
  | 1 => .int
  | 2 => .array .int
  | 3 => .array .int
  | 4 => .array .int
  | _ => .array .int
abbrev wsX60 : List Cond := u_ws RX6 TX6 6
theorem nmX6 : ∀ a, a < 6 → ∀ b, b < 6 → a ≠ b → (TX6 a).2.1 ≠ (TX6 b).2.1 := by decide +kernel
theorem tyX6_ok : ∀ k, k < 6 → parseFieldDescriptor (TX6 k).2.2.1 = some (tyX6 k) := by decide +kernel
abbrev cX6_init : ByteArray := prog_8_method_1_code
def yX6_init : MethodName := ⟨RX6, "<init>", "()V"⟩
abbrev cX6_copyFrom : ByteArray := prog_8_method_2_code
def yX6_copyFrom : MethodName := ⟨RX6, "copyFrom", "(LDebtChoir$Sights;)V"⟩
abbrev cX6_add : ByteArray := prog_8_method_3_code
def yX6_add : MethodName := ⟨RX6, "add", "(II)Z"⟩
abbrev cX6_sumOf : ByteArray := prog_8_method_4_code
def yX6_sumOf : MethodName := ⟨RX6, "sumOf", "(II)I"⟩
abbrev cX6_fitsAll : ByteArray := prog_8_method_5_code
def yX6_fitsAll : MethodName := ⟨RX6, "fitsAll", "(I)Z"⟩
abbrev cX6_findRows : ByteArray := prog_8_method_6_code
def yX6_findRows : MethodName := ⟨RX6, "findRows", "()V"⟩
abbrev cX6_rowAt : ByteArray := prog_8_method_7_code
def yX6_rowAt : MethodName := ⟨RX6, "rowAt", "(I)I"⟩
abbrev cX6_mostLeft : ByteArray := prog_8_method_8_code
def yX6_mostLeft : MethodName := ⟨RX6, "mostLeft", "(I)I"⟩
def RX7 : String := "DebtChoir$Trial"
def TX7 : u_T := fun k => match k with
  | 0 => ("DebtChoir$Trial", "choir", "LDebtChoir$Choir;", true)
  | 1 => ("DebtChoir$Trial", "acts", "I", false)
  | 2 => ("DebtChoir$Trial", "badAct", "I", false)
  | 3 => ("DebtChoir$Trial", "why", "I", false)
  | 4 => ("DebtChoir$Trial", "piecesSung", "I", false)
  | 5 => ("DebtChoir$Trial", "freeingAct", "I", false)
  | _ => ("DebtChoir$Trial", "firstFreed", "I", false)
def tyX7 : Nat → FieldType := fun k => match k with
  | 0 => .object "DebtChoir$Choir"
  | 1 => .int
  | 2 => .int
  | 3 => .int
  | 4 => .int
  | 5 => .int
  | _ => .int
abbrev wsX70 : List Cond := u_ws RX7 TX7 7
theorem nmX7 : ∀ a, a < 7 → ∀ b, b < 7 → a ≠ b → (TX7 a).2.1 ≠ (TX7 b).2.1 := by decide +kernel
theorem tyX7_ok : ∀ k, k < 7 → parseFieldDescriptor (TX7 k).2.2.1 = some (tyX7 k) := by decide +kernel
abbrev cX7_init : ByteArray := prog_9_method_1_code
def yX7_init : MethodName := ⟨RX7, "<init>", "()V"⟩
abbrev cX7_start : ByteArray := prog_9_method_2_code
def yX7_start : MethodName := ⟨RX7, "start", "(LDebtChoir$Choir;)V"⟩
abbrev cX7_play : ByteArray := prog_9_method_3_code
def yX7_play : MethodName := ⟨RX7, "play", "(LDebtChoir$Pad;LDebtChoir$Choir;)I"⟩
abbrev cX7_noteFreed : ByteArray := prog_9_method_4_code
def yX7_noteFreed : MethodName := ⟨RX7, "noteFreed", "(I)V"⟩
abbrev cX7_act : ByteArray := prog_9_method_5_code
def yX7_act : MethodName := ⟨RX7, "act", "(III)I"⟩
abbrev cX7_draw : ByteArray := prog_9_method_6_code
def yX7_draw : MethodName := ⟨RX7, "draw", "(I)V"⟩
def RX8 : String := "DebtChoir"
def TX8 : u_T := fun k => match k with
  | 0 => ("DebtChoir", "choir", "LDebtChoir$Choir;", true)
  | 1 => ("DebtChoir", "sights", "LDebtChoir$Sights;", true)
  | 2 => ("DebtChoir", "pad", "LDebtChoir$Pad;", true)
  | 3 => ("DebtChoir", "trial", "LDebtChoir$Trial;", true)
  | 4 => ("DebtChoir", "row", "LDebtChoir$Nights;", true)
  | 5 => ("DebtChoir", "circle", "LDebtChoir$Rings;", true)
  | 6 => ("DebtChoir", "borrower", "LDebtChoir$Fugue;", true)
  | 7 => ("DebtChoir", "firstImage", "LDebtChoir$Image;", true)
  | _ => ("DebtChoir", "secondImage", "LDebtChoir$Image;", true)
def tyX8 : Nat → FieldType := fun k => match k with
  | 0 => .object "DebtChoir$Choir"
  | 1 => .object "DebtChoir$Sights"
  | 2 => .object "DebtChoir$Pad"
  | 3 => .object "DebtChoir$Trial"
  | 4 => .object "DebtChoir$Nights"
  | 5 => .object "DebtChoir$Rings"
  | 6 => .object "DebtChoir$Fugue"
  | 7 => .object "DebtChoir$Image"
  | _ => .object "DebtChoir$Image"
abbrev wsX80 : List Cond := u_ws RX8 TX8 9
theorem nmX8 : ∀ a, a < 9 → ∀ b, b < 9 → a ≠ b → (TX8 a).2.1 ≠ (TX8 b).2.1 := by decide +kernel
theorem tyX8_ok : ∀ k, k < 9 → parseFieldDescriptor (TX8 k).2.2.1 = some (tyX8 k) := by decide +kernel
abbrev cX8_init : ByteArray := prog_1_method_1_code
def yX8_init : MethodName := ⟨RX8, "<init>", "()V"⟩
abbrev cX8_singer : ByteArray := prog_1_method_2_code
def yX8_singer : MethodName := ⟨RX8, "singer", "(III)I"⟩
abbrev cX8_leave : ByteArray := prog_1_method_3_code
def yX8_leave : MethodName := ⟨RX8, "leave", "(I)I"⟩
abbrev cX8_piece : ByteArray := prog_1_method_4_code
def yX8_piece : MethodName := ⟨RX8, "piece", "(IIII)I"⟩
abbrev cX8_say : ByteArray := prog_1_method_5_code
def yX8_say : MethodName := ⟨RX8, "say", "(I)I"⟩
abbrev cX8_wipe : ByteArray := prog_1_method_6_code
def yX8_wipe : MethodName := ⟨RX8, "wipe", "()I"⟩
abbrev cX8_fault : ByteArray := prog_1_method_7_code
def yX8_fault : MethodName := ⟨RX8, "fault", "()I"⟩
abbrev cX8_judge : ByteArray := prog_1_method_8_code
def yX8_judge : MethodName := ⟨RX8, "judge", "(I)I"⟩
abbrev cX8_behind : ByteArray := prog_1_method_9_code
def yX8_behind : MethodName := ⟨RX8, "behind", "(II)I"⟩
abbrev cX8_owed : ByteArray := prog_1_method_10_code
def yX8_owed : MethodName := ⟨RX8, "owed", "(I)I"⟩
abbrev cX8_freed : ByteArray := prog_1_method_11_code
def yX8_freed : MethodName := ⟨RX8, "freed", "(I)I"⟩
abbrev cX8_done : ByteArray := prog_1_method_12_code
def yX8_done : MethodName := ⟨RX8, "done", "()I"⟩
abbrev cX8_may : ByteArray := prog_1_method_13_code
def yX8_may : MethodName := ⟨RX8, "may", "()I"⟩
abbrev cX8_nights : ByteArray := prog_1_method_14_code
def yX8_nights : MethodName := ⟨RX8, "nights", "(II)I"⟩
abbrev cX8_programme : ByteArray := prog_1_method_15_code
def yX8_programme : MethodName := ⟨RX8, "programme", "(II)I"⟩
abbrev cX8_ruin : ByteArray := prog_1_method_16_code
def yX8_ruin : MethodName := ⟨RX8, "ruin", "(II)I"⟩
abbrev cX8_seats : ByteArray := prog_1_method_17_code
def yX8_seats : MethodName := ⟨RX8, "seats", "(III)I"⟩
abbrev cX8_rings : ByteArray := prog_1_method_18_code
def yX8_rings : MethodName := ⟨RX8, "rings", "(IIIII)I"⟩
abbrev cX8_seen : ByteArray := prog_1_method_19_code
def yX8_seen : MethodName := ⟨RX8, "seen", "(II)I"⟩
abbrev cX8_forget : ByteArray := prog_1_method_20_code
def yX8_forget : MethodName := ⟨RX8, "forget", "()I"⟩
abbrev cX8_holds : ByteArray := prog_1_method_21_code
def yX8_holds : MethodName := ⟨RX8, "holds", "(I)I"⟩
abbrev cX8_ask : ByteArray := prog_1_method_22_code
def yX8_ask : MethodName := ⟨RX8, "ask", "(I)I"⟩
abbrev cX8_fugue : ByteArray := prog_1_method_23_code
def yX8_fugue : MethodName := ⟨RX8, "fugue", "(IIIIIII)J"⟩
abbrev cX8_year : ByteArray := prog_1_method_24_code
def yX8_year : MethodName := ⟨RX8, "year", "(III)I"⟩
abbrev cX8_image : ByteArray := prog_1_method_25_code
def yX8_image : MethodName := ⟨RX8, "image", "(I)I"⟩
abbrev cX8_restore : ByteArray := prog_1_method_26_code
def yX8_restore : MethodName := ⟨RX8, "restore", "(I)I"⟩
abbrev cX8_told : ByteArray := prog_1_method_27_code
def yX8_told : MethodName := ⟨RX8, "told", "(I)I"⟩
abbrev cX8_tellSinger : ByteArray := prog_1_method_28_code
def yX8_tellSinger : MethodName := ⟨RX8, "tellSinger", "(II)I"⟩
abbrev cX8_tellPiece : ByteArray := prog_1_method_29_code
def yX8_tellPiece : MethodName := ⟨RX8, "tellPiece", "(II)I"⟩
abbrev cX8_placeOfBid : ByteArray := prog_1_method_30_code
def yX8_placeOfBid : MethodName := ⟨RX8, "placeOfBid", "(II)I"⟩
abbrev cX8_areNeeds : ByteArray := prog_1_method_31_code
def yX8_areNeeds : MethodName := ⟨RX8, "areNeeds", "(I)Z"⟩
abbrev cX8_areRanks : ByteArray := prog_1_method_32_code
def yX8_areRanks : MethodName := ⟨RX8, "areRanks", "(I)Z"⟩
abbrev cX8_digitOf : ByteArray := prog_1_method_33_code
def yX8_digitOf : MethodName := ⟨RX8, "digitOf", "(II)I"⟩
abbrev cX8_within : ByteArray := prog_1_method_34_code
def yX8_within : MethodName := ⟨RX8, "within", "(III)Z"⟩
abbrev cX8_bit : ByteArray := prog_1_method_35_code
def yX8_bit : MethodName := ⟨RX8, "bit", "(II)I"⟩
abbrev cX8_commonDivisor : ByteArray := prog_1_method_36_code
def yX8_commonDivisor : MethodName := ⟨RX8, "commonDivisor", "(JJ)J"⟩
def RX9 : String := "DebtChoirModel"
def TX9 : u_T := fun k => match k with
  | 0 => ("DebtChoirModel", "there", "I", false)
  | 1 => ("DebtChoirModel", "hoarse", "I", false)
  | 2 => ("DebtChoirModel", "sang", "I", false)
  | 3 => ("DebtChoirModel", "evenings", "I", false)
  | 4 => ("DebtChoirModel", "voice", "[I", true)
  | 5 => ("DebtChoirModel", "debt", "[I", true)
  | 6 => ("DebtChoirModel", "need", "[I", true)
  | 7 => ("DebtChoirModel", "bars", "[I", true)
  | 8 => ("DebtChoirModel", "pay", "[I", true)
  | 9 => ("DebtChoirModel", "sightPay", "[I", true)
  | 10 => ("DebtChoirModel", "sightSum", "[I", true)
  | 11 => ("DebtChoirModel", "sights", "I", false)
  | 12 => ("DebtChoirModel", "pad", "[I", true)
  | 13 => ("DebtChoirModel", "padMany", "I", false)
  | 14 => ("DebtChoirModel", "act", "[I", true)
  | 15 => ("DebtChoirModel", "who", "[I", true)
  | 16 => ("DebtChoirModel", "much", "[I", true)
  | 17 => ("DebtChoirModel", "acts", "I", false)
  | 18 => ("DebtChoirModel", "sungOff", "I", false)
  | 19 => ("DebtChoirModel", "sungMany", "I", false)
  | 20 => ("DebtChoirModel", "had", "[I", true)
  | 21 => ("DebtChoirModel", "badAct", "I", false)
  | 22 => ("DebtChoirModel", "badWhy", "I", false)
  | 23 => ("DebtChoirModel", "freedAct", "I", false)
  | 24 => ("DebtChoirModel", "freedWho", "I", false)
  | 25 => ("DebtChoirModel", "leastOwed", "[I", true)
  | 26 => ("DebtChoirModel", "bid", "[I", true)
  | 27 => ("DebtChoirModel", "likes", "[I", true)
  | 28 => ("DebtChoirModel", "gets", "[I", true)
  | 29 => ("DebtChoirModel", "bySum", "[I", true)
  | 30 => ("DebtChoirModel", "worth", "[J", true)
  | 31 => ("DebtChoirModel", "worthThen", "[J", true)
  | 32 => ("DebtChoirModel", "kept", "[I", true)
  | 33 => ("DebtChoirModel", "isKept", "[Z", true)
  | 34 => ("DebtChoirModel", "keptAt", "I", false)
  | _ => ("DebtChoirModel", "isWriting", "Z", false)
def tyX9 : Nat → FieldType := fun k => match k with
  | 0 => .int
  | 1 => .int
  | 2 => .int
  | 3 => .int
  | 4 => .array .int
  | 5 => .array .int
  | 6 => .array .int
  | 7 => .array .int
  | 8 => .array .int
  | 9 => .array .int
  | 10 => .array .int
  | 11 => .int
  | 12 => .array .int
  | 13 => .int
  | 14 => .array .int
  | 15 => .array .int
  | 16 => .array .int
  | 17 => .int
  | 18 => .int
  | 19 => .int
  | 20 => .array .int
  | 21 => .int
  | 22 => .int
  | 23 => .int
  | 24 => .int
  | 25 => .array .int
  | 26 => .array .int
  | 27 => .array .int
  | 28 => .array .int
  | 29 => .array .int
  | 30 => .array .long
  | 31 => .array .long
  | 32 => .array .int
  | 33 => .array .boolean
  | 34 => .int
  | _ => .boolean
abbrev wsX90 : List Cond := u_ws RX9 TX9 36
theorem nmX9 : ∀ a, a < 36 → ∀ b, b < 36 → a ≠ b → (TX9 a).2.1 ≠ (TX9 b).2.1 := by decide +kernel
theorem tyX9_ok : ∀ k, k < 36 → parseFieldDescriptor (TX9 k).2.2.1 = some (tyX9 k) := by decide +kernel
abbrev cX9_init : ByteArray := prog_11_method_1_code
def yX9_init : MethodName := ⟨RX9, "<init>", "()V"⟩
abbrev cX9_in : ByteArray := prog_11_method_3_code
def yX9_in : MethodName := ⟨RX9, "in", "(JJJ)Z"⟩
abbrev cX9_bitsOf : ByteArray := prog_11_method_4_code
def yX9_bitsOf : MethodName := ⟨RX9, "bitsOf", "(I)I"⟩
abbrev cX9_isSinger : ByteArray := prog_11_method_5_code
def yX9_isSinger : MethodName := ⟨RX9, "isSinger", "(I)Z"⟩
abbrev cX9_singer : ByteArray := prog_11_method_6_code
def yX9_singer : MethodName := ⟨RX9, "singer", "(III)I"⟩
abbrev cX9_leave : ByteArray := prog_11_method_7_code
def yX9_leave : MethodName := ⟨RX9, "leave", "(I)I"⟩
abbrev cX9_areNeeds : ByteArray := prog_11_method_8_code
def yX9_areNeeds : MethodName := ⟨RX9, "areNeeds", "(I)Z"⟩
abbrev cX9_piece : ByteArray := prog_11_method_9_code
def yX9_piece : MethodName := ⟨RX9, "piece", "(IIII)I"⟩
abbrev cX9_say : ByteArray := prog_11_method_10_code
def yX9_say : MethodName := ⟨RX9, "say", "(I)I"⟩
abbrev cX9_wipe : ByteArray := prog_11_method_11_code
def yX9_wipe : MethodName := ⟨RX9, "wipe", "()I"⟩
abbrev cX9_close : ByteArray := prog_11_method_12_code
def yX9_close : MethodName := ⟨RX9, "close", "(II)I"⟩
abbrev cX9_begin : ByteArray := prog_11_method_13_code
def yX9_begin : MethodName := ⟨RX9, "begin", "(I)I"⟩
abbrev cX9_readOn : ByteArray := prog_11_method_14_code
def yX9_readOn : MethodName := ⟨RX9, "readOn", "(II)I"⟩
abbrev cX9_fault : ByteArray := prog_11_method_15_code
def yX9_fault : MethodName := ⟨RX9, "fault", "()I"⟩
abbrev cX9_mayHere : ByteArray := prog_11_method_16_code
def yX9_mayHere : MethodName := ⟨RX9, "mayHere", "(II)Z"⟩
abbrev cX9_ready : ByteArray := prog_11_method_17_code
def yX9_ready : MethodName := ⟨RX9, "ready", "(IZ)I"⟩
abbrev cX9_canBeSung : ByteArray := prog_11_method_18_code
def yX9_canBeSung : MethodName := ⟨RX9, "canBeSung", "(I)Z"⟩
abbrev cX9_whyNotTake : ByteArray := prog_11_method_19_code
def yX9_whyNotTake : MethodName := ⟨RX9, "whyNotTake", "(II)I"⟩
abbrev cX9_whyNot : ByteArray := prog_11_method_20_code
def yX9_whyNot : MethodName := ⟨RX9, "whyNot", "(III)I"⟩
abbrev cX9_singOne : ByteArray := prog_11_method_21_code
def yX9_singOne : MethodName := ⟨RX9, "singOne", "(II)V"⟩
abbrev cX9_singPiece : ByteArray := prog_11_method_22_code
def yX9_singPiece : MethodName := ⟨RX9, "singPiece", "(I)V"⟩
abbrev cX9_endEvening : ByteArray := prog_11_method_23_code
def yX9_endEvening : MethodName := ⟨RX9, "endEvening", "()V"⟩
abbrev cX9_happen : ByteArray := prog_11_method_24_code
def yX9_happen : MethodName := ⟨RX9, "happen", "(III)V"⟩
abbrev cX9_keepNow : ByteArray := prog_11_method_25_code
def yX9_keepNow : MethodName := ⟨RX9, "keepNow", "()V"⟩
abbrev cX9_back : ByteArray := prog_11_method_26_code
def yX9_back : MethodName := ⟨RX9, "back", "(I)I"⟩
abbrev cX9_owing : ByteArray := prog_11_method_27_code
def yX9_owing : MethodName := ⟨RX9, "owing", "()I"⟩
abbrev cX9_leastOf : ByteArray := prog_11_method_28_code
def yX9_leastOf : MethodName := ⟨RX9, "leastOf", "(I)I"⟩
abbrev cX9_goEvenings : ByteArray := prog_11_method_29_code
def yX9_goEvenings : MethodName := ⟨RX9, "goEvenings", "()V"⟩
abbrev cX9_goOne : ByteArray := prog_11_method_30_code
def yX9_goOne : MethodName := ⟨RX9, "goOne", "(I)V"⟩
abbrev cX9_refusal : ByteArray := prog_11_method_31_code
def yX9_refusal : MethodName := ⟨RX9, "refusal", "()I"⟩
abbrev cX9_judge : ByteArray := prog_11_method_32_code
def yX9_judge : MethodName := ⟨RX9, "judge", "(I)I"⟩
abbrev cX9_behind : ByteArray := prog_11_method_33_code
def yX9_behind : MethodName := ⟨RX9, "behind", "(II)I"⟩
abbrev cX9_allDebts : ByteArray := prog_11_method_34_code
def yX9_allDebts : MethodName := ⟨RX9, "allDebts", "()I"⟩
abbrev cX9_owed : ByteArray := prog_11_method_35_code
def yX9_owed : MethodName := ⟨RX9, "owed", "(I)I"⟩
abbrev cX9_freed : ByteArray := prog_11_method_36_code
def yX9_freed : MethodName := ⟨RX9, "freed", "(I)I"⟩
abbrev cX9_done : ByteArray := prog_11_method_37_code
def yX9_done : MethodName := ⟨RX9, "done", "()I"⟩
abbrev cX9_may : ByteArray := prog_11_method_38_code
def yX9_may : MethodName := ⟨RX9, "may", "()I"⟩
abbrev cX9_behindNight : ByteArray := prog_11_method_39_code
def yX9_behindNight : MethodName := ⟨RX9, "behindNight", "(II)I"⟩
abbrev cX9_isFor : ByteArray := prog_11_method_40_code
def yX9_isFor : MethodName := ⟨RX9, "isFor", "(II)Z"⟩
abbrev cX9_bestOwed : ByteArray := prog_11_method_41_code
def yX9_bestOwed : MethodName := ⟨RX9, "bestOwed", "(II)I"⟩
abbrev cX9_fewestNights : ByteArray := prog_11_method_42_code
def yX9_fewestNights : MethodName := ⟨RX9, "fewestNights", "(III)I"⟩
abbrev cX9_firstNight : ByteArray := prog_11_method_43_code
def yX9_firstNight : MethodName := ⟨RX9, "firstNight", "(II)I"⟩
abbrev cX9_nights : ByteArray := prog_11_method_44_code
def yX9_nights : MethodName := ⟨RX9, "nights", "(II)I"⟩
abbrev cX9_needsOf : ByteArray := prog_11_method_45_code
def yX9_needsOf : MethodName := ⟨RX9, "needsOf", "(I)I"⟩
abbrev cX9_barsOf : ByteArray := prog_11_method_46_code
def yX9_barsOf : MethodName := ⟨RX9, "barsOf", "(I)I"⟩
abbrev cX9_paysOf : ByteArray := prog_11_method_47_code
def yX9_paysOf : MethodName := ⟨RX9, "paysOf", "(I)I"⟩
abbrev cX9_programme : ByteArray := prog_11_method_48_code
def yX9_programme : MethodName := ⟨RX9, "programme", "(II)I"⟩
abbrev cX9_ruined : ByteArray := prog_11_method_49_code
def yX9_ruined : MethodName := ⟨RX9, "ruined", "(II)I"⟩
abbrev cX9_ruin : ByteArray := prog_11_method_50_code
def yX9_ruin : MethodName := ⟨RX9, "ruin", "(II)I"⟩
abbrev cX9_ahead : ByteArray := prog_11_method_51_code
def yX9_ahead : MethodName := ⟨RX9, "ahead", "(I)I"⟩
abbrev cX9_seats : ByteArray := prog_11_method_52_code
def yX9_seats : MethodName := ⟨RX9, "seats", "(III)I"⟩
abbrev cX9_areRanks : ByteArray := prog_11_method_53_code
def yX9_areRanks : MethodName := ⟨RX9, "areRanks", "(II)Z"⟩
abbrev cX9_pointsTo : ByteArray := prog_11_method_54_code
def yX9_pointsTo : MethodName := ⟨RX9, "pointsTo", "(II)I"⟩
abbrev cX9_ringed : ByteArray := prog_11_method_55_code
def yX9_ringed : MethodName := ⟨RX9, "ringed", "(I)I"⟩
abbrev cX9_deal : ByteArray := prog_11_method_56_code
def yX9_deal : MethodName := ⟨RX9, "deal", "()V"⟩
abbrev cX9_rings : ByteArray := prog_11_method_57_code
def yX9_rings : MethodName := ⟨RX9, "rings", "(IIIII)I"⟩
abbrev cX9_seen : ByteArray := prog_11_method_58_code
def yX9_seen : MethodName := ⟨RX9, "seen", "(II)I"⟩
abbrev cX9_forget : ByteArray := prog_11_method_59_code
def yX9_forget : MethodName := ⟨RX9, "forget", "()I"⟩
abbrev cX9_together : ByteArray := prog_11_method_60_code
def yX9_together : MethodName := ⟨RX9, "together", "(II)I"⟩
abbrev cX9_fits : ByteArray := prog_11_method_61_code
def yX9_fits : MethodName := ⟨RX9, "fits", "(I)Z"⟩
abbrev cX9_holds : ByteArray := prog_11_method_62_code
def yX9_holds : MethodName := ⟨RX9, "holds", "(I)I"⟩
abbrev cX9_mostLeft : ByteArray := prog_11_method_63_code
def yX9_mostLeft : MethodName := ⟨RX9, "mostLeft", "(I)I"⟩
abbrev cX9_ask : ByteArray := prog_11_method_64_code
def yX9_ask : MethodName := ⟨RX9, "ask", "(I)I"⟩
abbrev cX9_size : ByteArray := prog_11_method_65_code
def yX9_size : MethodName := ⟨RX9, "size", "(J)J"⟩
abbrev cX9_lowest : ByteArray := prog_11_method_66_code
def yX9_lowest : MethodName := ⟨RX9, "lowest", "(JJI)J"⟩
abbrev cX9_sung : ByteArray := prog_11_method_67_code
def yX9_sung : MethodName := ⟨RX9, "sung", "(II)J"⟩
abbrev cX9_fugueGood : ByteArray := prog_11_method_68_code
def yX9_fugueGood : MethodName := ⟨RX9, "fugueGood", "(IIIII)Z"⟩
abbrev cX9_fugue : ByteArray := prog_11_method_69_code
def yX9_fugue : MethodName := ⟨RX9, "fugue", "(IIIIIII)J"⟩
abbrev cX9_actBy : ByteArray := prog_11_method_70_code
def yX9_actBy : MethodName := ⟨RX9, "actBy", "(I)I"⟩
abbrev cX9_year : ByteArray := prog_11_method_71_code
def yX9_year : MethodName := ⟨RX9, "year", "(III)I"⟩
abbrev cX9_pass : ByteArray := prog_11_method_72_code
def yX9_pass : MethodName := ⟨RX9, "pass", "(I)I"⟩
abbrev cX9_passRow : ByteArray := prog_11_method_73_code
def yX9_passRow : MethodName := ⟨RX9, "passRow", "([II)V"⟩
abbrev cX9_passAll : ByteArray := prog_11_method_74_code
def yX9_passAll : MethodName := ⟨RX9, "passAll", "()V"⟩
abbrev cX9_image : ByteArray := prog_11_method_75_code
def yX9_image : MethodName := ⟨RX9, "image", "(I)I"⟩
abbrev cX9_restore : ByteArray := prog_11_method_76_code
def yX9_restore : MethodName := ⟨RX9, "restore", "(I)I"⟩
abbrev cX9_toldOfSinger : ByteArray := prog_11_method_77_code
def yX9_toldOfSinger : MethodName := ⟨RX9, "toldOfSinger", "(II)I"⟩
abbrev cX9_toldOfPiece : ByteArray := prog_11_method_78_code
def yX9_toldOfPiece : MethodName := ⟨RX9, "toldOfPiece", "(II)I"⟩
abbrev cX9_told : ByteArray := prog_11_method_79_code
def yX9_told : MethodName := ⟨RX9, "told", "(I)I"⟩
def RJ6 : String := "java/lang/Integer"
def TJ6 : u_T := fun k => match k with
  | _ => ("", "", "", false)
def tyJ6 : Nat → FieldType := fun k => match k with
  | _ => .int
abbrev cJ6_numberOfTrailingZeros_0f7a4 : ByteArray := prog_12_method_48_code
def yJ6_numberOfTrailingZeros_0f7a4 : MethodName := ⟨RJ6, "numberOfTrailingZeros", "(I)I"⟩
abbrev cJ6_bitCount_0f7a4 : ByteArray := prog_12_method_49_code
def yJ6_bitCount_0f7a4 : MethodName := ⟨RJ6, "bitCount", "(I)I"⟩
def RJ9 : String := "java/lang/Math"
def TJ9 : u_T := fun k => match k with
  | _ => ("", "", "", false)
def tyJ9 : Nat → FieldType := fun k => match k with
  | _ => .int
abbrev cJ9_abs_067f4 : ByteArray := prog_13_method_61_code
def yJ9_abs_067f4 : MethodName := ⟨RJ9, "abs", "(J)J"⟩
abbrev cJ9_max_7cf53 : ByteArray := prog_13_method_65_code
def yJ9_max_7cf53 : MethodName := ⟨RJ9, "max", "(II)I"⟩
abbrev cJ9_max_f86c9 : ByteArray := prog_13_method_66_code
def yJ9_max_f86c9 : MethodName := ⟨RJ9, "max", "(JJ)J"⟩
abbrev cJ9_min_7cf53 : ByteArray := prog_13_method_69_code
def yJ9_min_7cf53 : MethodName := ⟨RJ9, "min", "(II)I"⟩
def RJ10 : String := "java/lang/System"
def TJ10 : u_T := fun k => match k with
  | _ => ("", "", "", false)
def tyJ10 : Nat → FieldType := fun k => match k with
  | _ => .int
def RL : String := "DebtChoirLaw"
abbrev cL_law : ByteArray := code
def yL_law : MethodName := ⟨RL, "law", "([I)Z"⟩
end
section
theorem dX0_init_0 : decode cX0_init 0 = .ok (.aload_n 0, 1) := by decide +kernel
theorem dX0_init_1 : decode cX0_init 1 = .ok (.invokespecial 3, 3) := by decide +kernel
theorem dX0_init_4 : decode cX0_init 4 = .ok (.aload_n 0, 1) := by decide +kernel
theorem dX0_init_5 : decode cX0_init 5 = .ok (.bipush 8, 2) := by decide +kernel
theorem dX0_init_7 : decode cX0_init 7 = .ok (.newarray .int, 2) := by decide +kernel
theorem dX0_init_9 : decode cX0_init 9 = .ok (.putfield 9, 3) := by decide +kernel
theorem dX0_init_12 : decode cX0_init 12 = .ok (.aload_n 0, 1) := by decide +kernel
theorem dX0_init_13 : decode cX0_init 13 = .ok (.bipush 8, 2) := by decide +kernel
theorem dX0_init_15 : decode cX0_init 15 = .ok (.newarray .int, 2) := by decide +kernel
theorem dX0_init_17 : decode cX0_init 17 = .ok (.putfield 15, 3) := by decide +kernel
theorem dX0_init_20 : decode cX0_init 20 = .ok (.aload_n 0, 1) := by decide +kernel
theorem dX0_init_21 : decode cX0_init 21 = .ok (.bipush 24, 2) := by decide +kernel
theorem dX0_init_23 : decode cX0_init 23 = .ok (.newarray .int, 2) := by decide +kernel
theorem dX0_init_25 : decode cX0_init 25 = .ok (.putfield 18, 3) := by decide +kernel
theorem dX0_init_28 : decode cX0_init 28 = .ok (.aload_n 0, 1) := by decide +kernel
theorem dX0_init_29 : decode cX0_init 29 = .ok (.bipush 6, 2) := by decide +kernel
theorem dX0_init_31 : decode cX0_init 31 = .ok (.newarray .int, 2) := by decide +kernel
theorem dX0_init_33 : decode cX0_init 33 = .ok (.putfield 21, 3) := by decide +kernel
theorem dX0_init_36 : decode cX0_init 36 = .ok (.aload_n 0, 1) := by decide +kernel
theorem dX0_init_37 : decode cX0_init 37 = .ok (.bipush 6, 2) := by decide +kernel
theorem dX0_init_39 : decode cX0_init 39 = .ok (.newarray .int, 2) := by decide +kernel
theorem dX0_init_41 : decode cX0_init 41 = .ok (.putfield 24, 3) := by decide +kernel
theorem dX0_init_44 : decode cX0_init 44 = .ok (.return_, 1) := by decide +kernel
theorem dX0_copyFrom_0 : decode cX0_copyFrom 0 = .ok (.aload_n 0, 1) := by decide +kernel
theorem dX0_copyFrom_1 : decode cX0_copyFrom 1 = .ok (.aload_n 1, 1) := by decide +kernel
theorem dX0_copyFrom_2 : decode cX0_copyFrom 2 = .ok (.getfield 27, 3) := by decide +kernel
theorem dX0_copyFrom_5 : decode cX0_copyFrom 5 = .ok (.putfield 27, 3) := by decide +kernel
theorem dX0_copyFrom_8 : decode cX0_copyFrom 8 = .ok (.aload_n 0, 1) := by decide +kernel
theorem dX0_copyFrom_9 : decode cX0_copyFrom 9 = .ok (.aload_n 1, 1) := by decide +kernel
theorem dX0_copyFrom_10 : decode cX0_copyFrom 10 = .ok (.getfield 31, 3) := by decide +kernel
theorem dX0_copyFrom_13 : decode cX0_copyFrom 13 = .ok (.putfield 31, 3) := by decide +kernel
theorem dX0_copyFrom_16 : decode cX0_copyFrom 16 = .ok (.aload_n 0, 1) := by decide +kernel
theorem dX0_copyFrom_17 : decode cX0_copyFrom 17 = .ok (.aload_n 1, 1) := by decide +kernel
theorem dX0_copyFrom_18 : decode cX0_copyFrom 18 = .ok (.getfield 34, 3) := by decide +kernel
theorem dX0_copyFrom_21 : decode cX0_copyFrom 21 = .ok (.putfield 34, 3) := by decide +kernel
theorem dX0_copyFrom_24 : decode cX0_copyFrom 24 = .ok (.aload_n 0, 1) := by decide +kernel
theorem dX0_copyFrom_25 : decode cX0_copyFrom 25 = .ok (.aload_n 1, 1) := by decide +kernel
theorem dX0_copyFrom_26 : decode cX0_copyFrom 26 = .ok (.getfield 37, 3) := by decide +kernel
theorem dX0_copyFrom_29 : decode cX0_copyFrom 29 = .ok (.putfield 37, 3) := by decide +kernel
theorem dX0_copyFrom_32 : decode cX0_copyFrom 32 = .ok (.aload_n 0, 1) := by decide +kernel
theorem dX0_copyFrom_33 : decode cX0_copyFrom 33 = .ok (.iconst 0, 1) := by decide +kernel
theorem dX0_copyFrom_34 : decode cX0_copyFrom 34 = .ok (.putfield 40, 3) := by decide +kernel
theorem dX0_copyFrom_37 : decode cX0_copyFrom 37 = .ok (.aload_n 1, 1) := by decide +kernel
theorem dX0_copyFrom_38 : decode cX0_copyFrom 38 = .ok (.getfield 9, 3) := by decide +kernel
theorem dX0_copyFrom_41 : decode cX0_copyFrom 41 = .ok (.iconst 0, 1) := by decide +kernel
theorem dX0_copyFrom_42 : decode cX0_copyFrom 42 = .ok (.aload_n 0, 1) := by decide +kernel
theorem dX0_copyFrom_43 : decode cX0_copyFrom 43 = .ok (.getfield 9, 3) := by decide +kernel
theorem dX0_copyFrom_46 : decode cX0_copyFrom 46 = .ok (.iconst 0, 1) := by decide +kernel
theorem dX0_copyFrom_47 : decode cX0_copyFrom 47 = .ok (.bipush 8, 2) := by decide +kernel
theorem dX0_copyFrom_49 : decode cX0_copyFrom 49 = .ok (.invokestatic 43, 3) := by decide +kernel
theorem dX0_copyFrom_52 : decode cX0_copyFrom 52 = .ok (.aload_n 1, 1) := by decide +kernel
theorem dX0_copyFrom_53 : decode cX0_copyFrom 53 = .ok (.getfield 15, 3) := by decide +kernel
theorem dX0_copyFrom_56 : decode cX0_copyFrom 56 = .ok (.iconst 0, 1) := by decide +kernel
theorem dX0_copyFrom_57 : decode cX0_copyFrom 57 = .ok (.aload_n 0, 1) := by decide +kernel
theorem dX0_copyFrom_58 : decode cX0_copyFrom 58 = .ok (.getfield 15, 3) := by decide +kernel
theorem dX0_copyFrom_61 : decode cX0_copyFrom 61 = .ok (.iconst 0, 1) := by decide +kernel
theorem dX0_copyFrom_62 : decode cX0_copyFrom 62 = .ok (.bipush 8, 2) := by decide +kernel
theorem dX0_copyFrom_64 : decode cX0_copyFrom 64 = .ok (.invokestatic 43, 3) := by decide +kernel
theorem dX0_copyFrom_67 : decode cX0_copyFrom 67 = .ok (.aload_n 1, 1) := by decide +kernel
theorem dX0_copyFrom_68 : decode cX0_copyFrom 68 = .ok (.getfield 18, 3) := by decide +kernel
theorem dX0_copyFrom_71 : decode cX0_copyFrom 71 = .ok (.iconst 0, 1) := by decide +kernel
theorem dX0_copyFrom_72 : decode cX0_copyFrom 72 = .ok (.aload_n 0, 1) := by decide +kernel
theorem dX0_copyFrom_73 : decode cX0_copyFrom 73 = .ok (.getfield 18, 3) := by decide +kernel
theorem dX0_copyFrom_76 : decode cX0_copyFrom 76 = .ok (.iconst 0, 1) := by decide +kernel
theorem dX0_copyFrom_77 : decode cX0_copyFrom 77 = .ok (.bipush 24, 2) := by decide +kernel
theorem dX0_copyFrom_79 : decode cX0_copyFrom 79 = .ok (.invokestatic 43, 3) := by decide +kernel
theorem dX0_copyFrom_82 : decode cX0_copyFrom 82 = .ok (.aload_n 1, 1) := by decide +kernel
theorem dX0_copyFrom_83 : decode cX0_copyFrom 83 = .ok (.getfield 21, 3) := by decide +kernel
theorem dX0_copyFrom_86 : decode cX0_copyFrom 86 = .ok (.iconst 0, 1) := by decide +kernel
theorem dX0_copyFrom_87 : decode cX0_copyFrom 87 = .ok (.aload_n 0, 1) := by decide +kernel
theorem dX0_copyFrom_88 : decode cX0_copyFrom 88 = .ok (.getfield 21, 3) := by decide +kernel
theorem dX0_copyFrom_91 : decode cX0_copyFrom 91 = .ok (.iconst 0, 1) := by decide +kernel
theorem dX0_copyFrom_92 : decode cX0_copyFrom 92 = .ok (.bipush 6, 2) := by decide +kernel
theorem dX0_copyFrom_94 : decode cX0_copyFrom 94 = .ok (.invokestatic 43, 3) := by decide +kernel
theorem dX0_copyFrom_97 : decode cX0_copyFrom 97 = .ok (.aload_n 1, 1) := by decide +kernel
theorem dX0_copyFrom_98 : decode cX0_copyFrom 98 = .ok (.getfield 24, 3) := by decide +kernel
theorem dX0_copyFrom_101 : decode cX0_copyFrom 101 = .ok (.iconst 0, 1) := by decide +kernel
theorem dX0_copyFrom_102 : decode cX0_copyFrom 102 = .ok (.aload_n 0, 1) := by decide +kernel
theorem dX0_copyFrom_103 : decode cX0_copyFrom 103 = .ok (.getfield 24, 3) := by decide +kernel
theorem dX0_copyFrom_106 : decode cX0_copyFrom 106 = .ok (.iconst 0, 1) := by decide +kernel
theorem dX0_copyFrom_107 : decode cX0_copyFrom 107 = .ok (.bipush 6, 2) := by decide +kernel
theorem dX0_copyFrom_109 : decode cX0_copyFrom 109 = .ok (.invokestatic 43, 3) := by decide +kernel
theorem dX0_copyFrom_112 : decode cX0_copyFrom 112 = .ok (.return_, 1) := by decide +kernel
theorem dX0_has_0 : decode cX0_has 0 = .ok (.iload_n 1, 1) := by decide +kernel
theorem dX0_has_1 : decode cX0_has 1 = .ok (.ifCond .lt 25, 3) := by decide +kernel
theorem dX0_has_4 : decode cX0_has 4 = .ok (.iload_n 1, 1) := by decide +kernel
theorem dX0_has_5 : decode cX0_has 5 = .ok (.bipush 8, 2) := by decide +kernel
theorem dX0_has_7 : decode cX0_has 7 = .ok (.if_icmp .ge 19, 3) := by decide +kernel
theorem dX0_has_10 : decode cX0_has 10 = .ok (.aload_n 0, 1) := by decide +kernel
theorem dX0_has_11 : decode cX0_has 11 = .ok (.getfield 27, 3) := by decide +kernel
theorem dX0_has_14 : decode cX0_has 14 = .ok (.iload_n 1, 1) := by decide +kernel
theorem dX0_has_15 : decode cX0_has 15 = .ok (.ishr, 1) := by decide +kernel
theorem dX0_has_16 : decode cX0_has 16 = .ok (.iconst 1, 1) := by decide +kernel
theorem dX0_has_17 : decode cX0_has 17 = .ok (.iand, 1) := by decide +kernel
theorem dX0_has_18 : decode cX0_has 18 = .ok (.iconst 1, 1) := by decide +kernel
theorem dX0_has_19 : decode cX0_has 19 = .ok (.if_icmp .ne 7, 3) := by decide +kernel
theorem dX0_has_22 : decode cX0_has 22 = .ok (.iconst 1, 1) := by decide +kernel
theorem dX0_has_23 : decode cX0_has 23 = .ok (.goto 4, 3) := by decide +kernel
theorem dX0_has_26 : decode cX0_has 26 = .ok (.iconst 0, 1) := by decide +kernel
theorem dX0_has_27 : decode cX0_has 27 = .ok (.ireturn, 1) := by decide +kernel
theorem dX0_come_0 : decode cX0_come 0 = .ok (.iload_n 1, 1) := by decide +kernel
theorem dX0_come_1 : decode cX0_come 1 = .ok (.iconst 0, 1) := by decide +kernel
theorem dX0_come_2 : decode cX0_come 2 = .ok (.bipush 7, 2) := by decide +kernel
theorem dX0_come_4 : decode cX0_come 4 = .ok (.invokestatic 49, 3) := by decide +kernel
theorem dX0_come_7 : decode cX0_come 7 = .ok (.ifCond .eq 57, 3) := by decide +kernel
theorem dX0_come_10 : decode cX0_come 10 = .ok (.aload_n 0, 1) := by decide +kernel
theorem dX0_come_11 : decode cX0_come 11 = .ok (.dup, 1) := by decide +kernel
theorem dX0_come_12 : decode cX0_come 12 = .ok (.getfield 27, 3) := by decide +kernel
theorem dX0_come_15 : decode cX0_come 15 = .ok (.iconst 1, 1) := by decide +kernel
theorem dX0_come_16 : decode cX0_come 16 = .ok (.iload_n 1, 1) := by decide +kernel
theorem dX0_come_17 : decode cX0_come 17 = .ok (.ishl, 1) := by decide +kernel
theorem dX0_come_18 : decode cX0_come 18 = .ok (.ior, 1) := by decide +kernel
theorem dX0_come_19 : decode cX0_come 19 = .ok (.putfield 27, 3) := by decide +kernel
theorem dX0_come_22 : decode cX0_come 22 = .ok (.aload_n 0, 1) := by decide +kernel
theorem dX0_come_23 : decode cX0_come 23 = .ok (.dup, 1) := by decide +kernel
theorem dX0_come_24 : decode cX0_come 24 = .ok (.getfield 31, 3) := by decide +kernel
theorem dX0_come_27 : decode cX0_come 27 = .ok (.iconst 1, 1) := by decide +kernel
theorem dX0_come_28 : decode cX0_come 28 = .ok (.iload_n 1, 1) := by decide +kernel
theorem dX0_come_29 : decode cX0_come 29 = .ok (.ishl, 1) := by decide +kernel
theorem dX0_come_30 : decode cX0_come 30 = .ok (.iconst (-1), 1) := by decide +kernel
theorem dX0_come_31 : decode cX0_come 31 = .ok (.ixor, 1) := by decide +kernel
theorem dX0_come_32 : decode cX0_come 32 = .ok (.iand, 1) := by decide +kernel
theorem dX0_come_33 : decode cX0_come 33 = .ok (.putfield 31, 3) := by decide +kernel
theorem dX0_come_36 : decode cX0_come 36 = .ok (.aload_n 0, 1) := by decide +kernel
theorem dX0_come_37 : decode cX0_come 37 = .ok (.dup, 1) := by decide +kernel
theorem dX0_come_38 : decode cX0_come 38 = .ok (.getfield 34, 3) := by decide +kernel
theorem dX0_come_41 : decode cX0_come 41 = .ok (.iconst 1, 1) := by decide +kernel
theorem dX0_come_42 : decode cX0_come 42 = .ok (.iload_n 1, 1) := by decide +kernel
theorem dX0_come_43 : decode cX0_come 43 = .ok (.ishl, 1) := by decide +kernel
theorem dX0_come_44 : decode cX0_come 44 = .ok (.iconst (-1), 1) := by decide +kernel
theorem dX0_come_45 : decode cX0_come 45 = .ok (.ixor, 1) := by decide +kernel
theorem dX0_come_46 : decode cX0_come 46 = .ok (.iand, 1) := by decide +kernel
theorem dX0_come_47 : decode cX0_come 47 = .ok (.putfield 34, 3) := by decide +kernel
theorem dX0_come_50 : decode cX0_come 50 = .ok (.aload_n 0, 1) := by decide +kernel
theorem dX0_come_51 : decode cX0_come 51 = .ok (.getfield 9, 3) := by decide +kernel
theorem dX0_come_54 : decode cX0_come 54 = .ok (.iload_n 1, 1) := by decide +kernel
theorem dX0_come_55 : decode cX0_come 55 = .ok (.iload_n 2, 1) := by decide +kernel
theorem dX0_come_56 : decode cX0_come 56 = .ok (.iastore, 1) := by decide +kernel
theorem dX0_come_57 : decode cX0_come 57 = .ok (.aload_n 0, 1) := by decide +kernel
theorem dX0_come_58 : decode cX0_come 58 = .ok (.getfield 15, 3) := by decide +kernel
theorem dX0_come_61 : decode cX0_come 61 = .ok (.iload_n 1, 1) := by decide +kernel
theorem dX0_come_62 : decode cX0_come 62 = .ok (.iload_n 3, 1) := by decide +kernel
theorem dX0_come_63 : decode cX0_come 63 = .ok (.iastore, 1) := by decide +kernel
theorem dX0_come_64 : decode cX0_come 64 = .ok (.return_, 1) := by decide +kernel
theorem dX0_go_0 : decode cX0_go 0 = .ok (.aload_n 0, 1) := by decide +kernel
theorem dX0_go_1 : decode cX0_go 1 = .ok (.iload_n 1, 1) := by decide +kernel
theorem dX0_go_2 : decode cX0_go 2 = .ok (.invokevirtual 53, 3) := by decide +kernel
theorem dX0_go_5 : decode cX0_go 5 = .ok (.ifCond .eq 24, 3) := by decide +kernel
theorem dX0_go_8 : decode cX0_go 8 = .ok (.aload_n 0, 1) := by decide +kernel
theorem dX0_go_9 : decode cX0_go 9 = .ok (.iload_n 1, 1) := by decide +kernel
theorem dX0_go_10 : decode cX0_go 10 = .ok (.iconst 0, 1) := by decide +kernel
theorem dX0_go_11 : decode cX0_go 11 = .ok (.iconst 0, 1) := by decide +kernel
theorem dX0_go_12 : decode cX0_go 12 = .ok (.invokevirtual 57, 3) := by decide +kernel
theorem dX0_go_15 : decode cX0_go 15 = .ok (.aload_n 0, 1) := by decide +kernel
theorem dX0_go_16 : decode cX0_go 16 = .ok (.dup, 1) := by decide +kernel
theorem dX0_go_17 : decode cX0_go 17 = .ok (.getfield 27, 3) := by decide +kernel
theorem dX0_go_20 : decode cX0_go 20 = .ok (.iconst 1, 1) := by decide +kernel
theorem dX0_go_21 : decode cX0_go 21 = .ok (.iload_n 1, 1) := by decide +kernel
theorem dX0_go_22 : decode cX0_go 22 = .ok (.ishl, 1) := by decide +kernel
theorem dX0_go_23 : decode cX0_go 23 = .ok (.iconst (-1), 1) := by decide +kernel
theorem dX0_go_24 : decode cX0_go 24 = .ok (.ixor, 1) := by decide +kernel
theorem dX0_go_25 : decode cX0_go 25 = .ok (.iand, 1) := by decide +kernel
theorem dX0_go_26 : decode cX0_go 26 = .ok (.putfield 27, 3) := by decide +kernel
theorem dX0_go_29 : decode cX0_go 29 = .ok (.return_, 1) := by decide +kernel
theorem dX0_voiceOf_0 : decode cX0_voiceOf 0 = .ok (.aload_n 0, 1) := by decide +kernel
theorem dX0_voiceOf_1 : decode cX0_voiceOf 1 = .ok (.iload_n 1, 1) := by decide +kernel
theorem dX0_voiceOf_2 : decode cX0_voiceOf 2 = .ok (.invokevirtual 53, 3) := by decide +kernel
theorem dX0_voiceOf_5 : decode cX0_voiceOf 5 = .ok (.ifCond .eq 12, 3) := by decide +kernel
theorem dX0_voiceOf_8 : decode cX0_voiceOf 8 = .ok (.aload_n 0, 1) := by decide +kernel
theorem dX0_voiceOf_9 : decode cX0_voiceOf 9 = .ok (.getfield 9, 3) := by decide +kernel
theorem dX0_voiceOf_12 : decode cX0_voiceOf 12 = .ok (.iload_n 1, 1) := by decide +kernel
theorem dX0_voiceOf_13 : decode cX0_voiceOf 13 = .ok (.iaload, 1) := by decide +kernel
theorem dX0_voiceOf_14 : decode cX0_voiceOf 14 = .ok (.goto 5, 3) := by decide +kernel
theorem dX0_voiceOf_17 : decode cX0_voiceOf 17 = .ok (.bipush (-6), 2) := by decide +kernel
theorem dX0_voiceOf_19 : decode cX0_voiceOf 19 = .ok (.ireturn, 1) := by decide +kernel
theorem dX0_debtOf_0 : decode cX0_debtOf 0 = .ok (.aload_n 0, 1) := by decide +kernel
theorem dX0_debtOf_1 : decode cX0_debtOf 1 = .ok (.iload_n 1, 1) := by decide +kernel
theorem dX0_debtOf_2 : decode cX0_debtOf 2 = .ok (.invokevirtual 53, 3) := by decide +kernel
theorem dX0_debtOf_5 : decode cX0_debtOf 5 = .ok (.ifCond .eq 12, 3) := by decide +kernel
theorem dX0_debtOf_8 : decode cX0_debtOf 8 = .ok (.aload_n 0, 1) := by decide +kernel
theorem dX0_debtOf_9 : decode cX0_debtOf 9 = .ok (.getfield 15, 3) := by decide +kernel
theorem dX0_debtOf_12 : decode cX0_debtOf 12 = .ok (.iload_n 1, 1) := by decide +kernel
theorem dX0_debtOf_13 : decode cX0_debtOf 13 = .ok (.iaload, 1) := by decide +kernel
theorem dX0_debtOf_14 : decode cX0_debtOf 14 = .ok (.goto 4, 3) := by decide +kernel
theorem dX0_debtOf_17 : decode cX0_debtOf 17 = .ok (.iconst 0, 1) := by decide +kernel
theorem dX0_debtOf_18 : decode cX0_debtOf 18 = .ok (.ireturn, 1) := by decide +kernel
theorem dX0_owe_0 : decode cX0_owe 0 = .ok (.aload_n 0, 1) := by decide +kernel
theorem dX0_owe_1 : decode cX0_owe 1 = .ok (.iload_n 1, 1) := by decide +kernel
theorem dX0_owe_2 : decode cX0_owe 2 = .ok (.invokevirtual 53, 3) := by decide +kernel
theorem dX0_owe_5 : decode cX0_owe 5 = .ok (.ifCond .eq 10, 3) := by decide +kernel
theorem dX0_owe_8 : decode cX0_owe 8 = .ok (.aload_n 0, 1) := by decide +kernel
theorem dX0_owe_9 : decode cX0_owe 9 = .ok (.getfield 15, 3) := by decide +kernel
theorem dX0_owe_12 : decode cX0_owe 12 = .ok (.iload_n 1, 1) := by decide +kernel
theorem dX0_owe_13 : decode cX0_owe 13 = .ok (.iload_n 2, 1) := by decide +kernel
theorem dX0_owe_14 : decode cX0_owe 14 = .ok (.iastore, 1) := by decide +kernel
theorem dX0_owe_15 : decode cX0_owe 15 = .ok (.return_, 1) := by decide +kernel
theorem dX0_allDebts_0 : decode cX0_allDebts 0 = .ok (.iconst 0, 1) := by decide +kernel
theorem dX0_allDebts_1 : decode cX0_allDebts 1 = .ok (.istore_n 1, 1) := by decide +kernel
theorem dX0_allDebts_2 : decode cX0_allDebts 2 = .ok (.iconst 0, 1) := by decide +kernel
theorem dX0_allDebts_3 : decode cX0_allDebts 3 = .ok (.istore_n 2, 1) := by decide +kernel
theorem dX0_allDebts_4 : decode cX0_allDebts 4 = .ok (.iload_n 2, 1) := by decide +kernel
theorem dX0_allDebts_5 : decode cX0_allDebts 5 = .ok (.bipush 8, 2) := by decide +kernel
theorem dX0_allDebts_7 : decode cX0_allDebts 7 = .ok (.if_icmp .ge 17, 3) := by decide +kernel
theorem dX0_allDebts_10 : decode cX0_allDebts 10 = .ok (.iload_n 1, 1) := by decide +kernel
theorem dX0_allDebts_11 : decode cX0_allDebts 11 = .ok (.aload_n 0, 1) := by decide +kernel
theorem dX0_allDebts_12 : decode cX0_allDebts 12 = .ok (.iload_n 2, 1) := by decide +kernel
theorem dX0_allDebts_13 : decode cX0_allDebts 13 = .ok (.invokevirtual 61, 3) := by decide +kernel
theorem dX0_allDebts_16 : decode cX0_allDebts 16 = .ok (.iadd, 1) := by decide +kernel
theorem dX0_allDebts_17 : decode cX0_allDebts 17 = .ok (.istore_n 1, 1) := by decide +kernel
theorem dX0_allDebts_18 : decode cX0_allDebts 18 = .ok (.iinc 2 1, 3) := by decide +kernel
theorem dX0_allDebts_21 : decode cX0_allDebts 21 = .ok (.goto (-17), 3) := by decide +kernel
theorem dX0_allDebts_24 : decode cX0_allDebts 24 = .ok (.iload_n 1, 1) := by decide +kernel
theorem dX0_allDebts_25 : decode cX0_allDebts 25 = .ok (.ireturn, 1) := by decide +kernel
theorem dX0_freeSingers_0 : decode cX0_freeSingers 0 = .ok (.iconst 0, 1) := by decide +kernel
theorem dX0_freeSingers_1 : decode cX0_freeSingers 1 = .ok (.istore_n 1, 1) := by decide +kernel
theorem dX0_freeSingers_2 : decode cX0_freeSingers 2 = .ok (.iconst 0, 1) := by decide +kernel
theorem dX0_freeSingers_3 : decode cX0_freeSingers 3 = .ok (.istore_n 2, 1) := by decide +kernel
theorem dX0_freeSingers_4 : decode cX0_freeSingers 4 = .ok (.iload_n 2, 1) := by decide +kernel
theorem dX0_freeSingers_5 : decode cX0_freeSingers 5 = .ok (.bipush 8, 2) := by decide +kernel
theorem dX0_freeSingers_7 : decode cX0_freeSingers 7 = .ok (.if_icmp .ge 24, 3) := by decide +kernel
theorem dX0_freeSingers_10 : decode cX0_freeSingers 10 = .ok (.aload_n 0, 1) := by decide +kernel
theorem dX0_freeSingers_11 : decode cX0_freeSingers 11 = .ok (.getfield 15, 3) := by decide +kernel
theorem dX0_freeSingers_14 : decode cX0_freeSingers 14 = .ok (.iload_n 2, 1) := by decide +kernel
theorem dX0_freeSingers_15 : decode cX0_freeSingers 15 = .ok (.iaload, 1) := by decide +kernel
theorem dX0_freeSingers_16 : decode cX0_freeSingers 16 = .ok (.ifCond .ne 9, 3) := by decide +kernel
theorem dX0_freeSingers_19 : decode cX0_freeSingers 19 = .ok (.iload_n 1, 1) := by decide +kernel
theorem dX0_freeSingers_20 : decode cX0_freeSingers 20 = .ok (.iconst 1, 1) := by decide +kernel
theorem dX0_freeSingers_21 : decode cX0_freeSingers 21 = .ok (.iload_n 2, 1) := by decide +kernel
theorem dX0_freeSingers_22 : decode cX0_freeSingers 22 = .ok (.ishl, 1) := by decide +kernel
theorem dX0_freeSingers_23 : decode cX0_freeSingers 23 = .ok (.ior, 1) := by decide +kernel
theorem dX0_freeSingers_24 : decode cX0_freeSingers 24 = .ok (.istore_n 1, 1) := by decide +kernel
theorem dX0_freeSingers_25 : decode cX0_freeSingers 25 = .ok (.iinc 2 1, 3) := by decide +kernel
theorem dX0_freeSingers_28 : decode cX0_freeSingers 28 = .ok (.goto (-24), 3) := by decide +kernel
theorem dX0_freeSingers_31 : decode cX0_freeSingers 31 = .ok (.iload_n 1, 1) := by decide +kernel
theorem dX0_freeSingers_32 : decode cX0_freeSingers 32 = .ok (.aload_n 0, 1) := by decide +kernel
theorem dX0_freeSingers_33 : decode cX0_freeSingers 33 = .ok (.getfield 27, 3) := by decide +kernel
theorem dX0_freeSingers_36 : decode cX0_freeSingers 36 = .ok (.iand, 1) := by decide +kernel
theorem dX0_freeSingers_37 : decode cX0_freeSingers 37 = .ok (.ireturn, 1) := by decide +kernel
theorem dX0_write_0 : decode cX0_write 0 = .ok (.iload_n 1, 1) := by decide +kernel
theorem dX0_write_1 : decode cX0_write 1 = .ok (.iconst 0, 1) := by decide +kernel
theorem dX0_write_2 : decode cX0_write 2 = .ok (.iconst 5, 1) := by decide +kernel
theorem dX0_write_3 : decode cX0_write 3 = .ok (.invokestatic 49, 3) := by decide +kernel
theorem dX0_write_6 : decode cX0_write 6 = .ok (.ifCond .eq 52, 3) := by decide +kernel
theorem dX0_write_9 : decode cX0_write 9 = .ok (.iconst 0, 1) := by decide +kernel
theorem dX0_write_10 : decode cX0_write 10 = .ok (.istore 5, 2) := by decide +kernel
theorem dX0_write_12 : decode cX0_write 12 = .ok (.iload 5, 2) := by decide +kernel
theorem dX0_write_14 : decode cX0_write 14 = .ok (.iconst 4, 1) := by decide +kernel
theorem dX0_write_15 : decode cX0_write 15 = .ok (.if_icmp .ge 28, 3) := by decide +kernel
theorem dX0_write_18 : decode cX0_write 18 = .ok (.aload_n 0, 1) := by decide +kernel
theorem dX0_write_19 : decode cX0_write 19 = .ok (.getfield 18, 3) := by decide +kernel
theorem dX0_write_22 : decode cX0_write 22 = .ok (.iload_n 1, 1) := by decide +kernel
theorem dX0_write_23 : decode cX0_write 23 = .ok (.iconst 4, 1) := by decide +kernel
theorem dX0_write_24 : decode cX0_write 24 = .ok (.imul, 1) := by decide +kernel
theorem dX0_write_25 : decode cX0_write 25 = .ok (.iload 5, 2) := by decide +kernel
theorem dX0_write_27 : decode cX0_write 27 = .ok (.iadd, 1) := by decide +kernel
theorem dX0_write_28 : decode cX0_write 28 = .ok (.iload_n 2, 1) := by decide +kernel
theorem dX0_write_29 : decode cX0_write 29 = .ok (.iconst 3, 1) := by decide +kernel
theorem dX0_write_30 : decode cX0_write 30 = .ok (.iload 5, 2) := by decide +kernel
theorem dX0_write_32 : decode cX0_write 32 = .ok (.isub, 1) := by decide +kernel
theorem dX0_write_33 : decode cX0_write 33 = .ok (.invokestatic 65, 3) := by decide +kernel
theorem dX0_write_36 : decode cX0_write 36 = .ok (.iastore, 1) := by decide +kernel
theorem dX0_write_37 : decode cX0_write 37 = .ok (.iinc 5 1, 3) := by decide +kernel
theorem dX0_write_40 : decode cX0_write 40 = .ok (.goto (-28), 3) := by decide +kernel
theorem dX0_write_43 : decode cX0_write 43 = .ok (.aload_n 0, 1) := by decide +kernel
theorem dX0_write_44 : decode cX0_write 44 = .ok (.getfield 21, 3) := by decide +kernel
theorem dX0_write_47 : decode cX0_write 47 = .ok (.iload_n 1, 1) := by decide +kernel
theorem dX0_write_48 : decode cX0_write 48 = .ok (.iload_n 3, 1) := by decide +kernel
theorem dX0_write_49 : decode cX0_write 49 = .ok (.iastore, 1) := by decide +kernel
theorem dX0_write_50 : decode cX0_write 50 = .ok (.aload_n 0, 1) := by decide +kernel
theorem dX0_write_51 : decode cX0_write 51 = .ok (.getfield 24, 3) := by decide +kernel
theorem dX0_write_54 : decode cX0_write 54 = .ok (.iload_n 1, 1) := by decide +kernel
theorem dX0_write_55 : decode cX0_write 55 = .ok (.iload 4, 2) := by decide +kernel
theorem dX0_write_57 : decode cX0_write 57 = .ok (.iastore, 1) := by decide +kernel
theorem dX0_write_58 : decode cX0_write 58 = .ok (.return_, 1) := by decide +kernel
theorem dX0_needOf_0 : decode cX0_needOf 0 = .ok (.iload_n 1, 1) := by decide +kernel
theorem dX0_needOf_1 : decode cX0_needOf 1 = .ok (.iconst 0, 1) := by decide +kernel
theorem dX0_needOf_2 : decode cX0_needOf 2 = .ok (.iconst 5, 1) := by decide +kernel
theorem dX0_needOf_3 : decode cX0_needOf 3 = .ok (.invokestatic 49, 3) := by decide +kernel
theorem dX0_needOf_6 : decode cX0_needOf 6 = .ok (.ifCond .eq 16, 3) := by decide +kernel
theorem dX0_needOf_9 : decode cX0_needOf 9 = .ok (.iload_n 2, 1) := by decide +kernel
theorem dX0_needOf_10 : decode cX0_needOf 10 = .ok (.iconst 0, 1) := by decide +kernel
theorem dX0_needOf_11 : decode cX0_needOf 11 = .ok (.iconst 3, 1) := by decide +kernel
theorem dX0_needOf_12 : decode cX0_needOf 12 = .ok (.invokestatic 49, 3) := by decide +kernel
theorem dX0_needOf_15 : decode cX0_needOf 15 = .ok (.ifCond .eq 7, 3) := by decide +kernel
theorem dX0_needOf_18 : decode cX0_needOf 18 = .ok (.iconst 1, 1) := by decide +kernel
theorem dX0_needOf_19 : decode cX0_needOf 19 = .ok (.goto 4, 3) := by decide +kernel
theorem dX0_needOf_22 : decode cX0_needOf 22 = .ok (.iconst 0, 1) := by decide +kernel
theorem dX0_needOf_23 : decode cX0_needOf 23 = .ok (.istore_n 3, 1) := by decide +kernel
theorem dX0_needOf_24 : decode cX0_needOf 24 = .ok (.iload_n 3, 1) := by decide +kernel
theorem dX0_needOf_25 : decode cX0_needOf 25 = .ok (.ifCond .eq 16, 3) := by decide +kernel
theorem dX0_needOf_28 : decode cX0_needOf 28 = .ok (.aload_n 0, 1) := by decide +kernel
theorem dX0_needOf_29 : decode cX0_needOf 29 = .ok (.getfield 18, 3) := by decide +kernel
theorem dX0_needOf_32 : decode cX0_needOf 32 = .ok (.iload_n 1, 1) := by decide +kernel
theorem dX0_needOf_33 : decode cX0_needOf 33 = .ok (.iconst 4, 1) := by decide +kernel
theorem dX0_needOf_34 : decode cX0_needOf 34 = .ok (.imul, 1) := by decide +kernel
theorem dX0_needOf_35 : decode cX0_needOf 35 = .ok (.iload_n 2, 1) := by decide +kernel
theorem dX0_needOf_36 : decode cX0_needOf 36 = .ok (.iadd, 1) := by decide +kernel
theorem dX0_needOf_37 : decode cX0_needOf 37 = .ok (.iaload, 1) := by decide +kernel
theorem dX0_needOf_38 : decode cX0_needOf 38 = .ok (.goto 4, 3) := by decide +kernel
theorem dX0_needOf_41 : decode cX0_needOf 41 = .ok (.iconst 0, 1) := by decide +kernel
theorem dX0_needOf_42 : decode cX0_needOf 42 = .ok (.ireturn, 1) := by decide +kernel
theorem dX0_barsOf_0 : decode cX0_barsOf 0 = .ok (.iload_n 1, 1) := by decide +kernel
theorem dX0_barsOf_1 : decode cX0_barsOf 1 = .ok (.iconst 0, 1) := by decide +kernel
theorem dX0_barsOf_2 : decode cX0_barsOf 2 = .ok (.iconst 5, 1) := by decide +kernel
theorem dX0_barsOf_3 : decode cX0_barsOf 3 = .ok (.invokestatic 49, 3) := by decide +kernel
theorem dX0_barsOf_6 : decode cX0_barsOf 6 = .ok (.ifCond .eq 12, 3) := by decide +kernel
theorem dX0_barsOf_9 : decode cX0_barsOf 9 = .ok (.aload_n 0, 1) := by decide +kernel
theorem dX0_barsOf_10 : decode cX0_barsOf 10 = .ok (.getfield 21, 3) := by decide +kernel
theorem dX0_barsOf_13 : decode cX0_barsOf 13 = .ok (.iload_n 1, 1) := by decide +kernel
theorem dX0_barsOf_14 : decode cX0_barsOf 14 = .ok (.iaload, 1) := by decide +kernel
theorem dX0_barsOf_15 : decode cX0_barsOf 15 = .ok (.goto 4, 3) := by decide +kernel
theorem dX0_barsOf_18 : decode cX0_barsOf 18 = .ok (.iconst 0, 1) := by decide +kernel
theorem dX0_barsOf_19 : decode cX0_barsOf 19 = .ok (.ireturn, 1) := by decide +kernel
theorem dX0_payOf_0 : decode cX0_payOf 0 = .ok (.iload_n 1, 1) := by decide +kernel
theorem dX0_payOf_1 : decode cX0_payOf 1 = .ok (.iconst 0, 1) := by decide +kernel
theorem dX0_payOf_2 : decode cX0_payOf 2 = .ok (.iconst 5, 1) := by decide +kernel
theorem dX0_payOf_3 : decode cX0_payOf 3 = .ok (.invokestatic 49, 3) := by decide +kernel
theorem dX0_payOf_6 : decode cX0_payOf 6 = .ok (.ifCond .eq 12, 3) := by decide +kernel
theorem dX0_payOf_9 : decode cX0_payOf 9 = .ok (.aload_n 0, 1) := by decide +kernel
theorem dX0_payOf_10 : decode cX0_payOf 10 = .ok (.getfield 24, 3) := by decide +kernel
theorem dX0_payOf_13 : decode cX0_payOf 13 = .ok (.iload_n 1, 1) := by decide +kernel
theorem dX0_payOf_14 : decode cX0_payOf 14 = .ok (.iaload, 1) := by decide +kernel
theorem dX0_payOf_15 : decode cX0_payOf 15 = .ok (.goto 4, 3) := by decide +kernel
theorem dX0_payOf_18 : decode cX0_payOf 18 = .ok (.iconst 0, 1) := by decide +kernel
theorem dX0_payOf_19 : decode cX0_payOf 19 = .ok (.ireturn, 1) := by decide +kernel
theorem dX0_worthOf_0 : decode cX0_worthOf 0 = .ok (.aload_n 0, 1) := by decide +kernel
theorem dX0_worthOf_1 : decode cX0_worthOf 1 = .ok (.iload_n 1, 1) := by decide +kernel
theorem dX0_worthOf_2 : decode cX0_worthOf 2 = .ok (.invokevirtual 69, 3) := by decide +kernel
theorem dX0_worthOf_5 : decode cX0_worthOf 5 = .ok (.aload_n 0, 1) := by decide +kernel
theorem dX0_worthOf_6 : decode cX0_worthOf 6 = .ok (.iload_n 1, 1) := by decide +kernel
theorem dX0_worthOf_7 : decode cX0_worthOf 7 = .ok (.invokevirtual 72, 3) := by decide +kernel
theorem dX0_worthOf_10 : decode cX0_worthOf 10 = .ok (.imul, 1) := by decide +kernel
theorem dX0_worthOf_11 : decode cX0_worthOf 11 = .ok (.ireturn, 1) := by decide +kernel
theorem dX0_barsOfSet_0 : decode cX0_barsOfSet 0 = .ok (.iconst 0, 1) := by decide +kernel
theorem dX0_barsOfSet_1 : decode cX0_barsOfSet 1 = .ok (.istore_n 2, 1) := by decide +kernel
theorem dX0_barsOfSet_2 : decode cX0_barsOfSet 2 = .ok (.iconst 0, 1) := by decide +kernel
theorem dX0_barsOfSet_3 : decode cX0_barsOfSet 3 = .ok (.istore_n 3, 1) := by decide +kernel
theorem dX0_barsOfSet_4 : decode cX0_barsOfSet 4 = .ok (.iload_n 3, 1) := by decide +kernel
theorem dX0_barsOfSet_5 : decode cX0_barsOfSet 5 = .ok (.bipush 6, 2) := by decide +kernel
theorem dX0_barsOfSet_7 : decode cX0_barsOfSet 7 = .ok (.if_icmp .ge 23, 3) := by decide +kernel
theorem dX0_barsOfSet_10 : decode cX0_barsOfSet 10 = .ok (.iload_n 2, 1) := by decide +kernel
theorem dX0_barsOfSet_11 : decode cX0_barsOfSet 11 = .ok (.iload_n 1, 1) := by decide +kernel
theorem dX0_barsOfSet_12 : decode cX0_barsOfSet 12 = .ok (.iload_n 3, 1) := by decide +kernel
theorem dX0_barsOfSet_13 : decode cX0_barsOfSet 13 = .ok (.invokestatic 75, 3) := by decide +kernel
theorem dX0_barsOfSet_16 : decode cX0_barsOfSet 16 = .ok (.aload_n 0, 1) := by decide +kernel
theorem dX0_barsOfSet_17 : decode cX0_barsOfSet 17 = .ok (.iload_n 3, 1) := by decide +kernel
theorem dX0_barsOfSet_18 : decode cX0_barsOfSet 18 = .ok (.invokevirtual 69, 3) := by decide +kernel
theorem dX0_barsOfSet_21 : decode cX0_barsOfSet 21 = .ok (.imul, 1) := by decide +kernel
theorem dX0_barsOfSet_22 : decode cX0_barsOfSet 22 = .ok (.iadd, 1) := by decide +kernel
theorem dX0_barsOfSet_23 : decode cX0_barsOfSet 23 = .ok (.istore_n 2, 1) := by decide +kernel
theorem dX0_barsOfSet_24 : decode cX0_barsOfSet 24 = .ok (.iinc 3 1, 3) := by decide +kernel
theorem dX0_barsOfSet_27 : decode cX0_barsOfSet 27 = .ok (.goto (-23), 3) := by decide +kernel
theorem dX0_barsOfSet_30 : decode cX0_barsOfSet 30 = .ok (.iload_n 2, 1) := by decide +kernel
theorem dX0_barsOfSet_31 : decode cX0_barsOfSet 31 = .ok (.ireturn, 1) := by decide +kernel
theorem dX0_payOfSet_0 : decode cX0_payOfSet 0 = .ok (.iconst 0, 1) := by decide +kernel
theorem dX0_payOfSet_1 : decode cX0_payOfSet 1 = .ok (.istore_n 2, 1) := by decide +kernel
theorem dX0_payOfSet_2 : decode cX0_payOfSet 2 = .ok (.iconst 0, 1) := by decide +kernel
theorem dX0_payOfSet_3 : decode cX0_payOfSet 3 = .ok (.istore_n 3, 1) := by decide +kernel
theorem dX0_payOfSet_4 : decode cX0_payOfSet 4 = .ok (.iload_n 3, 1) := by decide +kernel
theorem dX0_payOfSet_5 : decode cX0_payOfSet 5 = .ok (.bipush 6, 2) := by decide +kernel
theorem dX0_payOfSet_7 : decode cX0_payOfSet 7 = .ok (.if_icmp .ge 46, 3) := by decide +kernel
theorem dX0_payOfSet_10 : decode cX0_payOfSet 10 = .ok (.iconst 0, 1) := by decide +kernel
theorem dX0_payOfSet_11 : decode cX0_payOfSet 11 = .ok (.istore 4, 2) := by decide +kernel
theorem dX0_payOfSet_13 : decode cX0_payOfSet 13 = .ok (.iload 4, 2) := by decide +kernel
theorem dX0_payOfSet_15 : decode cX0_payOfSet 15 = .ok (.iconst 4, 1) := by decide +kernel
theorem dX0_payOfSet_16 : decode cX0_payOfSet 16 = .ok (.if_icmp .ge 31, 3) := by decide +kernel
theorem dX0_payOfSet_19 : decode cX0_payOfSet 19 = .ok (.iload_n 2, 1) := by decide +kernel
theorem dX0_payOfSet_20 : decode cX0_payOfSet 20 = .ok (.iload_n 1, 1) := by decide +kernel
theorem dX0_payOfSet_21 : decode cX0_payOfSet 21 = .ok (.iload_n 3, 1) := by decide +kernel
theorem dX0_payOfSet_22 : decode cX0_payOfSet 22 = .ok (.invokestatic 75, 3) := by decide +kernel
theorem dX0_payOfSet_25 : decode cX0_payOfSet 25 = .ok (.aload_n 0, 1) := by decide +kernel
theorem dX0_payOfSet_26 : decode cX0_payOfSet 26 = .ok (.iload_n 3, 1) := by decide +kernel
theorem dX0_payOfSet_27 : decode cX0_payOfSet 27 = .ok (.invokevirtual 78, 3) := by decide +kernel
theorem dX0_payOfSet_30 : decode cX0_payOfSet 30 = .ok (.imul, 1) := by decide +kernel
theorem dX0_payOfSet_31 : decode cX0_payOfSet 31 = .ok (.aload_n 0, 1) := by decide +kernel
theorem dX0_payOfSet_32 : decode cX0_payOfSet 32 = .ok (.iload_n 3, 1) := by decide +kernel
theorem dX0_payOfSet_33 : decode cX0_payOfSet 33 = .ok (.iload 4, 2) := by decide +kernel
theorem dX0_payOfSet_35 : decode cX0_payOfSet 35 = .ok (.invokevirtual 81, 3) := by decide +kernel
theorem dX0_payOfSet_38 : decode cX0_payOfSet 38 = .ok (.imul, 1) := by decide +kernel
theorem dX0_payOfSet_39 : decode cX0_payOfSet 39 = .ok (.iadd, 1) := by decide +kernel
theorem dX0_payOfSet_40 : decode cX0_payOfSet 40 = .ok (.istore_n 2, 1) := by decide +kernel
theorem dX0_payOfSet_41 : decode cX0_payOfSet 41 = .ok (.iinc 4 1, 3) := by decide +kernel
theorem dX0_payOfSet_44 : decode cX0_payOfSet 44 = .ok (.goto (-31), 3) := by decide +kernel
theorem dX0_payOfSet_47 : decode cX0_payOfSet 47 = .ok (.iinc 3 1, 3) := by decide +kernel
theorem dX0_payOfSet_50 : decode cX0_payOfSet 50 = .ok (.goto (-46), 3) := by decide +kernel
theorem dX0_payOfSet_53 : decode cX0_payOfSet 53 = .ok (.iload_n 2, 1) := by decide +kernel
theorem dX0_payOfSet_54 : decode cX0_payOfSet 54 = .ok (.ireturn, 1) := by decide +kernel
theorem dX0_withBreath_0 : decode cX0_withBreath 0 = .ok (.iconst 0, 1) := by decide +kernel
theorem dX0_withBreath_1 : decode cX0_withBreath 1 = .ok (.istore_n 2, 1) := by decide +kernel
theorem dX0_withBreath_2 : decode cX0_withBreath 2 = .ok (.iconst 0, 1) := by decide +kernel
theorem dX0_withBreath_3 : decode cX0_withBreath 3 = .ok (.istore_n 3, 1) := by decide +kernel
theorem dX0_withBreath_4 : decode cX0_withBreath 4 = .ok (.iload_n 3, 1) := by decide +kernel
theorem dX0_withBreath_5 : decode cX0_withBreath 5 = .ok (.bipush 8, 2) := by decide +kernel
theorem dX0_withBreath_7 : decode cX0_withBreath 7 = .ok (.if_icmp .ge 25, 3) := by decide +kernel
theorem dX0_withBreath_10 : decode cX0_withBreath 10 = .ok (.aload_n 0, 1) := by decide +kernel
theorem dX0_withBreath_11 : decode cX0_withBreath 11 = .ok (.getfield 9, 3) := by decide +kernel
theorem dX0_withBreath_14 : decode cX0_withBreath 14 = .ok (.iload_n 3, 1) := by decide +kernel
theorem dX0_withBreath_15 : decode cX0_withBreath 15 = .ok (.iaload, 1) := by decide +kernel
theorem dX0_withBreath_16 : decode cX0_withBreath 16 = .ok (.iload_n 1, 1) := by decide +kernel
theorem dX0_withBreath_17 : decode cX0_withBreath 17 = .ok (.if_icmp .ne 9, 3) := by decide +kernel
theorem dX0_withBreath_20 : decode cX0_withBreath 20 = .ok (.iload_n 2, 1) := by decide +kernel
theorem dX0_withBreath_21 : decode cX0_withBreath 21 = .ok (.iconst 1, 1) := by decide +kernel
theorem dX0_withBreath_22 : decode cX0_withBreath 22 = .ok (.iload_n 3, 1) := by decide +kernel
theorem dX0_withBreath_23 : decode cX0_withBreath 23 = .ok (.ishl, 1) := by decide +kernel
theorem dX0_withBreath_24 : decode cX0_withBreath 24 = .ok (.ior, 1) := by decide +kernel
theorem dX0_withBreath_25 : decode cX0_withBreath 25 = .ok (.istore_n 2, 1) := by decide +kernel
theorem dX0_withBreath_26 : decode cX0_withBreath 26 = .ok (.iinc 3 1, 3) := by decide +kernel
theorem dX0_withBreath_29 : decode cX0_withBreath 29 = .ok (.goto (-25), 3) := by decide +kernel
theorem dX0_withBreath_32 : decode cX0_withBreath 32 = .ok (.iload_n 2, 1) := by decide +kernel
theorem dX0_withBreath_33 : decode cX0_withBreath 33 = .ok (.aload_n 0, 1) := by decide +kernel
theorem dX0_withBreath_34 : decode cX0_withBreath 34 = .ok (.getfield 27, 3) := by decide +kernel
theorem dX0_withBreath_37 : decode cX0_withBreath 37 = .ok (.iand, 1) := by decide +kernel
theorem dX0_withBreath_38 : decode cX0_withBreath 38 = .ok (.aload_n 0, 1) := by decide +kernel
theorem dX0_withBreath_39 : decode cX0_withBreath 39 = .ok (.getfield 31, 3) := by decide +kernel
theorem dX0_withBreath_42 : decode cX0_withBreath 42 = .ok (.iconst (-1), 1) := by decide +kernel
theorem dX0_withBreath_43 : decode cX0_withBreath 43 = .ok (.ixor, 1) := by decide +kernel
theorem dX0_withBreath_44 : decode cX0_withBreath 44 = .ok (.iand, 1) := by decide +kernel
theorem dX0_withBreath_45 : decode cX0_withBreath 45 = .ok (.aload_n 0, 1) := by decide +kernel
theorem dX0_withBreath_46 : decode cX0_withBreath 46 = .ok (.getfield 34, 3) := by decide +kernel
theorem dX0_withBreath_49 : decode cX0_withBreath 49 = .ok (.iconst (-1), 1) := by decide +kernel
theorem dX0_withBreath_50 : decode cX0_withBreath 50 = .ok (.ixor, 1) := by decide +kernel
theorem dX0_withBreath_51 : decode cX0_withBreath 51 = .ok (.iand, 1) := by decide +kernel
theorem dX0_withBreath_52 : decode cX0_withBreath 52 = .ok (.ireturn, 1) := by decide +kernel
theorem dX0_readyIn_0 : decode cX0_readyIn 0 = .ok (.aload_n 0, 1) := by decide +kernel
theorem dX0_readyIn_1 : decode cX0_readyIn 1 = .ok (.iload_n 1, 1) := by decide +kernel
theorem dX0_readyIn_2 : decode cX0_readyIn 2 = .ok (.invokevirtual 84, 3) := by decide +kernel
theorem dX0_readyIn_5 : decode cX0_readyIn 5 = .ok (.aload_n 0, 1) := by decide +kernel
theorem dX0_readyIn_6 : decode cX0_readyIn 6 = .ok (.invokevirtual 87, 3) := by decide +kernel
theorem dX0_readyIn_9 : decode cX0_readyIn 9 = .ok (.iconst (-1), 1) := by decide +kernel
theorem dX0_readyIn_10 : decode cX0_readyIn 10 = .ok (.ixor, 1) := by decide +kernel
theorem dX0_readyIn_11 : decode cX0_readyIn 11 = .ok (.iand, 1) := by decide +kernel
theorem dX0_readyIn_12 : decode cX0_readyIn 12 = .ok (.ireturn, 1) := by decide +kernel
theorem dX0_leastFree_0 : decode cX0_leastFree 0 = .ok (.aload_n 0, 1) := by decide +kernel
theorem dX0_leastFree_1 : decode cX0_leastFree 1 = .ok (.iload_n 1, 1) := by decide +kernel
theorem dX0_leastFree_2 : decode cX0_leastFree 2 = .ok (.invokevirtual 84, 3) := by decide +kernel
theorem dX0_leastFree_5 : decode cX0_leastFree 5 = .ok (.aload_n 0, 1) := by decide +kernel
theorem dX0_leastFree_6 : decode cX0_leastFree 6 = .ok (.invokevirtual 87, 3) := by decide +kernel
theorem dX0_leastFree_9 : decode cX0_leastFree 9 = .ok (.iand, 1) := by decide +kernel
theorem dX0_leastFree_10 : decode cX0_leastFree 10 = .ok (.istore_n 3, 1) := by decide +kernel
theorem dX0_leastFree_11 : decode cX0_leastFree 11 = .ok (.iconst 0, 1) := by decide +kernel
theorem dX0_leastFree_12 : decode cX0_leastFree 12 = .ok (.istore 4, 2) := by decide +kernel
theorem dX0_leastFree_14 : decode cX0_leastFree 14 = .ok (.iconst 0, 1) := by decide +kernel
theorem dX0_leastFree_15 : decode cX0_leastFree 15 = .ok (.istore 5, 2) := by decide +kernel
theorem dX0_leastFree_17 : decode cX0_leastFree 17 = .ok (.iload 5, 2) := by decide +kernel
theorem dX0_leastFree_19 : decode cX0_leastFree 19 = .ok (.bipush 8, 2) := by decide +kernel
theorem dX0_leastFree_21 : decode cX0_leastFree 21 = .ok (.if_icmp .ge 37, 3) := by decide +kernel
theorem dX0_leastFree_24 : decode cX0_leastFree 24 = .ok (.iload_n 3, 1) := by decide +kernel
theorem dX0_leastFree_25 : decode cX0_leastFree 25 = .ok (.iload 5, 2) := by decide +kernel
theorem dX0_leastFree_27 : decode cX0_leastFree 27 = .ok (.invokestatic 75, 3) := by decide +kernel
theorem dX0_leastFree_30 : decode cX0_leastFree 30 = .ok (.iconst 1, 1) := by decide +kernel
theorem dX0_leastFree_31 : decode cX0_leastFree 31 = .ok (.if_icmp .ne 21, 3) := by decide +kernel
theorem dX0_leastFree_34 : decode cX0_leastFree 34 = .ok (.iload 4, 2) := by decide +kernel
theorem dX0_leastFree_36 : decode cX0_leastFree 36 = .ok (.invokestatic 91, 3) := by decide +kernel
theorem dX0_leastFree_39 : decode cX0_leastFree 39 = .ok (.iload_n 2, 1) := by decide +kernel
theorem dX0_leastFree_40 : decode cX0_leastFree 40 = .ok (.if_icmp .ge 12, 3) := by decide +kernel
theorem dX0_leastFree_43 : decode cX0_leastFree 43 = .ok (.iload 4, 2) := by decide +kernel
theorem dX0_leastFree_45 : decode cX0_leastFree 45 = .ok (.iconst 1, 1) := by decide +kernel
theorem dX0_leastFree_46 : decode cX0_leastFree 46 = .ok (.iload 5, 2) := by decide +kernel
theorem dX0_leastFree_48 : decode cX0_leastFree 48 = .ok (.ishl, 1) := by decide +kernel
theorem dX0_leastFree_49 : decode cX0_leastFree 49 = .ok (.ior, 1) := by decide +kernel
theorem dX0_leastFree_50 : decode cX0_leastFree 50 = .ok (.istore 4, 2) := by decide +kernel
theorem dX0_leastFree_52 : decode cX0_leastFree 52 = .ok (.iinc 5 1, 3) := by decide +kernel
theorem dX0_leastFree_55 : decode cX0_leastFree 55 = .ok (.goto (-38), 3) := by decide +kernel
theorem dX0_leastFree_58 : decode cX0_leastFree 58 = .ok (.iload 4, 2) := by decide +kernel
theorem dX0_leastFree_60 : decode cX0_leastFree 60 = .ok (.ireturn, 1) := by decide +kernel
theorem dX0_canBeSung_0 : decode cX0_canBeSung 0 = .ok (.iconst 0, 1) := by decide +kernel
theorem dX0_canBeSung_1 : decode cX0_canBeSung 1 = .ok (.istore_n 2, 1) := by decide +kernel
theorem dX0_canBeSung_2 : decode cX0_canBeSung 2 = .ok (.iload_n 2, 1) := by decide +kernel
theorem dX0_canBeSung_3 : decode cX0_canBeSung 3 = .ok (.iconst 4, 1) := by decide +kernel
theorem dX0_canBeSung_4 : decode cX0_canBeSung 4 = .ok (.if_icmp .ge 28, 3) := by decide +kernel
theorem dX0_canBeSung_7 : decode cX0_canBeSung 7 = .ok (.aload_n 0, 1) := by decide +kernel
theorem dX0_canBeSung_8 : decode cX0_canBeSung 8 = .ok (.iload_n 2, 1) := by decide +kernel
theorem dX0_canBeSung_9 : decode cX0_canBeSung 9 = .ok (.invokevirtual 96, 3) := by decide +kernel
theorem dX0_canBeSung_12 : decode cX0_canBeSung 12 = .ok (.invokestatic 91, 3) := by decide +kernel
theorem dX0_canBeSung_15 : decode cX0_canBeSung 15 = .ok (.aload_n 0, 1) := by decide +kernel
theorem dX0_canBeSung_16 : decode cX0_canBeSung 16 = .ok (.iload_n 1, 1) := by decide +kernel
theorem dX0_canBeSung_17 : decode cX0_canBeSung 17 = .ok (.iload_n 2, 1) := by decide +kernel
theorem dX0_canBeSung_18 : decode cX0_canBeSung 18 = .ok (.invokevirtual 81, 3) := by decide +kernel
theorem dX0_canBeSung_21 : decode cX0_canBeSung 21 = .ok (.if_icmp .ge 5, 3) := by decide +kernel
theorem dX0_canBeSung_24 : decode cX0_canBeSung 24 = .ok (.iconst 0, 1) := by decide +kernel
theorem dX0_canBeSung_25 : decode cX0_canBeSung 25 = .ok (.ireturn, 1) := by decide +kernel
theorem dX0_canBeSung_26 : decode cX0_canBeSung 26 = .ok (.iinc 2 1, 3) := by decide +kernel
theorem dX0_canBeSung_29 : decode cX0_canBeSung 29 = .ok (.goto (-27), 3) := by decide +kernel
theorem dX0_canBeSung_32 : decode cX0_canBeSung 32 = .ok (.iconst 1, 1) := by decide +kernel
theorem dX0_canBeSung_33 : decode cX0_canBeSung 33 = .ok (.ireturn, 1) := by decide +kernel
theorem dX0_deepestOf_0 : decode cX0_deepestOf 0 = .ok (.bipush (-6), 2) := by decide +kernel
theorem dX0_deepestOf_2 : decode cX0_deepestOf 2 = .ok (.istore_n 2, 1) := by decide +kernel
theorem dX0_deepestOf_3 : decode cX0_deepestOf 3 = .ok (.iconst 0, 1) := by decide +kernel
theorem dX0_deepestOf_4 : decode cX0_deepestOf 4 = .ok (.istore_n 3, 1) := by decide +kernel
theorem dX0_deepestOf_5 : decode cX0_deepestOf 5 = .ok (.iload_n 3, 1) := by decide +kernel
theorem dX0_deepestOf_6 : decode cX0_deepestOf 6 = .ok (.bipush 8, 2) := by decide +kernel
theorem dX0_deepestOf_8 : decode cX0_deepestOf 8 = .ok (.if_icmp .ge 33, 3) := by decide +kernel
theorem dX0_deepestOf_11 : decode cX0_deepestOf 11 = .ok (.iload_n 1, 1) := by decide +kernel
theorem dX0_deepestOf_12 : decode cX0_deepestOf 12 = .ok (.iload_n 3, 1) := by decide +kernel
theorem dX0_deepestOf_13 : decode cX0_deepestOf 13 = .ok (.invokestatic 75, 3) := by decide +kernel
theorem dX0_deepestOf_16 : decode cX0_deepestOf 16 = .ok (.iconst 1, 1) := by decide +kernel
theorem dX0_deepestOf_17 : decode cX0_deepestOf 17 = .ok (.if_icmp .ne 18, 3) := by decide +kernel
theorem dX0_deepestOf_20 : decode cX0_deepestOf 20 = .ok (.aload_n 0, 1) := by decide +kernel
theorem dX0_deepestOf_21 : decode cX0_deepestOf 21 = .ok (.iload_n 3, 1) := by decide +kernel
theorem dX0_deepestOf_22 : decode cX0_deepestOf 22 = .ok (.invokevirtual 61, 3) := by decide +kernel
theorem dX0_deepestOf_25 : decode cX0_deepestOf 25 = .ok (.aload_n 0, 1) := by decide +kernel
theorem dX0_deepestOf_26 : decode cX0_deepestOf 26 = .ok (.iload_n 2, 1) := by decide +kernel
theorem dX0_deepestOf_27 : decode cX0_deepestOf 27 = .ok (.invokevirtual 61, 3) := by decide +kernel
theorem dX0_deepestOf_30 : decode cX0_deepestOf 30 = .ok (.if_icmp .le 5, 3) := by decide +kernel
theorem dX0_deepestOf_33 : decode cX0_deepestOf 33 = .ok (.iload_n 3, 1) := by decide +kernel
theorem dX0_deepestOf_34 : decode cX0_deepestOf 34 = .ok (.istore_n 2, 1) := by decide +kernel
theorem dX0_deepestOf_35 : decode cX0_deepestOf 35 = .ok (.iinc 3 1, 3) := by decide +kernel
theorem dX0_deepestOf_38 : decode cX0_deepestOf 38 = .ok (.goto (-33), 3) := by decide +kernel
theorem dX0_deepestOf_41 : decode cX0_deepestOf 41 = .ok (.iload_n 2, 1) := by decide +kernel
theorem dX0_deepestOf_42 : decode cX0_deepestOf 42 = .ok (.ireturn, 1) := by decide +kernel
theorem dX0_sing_0 : decode cX0_sing 0 = .ok (.aload_n 0, 1) := by decide +kernel
theorem dX0_sing_1 : decode cX0_sing 1 = .ok (.iload_n 1, 1) := by decide +kernel
theorem dX0_sing_2 : decode cX0_sing 2 = .ok (.invokevirtual 99, 3) := by decide +kernel
theorem dX0_sing_5 : decode cX0_sing 5 = .ok (.ifCond .ne 5, 3) := by decide +kernel
theorem dX0_sing_8 : decode cX0_sing 8 = .ok (.iconst 4, 1) := by decide +kernel
theorem dX0_sing_9 : decode cX0_sing 9 = .ok (.ireturn, 1) := by decide +kernel
theorem dX0_sing_10 : decode cX0_sing 10 = .ok (.iconst 0, 1) := by decide +kernel
theorem dX0_sing_11 : decode cX0_sing 11 = .ok (.istore_n 2, 1) := by decide +kernel
theorem dX0_sing_12 : decode cX0_sing 12 = .ok (.iload_n 2, 1) := by decide +kernel
theorem dX0_sing_13 : decode cX0_sing 13 = .ok (.iconst 4, 1) := by decide +kernel
theorem dX0_sing_14 : decode cX0_sing 14 = .ok (.if_icmp .ge 45, 3) := by decide +kernel
theorem dX0_sing_17 : decode cX0_sing 17 = .ok (.iconst 0, 1) := by decide +kernel
theorem dX0_sing_18 : decode cX0_sing 18 = .ok (.istore_n 3, 1) := by decide +kernel
theorem dX0_sing_19 : decode cX0_sing 19 = .ok (.iload_n 3, 1) := by decide +kernel
theorem dX0_sing_20 : decode cX0_sing 20 = .ok (.aload_n 0, 1) := by decide +kernel
theorem dX0_sing_21 : decode cX0_sing 21 = .ok (.iload_n 1, 1) := by decide +kernel
theorem dX0_sing_22 : decode cX0_sing 22 = .ok (.iload_n 2, 1) := by decide +kernel
theorem dX0_sing_23 : decode cX0_sing 23 = .ok (.invokevirtual 81, 3) := by decide +kernel
theorem dX0_sing_26 : decode cX0_sing 26 = .ok (.if_icmp .ge 27, 3) := by decide +kernel
theorem dX0_sing_29 : decode cX0_sing 29 = .ok (.aload_n 0, 1) := by decide +kernel
theorem dX0_sing_30 : decode cX0_sing 30 = .ok (.aload_n 0, 1) := by decide +kernel
theorem dX0_sing_31 : decode cX0_sing 31 = .ok (.aload_n 0, 1) := by decide +kernel
theorem dX0_sing_32 : decode cX0_sing 32 = .ok (.iload_n 2, 1) := by decide +kernel
theorem dX0_sing_33 : decode cX0_sing 33 = .ok (.invokevirtual 96, 3) := by decide +kernel
theorem dX0_sing_36 : decode cX0_sing 36 = .ok (.invokevirtual 102, 3) := by decide +kernel
theorem dX0_sing_39 : decode cX0_sing 39 = .ok (.aload_n 0, 1) := by decide +kernel
theorem dX0_sing_40 : decode cX0_sing 40 = .ok (.iload_n 1, 1) := by decide +kernel
theorem dX0_sing_41 : decode cX0_sing 41 = .ok (.invokevirtual 78, 3) := by decide +kernel
theorem dX0_sing_44 : decode cX0_sing 44 = .ok (.invokevirtual 105, 3) := by decide +kernel
theorem dX0_sing_47 : decode cX0_sing 47 = .ok (.iinc 3 1, 3) := by decide +kernel
theorem dX0_sing_50 : decode cX0_sing 50 = .ok (.goto (-31), 3) := by decide +kernel
theorem dX0_sing_53 : decode cX0_sing 53 = .ok (.iinc 2 1, 3) := by decide +kernel
theorem dX0_sing_56 : decode cX0_sing 56 = .ok (.goto (-44), 3) := by decide +kernel
theorem dX0_sing_59 : decode cX0_sing 59 = .ok (.iconst 0, 1) := by decide +kernel
theorem dX0_sing_60 : decode cX0_sing 60 = .ok (.ireturn, 1) := by decide +kernel
theorem dX0_singOff_0 : decode cX0_singOff 0 = .ok (.aload_n 0, 1) := by decide +kernel
theorem dX0_singOff_1 : decode cX0_singOff 1 = .ok (.iload_n 1, 1) := by decide +kernel
theorem dX0_singOff_2 : decode cX0_singOff 2 = .ok (.invokevirtual 53, 3) := by decide +kernel
theorem dX0_singOff_5 : decode cX0_singOff 5 = .ok (.ifCond .eq 47, 3) := by decide +kernel
theorem dX0_singOff_8 : decode cX0_singOff 8 = .ok (.iload_n 2, 1) := by decide +kernel
theorem dX0_singOff_9 : decode cX0_singOff 9 = .ok (.aload_n 0, 1) := by decide +kernel
theorem dX0_singOff_10 : decode cX0_singOff 10 = .ok (.iload_n 1, 1) := by decide +kernel
theorem dX0_singOff_11 : decode cX0_singOff 11 = .ok (.invokevirtual 61, 3) := by decide +kernel
theorem dX0_singOff_14 : decode cX0_singOff 14 = .ok (.invokestatic 109, 3) := by decide +kernel
theorem dX0_singOff_17 : decode cX0_singOff 17 = .ok (.istore_n 3, 1) := by decide +kernel
theorem dX0_singOff_18 : decode cX0_singOff 18 = .ok (.aload_n 0, 1) := by decide +kernel
theorem dX0_singOff_19 : decode cX0_singOff 19 = .ok (.iload_n 1, 1) := by decide +kernel
theorem dX0_singOff_20 : decode cX0_singOff 20 = .ok (.aload_n 0, 1) := by decide +kernel
theorem dX0_singOff_21 : decode cX0_singOff 21 = .ok (.iload_n 1, 1) := by decide +kernel
theorem dX0_singOff_22 : decode cX0_singOff 22 = .ok (.invokevirtual 61, 3) := by decide +kernel
theorem dX0_singOff_25 : decode cX0_singOff 25 = .ok (.iload_n 3, 1) := by decide +kernel
theorem dX0_singOff_26 : decode cX0_singOff 26 = .ok (.isub, 1) := by decide +kernel
theorem dX0_singOff_27 : decode cX0_singOff 27 = .ok (.invokevirtual 114, 3) := by decide +kernel
theorem dX0_singOff_30 : decode cX0_singOff 30 = .ok (.aload_n 0, 1) := by decide +kernel
theorem dX0_singOff_31 : decode cX0_singOff 31 = .ok (.dup, 1) := by decide +kernel
theorem dX0_singOff_32 : decode cX0_singOff 32 = .ok (.getfield 40, 3) := by decide +kernel
theorem dX0_singOff_35 : decode cX0_singOff 35 = .ok (.iload_n 3, 1) := by decide +kernel
theorem dX0_singOff_36 : decode cX0_singOff 36 = .ok (.iadd, 1) := by decide +kernel
theorem dX0_singOff_37 : decode cX0_singOff 37 = .ok (.putfield 40, 3) := by decide +kernel
theorem dX0_singOff_40 : decode cX0_singOff 40 = .ok (.aload_n 0, 1) := by decide +kernel
theorem dX0_singOff_41 : decode cX0_singOff 41 = .ok (.dup, 1) := by decide +kernel
theorem dX0_singOff_42 : decode cX0_singOff 42 = .ok (.getfield 34, 3) := by decide +kernel
theorem dX0_singOff_45 : decode cX0_singOff 45 = .ok (.iconst 1, 1) := by decide +kernel
theorem dX0_singOff_46 : decode cX0_singOff 46 = .ok (.iload_n 1, 1) := by decide +kernel
theorem dX0_singOff_47 : decode cX0_singOff 47 = .ok (.ishl, 1) := by decide +kernel
theorem dX0_singOff_48 : decode cX0_singOff 48 = .ok (.ior, 1) := by decide +kernel
theorem dX0_singOff_49 : decode cX0_singOff 49 = .ok (.putfield 34, 3) := by decide +kernel
theorem dX0_singOff_52 : decode cX0_singOff 52 = .ok (.return_, 1) := by decide +kernel
theorem dX0_borrow_0 : decode cX0_borrow 0 = .ok (.aload_n 0, 1) := by decide +kernel
theorem dX0_borrow_1 : decode cX0_borrow 1 = .ok (.iload_n 1, 1) := by decide +kernel
theorem dX0_borrow_2 : decode cX0_borrow 2 = .ok (.invokevirtual 53, 3) := by decide +kernel
theorem dX0_borrow_5 : decode cX0_borrow 5 = .ok (.ifCond .ne 5, 3) := by decide +kernel
theorem dX0_borrow_8 : decode cX0_borrow 8 = .ok (.iconst 1, 1) := by decide +kernel
theorem dX0_borrow_9 : decode cX0_borrow 9 = .ok (.ireturn, 1) := by decide +kernel
theorem dX0_borrow_10 : decode cX0_borrow 10 = .ok (.aload_n 0, 1) := by decide +kernel
theorem dX0_borrow_11 : decode cX0_borrow 11 = .ok (.iload_n 1, 1) := by decide +kernel
theorem dX0_borrow_12 : decode cX0_borrow 12 = .ok (.invokevirtual 61, 3) := by decide +kernel
theorem dX0_borrow_15 : decode cX0_borrow 15 = .ok (.iload_n 2, 1) := by decide +kernel
theorem dX0_borrow_16 : decode cX0_borrow 16 = .ok (.iadd, 1) := by decide +kernel
theorem dX0_borrow_17 : decode cX0_borrow 17 = .ok (.sipush 999, 3) := by decide +kernel
theorem dX0_borrow_20 : decode cX0_borrow 20 = .ok (.if_icmp .le 5, 3) := by decide +kernel
theorem dX0_borrow_23 : decode cX0_borrow 23 = .ok (.iconst 3, 1) := by decide +kernel
theorem dX0_borrow_24 : decode cX0_borrow 24 = .ok (.ireturn, 1) := by decide +kernel
theorem dX0_borrow_25 : decode cX0_borrow 25 = .ok (.aload_n 0, 1) := by decide +kernel
theorem dX0_borrow_26 : decode cX0_borrow 26 = .ok (.iload_n 1, 1) := by decide +kernel
theorem dX0_borrow_27 : decode cX0_borrow 27 = .ok (.aload_n 0, 1) := by decide +kernel
theorem dX0_borrow_28 : decode cX0_borrow 28 = .ok (.iload_n 1, 1) := by decide +kernel
theorem dX0_borrow_29 : decode cX0_borrow 29 = .ok (.invokevirtual 61, 3) := by decide +kernel
theorem dX0_borrow_32 : decode cX0_borrow 32 = .ok (.iload_n 2, 1) := by decide +kernel
theorem dX0_borrow_33 : decode cX0_borrow 33 = .ok (.iadd, 1) := by decide +kernel
theorem dX0_borrow_34 : decode cX0_borrow 34 = .ok (.invokevirtual 114, 3) := by decide +kernel
theorem dX0_borrow_37 : decode cX0_borrow 37 = .ok (.iconst 0, 1) := by decide +kernel
theorem dX0_borrow_38 : decode cX0_borrow 38 = .ok (.ireturn, 1) := by decide +kernel
theorem dX0_turnHoarse_0 : decode cX0_turnHoarse 0 = .ok (.aload_n 0, 1) := by decide +kernel
theorem dX0_turnHoarse_1 : decode cX0_turnHoarse 1 = .ok (.iload_n 1, 1) := by decide +kernel
theorem dX0_turnHoarse_2 : decode cX0_turnHoarse 2 = .ok (.invokevirtual 53, 3) := by decide +kernel
theorem dX0_turnHoarse_5 : decode cX0_turnHoarse 5 = .ok (.ifCond .ne 5, 3) := by decide +kernel
theorem dX0_turnHoarse_8 : decode cX0_turnHoarse 8 = .ok (.iconst 1, 1) := by decide +kernel
theorem dX0_turnHoarse_9 : decode cX0_turnHoarse 9 = .ok (.ireturn, 1) := by decide +kernel
theorem dX0_turnHoarse_10 : decode cX0_turnHoarse 10 = .ok (.aload_n 0, 1) := by decide +kernel
theorem dX0_turnHoarse_11 : decode cX0_turnHoarse 11 = .ok (.dup, 1) := by decide +kernel
theorem dX0_turnHoarse_12 : decode cX0_turnHoarse 12 = .ok (.getfield 31, 3) := by decide +kernel
theorem dX0_turnHoarse_15 : decode cX0_turnHoarse 15 = .ok (.iconst 1, 1) := by decide +kernel
theorem dX0_turnHoarse_16 : decode cX0_turnHoarse 16 = .ok (.iload_n 1, 1) := by decide +kernel
theorem dX0_turnHoarse_17 : decode cX0_turnHoarse 17 = .ok (.ishl, 1) := by decide +kernel
theorem dX0_turnHoarse_18 : decode cX0_turnHoarse 18 = .ok (.ixor, 1) := by decide +kernel
theorem dX0_turnHoarse_19 : decode cX0_turnHoarse 19 = .ok (.putfield 31, 3) := by decide +kernel
theorem dX0_turnHoarse_22 : decode cX0_turnHoarse 22 = .ok (.iconst 0, 1) := by decide +kernel
theorem dX0_turnHoarse_23 : decode cX0_turnHoarse 23 = .ok (.ireturn, 1) := by decide +kernel
theorem dX0_takeOver_0 : decode cX0_takeOver 0 = .ok (.aload_n 0, 1) := by decide +kernel
theorem dX0_takeOver_1 : decode cX0_takeOver 1 = .ok (.iload_n 1, 1) := by decide +kernel
theorem dX0_takeOver_2 : decode cX0_takeOver 2 = .ok (.invokevirtual 53, 3) := by decide +kernel
theorem dX0_takeOver_5 : decode cX0_takeOver 5 = .ok (.ifCond .eq 11, 3) := by decide +kernel
theorem dX0_takeOver_8 : decode cX0_takeOver 8 = .ok (.aload_n 0, 1) := by decide +kernel
theorem dX0_takeOver_9 : decode cX0_takeOver 9 = .ok (.iload_n 2, 1) := by decide +kernel
theorem dX0_takeOver_10 : decode cX0_takeOver 10 = .ok (.invokevirtual 53, 3) := by decide +kernel
theorem dX0_takeOver_13 : decode cX0_takeOver 13 = .ok (.ifCond .ne 5, 3) := by decide +kernel
theorem dX0_takeOver_16 : decode cX0_takeOver 16 = .ok (.iconst 1, 1) := by decide +kernel
theorem dX0_takeOver_17 : decode cX0_takeOver 17 = .ok (.ireturn, 1) := by decide +kernel
theorem dX0_takeOver_18 : decode cX0_takeOver 18 = .ok (.aload_n 0, 1) := by decide +kernel
theorem dX0_takeOver_19 : decode cX0_takeOver 19 = .ok (.iload_n 1, 1) := by decide +kernel
theorem dX0_takeOver_20 : decode cX0_takeOver 20 = .ok (.invokevirtual 61, 3) := by decide +kernel
theorem dX0_takeOver_23 : decode cX0_takeOver 23 = .ok (.istore_n 3, 1) := by decide +kernel
theorem dX0_takeOver_24 : decode cX0_takeOver 24 = .ok (.iload_n 1, 1) := by decide +kernel
theorem dX0_takeOver_25 : decode cX0_takeOver 25 = .ok (.iload_n 2, 1) := by decide +kernel
theorem dX0_takeOver_26 : decode cX0_takeOver 26 = .ok (.if_icmp .eq 7, 3) := by decide +kernel
theorem dX0_takeOver_29 : decode cX0_takeOver 29 = .ok (.iload_n 3, 1) := by decide +kernel
theorem dX0_takeOver_30 : decode cX0_takeOver 30 = .ok (.ifCond .ne 5, 3) := by decide +kernel
theorem dX0_takeOver_33 : decode cX0_takeOver 33 = .ok (.iconst 2, 1) := by decide +kernel
theorem dX0_takeOver_34 : decode cX0_takeOver 34 = .ok (.ireturn, 1) := by decide +kernel
theorem dX0_takeOver_35 : decode cX0_takeOver 35 = .ok (.aload_n 0, 1) := by decide +kernel
theorem dX0_takeOver_36 : decode cX0_takeOver 36 = .ok (.iload_n 2, 1) := by decide +kernel
theorem dX0_takeOver_37 : decode cX0_takeOver 37 = .ok (.invokevirtual 61, 3) := by decide +kernel
theorem dX0_takeOver_40 : decode cX0_takeOver 40 = .ok (.iload_n 3, 1) := by decide +kernel
theorem dX0_takeOver_41 : decode cX0_takeOver 41 = .ok (.iadd, 1) := by decide +kernel
theorem dX0_takeOver_42 : decode cX0_takeOver 42 = .ok (.sipush 999, 3) := by decide +kernel
theorem dX0_takeOver_45 : decode cX0_takeOver 45 = .ok (.if_icmp .le 5, 3) := by decide +kernel
theorem dX0_takeOver_48 : decode cX0_takeOver 48 = .ok (.iconst 3, 1) := by decide +kernel
theorem dX0_takeOver_49 : decode cX0_takeOver 49 = .ok (.ireturn, 1) := by decide +kernel
theorem dX0_takeOver_50 : decode cX0_takeOver 50 = .ok (.aload_n 0, 1) := by decide +kernel
theorem dX0_takeOver_51 : decode cX0_takeOver 51 = .ok (.iload_n 2, 1) := by decide +kernel
theorem dX0_takeOver_52 : decode cX0_takeOver 52 = .ok (.aload_n 0, 1) := by decide +kernel
theorem dX0_takeOver_53 : decode cX0_takeOver 53 = .ok (.iload_n 2, 1) := by decide +kernel
theorem dX0_takeOver_54 : decode cX0_takeOver 54 = .ok (.invokevirtual 61, 3) := by decide +kernel
theorem dX0_takeOver_57 : decode cX0_takeOver 57 = .ok (.iload_n 3, 1) := by decide +kernel
theorem dX0_takeOver_58 : decode cX0_takeOver 58 = .ok (.iadd, 1) := by decide +kernel
theorem dX0_takeOver_59 : decode cX0_takeOver 59 = .ok (.invokevirtual 114, 3) := by decide +kernel
theorem dX0_takeOver_62 : decode cX0_takeOver 62 = .ok (.aload_n 0, 1) := by decide +kernel
theorem dX0_takeOver_63 : decode cX0_takeOver 63 = .ok (.iload_n 1, 1) := by decide +kernel
theorem dX0_takeOver_64 : decode cX0_takeOver 64 = .ok (.iconst 0, 1) := by decide +kernel
theorem dX0_takeOver_65 : decode cX0_takeOver 65 = .ok (.invokevirtual 114, 3) := by decide +kernel
theorem dX0_takeOver_68 : decode cX0_takeOver 68 = .ok (.iconst 0, 1) := by decide +kernel
theorem dX0_takeOver_69 : decode cX0_takeOver 69 = .ok (.ireturn, 1) := by decide +kernel
theorem dX0_letGo_0 : decode cX0_letGo 0 = .ok (.aload_n 0, 1) := by decide +kernel
theorem dX0_letGo_1 : decode cX0_letGo 1 = .ok (.iload_n 1, 1) := by decide +kernel
theorem dX0_letGo_2 : decode cX0_letGo 2 = .ok (.invokevirtual 53, 3) := by decide +kernel
theorem dX0_letGo_5 : decode cX0_letGo 5 = .ok (.ifCond .ne 5, 3) := by decide +kernel
theorem dX0_letGo_8 : decode cX0_letGo 8 = .ok (.iconst 1, 1) := by decide +kernel
theorem dX0_letGo_9 : decode cX0_letGo 9 = .ok (.ireturn, 1) := by decide +kernel
theorem dX0_letGo_10 : decode cX0_letGo 10 = .ok (.aload_n 0, 1) := by decide +kernel
theorem dX0_letGo_11 : decode cX0_letGo 11 = .ok (.iload_n 1, 1) := by decide +kernel
theorem dX0_letGo_12 : decode cX0_letGo 12 = .ok (.invokevirtual 61, 3) := by decide +kernel
theorem dX0_letGo_15 : decode cX0_letGo 15 = .ok (.ifCond .ne 5, 3) := by decide +kernel
theorem dX0_letGo_18 : decode cX0_letGo 18 = .ok (.iconst 2, 1) := by decide +kernel
theorem dX0_letGo_19 : decode cX0_letGo 19 = .ok (.ireturn, 1) := by decide +kernel
theorem dX0_letGo_20 : decode cX0_letGo 20 = .ok (.aload_n 0, 1) := by decide +kernel
theorem dX0_letGo_21 : decode cX0_letGo 21 = .ok (.iload_n 1, 1) := by decide +kernel
theorem dX0_letGo_22 : decode cX0_letGo 22 = .ok (.iconst 0, 1) := by decide +kernel
theorem dX0_letGo_23 : decode cX0_letGo 23 = .ok (.invokevirtual 114, 3) := by decide +kernel
theorem dX0_letGo_26 : decode cX0_letGo 26 = .ok (.iconst 0, 1) := by decide +kernel
theorem dX0_letGo_27 : decode cX0_letGo 27 = .ok (.ireturn, 1) := by decide +kernel
theorem dX0_endEvening_0 : decode cX0_endEvening 0 = .ok (.aload_n 0, 1) := by decide +kernel
theorem dX0_endEvening_1 : decode cX0_endEvening 1 = .ok (.getfield 37, 3) := by decide +kernel
theorem dX0_endEvening_4 : decode cX0_endEvening 4 = .ok (.bipush 99, 2) := by decide +kernel
theorem dX0_endEvening_6 : decode cX0_endEvening 6 = .ok (.if_icmp .lt 5, 3) := by decide +kernel
theorem dX0_endEvening_9 : decode cX0_endEvening 9 = .ok (.iconst 5, 1) := by decide +kernel
theorem dX0_endEvening_10 : decode cX0_endEvening 10 = .ok (.ireturn, 1) := by decide +kernel
theorem dX0_endEvening_11 : decode cX0_endEvening 11 = .ok (.iconst 0, 1) := by decide +kernel
theorem dX0_endEvening_12 : decode cX0_endEvening 12 = .ok (.istore_n 1, 1) := by decide +kernel
theorem dX0_endEvening_13 : decode cX0_endEvening 13 = .ok (.iload_n 1, 1) := by decide +kernel
theorem dX0_endEvening_14 : decode cX0_endEvening 14 = .ok (.bipush 8, 2) := by decide +kernel
theorem dX0_endEvening_16 : decode cX0_endEvening 16 = .ok (.if_icmp .ge 55, 3) := by decide +kernel
theorem dX0_endEvening_19 : decode cX0_endEvening 19 = .ok (.aload_n 0, 1) := by decide +kernel
theorem dX0_endEvening_20 : decode cX0_endEvening 20 = .ok (.getfield 31, 3) := by decide +kernel
theorem dX0_endEvening_23 : decode cX0_endEvening 23 = .ok (.iload_n 1, 1) := by decide +kernel
theorem dX0_endEvening_24 : decode cX0_endEvening 24 = .ok (.invokestatic 75, 3) := by decide +kernel
theorem dX0_endEvening_27 : decode cX0_endEvening 27 = .ok (.iconst 1, 1) := by decide +kernel
theorem dX0_endEvening_28 : decode cX0_endEvening 28 = .ok (.if_icmp .eq 14, 3) := by decide +kernel
theorem dX0_endEvening_31 : decode cX0_endEvening 31 = .ok (.aload_n 0, 1) := by decide +kernel
theorem dX0_endEvening_32 : decode cX0_endEvening 32 = .ok (.getfield 34, 3) := by decide +kernel
theorem dX0_endEvening_35 : decode cX0_endEvening 35 = .ok (.iload_n 1, 1) := by decide +kernel
theorem dX0_endEvening_36 : decode cX0_endEvening 36 = .ok (.invokestatic 75, 3) := by decide +kernel
theorem dX0_endEvening_39 : decode cX0_endEvening 39 = .ok (.ifCond .ne 26, 3) := by decide +kernel
theorem dX0_endEvening_42 : decode cX0_endEvening 42 = .ok (.aload_n 0, 1) := by decide +kernel
theorem dX0_endEvening_43 : decode cX0_endEvening 43 = .ok (.iload_n 1, 1) := by decide +kernel
theorem dX0_endEvening_44 : decode cX0_endEvening 44 = .ok (.invokevirtual 61, 3) := by decide +kernel
theorem dX0_endEvening_47 : decode cX0_endEvening 47 = .ok (.istore_n 2, 1) := by decide +kernel
theorem dX0_endEvening_48 : decode cX0_endEvening 48 = .ok (.aload_n 0, 1) := by decide +kernel
theorem dX0_endEvening_49 : decode cX0_endEvening 49 = .ok (.iload_n 1, 1) := by decide +kernel
theorem dX0_endEvening_50 : decode cX0_endEvening 50 = .ok (.sipush 999, 3) := by decide +kernel
theorem dX0_endEvening_53 : decode cX0_endEvening 53 = .ok (.iload_n 2, 1) := by decide +kernel
theorem dX0_endEvening_54 : decode cX0_endEvening 54 = .ok (.iload_n 2, 1) := by decide +kernel
theorem dX0_endEvening_55 : decode cX0_endEvening 55 = .ok (.bipush 10, 2) := by decide +kernel
theorem dX0_endEvening_57 : decode cX0_endEvening 57 = .ok (.idiv, 1) := by decide +kernel
theorem dX0_endEvening_58 : decode cX0_endEvening 58 = .ok (.iadd, 1) := by decide +kernel
theorem dX0_endEvening_59 : decode cX0_endEvening 59 = .ok (.invokestatic 109, 3) := by decide +kernel
theorem dX0_endEvening_62 : decode cX0_endEvening 62 = .ok (.invokevirtual 114, 3) := by decide +kernel
theorem dX0_endEvening_65 : decode cX0_endEvening 65 = .ok (.iinc 1 1, 3) := by decide +kernel
theorem dX0_endEvening_68 : decode cX0_endEvening 68 = .ok (.goto (-55), 3) := by decide +kernel
theorem dX0_endEvening_71 : decode cX0_endEvening 71 = .ok (.aload_n 0, 1) := by decide +kernel
theorem dX0_endEvening_72 : decode cX0_endEvening 72 = .ok (.iconst 0, 1) := by decide +kernel
theorem dX0_endEvening_73 : decode cX0_endEvening 73 = .ok (.putfield 34, 3) := by decide +kernel
theorem dX0_endEvening_76 : decode cX0_endEvening 76 = .ok (.aload_n 0, 1) := by decide +kernel
theorem dX0_endEvening_77 : decode cX0_endEvening 77 = .ok (.dup, 1) := by decide +kernel
theorem dX0_endEvening_78 : decode cX0_endEvening 78 = .ok (.getfield 37, 3) := by decide +kernel
theorem dX0_endEvening_81 : decode cX0_endEvening 81 = .ok (.iconst 1, 1) := by decide +kernel
theorem dX0_endEvening_82 : decode cX0_endEvening 82 = .ok (.iadd, 1) := by decide +kernel
theorem dX0_endEvening_83 : decode cX0_endEvening 83 = .ok (.putfield 37, 3) := by decide +kernel
theorem dX0_endEvening_86 : decode cX0_endEvening 86 = .ok (.iconst 0, 1) := by decide +kernel
theorem dX0_endEvening_87 : decode cX0_endEvening 87 = .ok (.ireturn, 1) := by decide +kernel
theorem dX1_init_0 : decode cX1_init 0 = .ok (.aload_n 0, 1) := by decide +kernel
theorem dX1_init_1 : decode cX1_init 1 = .ok (.invokespecial 1, 3) := by decide +kernel
theorem dX1_init_4 : decode cX1_init 4 = .ok (.aload_n 0, 1) := by decide +kernel
theorem dX1_init_5 : decode cX1_init 5 = .ok (.bipush 10, 2) := by decide +kernel
theorem dX1_init_7 : decode cX1_init 7 = .ok (.newarray .long, 2) := by decide +kernel
theorem dX1_init_9 : decode cX1_init 9 = .ok (.putfield 9, 3) := by decide +kernel
theorem dX1_init_12 : decode cX1_init 12 = .ok (.aload_n 0, 1) := by decide +kernel
theorem dX1_init_13 : decode cX1_init 13 = .ok (.bipush 10, 2) := by decide +kernel
theorem dX1_init_15 : decode cX1_init 15 = .ok (.newarray .long, 2) := by decide +kernel
theorem dX1_init_17 : decode cX1_init 17 = .ok (.putfield 13, 3) := by decide +kernel
theorem dX1_init_20 : decode cX1_init 20 = .ok (.return_, 1) := by decide +kernel
theorem dX1_start_0 : decode cX1_start 0 = .ok (.aload_n 0, 1) := by decide +kernel
theorem dX1_start_1 : decode cX1_start 1 = .ok (.lconst 1, 1) := by decide +kernel
theorem dX1_start_2 : decode cX1_start 2 = .ok (.putfield 16, 3) := by decide +kernel
theorem dX1_start_5 : decode cX1_start 5 = .ok (.aload_n 0, 1) := by decide +kernel
theorem dX1_start_6 : decode cX1_start 6 = .ok (.iconst 0, 1) := by decide +kernel
theorem dX1_start_7 : decode cX1_start 7 = .ok (.putfield 20, 3) := by decide +kernel
theorem dX1_start_10 : decode cX1_start 10 = .ok (.iconst 0, 1) := by decide +kernel
theorem dX1_start_11 : decode cX1_start 11 = .ok (.istore_n 2, 1) := by decide +kernel
theorem dX1_start_12 : decode cX1_start 12 = .ok (.iload_n 2, 1) := by decide +kernel
theorem dX1_start_13 : decode cX1_start 13 = .ok (.bipush 9, 2) := by decide +kernel
theorem dX1_start_15 : decode cX1_start 15 = .ok (.if_icmp .gt 20, 3) := by decide +kernel
theorem dX1_start_18 : decode cX1_start 18 = .ok (.aload_n 0, 1) := by decide +kernel
theorem dX1_start_19 : decode cX1_start 19 = .ok (.getfield 9, 3) := by decide +kernel
theorem dX1_start_22 : decode cX1_start 22 = .ok (.iload_n 2, 1) := by decide +kernel
theorem dX1_start_23 : decode cX1_start 23 = .ok (.iload_n 1, 1) := by decide +kernel
theorem dX1_start_24 : decode cX1_start 24 = .ok (.ineg, 1) := by decide +kernel
theorem dX1_start_25 : decode cX1_start 25 = .ok (.iload_n 2, 1) := by decide +kernel
theorem dX1_start_26 : decode cX1_start 26 = .ok (.imul, 1) := by decide +kernel
theorem dX1_start_27 : decode cX1_start 27 = .ok (.i2l, 1) := by decide +kernel
theorem dX1_start_28 : decode cX1_start 28 = .ok (.lastore, 1) := by decide +kernel
theorem dX1_start_29 : decode cX1_start 29 = .ok (.iinc 2 1, 3) := by decide +kernel
theorem dX1_start_32 : decode cX1_start 32 = .ok (.goto (-20), 3) := by decide +kernel
theorem dX1_start_35 : decode cX1_start 35 = .ok (.return_, 1) := by decide +kernel
theorem dX1_evening_0 : decode cX1_evening 0 = .ok (.aload_n 0, 1) := by decide +kernel
theorem dX1_evening_1 : decode cX1_evening 1 = .ok (.dup, 1) := by decide +kernel
theorem dX1_evening_2 : decode cX1_evening 2 = .ok (.getfield 16, 3) := by decide +kernel
theorem dX1_evening_5 : decode cX1_evening 5 = .ok (.ldc2_w 24, 3) := by decide +kernel
theorem dX1_evening_8 : decode cX1_evening 8 = .ok (.lmul, 1) := by decide +kernel
theorem dX1_evening_9 : decode cX1_evening 9 = .ok (.putfield 16, 3) := by decide +kernel
theorem dX1_evening_12 : decode cX1_evening 12 = .ok (.aload_n 0, 1) := by decide +kernel
theorem dX1_evening_13 : decode cX1_evening 13 = .ok (.iconst 0, 1) := by decide +kernel
theorem dX1_evening_14 : decode cX1_evening 14 = .ok (.putfield 20, 3) := by decide +kernel
theorem dX1_evening_17 : decode cX1_evening 17 = .ok (.iconst 0, 1) := by decide +kernel
theorem dX1_evening_18 : decode cX1_evening 18 = .ok (.istore_n 3, 1) := by decide +kernel
theorem dX1_evening_19 : decode cX1_evening 19 = .ok (.iload_n 3, 1) := by decide +kernel
theorem dX1_evening_20 : decode cX1_evening 20 = .ok (.bipush 9, 2) := by decide +kernel
theorem dX1_evening_22 : decode cX1_evening 22 = .ok (.if_icmp .gt 60, 3) := by decide +kernel
theorem dX1_evening_25 : decode cX1_evening 25 = .ok (.aload_n 0, 1) := by decide +kernel
theorem dX1_evening_26 : decode cX1_evening 26 = .ok (.getfield 13, 3) := by decide +kernel
theorem dX1_evening_29 : decode cX1_evening 29 = .ok (.iload_n 3, 1) := by decide +kernel
theorem dX1_evening_30 : decode cX1_evening 30 = .ok (.iload_n 3, 1) := by decide +kernel
theorem dX1_evening_31 : decode cX1_evening 31 = .ok (.ifCond .ne 15, 3) := by decide +kernel
theorem dX1_evening_34 : decode cX1_evening 34 = .ok (.ldc2_w 24, 3) := by decide +kernel
theorem dX1_evening_37 : decode cX1_evening 37 = .ok (.aload_n 0, 1) := by decide +kernel
theorem dX1_evening_38 : decode cX1_evening 38 = .ok (.iconst 0, 1) := by decide +kernel
theorem dX1_evening_39 : decode cX1_evening 39 = .ok (.invokevirtual 26, 3) := by decide +kernel
theorem dX1_evening_42 : decode cX1_evening 42 = .ok (.lmul, 1) := by decide +kernel
theorem dX1_evening_43 : decode cX1_evening 43 = .ok (.goto 32, 3) := by decide +kernel
theorem dX1_evening_46 : decode cX1_evening 46 = .ok (.iload_n 1, 1) := by decide +kernel
theorem dX1_evening_47 : decode cX1_evening 47 = .ok (.i2l, 1) := by decide +kernel
theorem dX1_evening_48 : decode cX1_evening 48 = .ok (.aload_n 0, 1) := by decide +kernel
theorem dX1_evening_49 : decode cX1_evening 49 = .ok (.iload_n 3, 1) := by decide +kernel
theorem dX1_evening_50 : decode cX1_evening 50 = .ok (.iconst 1, 1) := by decide +kernel
theorem dX1_evening_51 : decode cX1_evening 51 = .ok (.isub, 1) := by decide +kernel
theorem dX1_evening_52 : decode cX1_evening 52 = .ok (.invokevirtual 26, 3) := by decide +kernel
theorem dX1_evening_55 : decode cX1_evening 55 = .ok (.lmul, 1) := by decide +kernel
theorem dX1_evening_56 : decode cX1_evening 56 = .ok (.bipush 10, 2) := by decide +kernel
theorem dX1_evening_58 : decode cX1_evening 58 = .ok (.iload_n 1, 1) := by decide +kernel
theorem dX1_evening_59 : decode cX1_evening 59 = .ok (.isub, 1) := by decide +kernel
theorem dX1_evening_60 : decode cX1_evening 60 = .ok (.i2l, 1) := by decide +kernel
theorem dX1_evening_61 : decode cX1_evening 61 = .ok (.aload_n 0, 1) := by decide +kernel
theorem dX1_evening_62 : decode cX1_evening 62 = .ok (.bipush 9, 2) := by decide +kernel
theorem dX1_evening_64 : decode cX1_evening 64 = .ok (.iload_n 3, 1) := by decide +kernel
theorem dX1_evening_65 : decode cX1_evening 65 = .ok (.iconst 1, 1) := by decide +kernel
theorem dX1_evening_66 : decode cX1_evening 66 = .ok (.iadd, 1) := by decide +kernel
theorem dX1_evening_67 : decode cX1_evening 67 = .ok (.invokestatic 30, 3) := by decide +kernel
theorem dX1_evening_70 : decode cX1_evening 70 = .ok (.invokevirtual 26, 3) := by decide +kernel
theorem dX1_evening_73 : decode cX1_evening 73 = .ok (.lmul, 1) := by decide +kernel
theorem dX1_evening_74 : decode cX1_evening 74 = .ok (.ladd, 1) := by decide +kernel
theorem dX1_evening_75 : decode cX1_evening 75 = .ok (.lastore, 1) := by decide +kernel
theorem dX1_evening_76 : decode cX1_evening 76 = .ok (.iinc 3 1, 3) := by decide +kernel
theorem dX1_evening_79 : decode cX1_evening 79 = .ok (.goto (-60), 3) := by decide +kernel
theorem dX1_evening_82 : decode cX1_evening 82 = .ok (.iconst 0, 1) := by decide +kernel
theorem dX1_evening_83 : decode cX1_evening 83 = .ok (.istore_n 3, 1) := by decide +kernel
theorem dX1_evening_84 : decode cX1_evening 84 = .ok (.iload_n 3, 1) := by decide +kernel
theorem dX1_evening_85 : decode cX1_evening 85 = .ok (.bipush 9, 2) := by decide +kernel
theorem dX1_evening_87 : decode cX1_evening 87 = .ok (.if_icmp .gt 87, 3) := by decide +kernel
theorem dX1_evening_90 : decode cX1_evening 90 = .ok (.aload_n 0, 1) := by decide +kernel
theorem dX1_evening_91 : decode cX1_evening 91 = .ok (.getfield 9, 3) := by decide +kernel
theorem dX1_evening_94 : decode cX1_evening 94 = .ok (.iload_n 3, 1) := by decide +kernel
theorem dX1_evening_95 : decode cX1_evening 95 = .ok (.aload_n 0, 1) := by decide +kernel
theorem dX1_evening_96 : decode cX1_evening 96 = .ok (.getfield 13, 3) := by decide +kernel
theorem dX1_evening_99 : decode cX1_evening 99 = .ok (.iload_n 3, 1) := by decide +kernel
theorem dX1_evening_100 : decode cX1_evening 100 = .ok (.laload, 1) := by decide +kernel
theorem dX1_evening_101 : decode cX1_evening 101 = .ok (.lastore, 1) := by decide +kernel
theorem dX1_evening_102 : decode cX1_evening 102 = .ok (.iload_n 3, 1) := by decide +kernel
theorem dX1_evening_103 : decode cX1_evening 103 = .ok (.bipush 9, 2) := by decide +kernel
theorem dX1_evening_105 : decode cX1_evening 105 = .ok (.if_icmp .ge 63, 3) := by decide +kernel
theorem dX1_evening_108 : decode cX1_evening 108 = .ok (.iload_n 2, 1) := by decide +kernel
theorem dX1_evening_109 : decode cX1_evening 109 = .ok (.i2l, 1) := by decide +kernel
theorem dX1_evening_110 : decode cX1_evening 110 = .ok (.aload_n 0, 1) := by decide +kernel
theorem dX1_evening_111 : decode cX1_evening 111 = .ok (.getfield 16, 3) := by decide +kernel
theorem dX1_evening_114 : decode cX1_evening 114 = .ok (.lmul, 1) := by decide +kernel
theorem dX1_evening_115 : decode cX1_evening 115 = .ok (.aload_n 0, 1) := by decide +kernel
theorem dX1_evening_116 : decode cX1_evening 116 = .ok (.getfield 13, 3) := by decide +kernel
theorem dX1_evening_119 : decode cX1_evening 119 = .ok (.iload_n 3, 1) := by decide +kernel
theorem dX1_evening_120 : decode cX1_evening 120 = .ok (.iconst 1, 1) := by decide +kernel
theorem dX1_evening_121 : decode cX1_evening 121 = .ok (.iadd, 1) := by decide +kernel
theorem dX1_evening_122 : decode cX1_evening 122 = .ok (.laload, 1) := by decide +kernel
theorem dX1_evening_123 : decode cX1_evening 123 = .ok (.ladd, 1) := by decide +kernel
theorem dX1_evening_124 : decode cX1_evening 124 = .ok (.aload_n 0, 1) := by decide +kernel
theorem dX1_evening_125 : decode cX1_evening 125 = .ok (.getfield 13, 3) := by decide +kernel
theorem dX1_evening_128 : decode cX1_evening 128 = .ok (.iload_n 3, 1) := by decide +kernel
theorem dX1_evening_129 : decode cX1_evening 129 = .ok (.laload, 1) := by decide +kernel
theorem dX1_evening_130 : decode cX1_evening 130 = .ok (.lcmp, 1) := by decide +kernel
theorem dX1_evening_131 : decode cX1_evening 131 = .ok (.ifCond .le 37, 3) := by decide +kernel
theorem dX1_evening_134 : decode cX1_evening 134 = .ok (.aload_n 0, 1) := by decide +kernel
theorem dX1_evening_135 : decode cX1_evening 135 = .ok (.getfield 9, 3) := by decide +kernel
theorem dX1_evening_138 : decode cX1_evening 138 = .ok (.iload_n 3, 1) := by decide +kernel
theorem dX1_evening_139 : decode cX1_evening 139 = .ok (.iload_n 2, 1) := by decide +kernel
theorem dX1_evening_140 : decode cX1_evening 140 = .ok (.i2l, 1) := by decide +kernel
theorem dX1_evening_141 : decode cX1_evening 141 = .ok (.aload_n 0, 1) := by decide +kernel
theorem dX1_evening_142 : decode cX1_evening 142 = .ok (.getfield 16, 3) := by decide +kernel
theorem dX1_evening_145 : decode cX1_evening 145 = .ok (.lmul, 1) := by decide +kernel
theorem dX1_evening_146 : decode cX1_evening 146 = .ok (.aload_n 0, 1) := by decide +kernel
theorem dX1_evening_147 : decode cX1_evening 147 = .ok (.getfield 13, 3) := by decide +kernel
theorem dX1_evening_150 : decode cX1_evening 150 = .ok (.iload_n 3, 1) := by decide +kernel
theorem dX1_evening_151 : decode cX1_evening 151 = .ok (.iconst 1, 1) := by decide +kernel
theorem dX1_evening_152 : decode cX1_evening 152 = .ok (.iadd, 1) := by decide +kernel
theorem dX1_evening_153 : decode cX1_evening 153 = .ok (.laload, 1) := by decide +kernel
theorem dX1_evening_154 : decode cX1_evening 154 = .ok (.ladd, 1) := by decide +kernel
theorem dX1_evening_155 : decode cX1_evening 155 = .ok (.lastore, 1) := by decide +kernel
theorem dX1_evening_156 : decode cX1_evening 156 = .ok (.aload_n 0, 1) := by decide +kernel
theorem dX1_evening_157 : decode cX1_evening 157 = .ok (.dup, 1) := by decide +kernel
theorem dX1_evening_158 : decode cX1_evening 158 = .ok (.getfield 20, 3) := by decide +kernel
theorem dX1_evening_161 : decode cX1_evening 161 = .ok (.iconst 1, 1) := by decide +kernel
theorem dX1_evening_162 : decode cX1_evening 162 = .ok (.iload_n 3, 1) := by decide +kernel
theorem dX1_evening_163 : decode cX1_evening 163 = .ok (.ishl, 1) := by decide +kernel
theorem dX1_evening_164 : decode cX1_evening 164 = .ok (.ior, 1) := by decide +kernel
theorem dX1_evening_165 : decode cX1_evening 165 = .ok (.putfield 20, 3) := by decide +kernel
theorem dX1_evening_168 : decode cX1_evening 168 = .ok (.iinc 3 1, 3) := by decide +kernel
theorem dX1_evening_171 : decode cX1_evening 171 = .ok (.goto (-87), 3) := by decide +kernel
theorem dX1_evening_174 : decode cX1_evening 174 = .ok (.return_, 1) := by decide +kernel
theorem dX1_bestOf_0 : decode cX1_bestOf 0 = .ok (.iload_n 1, 1) := by decide +kernel
theorem dX1_bestOf_1 : decode cX1_bestOf 1 = .ok (.iconst 0, 1) := by decide +kernel
theorem dX1_bestOf_2 : decode cX1_bestOf 2 = .ok (.bipush 9, 2) := by decide +kernel
theorem dX1_bestOf_4 : decode cX1_bestOf 4 = .ok (.invokestatic 36, 3) := by decide +kernel
theorem dX1_bestOf_7 : decode cX1_bestOf 7 = .ok (.ifCond .eq 12, 3) := by decide +kernel
theorem dX1_bestOf_10 : decode cX1_bestOf 10 = .ok (.aload_n 0, 1) := by decide +kernel
theorem dX1_bestOf_11 : decode cX1_bestOf 11 = .ok (.getfield 9, 3) := by decide +kernel
theorem dX1_bestOf_14 : decode cX1_bestOf 14 = .ok (.iload_n 1, 1) := by decide +kernel
theorem dX1_bestOf_15 : decode cX1_bestOf 15 = .ok (.laload, 1) := by decide +kernel
theorem dX1_bestOf_16 : decode cX1_bestOf 16 = .ok (.goto 4, 3) := by decide +kernel
theorem dX1_bestOf_19 : decode cX1_bestOf 19 = .ok (.lconst 0, 1) := by decide +kernel
theorem dX1_bestOf_20 : decode cX1_bestOf 20 = .ok (.lreturn, 1) := by decide +kernel
theorem dX2_init_0 : decode cX2_init 0 = .ok (.aload_n 0, 1) := by decide +kernel
theorem dX2_init_1 : decode cX2_init 1 = .ok (.invokespecial 1, 3) := by decide +kernel
theorem dX2_init_4 : decode cX2_init 4 = .ok (.aload_n 0, 1) := by decide +kernel
theorem dX2_init_5 : decode cX2_init 5 = .ok (.new 7, 3) := by decide +kernel
theorem dX2_init_8 : decode cX2_init 8 = .ok (.dup, 1) := by decide +kernel
theorem dX2_init_9 : decode cX2_init 9 = .ok (.invokespecial 9, 3) := by decide +kernel
theorem dX2_init_12 : decode cX2_init 12 = .ok (.putfield 10, 3) := by decide +kernel
theorem dX2_init_15 : decode cX2_init 15 = .ok (.aload_n 0, 1) := by decide +kernel
theorem dX2_init_16 : decode cX2_init 16 = .ok (.new 16, 3) := by decide +kernel
theorem dX2_init_19 : decode cX2_init 19 = .ok (.dup, 1) := by decide +kernel
theorem dX2_init_20 : decode cX2_init 20 = .ok (.invokespecial 18, 3) := by decide +kernel
theorem dX2_init_23 : decode cX2_init 23 = .ok (.putfield 19, 3) := by decide +kernel
theorem dX2_init_26 : decode cX2_init 26 = .ok (.return_, 1) := by decide +kernel
theorem dX3_init_0 : decode cX3_init 0 = .ok (.aload_n 0, 1) := by decide +kernel
theorem dX3_init_1 : decode cX3_init 1 = .ok (.invokespecial 3, 3) := by decide +kernel
theorem dX3_init_4 : decode cX3_init 4 = .ok (.aload_n 0, 1) := by decide +kernel
theorem dX3_init_5 : decode cX3_init 5 = .ok (.bipush 6, 2) := by decide +kernel
theorem dX3_init_7 : decode cX3_init 7 = .ok (.newarray .int, 2) := by decide +kernel
theorem dX3_init_9 : decode cX3_init 9 = .ok (.putfield 9, 3) := by decide +kernel
theorem dX3_init_12 : decode cX3_init 12 = .ok (.aload_n 0, 1) := by decide +kernel
theorem dX3_init_13 : decode cX3_init 13 = .ok (.bipush 64, 2) := by decide +kernel
theorem dX3_init_15 : decode cX3_init 15 = .ok (.newarray .int, 2) := by decide +kernel
theorem dX3_init_17 : decode cX3_init 17 = .ok (.putfield 15, 3) := by decide +kernel
theorem dX3_init_20 : decode cX3_init 20 = .ok (.return_, 1) := by decide +kernel
theorem dX3_find_0 : decode cX3_find 0 = .ok (.aload_n 1, 1) := by decide +kernel
theorem dX3_find_1 : decode cX3_find 1 = .ok (.iload_n 2, 1) := by decide +kernel
theorem dX3_find_2 : decode cX3_find 2 = .ok (.invokevirtual 18, 3) := by decide +kernel
theorem dX3_find_5 : decode cX3_find 5 = .ok (.istore_n 3, 1) := by decide +kernel
theorem dX3_find_6 : decode cX3_find 6 = .ok (.aload_n 0, 1) := by decide +kernel
theorem dX3_find_7 : decode cX3_find 7 = .ok (.iload_n 3, 1) := by decide +kernel
theorem dX3_find_8 : decode cX3_find 8 = .ok (.ifCond .ne 7, 3) := by decide +kernel
theorem dX3_find_11 : decode cX3_find 11 = .ok (.iconst 0, 1) := by decide +kernel
theorem dX3_find_12 : decode cX3_find 12 = .ok (.goto 5, 3) := by decide +kernel
theorem dX3_find_15 : decode cX3_find 15 = .ok (.bipush (-6), 2) := by decide +kernel
theorem dX3_find_17 : decode cX3_find 17 = .ok (.putfield 24, 3) := by decide +kernel
theorem dX3_find_20 : decode cX3_find 20 = .ok (.aload_n 0, 1) := by decide +kernel
theorem dX3_find_21 : decode cX3_find 21 = .ok (.bipush (-6), 2) := by decide +kernel
theorem dX3_find_23 : decode cX3_find 23 = .ok (.putfield 28, 3) := by decide +kernel
theorem dX3_find_26 : decode cX3_find 26 = .ok (.iload_n 3, 1) := by decide +kernel
theorem dX3_find_27 : decode cX3_find 27 = .ok (.ifCond .ne 4, 3) := by decide +kernel
theorem dX3_find_30 : decode cX3_find 30 = .ok (.return_, 1) := by decide +kernel
theorem dX3_find_31 : decode cX3_find 31 = .ok (.aload_n 0, 1) := by decide +kernel
theorem dX3_find_32 : decode cX3_find 32 = .ok (.aload_n 1, 1) := by decide +kernel
theorem dX3_find_33 : decode cX3_find 33 = .ok (.aload_n 1, 1) := by decide +kernel
theorem dX3_find_34 : decode cX3_find 34 = .ok (.iload_n 2, 1) := by decide +kernel
theorem dX3_find_35 : decode cX3_find 35 = .ok (.invokevirtual 31, 3) := by decide +kernel
theorem dX3_find_38 : decode cX3_find 38 = .ok (.invokevirtual 34, 3) := by decide +kernel
theorem dX3_find_41 : decode cX3_find 41 = .ok (.iconst 0, 1) := by decide +kernel
theorem dX3_find_42 : decode cX3_find 42 = .ok (.istore 4, 2) := by decide +kernel
theorem dX3_find_44 : decode cX3_find 44 = .ok (.iload 4, 2) := by decide +kernel
theorem dX3_find_46 : decode cX3_find 46 = .ok (.bipush 6, 2) := by decide +kernel
theorem dX3_find_48 : decode cX3_find 48 = .ok (.if_icmp .ge 55, 3) := by decide +kernel
theorem dX3_find_51 : decode cX3_find 51 = .ok (.aload_n 0, 1) := by decide +kernel
theorem dX3_find_52 : decode cX3_find 52 = .ok (.iload 4, 2) := by decide +kernel
theorem dX3_find_54 : decode cX3_find 54 = .ok (.iload_n 3, 1) := by decide +kernel
theorem dX3_find_55 : decode cX3_find 55 = .ok (.invokevirtual 38, 3) := by decide +kernel
theorem dX3_find_58 : decode cX3_find 58 = .ok (.istore 5, 2) := by decide +kernel
theorem dX3_find_60 : decode cX3_find 60 = .ok (.iload 5, 2) := by decide +kernel
theorem dX3_find_62 : decode cX3_find 62 = .ok (.bipush (-6), 2) := by decide +kernel
theorem dX3_find_64 : decode cX3_find 64 = .ok (.if_icmp .eq 33, 3) := by decide +kernel
theorem dX3_find_67 : decode cX3_find 67 = .ok (.aload_n 0, 1) := by decide +kernel
theorem dX3_find_68 : decode cX3_find 68 = .ok (.getfield 24, 3) := by decide +kernel
theorem dX3_find_71 : decode cX3_find 71 = .ok (.bipush (-6), 2) := by decide +kernel
theorem dX3_find_73 : decode cX3_find 73 = .ok (.if_icmp .eq 12, 3) := by decide +kernel
theorem dX3_find_76 : decode cX3_find 76 = .ok (.iload 5, 2) := by decide +kernel
theorem dX3_find_78 : decode cX3_find 78 = .ok (.aload_n 0, 1) := by decide +kernel
theorem dX3_find_79 : decode cX3_find 79 = .ok (.getfield 24, 3) := by decide +kernel
theorem dX3_find_82 : decode cX3_find 82 = .ok (.if_icmp .ge 15, 3) := by decide +kernel
theorem dX3_find_85 : decode cX3_find 85 = .ok (.aload_n 0, 1) := by decide +kernel
theorem dX3_find_86 : decode cX3_find 86 = .ok (.iload 5, 2) := by decide +kernel
theorem dX3_find_88 : decode cX3_find 88 = .ok (.putfield 24, 3) := by decide +kernel
theorem dX3_find_91 : decode cX3_find 91 = .ok (.aload_n 0, 1) := by decide +kernel
theorem dX3_find_92 : decode cX3_find 92 = .ok (.iload 4, 2) := by decide +kernel
theorem dX3_find_94 : decode cX3_find 94 = .ok (.putfield 28, 3) := by decide +kernel
theorem dX3_find_97 : decode cX3_find 97 = .ok (.iinc 4 1, 3) := by decide +kernel
theorem dX3_find_100 : decode cX3_find 100 = .ok (.goto (-56), 3) := by decide +kernel
theorem dX3_find_103 : decode cX3_find 103 = .ok (.return_, 1) := by decide +kernel
theorem dX3_takePays_0 : decode cX3_takePays 0 = .ok (.iconst 0, 1) := by decide +kernel
theorem dX3_takePays_1 : decode cX3_takePays 1 = .ok (.istore_n 3, 1) := by decide +kernel
theorem dX3_takePays_2 : decode cX3_takePays 2 = .ok (.iload_n 3, 1) := by decide +kernel
theorem dX3_takePays_3 : decode cX3_takePays 3 = .ok (.bipush 6, 2) := by decide +kernel
theorem dX3_takePays_5 : decode cX3_takePays 5 = .ok (.if_icmp .ge 33, 3) := by decide +kernel
theorem dX3_takePays_8 : decode cX3_takePays 8 = .ok (.aload_n 0, 1) := by decide +kernel
theorem dX3_takePays_9 : decode cX3_takePays 9 = .ok (.getfield 9, 3) := by decide +kernel
theorem dX3_takePays_12 : decode cX3_takePays 12 = .ok (.iload_n 3, 1) := by decide +kernel
theorem dX3_takePays_13 : decode cX3_takePays 13 = .ok (.aload_n 1, 1) := by decide +kernel
theorem dX3_takePays_14 : decode cX3_takePays 14 = .ok (.iload_n 3, 1) := by decide +kernel
theorem dX3_takePays_15 : decode cX3_takePays 15 = .ok (.iload_n 2, 1) := by decide +kernel
theorem dX3_takePays_16 : decode cX3_takePays 16 = .ok (.invokevirtual 42, 3) := by decide +kernel
theorem dX3_takePays_19 : decode cX3_takePays 19 = .ok (.ifCond .le 11, 3) := by decide +kernel
theorem dX3_takePays_22 : decode cX3_takePays 22 = .ok (.aload_n 1, 1) := by decide +kernel
theorem dX3_takePays_23 : decode cX3_takePays 23 = .ok (.iload_n 3, 1) := by decide +kernel
theorem dX3_takePays_24 : decode cX3_takePays 24 = .ok (.invokevirtual 45, 3) := by decide +kernel
theorem dX3_takePays_27 : decode cX3_takePays 27 = .ok (.goto 4, 3) := by decide +kernel
theorem dX3_takePays_30 : decode cX3_takePays 30 = .ok (.iconst (-1), 1) := by decide +kernel
theorem dX3_takePays_31 : decode cX3_takePays 31 = .ok (.iastore, 1) := by decide +kernel
theorem dX3_takePays_32 : decode cX3_takePays 32 = .ok (.iinc 3 1, 3) := by decide +kernel
theorem dX3_takePays_35 : decode cX3_takePays 35 = .ok (.goto (-33), 3) := by decide +kernel
theorem dX3_takePays_38 : decode cX3_takePays 38 = .ok (.return_, 1) := by decide +kernel
theorem dX3_fewestFrom_0 : decode cX3_fewestFrom 0 = .ok (.bipush (-6), 2) := by decide +kernel
theorem dX3_fewestFrom_2 : decode cX3_fewestFrom 2 = .ok (.istore_n 3, 1) := by decide +kernel
theorem dX3_fewestFrom_3 : decode cX3_fewestFrom 3 = .ok (.iconst 0, 1) := by decide +kernel
theorem dX3_fewestFrom_4 : decode cX3_fewestFrom 4 = .ok (.istore 4, 2) := by decide +kernel
theorem dX3_fewestFrom_6 : decode cX3_fewestFrom 6 = .ok (.iload 4, 2) := by decide +kernel
theorem dX3_fewestFrom_8 : decode cX3_fewestFrom 8 = .ok (.aload_n 0, 1) := by decide +kernel
theorem dX3_fewestFrom_9 : decode cX3_fewestFrom 9 = .ok (.getfield 15, 3) := by decide +kernel
theorem dX3_fewestFrom_12 : decode cX3_fewestFrom 12 = .ok (.arraylength, 1) := by decide +kernel
theorem dX3_fewestFrom_13 : decode cX3_fewestFrom 13 = .ok (.if_icmp .ge 72, 3) := by decide +kernel
theorem dX3_fewestFrom_16 : decode cX3_fewestFrom 16 = .ok (.aload_n 0, 1) := by decide +kernel
theorem dX3_fewestFrom_17 : decode cX3_fewestFrom 17 = .ok (.getfield 15, 3) := by decide +kernel
theorem dX3_fewestFrom_20 : decode cX3_fewestFrom 20 = .ok (.iload 4, 2) := by decide +kernel
theorem dX3_fewestFrom_22 : decode cX3_fewestFrom 22 = .ok (.iload 4, 2) := by decide +kernel
theorem dX3_fewestFrom_24 : decode cX3_fewestFrom 24 = .ok (.iconst 1, 1) := by decide +kernel
theorem dX3_fewestFrom_25 : decode cX3_fewestFrom 25 = .ok (.iload_n 1, 1) := by decide +kernel
theorem dX3_fewestFrom_26 : decode cX3_fewestFrom 26 = .ok (.ishl, 1) := by decide +kernel
theorem dX3_fewestFrom_27 : decode cX3_fewestFrom 27 = .ok (.if_icmp .ne 12, 3) := by decide +kernel
theorem dX3_fewestFrom_30 : decode cX3_fewestFrom 30 = .ok (.aload_n 0, 1) := by decide +kernel
theorem dX3_fewestFrom_31 : decode cX3_fewestFrom 31 = .ok (.iload_n 2, 1) := by decide +kernel
theorem dX3_fewestFrom_32 : decode cX3_fewestFrom 32 = .ok (.iload_n 1, 1) := by decide +kernel
theorem dX3_fewestFrom_33 : decode cX3_fewestFrom 33 = .ok (.invokevirtual 48, 3) := by decide +kernel
theorem dX3_fewestFrom_36 : decode cX3_fewestFrom 36 = .ok (.goto 10, 3) := by decide +kernel
theorem dX3_fewestFrom_39 : decode cX3_fewestFrom 39 = .ok (.aload_n 0, 1) := by decide +kernel
theorem dX3_fewestFrom_40 : decode cX3_fewestFrom 40 = .ok (.iload 4, 2) := by decide +kernel
theorem dX3_fewestFrom_42 : decode cX3_fewestFrom 42 = .ok (.iload_n 1, 1) := by decide +kernel
theorem dX3_fewestFrom_43 : decode cX3_fewestFrom 43 = .ok (.invokevirtual 51, 3) := by decide +kernel
theorem dX3_fewestFrom_46 : decode cX3_fewestFrom 46 = .ok (.iastore, 1) := by decide +kernel
theorem dX3_fewestFrom_47 : decode cX3_fewestFrom 47 = .ok (.iload 4, 2) := by decide +kernel
theorem dX3_fewestFrom_49 : decode cX3_fewestFrom 49 = .ok (.invokestatic 54, 3) := by decide +kernel
theorem dX3_fewestFrom_52 : decode cX3_fewestFrom 52 = .ok (.istore 5, 2) := by decide +kernel
theorem dX3_fewestFrom_54 : decode cX3_fewestFrom 54 = .ok (.aload_n 0, 1) := by decide +kernel
theorem dX3_fewestFrom_55 : decode cX3_fewestFrom 55 = .ok (.getfield 15, 3) := by decide +kernel
theorem dX3_fewestFrom_58 : decode cX3_fewestFrom 58 = .ok (.iload 4, 2) := by decide +kernel
theorem dX3_fewestFrom_60 : decode cX3_fewestFrom 60 = .ok (.iaload, 1) := by decide +kernel
theorem dX3_fewestFrom_61 : decode cX3_fewestFrom 61 = .ok (.ifCond .ne 18, 3) := by decide +kernel
theorem dX3_fewestFrom_64 : decode cX3_fewestFrom 64 = .ok (.iload_n 3, 1) := by decide +kernel
theorem dX3_fewestFrom_65 : decode cX3_fewestFrom 65 = .ok (.bipush (-6), 2) := by decide +kernel
theorem dX3_fewestFrom_67 : decode cX3_fewestFrom 67 = .ok (.if_icmp .eq 9, 3) := by decide +kernel
theorem dX3_fewestFrom_70 : decode cX3_fewestFrom 70 = .ok (.iload 5, 2) := by decide +kernel
theorem dX3_fewestFrom_72 : decode cX3_fewestFrom 72 = .ok (.iload_n 3, 1) := by decide +kernel
theorem dX3_fewestFrom_73 : decode cX3_fewestFrom 73 = .ok (.if_icmp .ge 6, 3) := by decide +kernel
theorem dX3_fewestFrom_76 : decode cX3_fewestFrom 76 = .ok (.iload 5, 2) := by decide +kernel
theorem dX3_fewestFrom_78 : decode cX3_fewestFrom 78 = .ok (.istore_n 3, 1) := by decide +kernel
theorem dX3_fewestFrom_79 : decode cX3_fewestFrom 79 = .ok (.iinc 4 1, 3) := by decide +kernel
theorem dX3_fewestFrom_82 : decode cX3_fewestFrom 82 = .ok (.goto (-76), 3) := by decide +kernel
theorem dX3_fewestFrom_85 : decode cX3_fewestFrom 85 = .ok (.iload_n 3, 1) := by decide +kernel
theorem dX3_fewestFrom_86 : decode cX3_fewestFrom 86 = .ok (.ireturn, 1) := by decide +kernel
theorem dX3_leastLeft_0 : decode cX3_leastLeft 0 = .ok (.iconst (-1), 1) := by decide +kernel
theorem dX3_leastLeft_1 : decode cX3_leastLeft 1 = .ok (.istore_n 3, 1) := by decide +kernel
theorem dX3_leastLeft_2 : decode cX3_leastLeft 2 = .ok (.iconst 0, 1) := by decide +kernel
theorem dX3_leastLeft_3 : decode cX3_leastLeft 3 = .ok (.istore 4, 2) := by decide +kernel
theorem dX3_leastLeft_5 : decode cX3_leastLeft 5 = .ok (.iload 4, 2) := by decide +kernel
theorem dX3_leastLeft_7 : decode cX3_leastLeft 7 = .ok (.bipush 6, 2) := by decide +kernel
theorem dX3_leastLeft_9 : decode cX3_leastLeft 9 = .ok (.if_icmp .ge 86, 3) := by decide +kernel
theorem dX3_leastLeft_12 : decode cX3_leastLeft 12 = .ok (.iload_n 1, 1) := by decide +kernel
theorem dX3_leastLeft_13 : decode cX3_leastLeft 13 = .ok (.iconst 1, 1) := by decide +kernel
theorem dX3_leastLeft_14 : decode cX3_leastLeft 14 = .ok (.iload 4, 2) := by decide +kernel
theorem dX3_leastLeft_16 : decode cX3_leastLeft 16 = .ok (.ishl, 1) := by decide +kernel
theorem dX3_leastLeft_17 : decode cX3_leastLeft 17 = .ok (.iconst (-1), 1) := by decide +kernel
theorem dX3_leastLeft_18 : decode cX3_leastLeft 18 = .ok (.ixor, 1) := by decide +kernel
theorem dX3_leastLeft_19 : decode cX3_leastLeft 19 = .ok (.iand, 1) := by decide +kernel
theorem dX3_leastLeft_20 : decode cX3_leastLeft 20 = .ok (.istore 5, 2) := by decide +kernel
theorem dX3_leastLeft_22 : decode cX3_leastLeft 22 = .ok (.iload 4, 2) := by decide +kernel
theorem dX3_leastLeft_24 : decode cX3_leastLeft 24 = .ok (.iload_n 2, 1) := by decide +kernel
theorem dX3_leastLeft_25 : decode cX3_leastLeft 25 = .ok (.if_icmp .eq 64, 3) := by decide +kernel
theorem dX3_leastLeft_28 : decode cX3_leastLeft 28 = .ok (.iload_n 1, 1) := by decide +kernel
theorem dX3_leastLeft_29 : decode cX3_leastLeft 29 = .ok (.iload 4, 2) := by decide +kernel
theorem dX3_leastLeft_31 : decode cX3_leastLeft 31 = .ok (.invokestatic 59, 3) := by decide +kernel
theorem dX3_leastLeft_34 : decode cX3_leastLeft 34 = .ok (.iconst 1, 1) := by decide +kernel
theorem dX3_leastLeft_35 : decode cX3_leastLeft 35 = .ok (.if_icmp .ne 54, 3) := by decide +kernel
theorem dX3_leastLeft_38 : decode cX3_leastLeft 38 = .ok (.iload 5, 2) := by decide +kernel
theorem dX3_leastLeft_40 : decode cX3_leastLeft 40 = .ok (.iconst 0, 1) := by decide +kernel
theorem dX3_leastLeft_41 : decode cX3_leastLeft 41 = .ok (.aload_n 0, 1) := by decide +kernel
theorem dX3_leastLeft_42 : decode cX3_leastLeft 42 = .ok (.getfield 15, 3) := by decide +kernel
theorem dX3_leastLeft_45 : decode cX3_leastLeft 45 = .ok (.arraylength, 1) := by decide +kernel
theorem dX3_leastLeft_46 : decode cX3_leastLeft 46 = .ok (.iconst 1, 1) := by decide +kernel
theorem dX3_leastLeft_47 : decode cX3_leastLeft 47 = .ok (.isub, 1) := by decide +kernel
theorem dX3_leastLeft_48 : decode cX3_leastLeft 48 = .ok (.invokestatic 62, 3) := by decide +kernel
theorem dX3_leastLeft_51 : decode cX3_leastLeft 51 = .ok (.ifCond .eq 38, 3) := by decide +kernel
theorem dX3_leastLeft_54 : decode cX3_leastLeft 54 = .ok (.aload_n 0, 1) := by decide +kernel
theorem dX3_leastLeft_55 : decode cX3_leastLeft 55 = .ok (.aload_n 0, 1) := by decide +kernel
theorem dX3_leastLeft_56 : decode cX3_leastLeft 56 = .ok (.getfield 15, 3) := by decide +kernel
theorem dX3_leastLeft_59 : decode cX3_leastLeft 59 = .ok (.iload 5, 2) := by decide +kernel
theorem dX3_leastLeft_61 : decode cX3_leastLeft 61 = .ok (.iaload, 1) := by decide +kernel
theorem dX3_leastLeft_62 : decode cX3_leastLeft 62 = .ok (.iload 4, 2) := by decide +kernel
theorem dX3_leastLeft_64 : decode cX3_leastLeft 64 = .ok (.invokevirtual 48, 3) := by decide +kernel
theorem dX3_leastLeft_67 : decode cX3_leastLeft 67 = .ok (.istore 6, 2) := by decide +kernel
theorem dX3_leastLeft_69 : decode cX3_leastLeft 69 = .ok (.iload 6, 2) := by decide +kernel
theorem dX3_leastLeft_71 : decode cX3_leastLeft 71 = .ok (.iconst (-1), 1) := by decide +kernel
theorem dX3_leastLeft_72 : decode cX3_leastLeft 72 = .ok (.if_icmp .eq 17, 3) := by decide +kernel
theorem dX3_leastLeft_75 : decode cX3_leastLeft 75 = .ok (.iload_n 3, 1) := by decide +kernel
theorem dX3_leastLeft_76 : decode cX3_leastLeft 76 = .ok (.iconst (-1), 1) := by decide +kernel
theorem dX3_leastLeft_77 : decode cX3_leastLeft 77 = .ok (.if_icmp .eq 9, 3) := by decide +kernel
theorem dX3_leastLeft_80 : decode cX3_leastLeft 80 = .ok (.iload 6, 2) := by decide +kernel
theorem dX3_leastLeft_82 : decode cX3_leastLeft 82 = .ok (.iload_n 3, 1) := by decide +kernel
theorem dX3_leastLeft_83 : decode cX3_leastLeft 83 = .ok (.if_icmp .ge 6, 3) := by decide +kernel
theorem dX3_leastLeft_86 : decode cX3_leastLeft 86 = .ok (.iload 6, 2) := by decide +kernel
theorem dX3_leastLeft_88 : decode cX3_leastLeft 88 = .ok (.istore_n 3, 1) := by decide +kernel
theorem dX3_leastLeft_89 : decode cX3_leastLeft 89 = .ok (.iinc 4 1, 3) := by decide +kernel
theorem dX3_leastLeft_92 : decode cX3_leastLeft 92 = .ok (.goto (-87), 3) := by decide +kernel
theorem dX3_leastLeft_95 : decode cX3_leastLeft 95 = .ok (.iload_n 3, 1) := by decide +kernel
theorem dX3_leastLeft_96 : decode cX3_leastLeft 96 = .ok (.ireturn, 1) := by decide +kernel
theorem dX3_afterPiece_0 : decode cX3_afterPiece 0 = .ok (.iload_n 1, 1) := by decide +kernel
theorem dX3_afterPiece_1 : decode cX3_afterPiece 1 = .ok (.iconst (-1), 1) := by decide +kernel
theorem dX3_afterPiece_2 : decode cX3_afterPiece 2 = .ok (.if_icmp .eq 22, 3) := by decide +kernel
theorem dX3_afterPiece_5 : decode cX3_afterPiece 5 = .ok (.iload_n 2, 1) := by decide +kernel
theorem dX3_afterPiece_6 : decode cX3_afterPiece 6 = .ok (.iconst 0, 1) := by decide +kernel
theorem dX3_afterPiece_7 : decode cX3_afterPiece 7 = .ok (.iconst 5, 1) := by decide +kernel
theorem dX3_afterPiece_8 : decode cX3_afterPiece 8 = .ok (.invokestatic 62, 3) := by decide +kernel
theorem dX3_afterPiece_11 : decode cX3_afterPiece 11 = .ok (.ifCond .eq 13, 3) := by decide +kernel
theorem dX3_afterPiece_14 : decode cX3_afterPiece 14 = .ok (.aload_n 0, 1) := by decide +kernel
theorem dX3_afterPiece_15 : decode cX3_afterPiece 15 = .ok (.getfield 9, 3) := by decide +kernel
theorem dX3_afterPiece_18 : decode cX3_afterPiece 18 = .ok (.iload_n 2, 1) := by decide +kernel
theorem dX3_afterPiece_19 : decode cX3_afterPiece 19 = .ok (.iaload, 1) := by decide +kernel
theorem dX3_afterPiece_20 : decode cX3_afterPiece 20 = .ok (.iconst (-1), 1) := by decide +kernel
theorem dX3_afterPiece_21 : decode cX3_afterPiece 21 = .ok (.if_icmp .ne 5, 3) := by decide +kernel
theorem dX3_afterPiece_24 : decode cX3_afterPiece 24 = .ok (.iconst (-1), 1) := by decide +kernel
theorem dX3_afterPiece_25 : decode cX3_afterPiece 25 = .ok (.ireturn, 1) := by decide +kernel
theorem dX3_afterPiece_26 : decode cX3_afterPiece 26 = .ok (.iconst 0, 1) := by decide +kernel
theorem dX3_afterPiece_27 : decode cX3_afterPiece 27 = .ok (.iload_n 1, 1) := by decide +kernel
theorem dX3_afterPiece_28 : decode cX3_afterPiece 28 = .ok (.aload_n 0, 1) := by decide +kernel
theorem dX3_afterPiece_29 : decode cX3_afterPiece 29 = .ok (.getfield 9, 3) := by decide +kernel
theorem dX3_afterPiece_32 : decode cX3_afterPiece 32 = .ok (.iload_n 2, 1) := by decide +kernel
theorem dX3_afterPiece_33 : decode cX3_afterPiece 33 = .ok (.iaload, 1) := by decide +kernel
theorem dX3_afterPiece_34 : decode cX3_afterPiece 34 = .ok (.isub, 1) := by decide +kernel
theorem dX3_afterPiece_35 : decode cX3_afterPiece 35 = .ok (.invokestatic 66, 3) := by decide +kernel
theorem dX3_afterPiece_38 : decode cX3_afterPiece 38 = .ok (.istore_n 3, 1) := by decide +kernel
theorem dX3_afterPiece_39 : decode cX3_afterPiece 39 = .ok (.iload_n 3, 1) := by decide +kernel
theorem dX3_afterPiece_40 : decode cX3_afterPiece 40 = .ok (.iload_n 3, 1) := by decide +kernel
theorem dX3_afterPiece_41 : decode cX3_afterPiece 41 = .ok (.bipush 10, 2) := by decide +kernel
theorem dX3_afterPiece_43 : decode cX3_afterPiece 43 = .ok (.idiv, 1) := by decide +kernel
theorem dX3_afterPiece_44 : decode cX3_afterPiece 44 = .ok (.iadd, 1) := by decide +kernel
theorem dX3_afterPiece_45 : decode cX3_afterPiece 45 = .ok (.ireturn, 1) := by decide +kernel
theorem dX4_init_0 : decode cX4_init 0 = .ok (.aload_n 0, 1) := by decide +kernel
theorem dX4_init_1 : decode cX4_init 1 = .ok (.invokespecial 3, 3) := by decide +kernel
theorem dX4_init_4 : decode cX4_init 4 = .ok (.aload_n 0, 1) := by decide +kernel
theorem dX4_init_5 : decode cX4_init 5 = .ok (.bipush 60, 2) := by decide +kernel
theorem dX4_init_7 : decode cX4_init 7 = .ok (.newarray .int, 2) := by decide +kernel
theorem dX4_init_9 : decode cX4_init 9 = .ok (.putfield 11, 3) := by decide +kernel
theorem dX4_init_12 : decode cX4_init 12 = .ok (.return_, 1) := by decide +kernel
theorem dX4_add_0 : decode cX4_add 0 = .ok (.aload_n 0, 1) := by decide +kernel
theorem dX4_add_1 : decode cX4_add 1 = .ok (.getfield 15, 3) := by decide +kernel
theorem dX4_add_4 : decode cX4_add 4 = .ok (.iconst 0, 1) := by decide +kernel
theorem dX4_add_5 : decode cX4_add 5 = .ok (.bipush 59, 2) := by decide +kernel
theorem dX4_add_7 : decode cX4_add 7 = .ok (.invokestatic 19, 3) := by decide +kernel
theorem dX4_add_10 : decode cX4_add 10 = .ok (.ifCond .ne 5, 3) := by decide +kernel
theorem dX4_add_13 : decode cX4_add 13 = .ok (.iconst 0, 1) := by decide +kernel
theorem dX4_add_14 : decode cX4_add 14 = .ok (.ireturn, 1) := by decide +kernel
theorem dX4_add_15 : decode cX4_add 15 = .ok (.aload_n 0, 1) := by decide +kernel
theorem dX4_add_16 : decode cX4_add 16 = .ok (.getfield 11, 3) := by decide +kernel
theorem dX4_add_19 : decode cX4_add 19 = .ok (.aload_n 0, 1) := by decide +kernel
theorem dX4_add_20 : decode cX4_add 20 = .ok (.getfield 15, 3) := by decide +kernel
theorem dX4_add_23 : decode cX4_add 23 = .ok (.iload_n 1, 1) := by decide +kernel
theorem dX4_add_24 : decode cX4_add 24 = .ok (.iastore, 1) := by decide +kernel
theorem dX4_add_25 : decode cX4_add 25 = .ok (.aload_n 0, 1) := by decide +kernel
theorem dX4_add_26 : decode cX4_add 26 = .ok (.dup, 1) := by decide +kernel
theorem dX4_add_27 : decode cX4_add 27 = .ok (.getfield 15, 3) := by decide +kernel
theorem dX4_add_30 : decode cX4_add 30 = .ok (.iconst 1, 1) := by decide +kernel
theorem dX4_add_31 : decode cX4_add 31 = .ok (.iadd, 1) := by decide +kernel
theorem dX4_add_32 : decode cX4_add 32 = .ok (.putfield 15, 3) := by decide +kernel
theorem dX4_add_35 : decode cX4_add 35 = .ok (.iconst 1, 1) := by decide +kernel
theorem dX4_add_36 : decode cX4_add 36 = .ok (.ireturn, 1) := by decide +kernel
theorem dX4_signAt_0 : decode cX4_signAt 0 = .ok (.iload_n 1, 1) := by decide +kernel
theorem dX4_signAt_1 : decode cX4_signAt 1 = .ok (.iconst 0, 1) := by decide +kernel
theorem dX4_signAt_2 : decode cX4_signAt 2 = .ok (.bipush 59, 2) := by decide +kernel
theorem dX4_signAt_4 : decode cX4_signAt 4 = .ok (.invokestatic 19, 3) := by decide +kernel
theorem dX4_signAt_7 : decode cX4_signAt 7 = .ok (.ifCond .eq 20, 3) := by decide +kernel
theorem dX4_signAt_10 : decode cX4_signAt 10 = .ok (.iload_n 1, 1) := by decide +kernel
theorem dX4_signAt_11 : decode cX4_signAt 11 = .ok (.aload_n 0, 1) := by decide +kernel
theorem dX4_signAt_12 : decode cX4_signAt 12 = .ok (.getfield 15, 3) := by decide +kernel
theorem dX4_signAt_15 : decode cX4_signAt 15 = .ok (.if_icmp .ge 12, 3) := by decide +kernel
theorem dX4_signAt_18 : decode cX4_signAt 18 = .ok (.aload_n 0, 1) := by decide +kernel
theorem dX4_signAt_19 : decode cX4_signAt 19 = .ok (.getfield 11, 3) := by decide +kernel
theorem dX4_signAt_22 : decode cX4_signAt 22 = .ok (.iload_n 1, 1) := by decide +kernel
theorem dX4_signAt_23 : decode cX4_signAt 23 = .ok (.iaload, 1) := by decide +kernel
theorem dX4_signAt_24 : decode cX4_signAt 24 = .ok (.goto 4, 3) := by decide +kernel
theorem dX4_signAt_27 : decode cX4_signAt 27 = .ok (.iconst 0, 1) := by decide +kernel
theorem dX4_signAt_28 : decode cX4_signAt 28 = .ok (.ireturn, 1) := by decide +kernel
theorem dX4_isPiece_0 : decode cX4_isPiece 0 = .ok (.iload_n 0, 1) := by decide +kernel
theorem dX4_isPiece_1 : decode cX4_isPiece 1 = .ok (.bipush 48, 2) := by decide +kernel
theorem dX4_isPiece_3 : decode cX4_isPiece 3 = .ok (.bipush 53, 2) := by decide +kernel
theorem dX4_isPiece_5 : decode cX4_isPiece 5 = .ok (.invokestatic 19, 3) := by decide +kernel
theorem dX4_isPiece_8 : decode cX4_isPiece 8 = .ok (.ireturn, 1) := by decide +kernel
theorem dX4_isLetter_0 : decode cX4_isLetter 0 = .ok (.iload_n 0, 1) := by decide +kernel
theorem dX4_isLetter_1 : decode cX4_isLetter 1 = .ok (.bipush 65, 2) := by decide +kernel
theorem dX4_isLetter_3 : decode cX4_isLetter 3 = .ok (.bipush 72, 2) := by decide +kernel
theorem dX4_isLetter_5 : decode cX4_isLetter 5 = .ok (.invokestatic 19, 3) := by decide +kernel
theorem dX4_isLetter_8 : decode cX4_isLetter 8 = .ok (.ireturn, 1) := by decide +kernel
theorem dX4_lengthOf_0 : decode cX4_lengthOf 0 = .ok (.iload_n 0, 1) := by decide +kernel
theorem dX4_lengthOf_1 : decode cX4_lengthOf 1 = .ok (.invokestatic 23, 3) := by decide +kernel
theorem dX4_lengthOf_4 : decode cX4_lengthOf 4 = .ok (.ifCond .ne 5, 3) := by decide +kernel
theorem dX4_lengthOf_7 : decode cX4_lengthOf 7 = .ok (.iconst 1, 1) := by decide +kernel
theorem dX4_lengthOf_8 : decode cX4_lengthOf 8 = .ok (.ireturn, 1) := by decide +kernel
theorem dX4_lengthOf_9 : decode cX4_lengthOf 9 = .ok (.iload_n 1, 1) := by decide +kernel
theorem dX4_lengthOf_10 : decode cX4_lengthOf 10 = .ok (.bipush 43, 2) := by decide +kernel
theorem dX4_lengthOf_12 : decode cX4_lengthOf 12 = .ok (.if_icmp .eq 9, 3) := by decide +kernel
theorem dX4_lengthOf_15 : decode cX4_lengthOf 15 = .ok (.iload_n 1, 1) := by decide +kernel
theorem dX4_lengthOf_16 : decode cX4_lengthOf 16 = .ok (.bipush 61, 2) := by decide +kernel
theorem dX4_lengthOf_18 : decode cX4_lengthOf 18 = .ok (.if_icmp .ne 7, 3) := by decide +kernel
theorem dX4_lengthOf_21 : decode cX4_lengthOf 21 = .ok (.iconst 3, 1) := by decide +kernel
theorem dX4_lengthOf_22 : decode cX4_lengthOf 22 = .ok (.goto 4, 3) := by decide +kernel
theorem dX4_lengthOf_25 : decode cX4_lengthOf 25 = .ok (.iconst 2, 1) := by decide +kernel
theorem dX4_lengthOf_26 : decode cX4_lengthOf 26 = .ok (.ireturn, 1) := by decide +kernel
theorem dX4_isMark_0 : decode cX4_isMark 0 = .ok (.iload_n 0, 1) := by decide +kernel
theorem dX4_isMark_1 : decode cX4_isMark 1 = .ok (.bipush 43, 2) := by decide +kernel
theorem dX4_isMark_3 : decode cX4_isMark 3 = .ok (.if_icmp .eq 21, 3) := by decide +kernel
theorem dX4_isMark_6 : decode cX4_isMark 6 = .ok (.iload_n 0, 1) := by decide +kernel
theorem dX4_isMark_7 : decode cX4_isMark 7 = .ok (.bipush 42, 2) := by decide +kernel
theorem dX4_isMark_9 : decode cX4_isMark 9 = .ok (.if_icmp .eq 15, 3) := by decide +kernel
theorem dX4_isMark_12 : decode cX4_isMark 12 = .ok (.iload_n 0, 1) := by decide +kernel
theorem dX4_isMark_13 : decode cX4_isMark 13 = .ok (.bipush 61, 2) := by decide +kernel
theorem dX4_isMark_15 : decode cX4_isMark 15 = .ok (.if_icmp .eq 9, 3) := by decide +kernel
theorem dX4_isMark_18 : decode cX4_isMark 18 = .ok (.iload_n 0, 1) := by decide +kernel
theorem dX4_isMark_19 : decode cX4_isMark 19 = .ok (.bipush 120, 2) := by decide +kernel
theorem dX4_isMark_21 : decode cX4_isMark 21 = .ok (.if_icmp .ne 7, 3) := by decide +kernel
theorem dX4_isMark_24 : decode cX4_isMark 24 = .ok (.iconst 1, 1) := by decide +kernel
theorem dX4_isMark_25 : decode cX4_isMark 25 = .ok (.goto 4, 3) := by decide +kernel
theorem dX4_isMark_28 : decode cX4_isMark 28 = .ok (.iconst 0, 1) := by decide +kernel
theorem dX4_isMark_29 : decode cX4_isMark 29 = .ok (.ireturn, 1) := by decide +kernel
theorem dX4_faultIn_0 : decode cX4_faultIn 0 = .ok (.aload_n 0, 1) := by decide +kernel
theorem dX4_faultIn_1 : decode cX4_faultIn 1 = .ok (.iload_n 1, 1) := by decide +kernel
theorem dX4_faultIn_2 : decode cX4_faultIn 2 = .ok (.invokevirtual 27, 3) := by decide +kernel
theorem dX4_faultIn_5 : decode cX4_faultIn 5 = .ok (.istore_n 2, 1) := by decide +kernel
theorem dX4_faultIn_6 : decode cX4_faultIn 6 = .ok (.iload_n 2, 1) := by decide +kernel
theorem dX4_faultIn_7 : decode cX4_faultIn 7 = .ok (.invokestatic 31, 3) := by decide +kernel
theorem dX4_faultIn_10 : decode cX4_faultIn 10 = .ok (.ifCond .ne 9, 3) := by decide +kernel
theorem dX4_faultIn_13 : decode cX4_faultIn 13 = .ok (.iload_n 2, 1) := by decide +kernel
theorem dX4_faultIn_14 : decode cX4_faultIn 14 = .ok (.bipush 46, 2) := by decide +kernel
theorem dX4_faultIn_16 : decode cX4_faultIn 16 = .ok (.if_icmp .ne 6, 3) := by decide +kernel
theorem dX4_faultIn_19 : decode cX4_faultIn 19 = .ok (.bipush (-6), 2) := by decide +kernel
theorem dX4_faultIn_21 : decode cX4_faultIn 21 = .ok (.ireturn, 1) := by decide +kernel
theorem dX4_faultIn_22 : decode cX4_faultIn 22 = .ok (.iload_n 2, 1) := by decide +kernel
theorem dX4_faultIn_23 : decode cX4_faultIn 23 = .ok (.invokestatic 23, 3) := by decide +kernel
theorem dX4_faultIn_26 : decode cX4_faultIn 26 = .ok (.ifCond .ne 5, 3) := by decide +kernel
theorem dX4_faultIn_29 : decode cX4_faultIn 29 = .ok (.iload_n 1, 1) := by decide +kernel
theorem dX4_faultIn_30 : decode cX4_faultIn 30 = .ok (.ireturn, 1) := by decide +kernel
theorem dX4_faultIn_31 : decode cX4_faultIn 31 = .ok (.aload_n 0, 1) := by decide +kernel
theorem dX4_faultIn_32 : decode cX4_faultIn 32 = .ok (.iload_n 1, 1) := by decide +kernel
theorem dX4_faultIn_33 : decode cX4_faultIn 33 = .ok (.iconst 1, 1) := by decide +kernel
theorem dX4_faultIn_34 : decode cX4_faultIn 34 = .ok (.iadd, 1) := by decide +kernel
theorem dX4_faultIn_35 : decode cX4_faultIn 35 = .ok (.invokevirtual 27, 3) := by decide +kernel
theorem dX4_faultIn_38 : decode cX4_faultIn 38 = .ok (.istore_n 3, 1) := by decide +kernel
theorem dX4_faultIn_39 : decode cX4_faultIn 39 = .ok (.iload_n 3, 1) := by decide +kernel
theorem dX4_faultIn_40 : decode cX4_faultIn 40 = .ok (.invokestatic 34, 3) := by decide +kernel
theorem dX4_faultIn_43 : decode cX4_faultIn 43 = .ok (.ifCond .ne 7, 3) := by decide +kernel
theorem dX4_faultIn_46 : decode cX4_faultIn 46 = .ok (.iload_n 1, 1) := by decide +kernel
theorem dX4_faultIn_47 : decode cX4_faultIn 47 = .ok (.iconst 1, 1) := by decide +kernel
theorem dX4_faultIn_48 : decode cX4_faultIn 48 = .ok (.iadd, 1) := by decide +kernel
theorem dX4_faultIn_49 : decode cX4_faultIn 49 = .ok (.ireturn, 1) := by decide +kernel
theorem dX4_faultIn_50 : decode cX4_faultIn 50 = .ok (.aload_n 0, 1) := by decide +kernel
theorem dX4_faultIn_51 : decode cX4_faultIn 51 = .ok (.iload_n 1, 1) := by decide +kernel
theorem dX4_faultIn_52 : decode cX4_faultIn 52 = .ok (.iconst 2, 1) := by decide +kernel
theorem dX4_faultIn_53 : decode cX4_faultIn 53 = .ok (.iadd, 1) := by decide +kernel
theorem dX4_faultIn_54 : decode cX4_faultIn 54 = .ok (.invokevirtual 27, 3) := by decide +kernel
theorem dX4_faultIn_57 : decode cX4_faultIn 57 = .ok (.istore 4, 2) := by decide +kernel
theorem dX4_faultIn_59 : decode cX4_faultIn 59 = .ok (.iload_n 3, 1) := by decide +kernel
theorem dX4_faultIn_60 : decode cX4_faultIn 60 = .ok (.bipush 43, 2) := by decide +kernel
theorem dX4_faultIn_62 : decode cX4_faultIn 62 = .ok (.if_icmp .ne 15, 3) := by decide +kernel
theorem dX4_faultIn_65 : decode cX4_faultIn 65 = .ok (.iload 4, 2) := by decide +kernel
theorem dX4_faultIn_67 : decode cX4_faultIn 67 = .ok (.bipush 49, 2) := by decide +kernel
theorem dX4_faultIn_69 : decode cX4_faultIn 69 = .ok (.bipush 57, 2) := by decide +kernel
theorem dX4_faultIn_71 : decode cX4_faultIn 71 = .ok (.invokestatic 19, 3) := by decide +kernel
theorem dX4_faultIn_74 : decode cX4_faultIn 74 = .ok (.ifCond .eq 17, 3) := by decide +kernel
theorem dX4_faultIn_77 : decode cX4_faultIn 77 = .ok (.iload_n 3, 1) := by decide +kernel
theorem dX4_faultIn_78 : decode cX4_faultIn 78 = .ok (.bipush 61, 2) := by decide +kernel
theorem dX4_faultIn_80 : decode cX4_faultIn 80 = .ok (.if_icmp .ne 15, 3) := by decide +kernel
theorem dX4_faultIn_83 : decode cX4_faultIn 83 = .ok (.iload 4, 2) := by decide +kernel
theorem dX4_faultIn_85 : decode cX4_faultIn 85 = .ok (.invokestatic 23, 3) := by decide +kernel
theorem dX4_faultIn_88 : decode cX4_faultIn 88 = .ok (.ifCond .ne 7, 3) := by decide +kernel
theorem dX4_faultIn_91 : decode cX4_faultIn 91 = .ok (.iload_n 1, 1) := by decide +kernel
theorem dX4_faultIn_92 : decode cX4_faultIn 92 = .ok (.iconst 2, 1) := by decide +kernel
theorem dX4_faultIn_93 : decode cX4_faultIn 93 = .ok (.iadd, 1) := by decide +kernel
theorem dX4_faultIn_94 : decode cX4_faultIn 94 = .ok (.ireturn, 1) := by decide +kernel
theorem dX4_faultIn_95 : decode cX4_faultIn 95 = .ok (.bipush (-6), 2) := by decide +kernel
theorem dX4_faultIn_97 : decode cX4_faultIn 97 = .ok (.ireturn, 1) := by decide +kernel
theorem dX4_faultPlace_0 : decode cX4_faultPlace 0 = .ok (.iconst 0, 1) := by decide +kernel
theorem dX4_faultPlace_1 : decode cX4_faultPlace 1 = .ok (.istore_n 1, 1) := by decide +kernel
theorem dX4_faultPlace_2 : decode cX4_faultPlace 2 = .ok (.iload_n 1, 1) := by decide +kernel
theorem dX4_faultPlace_3 : decode cX4_faultPlace 3 = .ok (.aload_n 0, 1) := by decide +kernel
theorem dX4_faultPlace_4 : decode cX4_faultPlace 4 = .ok (.getfield 15, 3) := by decide +kernel
theorem dX4_faultPlace_7 : decode cX4_faultPlace 7 = .ok (.if_icmp .ge 38, 3) := by decide +kernel
theorem dX4_faultPlace_10 : decode cX4_faultPlace 10 = .ok (.aload_n 0, 1) := by decide +kernel
theorem dX4_faultPlace_11 : decode cX4_faultPlace 11 = .ok (.iload_n 1, 1) := by decide +kernel
theorem dX4_faultPlace_12 : decode cX4_faultPlace 12 = .ok (.invokevirtual 37, 3) := by decide +kernel
theorem dX4_faultPlace_15 : decode cX4_faultPlace 15 = .ok (.istore_n 2, 1) := by decide +kernel
theorem dX4_faultPlace_16 : decode cX4_faultPlace 16 = .ok (.iload_n 2, 1) := by decide +kernel
theorem dX4_faultPlace_17 : decode cX4_faultPlace 17 = .ok (.bipush (-6), 2) := by decide +kernel
theorem dX4_faultPlace_19 : decode cX4_faultPlace 19 = .ok (.if_icmp .eq 5, 3) := by decide +kernel
theorem dX4_faultPlace_22 : decode cX4_faultPlace 22 = .ok (.iload_n 2, 1) := by decide +kernel
theorem dX4_faultPlace_23 : decode cX4_faultPlace 23 = .ok (.ireturn, 1) := by decide +kernel
theorem dX4_faultPlace_24 : decode cX4_faultPlace 24 = .ok (.iload_n 1, 1) := by decide +kernel
theorem dX4_faultPlace_25 : decode cX4_faultPlace 25 = .ok (.aload_n 0, 1) := by decide +kernel
theorem dX4_faultPlace_26 : decode cX4_faultPlace 26 = .ok (.iload_n 1, 1) := by decide +kernel
theorem dX4_faultPlace_27 : decode cX4_faultPlace 27 = .ok (.invokevirtual 27, 3) := by decide +kernel
theorem dX4_faultPlace_30 : decode cX4_faultPlace 30 = .ok (.aload_n 0, 1) := by decide +kernel
theorem dX4_faultPlace_31 : decode cX4_faultPlace 31 = .ok (.iload_n 1, 1) := by decide +kernel
theorem dX4_faultPlace_32 : decode cX4_faultPlace 32 = .ok (.iconst 1, 1) := by decide +kernel
theorem dX4_faultPlace_33 : decode cX4_faultPlace 33 = .ok (.iadd, 1) := by decide +kernel
theorem dX4_faultPlace_34 : decode cX4_faultPlace 34 = .ok (.invokevirtual 27, 3) := by decide +kernel
theorem dX4_faultPlace_37 : decode cX4_faultPlace 37 = .ok (.invokestatic 40, 3) := by decide +kernel
theorem dX4_faultPlace_40 : decode cX4_faultPlace 40 = .ok (.iadd, 1) := by decide +kernel
theorem dX4_faultPlace_41 : decode cX4_faultPlace 41 = .ok (.istore_n 1, 1) := by decide +kernel
theorem dX4_faultPlace_42 : decode cX4_faultPlace 42 = .ok (.goto (-40), 3) := by decide +kernel
theorem dX4_faultPlace_45 : decode cX4_faultPlace 45 = .ok (.bipush (-6), 2) := by decide +kernel
theorem dX4_faultPlace_47 : decode cX4_faultPlace 47 = .ok (.ireturn, 1) := by decide +kernel
theorem dX5_init_0 : decode cX5_init 0 = .ok (.aload_n 0, 1) := by decide +kernel
theorem dX5_init_1 : decode cX5_init 1 = .ok (.invokespecial 3, 3) := by decide +kernel
theorem dX5_init_4 : decode cX5_init 4 = .ok (.aload_n 0, 1) := by decide +kernel
theorem dX5_init_5 : decode cX5_init 5 = .ok (.iconst 4, 1) := by decide +kernel
theorem dX5_init_6 : decode cX5_init 6 = .ok (.newarray .int, 2) := by decide +kernel
theorem dX5_init_8 : decode cX5_init 8 = .ok (.putfield 11, 3) := by decide +kernel
theorem dX5_init_11 : decode cX5_init 11 = .ok (.aload_n 0, 1) := by decide +kernel
theorem dX5_init_12 : decode cX5_init 12 = .ok (.iconst 4, 1) := by decide +kernel
theorem dX5_init_13 : decode cX5_init 13 = .ok (.newarray .int, 2) := by decide +kernel
theorem dX5_init_15 : decode cX5_init 15 = .ok (.putfield 15, 3) := by decide +kernel
theorem dX5_init_18 : decode cX5_init 18 = .ok (.aload_n 0, 1) := by decide +kernel
theorem dX5_init_19 : decode cX5_init 19 = .ok (.iconst 4, 1) := by decide +kernel
theorem dX5_init_20 : decode cX5_init 20 = .ok (.newarray .int, 2) := by decide +kernel
theorem dX5_init_22 : decode cX5_init 22 = .ok (.putfield 18, 3) := by decide +kernel
theorem dX5_init_25 : decode cX5_init 25 = .ok (.return_, 1) := by decide +kernel
theorem dX5_start_0 : decode cX5_start 0 = .ok (.aload_n 0, 1) := by decide +kernel
theorem dX5_start_1 : decode cX5_start 1 = .ok (.getfield 11, 3) := by decide +kernel
theorem dX5_start_4 : decode cX5_start 4 = .ok (.iconst 0, 1) := by decide +kernel
theorem dX5_start_5 : decode cX5_start 5 = .ok (.iload_n 1, 1) := by decide +kernel
theorem dX5_start_6 : decode cX5_start 6 = .ok (.iastore, 1) := by decide +kernel
theorem dX5_start_7 : decode cX5_start 7 = .ok (.aload_n 0, 1) := by decide +kernel
theorem dX5_start_8 : decode cX5_start 8 = .ok (.getfield 11, 3) := by decide +kernel
theorem dX5_start_11 : decode cX5_start 11 = .ok (.iconst 1, 1) := by decide +kernel
theorem dX5_start_12 : decode cX5_start 12 = .ok (.iload_n 2, 1) := by decide +kernel
theorem dX5_start_13 : decode cX5_start 13 = .ok (.iastore, 1) := by decide +kernel
theorem dX5_start_14 : decode cX5_start 14 = .ok (.aload_n 0, 1) := by decide +kernel
theorem dX5_start_15 : decode cX5_start 15 = .ok (.getfield 11, 3) := by decide +kernel
theorem dX5_start_18 : decode cX5_start 18 = .ok (.iconst 2, 1) := by decide +kernel
theorem dX5_start_19 : decode cX5_start 19 = .ok (.iload_n 3, 1) := by decide +kernel
theorem dX5_start_20 : decode cX5_start 20 = .ok (.iastore, 1) := by decide +kernel
theorem dX5_start_21 : decode cX5_start 21 = .ok (.aload_n 0, 1) := by decide +kernel
theorem dX5_start_22 : decode cX5_start 22 = .ok (.getfield 11, 3) := by decide +kernel
theorem dX5_start_25 : decode cX5_start 25 = .ok (.iconst 3, 1) := by decide +kernel
theorem dX5_start_26 : decode cX5_start 26 = .ok (.iload 4, 2) := by decide +kernel
theorem dX5_start_28 : decode cX5_start 28 = .ok (.iastore, 1) := by decide +kernel
theorem dX5_start_29 : decode cX5_start 29 = .ok (.aload_n 0, 1) := by decide +kernel
theorem dX5_start_30 : decode cX5_start 30 = .ok (.bipush 15, 2) := by decide +kernel
theorem dX5_start_32 : decode cX5_start 32 = .ok (.putfield 21, 3) := by decide +kernel
theorem dX5_start_35 : decode cX5_start 35 = .ok (.return_, 1) := by decide +kernel
theorem dX5_swap_0 : decode cX5_swap 0 = .ok (.iconst 0, 1) := by decide +kernel
theorem dX5_swap_1 : decode cX5_swap 1 = .ok (.istore_n 1, 1) := by decide +kernel
theorem dX5_swap_2 : decode cX5_swap 2 = .ok (.iload_n 1, 1) := by decide +kernel
theorem dX5_swap_3 : decode cX5_swap 3 = .ok (.iconst 4, 1) := by decide +kernel
theorem dX5_swap_4 : decode cX5_swap 4 = .ok (.if_icmp .ge 103, 3) := by decide +kernel
theorem dX5_swap_7 : decode cX5_swap 7 = .ok (.iconst 0, 1) := by decide +kernel
theorem dX5_swap_8 : decode cX5_swap 8 = .ok (.istore_n 2, 1) := by decide +kernel
theorem dX5_swap_9 : decode cX5_swap 9 = .ok (.iload_n 2, 1) := by decide +kernel
theorem dX5_swap_10 : decode cX5_swap 10 = .ok (.iconst 4, 1) := by decide +kernel
theorem dX5_swap_11 : decode cX5_swap 11 = .ok (.if_icmp .ge 25, 3) := by decide +kernel
theorem dX5_swap_14 : decode cX5_swap 14 = .ok (.aload_n 0, 1) := by decide +kernel
theorem dX5_swap_15 : decode cX5_swap 15 = .ok (.getfield 18, 3) := by decide +kernel
theorem dX5_swap_18 : decode cX5_swap 18 = .ok (.iload_n 2, 1) := by decide +kernel
theorem dX5_swap_19 : decode cX5_swap 19 = .ok (.aload_n 0, 1) := by decide +kernel
theorem dX5_swap_20 : decode cX5_swap 20 = .ok (.aload_n 0, 1) := by decide +kernel
theorem dX5_swap_21 : decode cX5_swap 21 = .ok (.getfield 11, 3) := by decide +kernel
theorem dX5_swap_24 : decode cX5_swap 24 = .ok (.iload_n 2, 1) := by decide +kernel
theorem dX5_swap_25 : decode cX5_swap 25 = .ok (.iaload, 1) := by decide +kernel
theorem dX5_swap_26 : decode cX5_swap 26 = .ok (.invokevirtual 25, 3) := by decide +kernel
theorem dX5_swap_29 : decode cX5_swap 29 = .ok (.iastore, 1) := by decide +kernel
theorem dX5_swap_30 : decode cX5_swap 30 = .ok (.iinc 2 1, 3) := by decide +kernel
theorem dX5_swap_33 : decode cX5_swap 33 = .ok (.goto (-24), 3) := by decide +kernel
theorem dX5_swap_36 : decode cX5_swap 36 = .ok (.iconst 0, 1) := by decide +kernel
theorem dX5_swap_37 : decode cX5_swap 37 = .ok (.istore_n 2, 1) := by decide +kernel
theorem dX5_swap_38 : decode cX5_swap 38 = .ok (.iconst 0, 1) := by decide +kernel
theorem dX5_swap_39 : decode cX5_swap 39 = .ok (.istore_n 3, 1) := by decide +kernel
theorem dX5_swap_40 : decode cX5_swap 40 = .ok (.iload_n 3, 1) := by decide +kernel
theorem dX5_swap_41 : decode cX5_swap 41 = .ok (.iconst 4, 1) := by decide +kernel
theorem dX5_swap_42 : decode cX5_swap 42 = .ok (.if_icmp .ge 47, 3) := by decide +kernel
theorem dX5_swap_45 : decode cX5_swap 45 = .ok (.aload_n 0, 1) := by decide +kernel
theorem dX5_swap_46 : decode cX5_swap 46 = .ok (.getfield 21, 3) := by decide +kernel
theorem dX5_swap_49 : decode cX5_swap 49 = .ok (.iload_n 3, 1) := by decide +kernel
theorem dX5_swap_50 : decode cX5_swap 50 = .ok (.invokestatic 29, 3) := by decide +kernel
theorem dX5_swap_53 : decode cX5_swap 53 = .ok (.iconst 1, 1) := by decide +kernel
theorem dX5_swap_54 : decode cX5_swap 54 = .ok (.if_icmp .ne 29, 3) := by decide +kernel
theorem dX5_swap_57 : decode cX5_swap 57 = .ok (.aload_n 0, 1) := by decide +kernel
theorem dX5_swap_58 : decode cX5_swap 58 = .ok (.iload_n 3, 1) := by decide +kernel
theorem dX5_swap_59 : decode cX5_swap 59 = .ok (.invokevirtual 33, 3) := by decide +kernel
theorem dX5_swap_62 : decode cX5_swap 62 = .ok (.ifCond .eq 21, 3) := by decide +kernel
theorem dX5_swap_65 : decode cX5_swap 65 = .ok (.aload_n 0, 1) := by decide +kernel
theorem dX5_swap_66 : decode cX5_swap 66 = .ok (.getfield 15, 3) := by decide +kernel
theorem dX5_swap_69 : decode cX5_swap 69 = .ok (.iload_n 3, 1) := by decide +kernel
theorem dX5_swap_70 : decode cX5_swap 70 = .ok (.aload_n 0, 1) := by decide +kernel
theorem dX5_swap_71 : decode cX5_swap 71 = .ok (.getfield 18, 3) := by decide +kernel
theorem dX5_swap_74 : decode cX5_swap 74 = .ok (.iload_n 3, 1) := by decide +kernel
theorem dX5_swap_75 : decode cX5_swap 75 = .ok (.iaload, 1) := by decide +kernel
theorem dX5_swap_76 : decode cX5_swap 76 = .ok (.iastore, 1) := by decide +kernel
theorem dX5_swap_77 : decode cX5_swap 77 = .ok (.iload_n 2, 1) := by decide +kernel
theorem dX5_swap_78 : decode cX5_swap 78 = .ok (.iconst 1, 1) := by decide +kernel
theorem dX5_swap_79 : decode cX5_swap 79 = .ok (.iload_n 3, 1) := by decide +kernel
theorem dX5_swap_80 : decode cX5_swap 80 = .ok (.ishl, 1) := by decide +kernel
theorem dX5_swap_81 : decode cX5_swap 81 = .ok (.ior, 1) := by decide +kernel
theorem dX5_swap_82 : decode cX5_swap 82 = .ok (.istore_n 2, 1) := by decide +kernel
theorem dX5_swap_83 : decode cX5_swap 83 = .ok (.iinc 3 1, 3) := by decide +kernel
theorem dX5_swap_86 : decode cX5_swap 86 = .ok (.goto (-46), 3) := by decide +kernel
theorem dX5_swap_89 : decode cX5_swap 89 = .ok (.aload_n 0, 1) := by decide +kernel
theorem dX5_swap_90 : decode cX5_swap 90 = .ok (.dup, 1) := by decide +kernel
theorem dX5_swap_91 : decode cX5_swap 91 = .ok (.getfield 21, 3) := by decide +kernel
theorem dX5_swap_94 : decode cX5_swap 94 = .ok (.iload_n 2, 1) := by decide +kernel
theorem dX5_swap_95 : decode cX5_swap 95 = .ok (.iconst (-1), 1) := by decide +kernel
theorem dX5_swap_96 : decode cX5_swap 96 = .ok (.ixor, 1) := by decide +kernel
theorem dX5_swap_97 : decode cX5_swap 97 = .ok (.iand, 1) := by decide +kernel
theorem dX5_swap_98 : decode cX5_swap 98 = .ok (.putfield 21, 3) := by decide +kernel
theorem dX5_swap_101 : decode cX5_swap 101 = .ok (.iinc 1 1, 3) := by decide +kernel
theorem dX5_swap_104 : decode cX5_swap 104 = .ok (.goto (-102), 3) := by decide +kernel
theorem dX5_swap_107 : decode cX5_swap 107 = .ok (.return_, 1) := by decide +kernel
theorem dX5_bestLeft_0 : decode cX5_bestLeft 0 = .ok (.iconst 3, 1) := by decide +kernel
theorem dX5_bestLeft_1 : decode cX5_bestLeft 1 = .ok (.istore_n 2, 1) := by decide +kernel
theorem dX5_bestLeft_2 : decode cX5_bestLeft 2 = .ok (.iload_n 2, 1) := by decide +kernel
theorem dX5_bestLeft_3 : decode cX5_bestLeft 3 = .ok (.ifCond .lt 29, 3) := by decide +kernel
theorem dX5_bestLeft_6 : decode cX5_bestLeft 6 = .ok (.iload_n 1, 1) := by decide +kernel
theorem dX5_bestLeft_7 : decode cX5_bestLeft 7 = .ok (.iload_n 2, 1) := by decide +kernel
theorem dX5_bestLeft_8 : decode cX5_bestLeft 8 = .ok (.invokestatic 37, 3) := by decide +kernel
theorem dX5_bestLeft_11 : decode cX5_bestLeft 11 = .ok (.istore_n 3, 1) := by decide +kernel
theorem dX5_bestLeft_12 : decode cX5_bestLeft 12 = .ok (.aload_n 0, 1) := by decide +kernel
theorem dX5_bestLeft_13 : decode cX5_bestLeft 13 = .ok (.getfield 21, 3) := by decide +kernel
theorem dX5_bestLeft_16 : decode cX5_bestLeft 16 = .ok (.iload_n 3, 1) := by decide +kernel
theorem dX5_bestLeft_17 : decode cX5_bestLeft 17 = .ok (.invokestatic 29, 3) := by decide +kernel
theorem dX5_bestLeft_20 : decode cX5_bestLeft 20 = .ok (.iconst 1, 1) := by decide +kernel
theorem dX5_bestLeft_21 : decode cX5_bestLeft 21 = .ok (.if_icmp .ne 5, 3) := by decide +kernel
theorem dX5_bestLeft_24 : decode cX5_bestLeft 24 = .ok (.iload_n 3, 1) := by decide +kernel
theorem dX5_bestLeft_25 : decode cX5_bestLeft 25 = .ok (.ireturn, 1) := by decide +kernel
theorem dX5_bestLeft_26 : decode cX5_bestLeft 26 = .ok (.iinc 2 (-1), 3) := by decide +kernel
theorem dX5_bestLeft_29 : decode cX5_bestLeft 29 = .ok (.goto (-27), 3) := by decide +kernel
theorem dX5_bestLeft_32 : decode cX5_bestLeft 32 = .ok (.bipush (-6), 2) := by decide +kernel
theorem dX5_bestLeft_34 : decode cX5_bestLeft 34 = .ok (.ireturn, 1) := by decide +kernel
theorem dX5_isInRing_0 : decode cX5_isInRing 0 = .ok (.iload_n 1, 1) := by decide +kernel
theorem dX5_isInRing_1 : decode cX5_isInRing 1 = .ok (.istore_n 2, 1) := by decide +kernel
theorem dX5_isInRing_2 : decode cX5_isInRing 2 = .ok (.iconst 0, 1) := by decide +kernel
theorem dX5_isInRing_3 : decode cX5_isInRing 3 = .ok (.istore_n 3, 1) := by decide +kernel
theorem dX5_isInRing_4 : decode cX5_isInRing 4 = .ok (.iload_n 3, 1) := by decide +kernel
theorem dX5_isInRing_5 : decode cX5_isInRing 5 = .ok (.iconst 4, 1) := by decide +kernel
theorem dX5_isInRing_6 : decode cX5_isInRing 6 = .ok (.if_icmp .ge 37, 3) := by decide +kernel
theorem dX5_isInRing_9 : decode cX5_isInRing 9 = .ok (.iload_n 2, 1) := by decide +kernel
theorem dX5_isInRing_10 : decode cX5_isInRing 10 = .ok (.iconst 0, 1) := by decide +kernel
theorem dX5_isInRing_11 : decode cX5_isInRing 11 = .ok (.iconst 3, 1) := by decide +kernel
theorem dX5_isInRing_12 : decode cX5_isInRing 12 = .ok (.invokestatic 40, 3) := by decide +kernel
theorem dX5_isInRing_15 : decode cX5_isInRing 15 = .ok (.ifCond .eq 12, 3) := by decide +kernel
theorem dX5_isInRing_18 : decode cX5_isInRing 18 = .ok (.aload_n 0, 1) := by decide +kernel
theorem dX5_isInRing_19 : decode cX5_isInRing 19 = .ok (.getfield 18, 3) := by decide +kernel
theorem dX5_isInRing_22 : decode cX5_isInRing 22 = .ok (.iload_n 2, 1) := by decide +kernel
theorem dX5_isInRing_23 : decode cX5_isInRing 23 = .ok (.iaload, 1) := by decide +kernel
theorem dX5_isInRing_24 : decode cX5_isInRing 24 = .ok (.goto 5, 3) := by decide +kernel
theorem dX5_isInRing_27 : decode cX5_isInRing 27 = .ok (.bipush (-6), 2) := by decide +kernel
theorem dX5_isInRing_29 : decode cX5_isInRing 29 = .ok (.istore_n 2, 1) := by decide +kernel
theorem dX5_isInRing_30 : decode cX5_isInRing 30 = .ok (.iload_n 2, 1) := by decide +kernel
theorem dX5_isInRing_31 : decode cX5_isInRing 31 = .ok (.iload_n 1, 1) := by decide +kernel
theorem dX5_isInRing_32 : decode cX5_isInRing 32 = .ok (.if_icmp .ne 5, 3) := by decide +kernel
theorem dX5_isInRing_35 : decode cX5_isInRing 35 = .ok (.iconst 1, 1) := by decide +kernel
theorem dX5_isInRing_36 : decode cX5_isInRing 36 = .ok (.ireturn, 1) := by decide +kernel
theorem dX5_isInRing_37 : decode cX5_isInRing 37 = .ok (.iinc 3 1, 3) := by decide +kernel
theorem dX5_isInRing_40 : decode cX5_isInRing 40 = .ok (.goto (-36), 3) := by decide +kernel
theorem dX5_isInRing_43 : decode cX5_isInRing 43 = .ok (.iconst 0, 1) := by decide +kernel
theorem dX5_isInRing_44 : decode cX5_isInRing 44 = .ok (.ireturn, 1) := by decide +kernel
theorem dX5_partsAsDigits_0 : decode cX5_partsAsDigits 0 = .ok (.iconst 0, 1) := by decide +kernel
theorem dX5_partsAsDigits_1 : decode cX5_partsAsDigits 1 = .ok (.istore_n 1, 1) := by decide +kernel
theorem dX5_partsAsDigits_2 : decode cX5_partsAsDigits 2 = .ok (.iconst 0, 1) := by decide +kernel
theorem dX5_partsAsDigits_3 : decode cX5_partsAsDigits 3 = .ok (.istore_n 2, 1) := by decide +kernel
theorem dX5_partsAsDigits_4 : decode cX5_partsAsDigits 4 = .ok (.iload_n 2, 1) := by decide +kernel
theorem dX5_partsAsDigits_5 : decode cX5_partsAsDigits 5 = .ok (.iconst 4, 1) := by decide +kernel
theorem dX5_partsAsDigits_6 : decode cX5_partsAsDigits 6 = .ok (.if_icmp .ge 21, 3) := by decide +kernel
theorem dX5_partsAsDigits_9 : decode cX5_partsAsDigits 9 = .ok (.bipush 10, 2) := by decide +kernel
theorem dX5_partsAsDigits_11 : decode cX5_partsAsDigits 11 = .ok (.iload_n 1, 1) := by decide +kernel
theorem dX5_partsAsDigits_12 : decode cX5_partsAsDigits 12 = .ok (.imul, 1) := by decide +kernel
theorem dX5_partsAsDigits_13 : decode cX5_partsAsDigits 13 = .ok (.aload_n 0, 1) := by decide +kernel
theorem dX5_partsAsDigits_14 : decode cX5_partsAsDigits 14 = .ok (.getfield 15, 3) := by decide +kernel
theorem dX5_partsAsDigits_17 : decode cX5_partsAsDigits 17 = .ok (.iload_n 2, 1) := by decide +kernel
theorem dX5_partsAsDigits_18 : decode cX5_partsAsDigits 18 = .ok (.iaload, 1) := by decide +kernel
theorem dX5_partsAsDigits_19 : decode cX5_partsAsDigits 19 = .ok (.iadd, 1) := by decide +kernel
theorem dX5_partsAsDigits_20 : decode cX5_partsAsDigits 20 = .ok (.istore_n 1, 1) := by decide +kernel
theorem dX5_partsAsDigits_21 : decode cX5_partsAsDigits 21 = .ok (.iinc 2 1, 3) := by decide +kernel
theorem dX5_partsAsDigits_24 : decode cX5_partsAsDigits 24 = .ok (.goto (-20), 3) := by decide +kernel
theorem dX5_partsAsDigits_27 : decode cX5_partsAsDigits 27 = .ok (.iload_n 1, 1) := by decide +kernel
theorem dX5_partsAsDigits_28 : decode cX5_partsAsDigits 28 = .ok (.ireturn, 1) := by decide +kernel
theorem dX5_countOwn_0 : decode cX5_countOwn 0 = .ok (.iconst 0, 1) := by decide +kernel
theorem dX5_countOwn_1 : decode cX5_countOwn 1 = .ok (.istore_n 1, 1) := by decide +kernel
theorem dX5_countOwn_2 : decode cX5_countOwn 2 = .ok (.iconst 0, 1) := by decide +kernel
theorem dX5_countOwn_3 : decode cX5_countOwn 3 = .ok (.istore_n 2, 1) := by decide +kernel
theorem dX5_countOwn_4 : decode cX5_countOwn 4 = .ok (.iload_n 2, 1) := by decide +kernel
theorem dX5_countOwn_5 : decode cX5_countOwn 5 = .ok (.iconst 4, 1) := by decide +kernel
theorem dX5_countOwn_6 : decode cX5_countOwn 6 = .ok (.if_icmp .ge 22, 3) := by decide +kernel
theorem dX5_countOwn_9 : decode cX5_countOwn 9 = .ok (.aload_n 0, 1) := by decide +kernel
theorem dX5_countOwn_10 : decode cX5_countOwn 10 = .ok (.getfield 15, 3) := by decide +kernel
theorem dX5_countOwn_13 : decode cX5_countOwn 13 = .ok (.iload_n 2, 1) := by decide +kernel
theorem dX5_countOwn_14 : decode cX5_countOwn 14 = .ok (.iaload, 1) := by decide +kernel
theorem dX5_countOwn_15 : decode cX5_countOwn 15 = .ok (.iload_n 2, 1) := by decide +kernel
theorem dX5_countOwn_16 : decode cX5_countOwn 16 = .ok (.if_icmp .ne 6, 3) := by decide +kernel
theorem dX5_countOwn_19 : decode cX5_countOwn 19 = .ok (.iinc 1 1, 3) := by decide +kernel
theorem dX5_countOwn_22 : decode cX5_countOwn 22 = .ok (.iinc 2 1, 3) := by decide +kernel
theorem dX5_countOwn_25 : decode cX5_countOwn 25 = .ok (.goto (-21), 3) := by decide +kernel
theorem dX5_countOwn_28 : decode cX5_countOwn 28 = .ok (.iload_n 1, 1) := by decide +kernel
theorem dX5_countOwn_29 : decode cX5_countOwn 29 = .ok (.ireturn, 1) := by decide +kernel
theorem dX6_init_0 : decode cX6_init 0 = .ok (.aload_n 0, 1) := by decide +kernel
theorem dX6_init_1 : decode cX6_init 1 = .ok (.invokespecial 3, 3) := by decide +kernel
theorem dX6_init_4 : decode cX6_init 4 = .ok (.aload_n 0, 1) := by decide +kernel
theorem dX6_init_5 : decode cX6_init 5 = .ok (.bipush 8, 2) := by decide +kernel
theorem dX6_init_7 : decode cX6_init 7 = .ok (.newarray .int, 2) := by decide +kernel
theorem dX6_init_9 : decode cX6_init 9 = .ok (.putfield 11, 3) := by decide +kernel
theorem dX6_init_12 : decode cX6_init 12 = .ok (.aload_n 0, 1) := by decide +kernel
theorem dX6_init_13 : decode cX6_init 13 = .ok (.bipush 8, 2) := by decide +kernel
theorem dX6_init_15 : decode cX6_init 15 = .ok (.newarray .int, 2) := by decide +kernel
theorem dX6_init_17 : decode cX6_init 17 = .ok (.putfield 15, 3) := by decide +kernel
theorem dX6_init_20 : decode cX6_init 20 = .ok (.aload_n 0, 1) := by decide +kernel
theorem dX6_init_21 : decode cX6_init 21 = .ok (.bipush 100, 2) := by decide +kernel
theorem dX6_init_23 : decode cX6_init 23 = .ok (.newarray .int, 2) := by decide +kernel
theorem dX6_init_25 : decode cX6_init 25 = .ok (.putfield 18, 3) := by decide +kernel
theorem dX6_init_28 : decode cX6_init 28 = .ok (.aload_n 0, 1) := by decide +kernel
theorem dX6_init_29 : decode cX6_init 29 = .ok (.bipush 19, 2) := by decide +kernel
theorem dX6_init_31 : decode cX6_init 31 = .ok (.newarray .int, 2) := by decide +kernel
theorem dX6_init_33 : decode cX6_init 33 = .ok (.putfield 21, 3) := by decide +kernel
theorem dX6_init_36 : decode cX6_init 36 = .ok (.return_, 1) := by decide +kernel
theorem dX6_copyFrom_0 : decode cX6_copyFrom 0 = .ok (.aload_n 0, 1) := by decide +kernel
theorem dX6_copyFrom_1 : decode cX6_copyFrom 1 = .ok (.aload_n 1, 1) := by decide +kernel
theorem dX6_copyFrom_2 : decode cX6_copyFrom 2 = .ok (.getfield 24, 3) := by decide +kernel
theorem dX6_copyFrom_5 : decode cX6_copyFrom 5 = .ok (.putfield 24, 3) := by decide +kernel
theorem dX6_copyFrom_8 : decode cX6_copyFrom 8 = .ok (.aload_n 1, 1) := by decide +kernel
theorem dX6_copyFrom_9 : decode cX6_copyFrom 9 = .ok (.getfield 11, 3) := by decide +kernel
theorem dX6_copyFrom_12 : decode cX6_copyFrom 12 = .ok (.iconst 0, 1) := by decide +kernel
theorem dX6_copyFrom_13 : decode cX6_copyFrom 13 = .ok (.aload_n 0, 1) := by decide +kernel
theorem dX6_copyFrom_14 : decode cX6_copyFrom 14 = .ok (.getfield 11, 3) := by decide +kernel
theorem dX6_copyFrom_17 : decode cX6_copyFrom 17 = .ok (.iconst 0, 1) := by decide +kernel
theorem dX6_copyFrom_18 : decode cX6_copyFrom 18 = .ok (.bipush 8, 2) := by decide +kernel
theorem dX6_copyFrom_20 : decode cX6_copyFrom 20 = .ok (.invokestatic 28, 3) := by decide +kernel
theorem dX6_copyFrom_23 : decode cX6_copyFrom 23 = .ok (.aload_n 1, 1) := by decide +kernel
theorem dX6_copyFrom_24 : decode cX6_copyFrom 24 = .ok (.getfield 15, 3) := by decide +kernel
theorem dX6_copyFrom_27 : decode cX6_copyFrom 27 = .ok (.iconst 0, 1) := by decide +kernel
theorem dX6_copyFrom_28 : decode cX6_copyFrom 28 = .ok (.aload_n 0, 1) := by decide +kernel
theorem dX6_copyFrom_29 : decode cX6_copyFrom 29 = .ok (.getfield 15, 3) := by decide +kernel
theorem dX6_copyFrom_32 : decode cX6_copyFrom 32 = .ok (.iconst 0, 1) := by decide +kernel
theorem dX6_copyFrom_33 : decode cX6_copyFrom 33 = .ok (.bipush 8, 2) := by decide +kernel
theorem dX6_copyFrom_35 : decode cX6_copyFrom 35 = .ok (.invokestatic 28, 3) := by decide +kernel
theorem dX6_copyFrom_38 : decode cX6_copyFrom 38 = .ok (.return_, 1) := by decide +kernel
theorem dX6_add_0 : decode cX6_add 0 = .ok (.aload_n 0, 1) := by decide +kernel
theorem dX6_add_1 : decode cX6_add 1 = .ok (.getfield 24, 3) := by decide +kernel
theorem dX6_add_4 : decode cX6_add 4 = .ok (.iconst 0, 1) := by decide +kernel
theorem dX6_add_5 : decode cX6_add 5 = .ok (.bipush 7, 2) := by decide +kernel
theorem dX6_add_7 : decode cX6_add 7 = .ok (.invokestatic 34, 3) := by decide +kernel
theorem dX6_add_10 : decode cX6_add 10 = .ok (.ifCond .ne 5, 3) := by decide +kernel
theorem dX6_add_13 : decode cX6_add 13 = .ok (.iconst 0, 1) := by decide +kernel
theorem dX6_add_14 : decode cX6_add 14 = .ok (.ireturn, 1) := by decide +kernel
theorem dX6_add_15 : decode cX6_add 15 = .ok (.aload_n 0, 1) := by decide +kernel
theorem dX6_add_16 : decode cX6_add 16 = .ok (.getfield 11, 3) := by decide +kernel
theorem dX6_add_19 : decode cX6_add 19 = .ok (.aload_n 0, 1) := by decide +kernel
theorem dX6_add_20 : decode cX6_add 20 = .ok (.getfield 24, 3) := by decide +kernel
theorem dX6_add_23 : decode cX6_add 23 = .ok (.iload_n 1, 1) := by decide +kernel
theorem dX6_add_24 : decode cX6_add 24 = .ok (.iastore, 1) := by decide +kernel
theorem dX6_add_25 : decode cX6_add 25 = .ok (.aload_n 0, 1) := by decide +kernel
theorem dX6_add_26 : decode cX6_add 26 = .ok (.getfield 15, 3) := by decide +kernel
theorem dX6_add_29 : decode cX6_add 29 = .ok (.aload_n 0, 1) := by decide +kernel
theorem dX6_add_30 : decode cX6_add 30 = .ok (.getfield 24, 3) := by decide +kernel
theorem dX6_add_33 : decode cX6_add 33 = .ok (.iload_n 2, 1) := by decide +kernel
theorem dX6_add_34 : decode cX6_add 34 = .ok (.iastore, 1) := by decide +kernel
theorem dX6_add_35 : decode cX6_add 35 = .ok (.aload_n 0, 1) := by decide +kernel
theorem dX6_add_36 : decode cX6_add 36 = .ok (.dup, 1) := by decide +kernel
theorem dX6_add_37 : decode cX6_add 37 = .ok (.getfield 24, 3) := by decide +kernel
theorem dX6_add_40 : decode cX6_add 40 = .ok (.iconst 1, 1) := by decide +kernel
theorem dX6_add_41 : decode cX6_add 41 = .ok (.iadd, 1) := by decide +kernel
theorem dX6_add_42 : decode cX6_add 42 = .ok (.putfield 24, 3) := by decide +kernel
theorem dX6_add_45 : decode cX6_add 45 = .ok (.iconst 1, 1) := by decide +kernel
theorem dX6_add_46 : decode cX6_add 46 = .ok (.ireturn, 1) := by decide +kernel
theorem dX6_sumOf_0 : decode cX6_sumOf 0 = .ok (.iload_n 1, 1) := by decide +kernel
theorem dX6_sumOf_1 : decode cX6_sumOf 1 = .ok (.iload_n 0, 1) := by decide +kernel
theorem dX6_sumOf_2 : decode cX6_sumOf 2 = .ok (.bipush 10, 2) := by decide +kernel
theorem dX6_sumOf_4 : decode cX6_sumOf 4 = .ok (.idiv, 1) := by decide +kernel
theorem dX6_sumOf_5 : decode cX6_sumOf 5 = .ok (.invokestatic 38, 3) := by decide +kernel
theorem dX6_sumOf_8 : decode cX6_sumOf 8 = .ok (.iload_n 1, 1) := by decide +kernel
theorem dX6_sumOf_9 : decode cX6_sumOf 9 = .ok (.iload_n 0, 1) := by decide +kernel
theorem dX6_sumOf_10 : decode cX6_sumOf 10 = .ok (.bipush 10, 2) := by decide +kernel
theorem dX6_sumOf_12 : decode cX6_sumOf 12 = .ok (.irem, 1) := by decide +kernel
theorem dX6_sumOf_13 : decode cX6_sumOf 13 = .ok (.invokestatic 38, 3) := by decide +kernel
theorem dX6_sumOf_16 : decode cX6_sumOf 16 = .ok (.iadd, 1) := by decide +kernel
theorem dX6_sumOf_17 : decode cX6_sumOf 17 = .ok (.ireturn, 1) := by decide +kernel
theorem dX6_fitsAll_0 : decode cX6_fitsAll 0 = .ok (.iconst 0, 1) := by decide +kernel
theorem dX6_fitsAll_1 : decode cX6_fitsAll 1 = .ok (.istore_n 2, 1) := by decide +kernel
theorem dX6_fitsAll_2 : decode cX6_fitsAll 2 = .ok (.iload_n 2, 1) := by decide +kernel
theorem dX6_fitsAll_3 : decode cX6_fitsAll 3 = .ok (.aload_n 0, 1) := by decide +kernel
theorem dX6_fitsAll_4 : decode cX6_fitsAll 4 = .ok (.getfield 24, 3) := by decide +kernel
theorem dX6_fitsAll_7 : decode cX6_fitsAll 7 = .ok (.if_icmp .ge 36, 3) := by decide +kernel
theorem dX6_fitsAll_10 : decode cX6_fitsAll 10 = .ok (.iload_n 2, 1) := by decide +kernel
theorem dX6_fitsAll_11 : decode cX6_fitsAll 11 = .ok (.bipush 8, 2) := by decide +kernel
theorem dX6_fitsAll_13 : decode cX6_fitsAll 13 = .ok (.if_icmp .ge 30, 3) := by decide +kernel
theorem dX6_fitsAll_16 : decode cX6_fitsAll 16 = .ok (.iload_n 1, 1) := by decide +kernel
theorem dX6_fitsAll_17 : decode cX6_fitsAll 17 = .ok (.aload_n 0, 1) := by decide +kernel
theorem dX6_fitsAll_18 : decode cX6_fitsAll 18 = .ok (.getfield 11, 3) := by decide +kernel
theorem dX6_fitsAll_21 : decode cX6_fitsAll 21 = .ok (.iload_n 2, 1) := by decide +kernel
theorem dX6_fitsAll_22 : decode cX6_fitsAll 22 = .ok (.iaload, 1) := by decide +kernel
theorem dX6_fitsAll_23 : decode cX6_fitsAll 23 = .ok (.invokestatic 44, 3) := by decide +kernel
theorem dX6_fitsAll_26 : decode cX6_fitsAll 26 = .ok (.aload_n 0, 1) := by decide +kernel
theorem dX6_fitsAll_27 : decode cX6_fitsAll 27 = .ok (.getfield 15, 3) := by decide +kernel
theorem dX6_fitsAll_30 : decode cX6_fitsAll 30 = .ok (.iload_n 2, 1) := by decide +kernel
theorem dX6_fitsAll_31 : decode cX6_fitsAll 31 = .ok (.iaload, 1) := by decide +kernel
theorem dX6_fitsAll_32 : decode cX6_fitsAll 32 = .ok (.if_icmp .eq 5, 3) := by decide +kernel
theorem dX6_fitsAll_35 : decode cX6_fitsAll 35 = .ok (.iconst 0, 1) := by decide +kernel
theorem dX6_fitsAll_36 : decode cX6_fitsAll 36 = .ok (.ireturn, 1) := by decide +kernel
theorem dX6_fitsAll_37 : decode cX6_fitsAll 37 = .ok (.iinc 2 1, 3) := by decide +kernel
theorem dX6_fitsAll_40 : decode cX6_fitsAll 40 = .ok (.goto (-38), 3) := by decide +kernel
theorem dX6_fitsAll_43 : decode cX6_fitsAll 43 = .ok (.iconst 1, 1) := by decide +kernel
theorem dX6_fitsAll_44 : decode cX6_fitsAll 44 = .ok (.ireturn, 1) := by decide +kernel
theorem dX6_findRows_0 : decode cX6_findRows 0 = .ok (.aload_n 0, 1) := by decide +kernel
theorem dX6_findRows_1 : decode cX6_findRows 1 = .ok (.iconst 0, 1) := by decide +kernel
theorem dX6_findRows_2 : decode cX6_findRows 2 = .ok (.putfield 47, 3) := by decide +kernel
theorem dX6_findRows_5 : decode cX6_findRows 5 = .ok (.iconst 0, 1) := by decide +kernel
theorem dX6_findRows_6 : decode cX6_findRows 6 = .ok (.istore_n 1, 1) := by decide +kernel
theorem dX6_findRows_7 : decode cX6_findRows 7 = .ok (.iload_n 1, 1) := by decide +kernel
theorem dX6_findRows_8 : decode cX6_findRows 8 = .ok (.bipush 100, 2) := by decide +kernel
theorem dX6_findRows_10 : decode cX6_findRows 10 = .ok (.if_icmp .ge 46, 3) := by decide +kernel
theorem dX6_findRows_13 : decode cX6_findRows 13 = .ok (.aload_n 0, 1) := by decide +kernel
theorem dX6_findRows_14 : decode cX6_findRows 14 = .ok (.iload_n 1, 1) := by decide +kernel
theorem dX6_findRows_15 : decode cX6_findRows 15 = .ok (.invokevirtual 50, 3) := by decide +kernel
theorem dX6_findRows_18 : decode cX6_findRows 18 = .ok (.ifCond .eq 32, 3) := by decide +kernel
theorem dX6_findRows_21 : decode cX6_findRows 21 = .ok (.aload_n 0, 1) := by decide +kernel
theorem dX6_findRows_22 : decode cX6_findRows 22 = .ok (.getfield 47, 3) := by decide +kernel
theorem dX6_findRows_25 : decode cX6_findRows 25 = .ok (.bipush 100, 2) := by decide +kernel
theorem dX6_findRows_27 : decode cX6_findRows 27 = .ok (.if_icmp .ge 23, 3) := by decide +kernel
theorem dX6_findRows_30 : decode cX6_findRows 30 = .ok (.aload_n 0, 1) := by decide +kernel
theorem dX6_findRows_31 : decode cX6_findRows 31 = .ok (.getfield 18, 3) := by decide +kernel
theorem dX6_findRows_34 : decode cX6_findRows 34 = .ok (.aload_n 0, 1) := by decide +kernel
theorem dX6_findRows_35 : decode cX6_findRows 35 = .ok (.getfield 47, 3) := by decide +kernel
theorem dX6_findRows_38 : decode cX6_findRows 38 = .ok (.iload_n 1, 1) := by decide +kernel
theorem dX6_findRows_39 : decode cX6_findRows 39 = .ok (.iastore, 1) := by decide +kernel
theorem dX6_findRows_40 : decode cX6_findRows 40 = .ok (.aload_n 0, 1) := by decide +kernel
theorem dX6_findRows_41 : decode cX6_findRows 41 = .ok (.dup, 1) := by decide +kernel
theorem dX6_findRows_42 : decode cX6_findRows 42 = .ok (.getfield 47, 3) := by decide +kernel
theorem dX6_findRows_45 : decode cX6_findRows 45 = .ok (.iconst 1, 1) := by decide +kernel
theorem dX6_findRows_46 : decode cX6_findRows 46 = .ok (.iadd, 1) := by decide +kernel
theorem dX6_findRows_47 : decode cX6_findRows 47 = .ok (.putfield 47, 3) := by decide +kernel
theorem dX6_findRows_50 : decode cX6_findRows 50 = .ok (.iinc 1 1, 3) := by decide +kernel
theorem dX6_findRows_53 : decode cX6_findRows 53 = .ok (.goto (-46), 3) := by decide +kernel
theorem dX6_findRows_56 : decode cX6_findRows 56 = .ok (.return_, 1) := by decide +kernel
theorem dX6_rowAt_0 : decode cX6_rowAt 0 = .ok (.iload_n 1, 1) := by decide +kernel
theorem dX6_rowAt_1 : decode cX6_rowAt 1 = .ok (.ifCond .lt 26, 3) := by decide +kernel
theorem dX6_rowAt_4 : decode cX6_rowAt 4 = .ok (.iload_n 1, 1) := by decide +kernel
theorem dX6_rowAt_5 : decode cX6_rowAt 5 = .ok (.aload_n 0, 1) := by decide +kernel
theorem dX6_rowAt_6 : decode cX6_rowAt 6 = .ok (.getfield 47, 3) := by decide +kernel
theorem dX6_rowAt_9 : decode cX6_rowAt 9 = .ok (.if_icmp .ge 18, 3) := by decide +kernel
theorem dX6_rowAt_12 : decode cX6_rowAt 12 = .ok (.iload_n 1, 1) := by decide +kernel
theorem dX6_rowAt_13 : decode cX6_rowAt 13 = .ok (.bipush 100, 2) := by decide +kernel
theorem dX6_rowAt_15 : decode cX6_rowAt 15 = .ok (.if_icmp .ge 12, 3) := by decide +kernel
theorem dX6_rowAt_18 : decode cX6_rowAt 18 = .ok (.aload_n 0, 1) := by decide +kernel
theorem dX6_rowAt_19 : decode cX6_rowAt 19 = .ok (.getfield 18, 3) := by decide +kernel
theorem dX6_rowAt_22 : decode cX6_rowAt 22 = .ok (.iload_n 1, 1) := by decide +kernel
theorem dX6_rowAt_23 : decode cX6_rowAt 23 = .ok (.iaload, 1) := by decide +kernel
theorem dX6_rowAt_24 : decode cX6_rowAt 24 = .ok (.goto 5, 3) := by decide +kernel
theorem dX6_rowAt_27 : decode cX6_rowAt 27 = .ok (.bipush (-6), 2) := by decide +kernel
theorem dX6_rowAt_29 : decode cX6_rowAt 29 = .ok (.ireturn, 1) := by decide +kernel
theorem dX6_mostLeft_0 : decode cX6_mostLeft 0 = .ok (.iconst 0, 1) := by decide +kernel
theorem dX6_mostLeft_1 : decode cX6_mostLeft 1 = .ok (.istore_n 2, 1) := by decide +kernel
theorem dX6_mostLeft_2 : decode cX6_mostLeft 2 = .ok (.iload_n 2, 1) := by decide +kernel
theorem dX6_mostLeft_3 : decode cX6_mostLeft 3 = .ok (.bipush 19, 2) := by decide +kernel
theorem dX6_mostLeft_5 : decode cX6_mostLeft 5 = .ok (.if_icmp .ge 16, 3) := by decide +kernel
theorem dX6_mostLeft_8 : decode cX6_mostLeft 8 = .ok (.aload_n 0, 1) := by decide +kernel
theorem dX6_mostLeft_9 : decode cX6_mostLeft 9 = .ok (.getfield 21, 3) := by decide +kernel
theorem dX6_mostLeft_12 : decode cX6_mostLeft 12 = .ok (.iload_n 2, 1) := by decide +kernel
theorem dX6_mostLeft_13 : decode cX6_mostLeft 13 = .ok (.iconst 0, 1) := by decide +kernel
theorem dX6_mostLeft_14 : decode cX6_mostLeft 14 = .ok (.iastore, 1) := by decide +kernel
theorem dX6_mostLeft_15 : decode cX6_mostLeft 15 = .ok (.iinc 2 1, 3) := by decide +kernel
theorem dX6_mostLeft_18 : decode cX6_mostLeft 18 = .ok (.goto (-16), 3) := by decide +kernel
theorem dX6_mostLeft_21 : decode cX6_mostLeft 21 = .ok (.iconst 0, 1) := by decide +kernel
theorem dX6_mostLeft_22 : decode cX6_mostLeft 22 = .ok (.istore_n 2, 1) := by decide +kernel
theorem dX6_mostLeft_23 : decode cX6_mostLeft 23 = .ok (.iconst 0, 1) := by decide +kernel
theorem dX6_mostLeft_24 : decode cX6_mostLeft 24 = .ok (.istore_n 3, 1) := by decide +kernel
theorem dX6_mostLeft_25 : decode cX6_mostLeft 25 = .ok (.iload_n 3, 1) := by decide +kernel
theorem dX6_mostLeft_26 : decode cX6_mostLeft 26 = .ok (.aload_n 0, 1) := by decide +kernel
theorem dX6_mostLeft_27 : decode cX6_mostLeft 27 = .ok (.getfield 47, 3) := by decide +kernel
theorem dX6_mostLeft_30 : decode cX6_mostLeft 30 = .ok (.if_icmp .ge 54, 3) := by decide +kernel
theorem dX6_mostLeft_33 : decode cX6_mostLeft 33 = .ok (.aload_n 0, 1) := by decide +kernel
theorem dX6_mostLeft_34 : decode cX6_mostLeft 34 = .ok (.iload_n 3, 1) := by decide +kernel
theorem dX6_mostLeft_35 : decode cX6_mostLeft 35 = .ok (.invokevirtual 54, 3) := by decide +kernel
theorem dX6_mostLeft_38 : decode cX6_mostLeft 38 = .ok (.iload_n 1, 1) := by decide +kernel
theorem dX6_mostLeft_39 : decode cX6_mostLeft 39 = .ok (.invokestatic 44, 3) := by decide +kernel
theorem dX6_mostLeft_42 : decode cX6_mostLeft 42 = .ok (.istore 4, 2) := by decide +kernel
theorem dX6_mostLeft_44 : decode cX6_mostLeft 44 = .ok (.iload 4, 2) := by decide +kernel
theorem dX6_mostLeft_46 : decode cX6_mostLeft 46 = .ok (.iconst 0, 1) := by decide +kernel
theorem dX6_mostLeft_47 : decode cX6_mostLeft 47 = .ok (.bipush 18, 2) := by decide +kernel
theorem dX6_mostLeft_49 : decode cX6_mostLeft 49 = .ok (.invokestatic 34, 3) := by decide +kernel
theorem dX6_mostLeft_52 : decode cX6_mostLeft 52 = .ok (.ifCond .eq 26, 3) := by decide +kernel
theorem dX6_mostLeft_55 : decode cX6_mostLeft 55 = .ok (.aload_n 0, 1) := by decide +kernel
theorem dX6_mostLeft_56 : decode cX6_mostLeft 56 = .ok (.getfield 21, 3) := by decide +kernel
theorem dX6_mostLeft_59 : decode cX6_mostLeft 59 = .ok (.iload 4, 2) := by decide +kernel
theorem dX6_mostLeft_61 : decode cX6_mostLeft 61 = .ok (.dup2, 1) := by decide +kernel
theorem dX6_mostLeft_62 : decode cX6_mostLeft 62 = .ok (.iaload, 1) := by decide +kernel
theorem dX6_mostLeft_63 : decode cX6_mostLeft 63 = .ok (.iconst 1, 1) := by decide +kernel
theorem dX6_mostLeft_64 : decode cX6_mostLeft 64 = .ok (.iadd, 1) := by decide +kernel
theorem dX6_mostLeft_65 : decode cX6_mostLeft 65 = .ok (.iastore, 1) := by decide +kernel
theorem dX6_mostLeft_66 : decode cX6_mostLeft 66 = .ok (.iload_n 2, 1) := by decide +kernel
theorem dX6_mostLeft_67 : decode cX6_mostLeft 67 = .ok (.aload_n 0, 1) := by decide +kernel
theorem dX6_mostLeft_68 : decode cX6_mostLeft 68 = .ok (.getfield 21, 3) := by decide +kernel
theorem dX6_mostLeft_71 : decode cX6_mostLeft 71 = .ok (.iload 4, 2) := by decide +kernel
theorem dX6_mostLeft_73 : decode cX6_mostLeft 73 = .ok (.iaload, 1) := by decide +kernel
theorem dX6_mostLeft_74 : decode cX6_mostLeft 74 = .ok (.invokestatic 58, 3) := by decide +kernel
theorem dX6_mostLeft_77 : decode cX6_mostLeft 77 = .ok (.istore_n 2, 1) := by decide +kernel
theorem dX6_mostLeft_78 : decode cX6_mostLeft 78 = .ok (.iinc 3 1, 3) := by decide +kernel
theorem dX6_mostLeft_81 : decode cX6_mostLeft 81 = .ok (.goto (-56), 3) := by decide +kernel
theorem dX6_mostLeft_84 : decode cX6_mostLeft 84 = .ok (.iload_n 2, 1) := by decide +kernel
theorem dX6_mostLeft_85 : decode cX6_mostLeft 85 = .ok (.ireturn, 1) := by decide +kernel
theorem dX7_init_0 : decode cX7_init 0 = .ok (.aload_n 0, 1) := by decide +kernel
theorem dX7_init_1 : decode cX7_init 1 = .ok (.invokespecial 3, 3) := by decide +kernel
theorem dX7_init_4 : decode cX7_init 4 = .ok (.aload_n 0, 1) := by decide +kernel
theorem dX7_init_5 : decode cX7_init 5 = .ok (.new 9, 3) := by decide +kernel
theorem dX7_init_8 : decode cX7_init 8 = .ok (.dup, 1) := by decide +kernel
theorem dX7_init_9 : decode cX7_init 9 = .ok (.invokespecial 11, 3) := by decide +kernel
theorem dX7_init_12 : decode cX7_init 12 = .ok (.putfield 12, 3) := by decide +kernel
theorem dX7_init_15 : decode cX7_init 15 = .ok (.return_, 1) := by decide +kernel
theorem dX7_start_0 : decode cX7_start 0 = .ok (.aload_n 0, 1) := by decide +kernel
theorem dX7_start_1 : decode cX7_start 1 = .ok (.getfield 12, 3) := by decide +kernel
theorem dX7_start_4 : decode cX7_start 4 = .ok (.aload_n 1, 1) := by decide +kernel
theorem dX7_start_5 : decode cX7_start 5 = .ok (.invokevirtual 18, 3) := by decide +kernel
theorem dX7_start_8 : decode cX7_start 8 = .ok (.aload_n 0, 1) := by decide +kernel
theorem dX7_start_9 : decode cX7_start 9 = .ok (.iconst 0, 1) := by decide +kernel
theorem dX7_start_10 : decode cX7_start 10 = .ok (.putfield 22, 3) := by decide +kernel
theorem dX7_start_13 : decode cX7_start 13 = .ok (.aload_n 0, 1) := by decide +kernel
theorem dX7_start_14 : decode cX7_start 14 = .ok (.bipush (-6), 2) := by decide +kernel
theorem dX7_start_16 : decode cX7_start 16 = .ok (.putfield 26, 3) := by decide +kernel
theorem dX7_start_19 : decode cX7_start 19 = .ok (.aload_n 0, 1) := by decide +kernel
theorem dX7_start_20 : decode cX7_start 20 = .ok (.bipush (-6), 2) := by decide +kernel
theorem dX7_start_22 : decode cX7_start 22 = .ok (.putfield 29, 3) := by decide +kernel
theorem dX7_start_25 : decode cX7_start 25 = .ok (.aload_n 0, 1) := by decide +kernel
theorem dX7_start_26 : decode cX7_start 26 = .ok (.iconst 0, 1) := by decide +kernel
theorem dX7_start_27 : decode cX7_start 27 = .ok (.putfield 32, 3) := by decide +kernel
theorem dX7_start_30 : decode cX7_start 30 = .ok (.aload_n 0, 1) := by decide +kernel
theorem dX7_start_31 : decode cX7_start 31 = .ok (.bipush (-6), 2) := by decide +kernel
theorem dX7_start_33 : decode cX7_start 33 = .ok (.putfield 35, 3) := by decide +kernel
theorem dX7_start_36 : decode cX7_start 36 = .ok (.aload_n 0, 1) := by decide +kernel
theorem dX7_start_37 : decode cX7_start 37 = .ok (.bipush (-6), 2) := by decide +kernel
theorem dX7_start_39 : decode cX7_start 39 = .ok (.putfield 38, 3) := by decide +kernel
theorem dX7_start_42 : decode cX7_start 42 = .ok (.return_, 1) := by decide +kernel
theorem dX7_play_0 : decode cX7_play 0 = .ok (.aload_n 0, 1) := by decide +kernel
theorem dX7_play_1 : decode cX7_play 1 = .ok (.aload_n 2, 1) := by decide +kernel
theorem dX7_play_2 : decode cX7_play 2 = .ok (.invokevirtual 41, 3) := by decide +kernel
theorem dX7_play_5 : decode cX7_play 5 = .ok (.aload_n 1, 1) := by decide +kernel
theorem dX7_play_6 : decode cX7_play 6 = .ok (.invokevirtual 44, 3) := by decide +kernel
theorem dX7_play_9 : decode cX7_play 9 = .ok (.bipush (-6), 2) := by decide +kernel
theorem dX7_play_11 : decode cX7_play 11 = .ok (.if_icmp .eq 6, 3) := by decide +kernel
theorem dX7_play_14 : decode cX7_play 14 = .ok (.bipush (-5), 2) := by decide +kernel
theorem dX7_play_16 : decode cX7_play 16 = .ok (.ireturn, 1) := by decide +kernel
theorem dX7_play_17 : decode cX7_play 17 = .ok (.iconst 0, 1) := by decide +kernel
theorem dX7_play_18 : decode cX7_play 18 = .ok (.istore_n 3, 1) := by decide +kernel
theorem dX7_play_19 : decode cX7_play 19 = .ok (.iload_n 3, 1) := by decide +kernel
theorem dX7_play_20 : decode cX7_play 20 = .ok (.aload_n 1, 1) := by decide +kernel
theorem dX7_play_21 : decode cX7_play 21 = .ok (.getfield 50, 3) := by decide +kernel
theorem dX7_play_24 : decode cX7_play 24 = .ok (.if_icmp .ge 127, 3) := by decide +kernel
theorem dX7_play_27 : decode cX7_play 27 = .ok (.aload_n 0, 1) := by decide +kernel
theorem dX7_play_28 : decode cX7_play 28 = .ok (.getfield 12, 3) := by decide +kernel
theorem dX7_play_31 : decode cX7_play 31 = .ok (.invokevirtual 53, 3) := by decide +kernel
theorem dX7_play_34 : decode cX7_play 34 = .ok (.istore 4, 2) := by decide +kernel
theorem dX7_play_36 : decode cX7_play 36 = .ok (.aload_n 0, 1) := by decide +kernel
theorem dX7_play_37 : decode cX7_play 37 = .ok (.aload_n 1, 1) := by decide +kernel
theorem dX7_play_38 : decode cX7_play 38 = .ok (.iload_n 3, 1) := by decide +kernel
theorem dX7_play_39 : decode cX7_play 39 = .ok (.invokevirtual 56, 3) := by decide +kernel
theorem dX7_play_42 : decode cX7_play 42 = .ok (.aload_n 1, 1) := by decide +kernel
theorem dX7_play_43 : decode cX7_play 43 = .ok (.iload_n 3, 1) := by decide +kernel
theorem dX7_play_44 : decode cX7_play 44 = .ok (.iconst 1, 1) := by decide +kernel
theorem dX7_play_45 : decode cX7_play 45 = .ok (.iadd, 1) := by decide +kernel
theorem dX7_play_46 : decode cX7_play 46 = .ok (.invokevirtual 56, 3) := by decide +kernel
theorem dX7_play_49 : decode cX7_play 49 = .ok (.aload_n 1, 1) := by decide +kernel
theorem dX7_play_50 : decode cX7_play 50 = .ok (.iload_n 3, 1) := by decide +kernel
theorem dX7_play_51 : decode cX7_play 51 = .ok (.iconst 2, 1) := by decide +kernel
theorem dX7_play_52 : decode cX7_play 52 = .ok (.iadd, 1) := by decide +kernel
theorem dX7_play_53 : decode cX7_play 53 = .ok (.invokevirtual 56, 3) := by decide +kernel
theorem dX7_play_56 : decode cX7_play 56 = .ok (.invokevirtual 60, 3) := by decide +kernel
theorem dX7_play_59 : decode cX7_play 59 = .ok (.istore 5, 2) := by decide +kernel
theorem dX7_play_61 : decode cX7_play 61 = .ok (.iload 5, 2) := by decide +kernel
theorem dX7_play_63 : decode cX7_play 63 = .ok (.ifCond .eq 20, 3) := by decide +kernel
theorem dX7_play_66 : decode cX7_play 66 = .ok (.aload_n 0, 1) := by decide +kernel
theorem dX7_play_67 : decode cX7_play 67 = .ok (.aload_n 0, 1) := by decide +kernel
theorem dX7_play_68 : decode cX7_play 68 = .ok (.getfield 22, 3) := by decide +kernel
theorem dX7_play_71 : decode cX7_play 71 = .ok (.putfield 26, 3) := by decide +kernel
theorem dX7_play_74 : decode cX7_play 74 = .ok (.aload_n 0, 1) := by decide +kernel
theorem dX7_play_75 : decode cX7_play 75 = .ok (.iload 5, 2) := by decide +kernel
theorem dX7_play_77 : decode cX7_play 77 = .ok (.putfield 29, 3) := by decide +kernel
theorem dX7_play_80 : decode cX7_play 80 = .ok (.bipush (-3), 2) := by decide +kernel
theorem dX7_play_82 : decode cX7_play 82 = .ok (.ireturn, 1) := by decide +kernel
theorem dX7_play_83 : decode cX7_play 83 = .ok (.aload_n 0, 1) := by decide +kernel
theorem dX7_play_84 : decode cX7_play 84 = .ok (.aload_n 0, 1) := by decide +kernel
theorem dX7_play_85 : decode cX7_play 85 = .ok (.getfield 12, 3) := by decide +kernel
theorem dX7_play_88 : decode cX7_play 88 = .ok (.invokevirtual 53, 3) := by decide +kernel
theorem dX7_play_91 : decode cX7_play 91 = .ok (.iload 4, 2) := by decide +kernel
theorem dX7_play_93 : decode cX7_play 93 = .ok (.iconst (-1), 1) := by decide +kernel
theorem dX7_play_94 : decode cX7_play 94 = .ok (.ixor, 1) := by decide +kernel
theorem dX7_play_95 : decode cX7_play 95 = .ok (.iand, 1) := by decide +kernel
theorem dX7_play_96 : decode cX7_play 96 = .ok (.invokevirtual 64, 3) := by decide +kernel
theorem dX7_play_99 : decode cX7_play 99 = .ok (.aload_n 1, 1) := by decide +kernel
theorem dX7_play_100 : decode cX7_play 100 = .ok (.iload_n 3, 1) := by decide +kernel
theorem dX7_play_101 : decode cX7_play 101 = .ok (.invokevirtual 56, 3) := by decide +kernel
theorem dX7_play_104 : decode cX7_play 104 = .ok (.invokestatic 68, 3) := by decide +kernel
theorem dX7_play_107 : decode cX7_play 107 = .ok (.ifCond .eq 13, 3) := by decide +kernel
theorem dX7_play_110 : decode cX7_play 110 = .ok (.aload_n 0, 1) := by decide +kernel
theorem dX7_play_111 : decode cX7_play 111 = .ok (.dup, 1) := by decide +kernel
theorem dX7_play_112 : decode cX7_play 112 = .ok (.getfield 32, 3) := by decide +kernel
theorem dX7_play_115 : decode cX7_play 115 = .ok (.iconst 1, 1) := by decide +kernel
theorem dX7_play_116 : decode cX7_play 116 = .ok (.iadd, 1) := by decide +kernel
theorem dX7_play_117 : decode cX7_play 117 = .ok (.putfield 32, 3) := by decide +kernel
theorem dX7_play_120 : decode cX7_play 120 = .ok (.aload_n 0, 1) := by decide +kernel
theorem dX7_play_121 : decode cX7_play 121 = .ok (.dup, 1) := by decide +kernel
theorem dX7_play_122 : decode cX7_play 122 = .ok (.getfield 22, 3) := by decide +kernel
theorem dX7_play_125 : decode cX7_play 125 = .ok (.iconst 1, 1) := by decide +kernel
theorem dX7_play_126 : decode cX7_play 126 = .ok (.iadd, 1) := by decide +kernel
theorem dX7_play_127 : decode cX7_play 127 = .ok (.putfield 22, 3) := by decide +kernel
theorem dX7_play_130 : decode cX7_play 130 = .ok (.iload_n 3, 1) := by decide +kernel
theorem dX7_play_131 : decode cX7_play 131 = .ok (.aload_n 1, 1) := by decide +kernel
theorem dX7_play_132 : decode cX7_play 132 = .ok (.iload_n 3, 1) := by decide +kernel
theorem dX7_play_133 : decode cX7_play 133 = .ok (.invokevirtual 56, 3) := by decide +kernel
theorem dX7_play_136 : decode cX7_play 136 = .ok (.aload_n 1, 1) := by decide +kernel
theorem dX7_play_137 : decode cX7_play 137 = .ok (.iload_n 3, 1) := by decide +kernel
theorem dX7_play_138 : decode cX7_play 138 = .ok (.iconst 1, 1) := by decide +kernel
theorem dX7_play_139 : decode cX7_play 139 = .ok (.iadd, 1) := by decide +kernel
theorem dX7_play_140 : decode cX7_play 140 = .ok (.invokevirtual 56, 3) := by decide +kernel
theorem dX7_play_143 : decode cX7_play 143 = .ok (.invokestatic 72, 3) := by decide +kernel
theorem dX7_play_146 : decode cX7_play 146 = .ok (.iadd, 1) := by decide +kernel
theorem dX7_play_147 : decode cX7_play 147 = .ok (.istore_n 3, 1) := by decide +kernel
theorem dX7_play_148 : decode cX7_play 148 = .ok (.goto (-129), 3) := by decide +kernel
theorem dX7_play_151 : decode cX7_play 151 = .ok (.iconst 0, 1) := by decide +kernel
theorem dX7_play_152 : decode cX7_play 152 = .ok (.ireturn, 1) := by decide +kernel
theorem dX7_noteFreed_0 : decode cX7_noteFreed 0 = .ok (.iload_n 1, 1) := by decide +kernel
theorem dX7_noteFreed_1 : decode cX7_noteFreed 1 = .ok (.ifCond .eq 28, 3) := by decide +kernel
theorem dX7_noteFreed_4 : decode cX7_noteFreed 4 = .ok (.aload_n 0, 1) := by decide +kernel
theorem dX7_noteFreed_5 : decode cX7_noteFreed 5 = .ok (.getfield 35, 3) := by decide +kernel
theorem dX7_noteFreed_8 : decode cX7_noteFreed 8 = .ok (.bipush (-6), 2) := by decide +kernel
theorem dX7_noteFreed_10 : decode cX7_noteFreed 10 = .ok (.if_icmp .ne 19, 3) := by decide +kernel
theorem dX7_noteFreed_13 : decode cX7_noteFreed 13 = .ok (.aload_n 0, 1) := by decide +kernel
theorem dX7_noteFreed_14 : decode cX7_noteFreed 14 = .ok (.aload_n 0, 1) := by decide +kernel
theorem dX7_noteFreed_15 : decode cX7_noteFreed 15 = .ok (.getfield 22, 3) := by decide +kernel
theorem dX7_noteFreed_18 : decode cX7_noteFreed 18 = .ok (.putfield 35, 3) := by decide +kernel
theorem dX7_noteFreed_21 : decode cX7_noteFreed 21 = .ok (.aload_n 0, 1) := by decide +kernel
theorem dX7_noteFreed_22 : decode cX7_noteFreed 22 = .ok (.iload_n 1, 1) := by decide +kernel
theorem dX7_noteFreed_23 : decode cX7_noteFreed 23 = .ok (.invokestatic 76, 3) := by decide +kernel
theorem dX7_noteFreed_26 : decode cX7_noteFreed 26 = .ok (.putfield 38, 3) := by decide +kernel
theorem dX7_noteFreed_29 : decode cX7_noteFreed 29 = .ok (.return_, 1) := by decide +kernel
theorem dX7_act_0 : decode cX7_act 0 = .ok (.iload_n 1, 1) := by decide +kernel
theorem dX7_act_1 : decode cX7_act 1 = .ok (.bipush 46, 2) := by decide +kernel
theorem dX7_act_3 : decode cX7_act 3 = .ok (.if_icmp .ne 11, 3) := by decide +kernel
theorem dX7_act_6 : decode cX7_act 6 = .ok (.aload_n 0, 1) := by decide +kernel
theorem dX7_act_7 : decode cX7_act 7 = .ok (.getfield 12, 3) := by decide +kernel
theorem dX7_act_10 : decode cX7_act 10 = .ok (.invokevirtual 81, 3) := by decide +kernel
theorem dX7_act_13 : decode cX7_act 13 = .ok (.ireturn, 1) := by decide +kernel
theorem dX7_act_14 : decode cX7_act 14 = .ok (.iload_n 1, 1) := by decide +kernel
theorem dX7_act_15 : decode cX7_act 15 = .ok (.invokestatic 68, 3) := by decide +kernel
theorem dX7_act_18 : decode cX7_act 18 = .ok (.ifCond .eq 15, 3) := by decide +kernel
theorem dX7_act_21 : decode cX7_act 21 = .ok (.aload_n 0, 1) := by decide +kernel
theorem dX7_act_22 : decode cX7_act 22 = .ok (.getfield 12, 3) := by decide +kernel
theorem dX7_act_25 : decode cX7_act 25 = .ok (.iload_n 1, 1) := by decide +kernel
theorem dX7_act_26 : decode cX7_act 26 = .ok (.bipush 48, 2) := by decide +kernel
theorem dX7_act_28 : decode cX7_act 28 = .ok (.isub, 1) := by decide +kernel
theorem dX7_act_29 : decode cX7_act 29 = .ok (.invokevirtual 84, 3) := by decide +kernel
theorem dX7_act_32 : decode cX7_act 32 = .ok (.ireturn, 1) := by decide +kernel
theorem dX7_act_33 : decode cX7_act 33 = .ok (.iload_n 1, 1) := by decide +kernel
theorem dX7_act_34 : decode cX7_act 34 = .ok (.bipush 65, 2) := by decide +kernel
theorem dX7_act_36 : decode cX7_act 36 = .ok (.isub, 1) := by decide +kernel
theorem dX7_act_37 : decode cX7_act 37 = .ok (.istore 4, 2) := by decide +kernel
theorem dX7_act_39 : decode cX7_act 39 = .ok (.iload_n 2, 1) := by decide +kernel
theorem dX7_act_40 : decode cX7_act 40 = .ok (.lookupswitch 77 #[(42, 53), (43, 36), (61, 63)], 36) := by decide +kernel
theorem dX7_act_76 : decode cX7_act 76 = .ok (.aload_n 0, 1) := by decide +kernel
theorem dX7_act_77 : decode cX7_act 77 = .ok (.getfield 12, 3) := by decide +kernel
theorem dX7_act_80 : decode cX7_act 80 = .ok (.iload 4, 2) := by decide +kernel
theorem dX7_act_82 : decode cX7_act 82 = .ok (.bipush 10, 2) := by decide +kernel
theorem dX7_act_84 : decode cX7_act 84 = .ok (.iload_n 3, 1) := by decide +kernel
theorem dX7_act_85 : decode cX7_act 85 = .ok (.bipush 48, 2) := by decide +kernel
theorem dX7_act_87 : decode cX7_act 87 = .ok (.isub, 1) := by decide +kernel
theorem dX7_act_88 : decode cX7_act 88 = .ok (.imul, 1) := by decide +kernel
theorem dX7_act_89 : decode cX7_act 89 = .ok (.invokevirtual 87, 3) := by decide +kernel
theorem dX7_act_92 : decode cX7_act 92 = .ok (.ireturn, 1) := by decide +kernel
theorem dX7_act_93 : decode cX7_act 93 = .ok (.aload_n 0, 1) := by decide +kernel
theorem dX7_act_94 : decode cX7_act 94 = .ok (.getfield 12, 3) := by decide +kernel
theorem dX7_act_97 : decode cX7_act 97 = .ok (.iload 4, 2) := by decide +kernel
theorem dX7_act_99 : decode cX7_act 99 = .ok (.invokevirtual 90, 3) := by decide +kernel
theorem dX7_act_102 : decode cX7_act 102 = .ok (.ireturn, 1) := by decide +kernel
theorem dX7_act_103 : decode cX7_act 103 = .ok (.aload_n 0, 1) := by decide +kernel
theorem dX7_act_104 : decode cX7_act 104 = .ok (.getfield 12, 3) := by decide +kernel
theorem dX7_act_107 : decode cX7_act 107 = .ok (.iload 4, 2) := by decide +kernel
theorem dX7_act_109 : decode cX7_act 109 = .ok (.iload_n 3, 1) := by decide +kernel
theorem dX7_act_110 : decode cX7_act 110 = .ok (.bipush 65, 2) := by decide +kernel
theorem dX7_act_112 : decode cX7_act 112 = .ok (.isub, 1) := by decide +kernel
theorem dX7_act_113 : decode cX7_act 113 = .ok (.invokevirtual 93, 3) := by decide +kernel
theorem dX7_act_116 : decode cX7_act 116 = .ok (.ireturn, 1) := by decide +kernel
theorem dX7_act_117 : decode cX7_act 117 = .ok (.aload_n 0, 1) := by decide +kernel
theorem dX7_act_118 : decode cX7_act 118 = .ok (.getfield 12, 3) := by decide +kernel
theorem dX7_act_121 : decode cX7_act 121 = .ok (.iload 4, 2) := by decide +kernel
theorem dX7_act_123 : decode cX7_act 123 = .ok (.invokevirtual 96, 3) := by decide +kernel
theorem dX7_act_126 : decode cX7_act 126 = .ok (.ireturn, 1) := by decide +kernel
theorem dX7_draw_0 : decode cX7_draw 0 = .ok (.iload_n 1, 1) := by decide +kernel
theorem dX7_draw_1 : decode cX7_draw 1 = .ok (.bipush 8, 2) := by decide +kernel
theorem dX7_draw_3 : decode cX7_draw 3 = .ok (.idiv, 1) := by decide +kernel
theorem dX7_draw_4 : decode cX7_draw 4 = .ok (.istore_n 2, 1) := by decide +kernel
theorem dX7_draw_5 : decode cX7_draw 5 = .ok (.iload_n 1, 1) := by decide +kernel
theorem dX7_draw_6 : decode cX7_draw 6 = .ok (.bipush 64, 2) := by decide +kernel
theorem dX7_draw_8 : decode cX7_draw 8 = .ok (.idiv, 1) := by decide +kernel
theorem dX7_draw_9 : decode cX7_draw 9 = .ok (.istore_n 3, 1) := by decide +kernel
theorem dX7_draw_10 : decode cX7_draw 10 = .ok (.iload_n 1, 1) := by decide +kernel
theorem dX7_draw_11 : decode cX7_draw 11 = .ok (.bipush 8, 2) := by decide +kernel
theorem dX7_draw_13 : decode cX7_draw 13 = .ok (.irem, 1) := by decide +kernel
theorem dX7_draw_14 : decode cX7_draw 14 = .ok (.tableswitch 107 0 6 #[42, 42, 42, 57, 68, 68, 92], 42) := by decide +kernel
theorem dX7_draw_56 : decode cX7_draw 56 = .ok (.aload_n 0, 1) := by decide +kernel
theorem dX7_draw_57 : decode cX7_draw 57 = .ok (.getfield 12, 3) := by decide +kernel
theorem dX7_draw_60 : decode cX7_draw 60 = .ok (.iload_n 2, 1) := by decide +kernel
theorem dX7_draw_61 : decode cX7_draw 61 = .ok (.bipush 6, 2) := by decide +kernel
theorem dX7_draw_63 : decode cX7_draw 63 = .ok (.irem, 1) := by decide +kernel
theorem dX7_draw_64 : decode cX7_draw 64 = .ok (.invokevirtual 84, 3) := by decide +kernel
theorem dX7_draw_67 : decode cX7_draw 67 = .ok (.pop, 1) := by decide +kernel
theorem dX7_draw_68 : decode cX7_draw 68 = .ok (.goto 69, 3) := by decide +kernel
theorem dX7_draw_71 : decode cX7_draw 71 = .ok (.aload_n 0, 1) := by decide +kernel
theorem dX7_draw_72 : decode cX7_draw 72 = .ok (.getfield 12, 3) := by decide +kernel
theorem dX7_draw_75 : decode cX7_draw 75 = .ok (.invokevirtual 81, 3) := by decide +kernel
theorem dX7_draw_78 : decode cX7_draw 78 = .ok (.pop, 1) := by decide +kernel
theorem dX7_draw_79 : decode cX7_draw 79 = .ok (.goto 58, 3) := by decide +kernel
theorem dX7_draw_82 : decode cX7_draw 82 = .ok (.aload_n 0, 1) := by decide +kernel
theorem dX7_draw_83 : decode cX7_draw 83 = .ok (.getfield 12, 3) := by decide +kernel
theorem dX7_draw_86 : decode cX7_draw 86 = .ok (.iload_n 2, 1) := by decide +kernel
theorem dX7_draw_87 : decode cX7_draw 87 = .ok (.bipush 8, 2) := by decide +kernel
theorem dX7_draw_89 : decode cX7_draw 89 = .ok (.irem, 1) := by decide +kernel
theorem dX7_draw_90 : decode cX7_draw 90 = .ok (.bipush 10, 2) := by decide +kernel
theorem dX7_draw_92 : decode cX7_draw 92 = .ok (.iconst 1, 1) := by decide +kernel
theorem dX7_draw_93 : decode cX7_draw 93 = .ok (.iload_n 3, 1) := by decide +kernel
theorem dX7_draw_94 : decode cX7_draw 94 = .ok (.bipush 9, 2) := by decide +kernel
theorem dX7_draw_96 : decode cX7_draw 96 = .ok (.irem, 1) := by decide +kernel
theorem dX7_draw_97 : decode cX7_draw 97 = .ok (.iadd, 1) := by decide +kernel
theorem dX7_draw_98 : decode cX7_draw 98 = .ok (.imul, 1) := by decide +kernel
theorem dX7_draw_99 : decode cX7_draw 99 = .ok (.invokevirtual 87, 3) := by decide +kernel
theorem dX7_draw_102 : decode cX7_draw 102 = .ok (.pop, 1) := by decide +kernel
theorem dX7_draw_103 : decode cX7_draw 103 = .ok (.goto 34, 3) := by decide +kernel
theorem dX7_draw_106 : decode cX7_draw 106 = .ok (.aload_n 0, 1) := by decide +kernel
theorem dX7_draw_107 : decode cX7_draw 107 = .ok (.getfield 12, 3) := by decide +kernel
theorem dX7_draw_110 : decode cX7_draw 110 = .ok (.iload_n 2, 1) := by decide +kernel
theorem dX7_draw_111 : decode cX7_draw 111 = .ok (.bipush 8, 2) := by decide +kernel
theorem dX7_draw_113 : decode cX7_draw 113 = .ok (.irem, 1) := by decide +kernel
theorem dX7_draw_114 : decode cX7_draw 114 = .ok (.invokevirtual 90, 3) := by decide +kernel
theorem dX7_draw_117 : decode cX7_draw 117 = .ok (.pop, 1) := by decide +kernel
theorem dX7_draw_118 : decode cX7_draw 118 = .ok (.goto 19, 3) := by decide +kernel
theorem dX7_draw_121 : decode cX7_draw 121 = .ok (.aload_n 0, 1) := by decide +kernel
theorem dX7_draw_122 : decode cX7_draw 122 = .ok (.getfield 12, 3) := by decide +kernel
theorem dX7_draw_125 : decode cX7_draw 125 = .ok (.iload_n 2, 1) := by decide +kernel
theorem dX7_draw_126 : decode cX7_draw 126 = .ok (.bipush 8, 2) := by decide +kernel
theorem dX7_draw_128 : decode cX7_draw 128 = .ok (.irem, 1) := by decide +kernel
theorem dX7_draw_129 : decode cX7_draw 129 = .ok (.iload_n 3, 1) := by decide +kernel
theorem dX7_draw_130 : decode cX7_draw 130 = .ok (.bipush 8, 2) := by decide +kernel
theorem dX7_draw_132 : decode cX7_draw 132 = .ok (.irem, 1) := by decide +kernel
theorem dX7_draw_133 : decode cX7_draw 133 = .ok (.invokevirtual 93, 3) := by decide +kernel
theorem dX7_draw_136 : decode cX7_draw 136 = .ok (.pop, 1) := by decide +kernel
theorem dX7_draw_137 : decode cX7_draw 137 = .ok (.return_, 1) := by decide +kernel
theorem dX8_init_0 : decode cX8_init 0 = .ok (.aload_n 0, 1) := by decide +kernel
theorem dX8_init_1 : decode cX8_init 1 = .ok (.invokespecial 1, 3) := by decide +kernel
theorem dX8_init_4 : decode cX8_init 4 = .ok (.aload_n 0, 1) := by decide +kernel
theorem dX8_init_5 : decode cX8_init 5 = .ok (.new 7, 3) := by decide +kernel
theorem dX8_init_8 : decode cX8_init 8 = .ok (.dup, 1) := by decide +kernel
theorem dX8_init_9 : decode cX8_init 9 = .ok (.invokespecial 9, 3) := by decide +kernel
theorem dX8_init_12 : decode cX8_init 12 = .ok (.putfield 10, 3) := by decide +kernel
theorem dX8_init_15 : decode cX8_init 15 = .ok (.aload_n 0, 1) := by decide +kernel
theorem dX8_init_16 : decode cX8_init 16 = .ok (.new 16, 3) := by decide +kernel
theorem dX8_init_19 : decode cX8_init 19 = .ok (.dup, 1) := by decide +kernel
theorem dX8_init_20 : decode cX8_init 20 = .ok (.invokespecial 18, 3) := by decide +kernel
theorem dX8_init_23 : decode cX8_init 23 = .ok (.putfield 19, 3) := by decide +kernel
theorem dX8_init_26 : decode cX8_init 26 = .ok (.aload_n 0, 1) := by decide +kernel
theorem dX8_init_27 : decode cX8_init 27 = .ok (.new 23, 3) := by decide +kernel
theorem dX8_init_30 : decode cX8_init 30 = .ok (.dup, 1) := by decide +kernel
theorem dX8_init_31 : decode cX8_init 31 = .ok (.invokespecial 25, 3) := by decide +kernel
theorem dX8_init_34 : decode cX8_init 34 = .ok (.putfield 26, 3) := by decide +kernel
theorem dX8_init_37 : decode cX8_init 37 = .ok (.aload_n 0, 1) := by decide +kernel
theorem dX8_init_38 : decode cX8_init 38 = .ok (.new 30, 3) := by decide +kernel
theorem dX8_init_41 : decode cX8_init 41 = .ok (.dup, 1) := by decide +kernel
theorem dX8_init_42 : decode cX8_init 42 = .ok (.invokespecial 32, 3) := by decide +kernel
theorem dX8_init_45 : decode cX8_init 45 = .ok (.putfield 33, 3) := by decide +kernel
theorem dX8_init_48 : decode cX8_init 48 = .ok (.aload_n 0, 1) := by decide +kernel
theorem dX8_init_49 : decode cX8_init 49 = .ok (.new 37, 3) := by decide +kernel
theorem dX8_init_52 : decode cX8_init 52 = .ok (.dup, 1) := by decide +kernel
theorem dX8_init_53 : decode cX8_init 53 = .ok (.invokespecial 39, 3) := by decide +kernel
theorem dX8_init_56 : decode cX8_init 56 = .ok (.putfield 40, 3) := by decide +kernel
theorem dX8_init_59 : decode cX8_init 59 = .ok (.aload_n 0, 1) := by decide +kernel
theorem dX8_init_60 : decode cX8_init 60 = .ok (.new 44, 3) := by decide +kernel
theorem dX8_init_63 : decode cX8_init 63 = .ok (.dup, 1) := by decide +kernel
theorem dX8_init_64 : decode cX8_init 64 = .ok (.invokespecial 46, 3) := by decide +kernel
theorem dX8_init_67 : decode cX8_init 67 = .ok (.putfield 47, 3) := by decide +kernel
theorem dX8_init_70 : decode cX8_init 70 = .ok (.aload_n 0, 1) := by decide +kernel
theorem dX8_init_71 : decode cX8_init 71 = .ok (.new 51, 3) := by decide +kernel
theorem dX8_init_74 : decode cX8_init 74 = .ok (.dup, 1) := by decide +kernel
theorem dX8_init_75 : decode cX8_init 75 = .ok (.invokespecial 53, 3) := by decide +kernel
theorem dX8_init_78 : decode cX8_init 78 = .ok (.putfield 54, 3) := by decide +kernel
theorem dX8_init_81 : decode cX8_init 81 = .ok (.aload_n 0, 1) := by decide +kernel
theorem dX8_init_82 : decode cX8_init 82 = .ok (.new 58, 3) := by decide +kernel
theorem dX8_init_85 : decode cX8_init 85 = .ok (.dup, 1) := by decide +kernel
theorem dX8_init_86 : decode cX8_init 86 = .ok (.invokespecial 60, 3) := by decide +kernel
theorem dX8_init_89 : decode cX8_init 89 = .ok (.putfield 61, 3) := by decide +kernel
theorem dX8_init_92 : decode cX8_init 92 = .ok (.aload_n 0, 1) := by decide +kernel
theorem dX8_init_93 : decode cX8_init 93 = .ok (.new 58, 3) := by decide +kernel
theorem dX8_init_96 : decode cX8_init 96 = .ok (.dup, 1) := by decide +kernel
theorem dX8_init_97 : decode cX8_init 97 = .ok (.invokespecial 60, 3) := by decide +kernel
theorem dX8_init_100 : decode cX8_init 100 = .ok (.putfield 65, 3) := by decide +kernel
theorem dX8_init_103 : decode cX8_init 103 = .ok (.return_, 1) := by decide +kernel
theorem dX8_singer_0 : decode cX8_singer 0 = .ok (.iload_n 1, 1) := by decide +kernel
theorem dX8_singer_1 : decode cX8_singer 1 = .ok (.iconst 0, 1) := by decide +kernel
theorem dX8_singer_2 : decode cX8_singer 2 = .ok (.bipush 7, 2) := by decide +kernel
theorem dX8_singer_4 : decode cX8_singer 4 = .ok (.invokestatic 68, 3) := by decide +kernel
theorem dX8_singer_7 : decode cX8_singer 7 = .ok (.ifCond .ne 5, 3) := by decide +kernel
theorem dX8_singer_10 : decode cX8_singer 10 = .ok (.iconst (-1), 1) := by decide +kernel
theorem dX8_singer_11 : decode cX8_singer 11 = .ok (.ireturn, 1) := by decide +kernel
theorem dX8_singer_12 : decode cX8_singer 12 = .ok (.iload_n 2, 1) := by decide +kernel
theorem dX8_singer_13 : decode cX8_singer 13 = .ok (.iconst 0, 1) := by decide +kernel
theorem dX8_singer_14 : decode cX8_singer 14 = .ok (.iconst 3, 1) := by decide +kernel
theorem dX8_singer_15 : decode cX8_singer 15 = .ok (.invokestatic 68, 3) := by decide +kernel
theorem dX8_singer_18 : decode cX8_singer 18 = .ok (.ifCond .eq 14, 3) := by decide +kernel
theorem dX8_singer_21 : decode cX8_singer 21 = .ok (.iload_n 3, 1) := by decide +kernel
theorem dX8_singer_22 : decode cX8_singer 22 = .ok (.iconst 0, 1) := by decide +kernel
theorem dX8_singer_23 : decode cX8_singer 23 = .ok (.sipush 999, 3) := by decide +kernel
theorem dX8_singer_26 : decode cX8_singer 26 = .ok (.invokestatic 68, 3) := by decide +kernel
theorem dX8_singer_29 : decode cX8_singer 29 = .ok (.ifCond .ne 6, 3) := by decide +kernel
theorem dX8_singer_32 : decode cX8_singer 32 = .ok (.bipush (-2), 2) := by decide +kernel
theorem dX8_singer_34 : decode cX8_singer 34 = .ok (.ireturn, 1) := by decide +kernel
theorem dX8_singer_35 : decode cX8_singer 35 = .ok (.aload_n 0, 1) := by decide +kernel
theorem dX8_singer_36 : decode cX8_singer 36 = .ok (.getfield 10, 3) := by decide +kernel
theorem dX8_singer_39 : decode cX8_singer 39 = .ok (.iload_n 1, 1) := by decide +kernel
theorem dX8_singer_40 : decode cX8_singer 40 = .ok (.iload_n 2, 1) := by decide +kernel
theorem dX8_singer_41 : decode cX8_singer 41 = .ok (.iload_n 3, 1) := by decide +kernel
theorem dX8_singer_42 : decode cX8_singer 42 = .ok (.invokevirtual 72, 3) := by decide +kernel
theorem dX8_singer_45 : decode cX8_singer 45 = .ok (.aload_n 0, 1) := by decide +kernel
theorem dX8_singer_46 : decode cX8_singer 46 = .ok (.getfield 10, 3) := by decide +kernel
theorem dX8_singer_49 : decode cX8_singer 49 = .ok (.getfield 76, 3) := by decide +kernel
theorem dX8_singer_52 : decode cX8_singer 52 = .ok (.invokestatic 80, 3) := by decide +kernel
theorem dX8_singer_55 : decode cX8_singer 55 = .ok (.ireturn, 1) := by decide +kernel
theorem dX8_leave_0 : decode cX8_leave 0 = .ok (.aload_n 0, 1) := by decide +kernel
theorem dX8_leave_1 : decode cX8_leave 1 = .ok (.getfield 10, 3) := by decide +kernel
theorem dX8_leave_4 : decode cX8_leave 4 = .ok (.iload_n 1, 1) := by decide +kernel
theorem dX8_leave_5 : decode cX8_leave 5 = .ok (.invokevirtual 86, 3) := by decide +kernel
theorem dX8_leave_8 : decode cX8_leave 8 = .ok (.ifCond .ne 5, 3) := by decide +kernel
theorem dX8_leave_11 : decode cX8_leave 11 = .ok (.iconst (-1), 1) := by decide +kernel
theorem dX8_leave_12 : decode cX8_leave 12 = .ok (.ireturn, 1) := by decide +kernel
theorem dX8_leave_13 : decode cX8_leave 13 = .ok (.aload_n 0, 1) := by decide +kernel
theorem dX8_leave_14 : decode cX8_leave 14 = .ok (.getfield 10, 3) := by decide +kernel
theorem dX8_leave_17 : decode cX8_leave 17 = .ok (.iload_n 1, 1) := by decide +kernel
theorem dX8_leave_18 : decode cX8_leave 18 = .ok (.invokevirtual 90, 3) := by decide +kernel
theorem dX8_leave_21 : decode cX8_leave 21 = .ok (.aload_n 0, 1) := by decide +kernel
theorem dX8_leave_22 : decode cX8_leave 22 = .ok (.getfield 10, 3) := by decide +kernel
theorem dX8_leave_25 : decode cX8_leave 25 = .ok (.getfield 76, 3) := by decide +kernel
theorem dX8_leave_28 : decode cX8_leave 28 = .ok (.invokestatic 80, 3) := by decide +kernel
theorem dX8_leave_31 : decode cX8_leave 31 = .ok (.ireturn, 1) := by decide +kernel
theorem dX8_piece_0 : decode cX8_piece 0 = .ok (.iload_n 1, 1) := by decide +kernel
theorem dX8_piece_1 : decode cX8_piece 1 = .ok (.iconst 0, 1) := by decide +kernel
theorem dX8_piece_2 : decode cX8_piece 2 = .ok (.iconst 5, 1) := by decide +kernel
theorem dX8_piece_3 : decode cX8_piece 3 = .ok (.invokestatic 68, 3) := by decide +kernel
theorem dX8_piece_6 : decode cX8_piece 6 = .ok (.ifCond .ne 5, 3) := by decide +kernel
theorem dX8_piece_9 : decode cX8_piece 9 = .ok (.iconst (-1), 1) := by decide +kernel
theorem dX8_piece_10 : decode cX8_piece 10 = .ok (.ireturn, 1) := by decide +kernel
theorem dX8_piece_11 : decode cX8_piece 11 = .ok (.iload_n 2, 1) := by decide +kernel
theorem dX8_piece_12 : decode cX8_piece 12 = .ok (.invokestatic 94, 3) := by decide +kernel
theorem dX8_piece_15 : decode cX8_piece 15 = .ok (.ifCond .eq 24, 3) := by decide +kernel
theorem dX8_piece_18 : decode cX8_piece 18 = .ok (.iload_n 3, 1) := by decide +kernel
theorem dX8_piece_19 : decode cX8_piece 19 = .ok (.iconst 0, 1) := by decide +kernel
theorem dX8_piece_20 : decode cX8_piece 20 = .ok (.bipush 60, 2) := by decide +kernel
theorem dX8_piece_22 : decode cX8_piece 22 = .ok (.invokestatic 68, 3) := by decide +kernel
theorem dX8_piece_25 : decode cX8_piece 25 = .ok (.ifCond .eq 14, 3) := by decide +kernel
theorem dX8_piece_28 : decode cX8_piece 28 = .ok (.iload 4, 2) := by decide +kernel
theorem dX8_piece_30 : decode cX8_piece 30 = .ok (.iconst 0, 1) := by decide +kernel
theorem dX8_piece_31 : decode cX8_piece 31 = .ok (.bipush 9, 2) := by decide +kernel
theorem dX8_piece_33 : decode cX8_piece 33 = .ok (.invokestatic 68, 3) := by decide +kernel
theorem dX8_piece_36 : decode cX8_piece 36 = .ok (.ifCond .ne 6, 3) := by decide +kernel
theorem dX8_piece_39 : decode cX8_piece 39 = .ok (.bipush (-2), 2) := by decide +kernel
theorem dX8_piece_41 : decode cX8_piece 41 = .ok (.ireturn, 1) := by decide +kernel
theorem dX8_piece_42 : decode cX8_piece 42 = .ok (.aload_n 0, 1) := by decide +kernel
theorem dX8_piece_43 : decode cX8_piece 43 = .ok (.getfield 10, 3) := by decide +kernel
theorem dX8_piece_46 : decode cX8_piece 46 = .ok (.iload_n 1, 1) := by decide +kernel
theorem dX8_piece_47 : decode cX8_piece 47 = .ok (.invokevirtual 97, 3) := by decide +kernel
theorem dX8_piece_50 : decode cX8_piece 50 = .ok (.istore 5, 2) := by decide +kernel
theorem dX8_piece_52 : decode cX8_piece 52 = .ok (.aload_n 0, 1) := by decide +kernel
theorem dX8_piece_53 : decode cX8_piece 53 = .ok (.getfield 10, 3) := by decide +kernel
theorem dX8_piece_56 : decode cX8_piece 56 = .ok (.iload_n 1, 1) := by decide +kernel
theorem dX8_piece_57 : decode cX8_piece 57 = .ok (.iload_n 2, 1) := by decide +kernel
theorem dX8_piece_58 : decode cX8_piece 58 = .ok (.iload_n 3, 1) := by decide +kernel
theorem dX8_piece_59 : decode cX8_piece 59 = .ok (.iload 4, 2) := by decide +kernel
theorem dX8_piece_61 : decode cX8_piece 61 = .ok (.invokevirtual 100, 3) := by decide +kernel
theorem dX8_piece_64 : decode cX8_piece 64 = .ok (.iload 5, 2) := by decide +kernel
theorem dX8_piece_66 : decode cX8_piece 66 = .ok (.ireturn, 1) := by decide +kernel
theorem dX8_say_0 : decode cX8_say 0 = .ok (.iload_n 1, 1) := by decide +kernel
theorem dX8_say_1 : decode cX8_say 1 = .ok (.bipush 33, 2) := by decide +kernel
theorem dX8_say_3 : decode cX8_say 3 = .ok (.bipush 126, 2) := by decide +kernel
theorem dX8_say_5 : decode cX8_say 5 = .ok (.invokestatic 68, 3) := by decide +kernel
theorem dX8_say_8 : decode cX8_say 8 = .ok (.ifCond .ne 6, 3) := by decide +kernel
theorem dX8_say_11 : decode cX8_say 11 = .ok (.bipush (-2), 2) := by decide +kernel
theorem dX8_say_13 : decode cX8_say 13 = .ok (.ireturn, 1) := by decide +kernel
theorem dX8_say_14 : decode cX8_say 14 = .ok (.aload_n 0, 1) := by decide +kernel
theorem dX8_say_15 : decode cX8_say 15 = .ok (.getfield 26, 3) := by decide +kernel
theorem dX8_say_18 : decode cX8_say 18 = .ok (.iload_n 1, 1) := by decide +kernel
theorem dX8_say_19 : decode cX8_say 19 = .ok (.invokevirtual 104, 3) := by decide +kernel
theorem dX8_say_22 : decode cX8_say 22 = .ok (.ifCond .eq 13, 3) := by decide +kernel
theorem dX8_say_25 : decode cX8_say 25 = .ok (.aload_n 0, 1) := by decide +kernel
theorem dX8_say_26 : decode cX8_say 26 = .ok (.getfield 26, 3) := by decide +kernel
theorem dX8_say_29 : decode cX8_say 29 = .ok (.getfield 107, 3) := by decide +kernel
theorem dX8_say_32 : decode cX8_say 32 = .ok (.goto 5, 3) := by decide +kernel
theorem dX8_say_35 : decode cX8_say 35 = .ok (.bipush (-4), 2) := by decide +kernel
theorem dX8_say_37 : decode cX8_say 37 = .ok (.ireturn, 1) := by decide +kernel
theorem dX8_wipe_0 : decode cX8_wipe 0 = .ok (.aload_n 0, 1) := by decide +kernel
theorem dX8_wipe_1 : decode cX8_wipe 1 = .ok (.getfield 26, 3) := by decide +kernel
theorem dX8_wipe_4 : decode cX8_wipe 4 = .ok (.getfield 107, 3) := by decide +kernel
theorem dX8_wipe_7 : decode cX8_wipe 7 = .ok (.istore_n 1, 1) := by decide +kernel
theorem dX8_wipe_8 : decode cX8_wipe 8 = .ok (.aload_n 0, 1) := by decide +kernel
theorem dX8_wipe_9 : decode cX8_wipe 9 = .ok (.getfield 26, 3) := by decide +kernel
theorem dX8_wipe_12 : decode cX8_wipe 12 = .ok (.iconst 0, 1) := by decide +kernel
theorem dX8_wipe_13 : decode cX8_wipe 13 = .ok (.putfield 107, 3) := by decide +kernel
theorem dX8_wipe_16 : decode cX8_wipe 16 = .ok (.iload_n 1, 1) := by decide +kernel
theorem dX8_wipe_17 : decode cX8_wipe 17 = .ok (.ireturn, 1) := by decide +kernel
theorem dX8_fault_0 : decode cX8_fault 0 = .ok (.aload_n 0, 1) := by decide +kernel
theorem dX8_fault_1 : decode cX8_fault 1 = .ok (.getfield 26, 3) := by decide +kernel
theorem dX8_fault_4 : decode cX8_fault 4 = .ok (.invokevirtual 110, 3) := by decide +kernel
theorem dX8_fault_7 : decode cX8_fault 7 = .ok (.ireturn, 1) := by decide +kernel
theorem dX8_judge_0 : decode cX8_judge 0 = .ok (.iload_n 1, 1) := by decide +kernel
theorem dX8_judge_1 : decode cX8_judge 1 = .ok (.iconst 0, 1) := by decide +kernel
theorem dX8_judge_2 : decode cX8_judge 2 = .ok (.iconst 2, 1) := by decide +kernel
theorem dX8_judge_3 : decode cX8_judge 3 = .ok (.invokestatic 68, 3) := by decide +kernel
theorem dX8_judge_6 : decode cX8_judge 6 = .ok (.ifCond .ne 6, 3) := by decide +kernel
theorem dX8_judge_9 : decode cX8_judge 9 = .ok (.bipush (-2), 2) := by decide +kernel
theorem dX8_judge_11 : decode cX8_judge 11 = .ok (.ireturn, 1) := by decide +kernel
theorem dX8_judge_12 : decode cX8_judge 12 = .ok (.aload_n 0, 1) := by decide +kernel
theorem dX8_judge_13 : decode cX8_judge 13 = .ok (.getfield 33, 3) := by decide +kernel
theorem dX8_judge_16 : decode cX8_judge 16 = .ok (.aload_n 0, 1) := by decide +kernel
theorem dX8_judge_17 : decode cX8_judge 17 = .ok (.getfield 26, 3) := by decide +kernel
theorem dX8_judge_20 : decode cX8_judge 20 = .ok (.aload_n 0, 1) := by decide +kernel
theorem dX8_judge_21 : decode cX8_judge 21 = .ok (.getfield 10, 3) := by decide +kernel
theorem dX8_judge_24 : decode cX8_judge 24 = .ok (.invokevirtual 114, 3) := by decide +kernel
theorem dX8_judge_27 : decode cX8_judge 27 = .ok (.istore_n 2, 1) := by decide +kernel
theorem dX8_judge_28 : decode cX8_judge 28 = .ok (.iload_n 2, 1) := by decide +kernel
theorem dX8_judge_29 : decode cX8_judge 29 = .ok (.bipush (-5), 2) := by decide +kernel
theorem dX8_judge_31 : decode cX8_judge 31 = .ok (.if_icmp .eq 14, 3) := by decide +kernel
theorem dX8_judge_34 : decode cX8_judge 34 = .ok (.iload_n 2, 1) := by decide +kernel
theorem dX8_judge_35 : decode cX8_judge 35 = .ok (.bipush (-3), 2) := by decide +kernel
theorem dX8_judge_37 : decode cX8_judge 37 = .ok (.if_icmp .ne 10, 3) := by decide +kernel
theorem dX8_judge_40 : decode cX8_judge 40 = .ok (.iload_n 1, 1) := by decide +kernel
theorem dX8_judge_41 : decode cX8_judge 41 = .ok (.iconst 2, 1) := by decide +kernel
theorem dX8_judge_42 : decode cX8_judge 42 = .ok (.if_icmp .ne 5, 3) := by decide +kernel
theorem dX8_judge_45 : decode cX8_judge 45 = .ok (.iload_n 2, 1) := by decide +kernel
theorem dX8_judge_46 : decode cX8_judge 46 = .ok (.ireturn, 1) := by decide +kernel
theorem dX8_judge_47 : decode cX8_judge 47 = .ok (.iload_n 1, 1) := by decide +kernel
theorem dX8_judge_48 : decode cX8_judge 48 = .ok (.ifCond .ne 11, 3) := by decide +kernel
theorem dX8_judge_51 : decode cX8_judge 51 = .ok (.aload_n 0, 1) := by decide +kernel
theorem dX8_judge_52 : decode cX8_judge 52 = .ok (.getfield 33, 3) := by decide +kernel
theorem dX8_judge_55 : decode cX8_judge 55 = .ok (.getfield 118, 3) := by decide +kernel
theorem dX8_judge_58 : decode cX8_judge 58 = .ok (.ireturn, 1) := by decide +kernel
theorem dX8_judge_59 : decode cX8_judge 59 = .ok (.iload_n 1, 1) := by decide +kernel
theorem dX8_judge_60 : decode cX8_judge 60 = .ok (.iconst 1, 1) := by decide +kernel
theorem dX8_judge_61 : decode cX8_judge 61 = .ok (.if_icmp .ne 13, 3) := by decide +kernel
theorem dX8_judge_64 : decode cX8_judge 64 = .ok (.aload_n 0, 1) := by decide +kernel
theorem dX8_judge_65 : decode cX8_judge 65 = .ok (.getfield 33, 3) := by decide +kernel
theorem dX8_judge_68 : decode cX8_judge 68 = .ok (.getfield 121, 3) := by decide +kernel
theorem dX8_judge_71 : decode cX8_judge 71 = .ok (.goto 10, 3) := by decide +kernel
theorem dX8_judge_74 : decode cX8_judge 74 = .ok (.aload_n 0, 1) := by decide +kernel
theorem dX8_judge_75 : decode cX8_judge 75 = .ok (.getfield 33, 3) := by decide +kernel
theorem dX8_judge_78 : decode cX8_judge 78 = .ok (.getfield 124, 3) := by decide +kernel
theorem dX8_judge_81 : decode cX8_judge 81 = .ok (.ireturn, 1) := by decide +kernel
theorem dX8_behind_0 : decode cX8_behind 0 = .ok (.aload_n 0, 1) := by decide +kernel
theorem dX8_behind_1 : decode cX8_behind 1 = .ok (.getfield 10, 3) := by decide +kernel
theorem dX8_behind_4 : decode cX8_behind 4 = .ok (.iload_n 1, 1) := by decide +kernel
theorem dX8_behind_5 : decode cX8_behind 5 = .ok (.invokevirtual 86, 3) := by decide +kernel
theorem dX8_behind_8 : decode cX8_behind 8 = .ok (.ifCond .ne 5, 3) := by decide +kernel
theorem dX8_behind_11 : decode cX8_behind 11 = .ok (.iconst (-1), 1) := by decide +kernel
theorem dX8_behind_12 : decode cX8_behind 12 = .ok (.ireturn, 1) := by decide +kernel
theorem dX8_behind_13 : decode cX8_behind 13 = .ok (.iload_n 2, 1) := by decide +kernel
theorem dX8_behind_14 : decode cX8_behind 14 = .ok (.iconst 0, 1) := by decide +kernel
theorem dX8_behind_15 : decode cX8_behind 15 = .ok (.iconst 2, 1) := by decide +kernel
theorem dX8_behind_16 : decode cX8_behind 16 = .ok (.invokestatic 68, 3) := by decide +kernel
theorem dX8_behind_19 : decode cX8_behind 19 = .ok (.ifCond .ne 6, 3) := by decide +kernel
theorem dX8_behind_22 : decode cX8_behind 22 = .ok (.bipush (-2), 2) := by decide +kernel
theorem dX8_behind_24 : decode cX8_behind 24 = .ok (.ireturn, 1) := by decide +kernel
theorem dX8_behind_25 : decode cX8_behind 25 = .ok (.aload_n 0, 1) := by decide +kernel
theorem dX8_behind_26 : decode cX8_behind 26 = .ok (.getfield 33, 3) := by decide +kernel
theorem dX8_behind_29 : decode cX8_behind 29 = .ok (.aload_n 0, 1) := by decide +kernel
theorem dX8_behind_30 : decode cX8_behind 30 = .ok (.getfield 26, 3) := by decide +kernel
theorem dX8_behind_33 : decode cX8_behind 33 = .ok (.aload_n 0, 1) := by decide +kernel
theorem dX8_behind_34 : decode cX8_behind 34 = .ok (.getfield 10, 3) := by decide +kernel
theorem dX8_behind_37 : decode cX8_behind 37 = .ok (.invokevirtual 114, 3) := by decide +kernel
theorem dX8_behind_40 : decode cX8_behind 40 = .ok (.istore_n 3, 1) := by decide +kernel
theorem dX8_behind_41 : decode cX8_behind 41 = .ok (.iload_n 3, 1) := by decide +kernel
theorem dX8_behind_42 : decode cX8_behind 42 = .ok (.ifCond .eq 5, 3) := by decide +kernel
theorem dX8_behind_45 : decode cX8_behind 45 = .ok (.iload_n 3, 1) := by decide +kernel
theorem dX8_behind_46 : decode cX8_behind 46 = .ok (.ireturn, 1) := by decide +kernel
theorem dX8_behind_47 : decode cX8_behind 47 = .ok (.iload_n 2, 1) := by decide +kernel
theorem dX8_behind_48 : decode cX8_behind 48 = .ok (.ifCond .ne 15, 3) := by decide +kernel
theorem dX8_behind_51 : decode cX8_behind 51 = .ok (.aload_n 0, 1) := by decide +kernel
theorem dX8_behind_52 : decode cX8_behind 52 = .ok (.getfield 33, 3) := by decide +kernel
theorem dX8_behind_55 : decode cX8_behind 55 = .ok (.getfield 127, 3) := by decide +kernel
theorem dX8_behind_58 : decode cX8_behind 58 = .ok (.iload_n 1, 1) := by decide +kernel
theorem dX8_behind_59 : decode cX8_behind 59 = .ok (.invokevirtual 128, 3) := by decide +kernel
theorem dX8_behind_62 : decode cX8_behind 62 = .ok (.ireturn, 1) := by decide +kernel
theorem dX8_behind_63 : decode cX8_behind 63 = .ok (.iload_n 2, 1) := by decide +kernel
theorem dX8_behind_64 : decode cX8_behind 64 = .ok (.iconst 1, 1) := by decide +kernel
theorem dX8_behind_65 : decode cX8_behind 65 = .ok (.if_icmp .ne 16, 3) := by decide +kernel
theorem dX8_behind_68 : decode cX8_behind 68 = .ok (.aload_n 0, 1) := by decide +kernel
theorem dX8_behind_69 : decode cX8_behind 69 = .ok (.getfield 33, 3) := by decide +kernel
theorem dX8_behind_72 : decode cX8_behind 72 = .ok (.getfield 127, 3) := by decide +kernel
theorem dX8_behind_75 : decode cX8_behind 75 = .ok (.getfield 131, 3) := by decide +kernel
theorem dX8_behind_78 : decode cX8_behind 78 = .ok (.goto 13, 3) := by decide +kernel
theorem dX8_behind_81 : decode cX8_behind 81 = .ok (.aload_n 0, 1) := by decide +kernel
theorem dX8_behind_82 : decode cX8_behind 82 = .ok (.getfield 33, 3) := by decide +kernel
theorem dX8_behind_85 : decode cX8_behind 85 = .ok (.getfield 127, 3) := by decide +kernel
theorem dX8_behind_88 : decode cX8_behind 88 = .ok (.getfield 134, 3) := by decide +kernel
theorem dX8_behind_91 : decode cX8_behind 91 = .ok (.iload_n 1, 1) := by decide +kernel
theorem dX8_behind_92 : decode cX8_behind 92 = .ok (.invokestatic 137, 3) := by decide +kernel
theorem dX8_behind_95 : decode cX8_behind 95 = .ok (.ireturn, 1) := by decide +kernel
theorem dX8_owed_0 : decode cX8_owed 0 = .ok (.iload_n 1, 1) := by decide +kernel
theorem dX8_owed_1 : decode cX8_owed 1 = .ok (.iconst 0, 1) := by decide +kernel
theorem dX8_owed_2 : decode cX8_owed 2 = .ok (.iconst 1, 1) := by decide +kernel
theorem dX8_owed_3 : decode cX8_owed 3 = .ok (.invokestatic 68, 3) := by decide +kernel
theorem dX8_owed_6 : decode cX8_owed 6 = .ok (.ifCond .ne 6, 3) := by decide +kernel
theorem dX8_owed_9 : decode cX8_owed 9 = .ok (.bipush (-2), 2) := by decide +kernel
theorem dX8_owed_11 : decode cX8_owed 11 = .ok (.ireturn, 1) := by decide +kernel
theorem dX8_owed_12 : decode cX8_owed 12 = .ok (.aload_n 0, 1) := by decide +kernel
theorem dX8_owed_13 : decode cX8_owed 13 = .ok (.getfield 33, 3) := by decide +kernel
theorem dX8_owed_16 : decode cX8_owed 16 = .ok (.aload_n 0, 1) := by decide +kernel
theorem dX8_owed_17 : decode cX8_owed 17 = .ok (.getfield 26, 3) := by decide +kernel
theorem dX8_owed_20 : decode cX8_owed 20 = .ok (.aload_n 0, 1) := by decide +kernel
theorem dX8_owed_21 : decode cX8_owed 21 = .ok (.getfield 10, 3) := by decide +kernel
theorem dX8_owed_24 : decode cX8_owed 24 = .ok (.invokevirtual 114, 3) := by decide +kernel
theorem dX8_owed_27 : decode cX8_owed 27 = .ok (.istore_n 2, 1) := by decide +kernel
theorem dX8_owed_28 : decode cX8_owed 28 = .ok (.iload_n 2, 1) := by decide +kernel
theorem dX8_owed_29 : decode cX8_owed 29 = .ok (.ifCond .eq 5, 3) := by decide +kernel
theorem dX8_owed_32 : decode cX8_owed 32 = .ok (.iload_n 2, 1) := by decide +kernel
theorem dX8_owed_33 : decode cX8_owed 33 = .ok (.ireturn, 1) := by decide +kernel
theorem dX8_owed_34 : decode cX8_owed 34 = .ok (.iload_n 1, 1) := by decide +kernel
theorem dX8_owed_35 : decode cX8_owed 35 = .ok (.ifCond .ne 16, 3) := by decide +kernel
theorem dX8_owed_38 : decode cX8_owed 38 = .ok (.aload_n 0, 1) := by decide +kernel
theorem dX8_owed_39 : decode cX8_owed 39 = .ok (.getfield 33, 3) := by decide +kernel
theorem dX8_owed_42 : decode cX8_owed 42 = .ok (.getfield 127, 3) := by decide +kernel
theorem dX8_owed_45 : decode cX8_owed 45 = .ok (.invokevirtual 141, 3) := by decide +kernel
theorem dX8_owed_48 : decode cX8_owed 48 = .ok (.goto 13, 3) := by decide +kernel
theorem dX8_owed_51 : decode cX8_owed 51 = .ok (.aload_n 0, 1) := by decide +kernel
theorem dX8_owed_52 : decode cX8_owed 52 = .ok (.getfield 33, 3) := by decide +kernel
theorem dX8_owed_55 : decode cX8_owed 55 = .ok (.getfield 127, 3) := by decide +kernel
theorem dX8_owed_58 : decode cX8_owed 58 = .ok (.getfield 144, 3) := by decide +kernel
theorem dX8_owed_61 : decode cX8_owed 61 = .ok (.ireturn, 1) := by decide +kernel
theorem dX8_freed_0 : decode cX8_freed 0 = .ok (.iload_n 1, 1) := by decide +kernel
theorem dX8_freed_1 : decode cX8_freed 1 = .ok (.iconst 0, 1) := by decide +kernel
theorem dX8_freed_2 : decode cX8_freed 2 = .ok (.iconst 1, 1) := by decide +kernel
theorem dX8_freed_3 : decode cX8_freed 3 = .ok (.invokestatic 68, 3) := by decide +kernel
theorem dX8_freed_6 : decode cX8_freed 6 = .ok (.ifCond .ne 6, 3) := by decide +kernel
theorem dX8_freed_9 : decode cX8_freed 9 = .ok (.bipush (-2), 2) := by decide +kernel
theorem dX8_freed_11 : decode cX8_freed 11 = .ok (.ireturn, 1) := by decide +kernel
theorem dX8_freed_12 : decode cX8_freed 12 = .ok (.aload_n 0, 1) := by decide +kernel
theorem dX8_freed_13 : decode cX8_freed 13 = .ok (.getfield 33, 3) := by decide +kernel
theorem dX8_freed_16 : decode cX8_freed 16 = .ok (.aload_n 0, 1) := by decide +kernel
theorem dX8_freed_17 : decode cX8_freed 17 = .ok (.getfield 26, 3) := by decide +kernel
theorem dX8_freed_20 : decode cX8_freed 20 = .ok (.aload_n 0, 1) := by decide +kernel
theorem dX8_freed_21 : decode cX8_freed 21 = .ok (.getfield 10, 3) := by decide +kernel
theorem dX8_freed_24 : decode cX8_freed 24 = .ok (.invokevirtual 114, 3) := by decide +kernel
theorem dX8_freed_27 : decode cX8_freed 27 = .ok (.istore_n 2, 1) := by decide +kernel
theorem dX8_freed_28 : decode cX8_freed 28 = .ok (.iload_n 2, 1) := by decide +kernel
theorem dX8_freed_29 : decode cX8_freed 29 = .ok (.ifCond .eq 5, 3) := by decide +kernel
theorem dX8_freed_32 : decode cX8_freed 32 = .ok (.iload_n 2, 1) := by decide +kernel
theorem dX8_freed_33 : decode cX8_freed 33 = .ok (.ireturn, 1) := by decide +kernel
theorem dX8_freed_34 : decode cX8_freed 34 = .ok (.iload_n 1, 1) := by decide +kernel
theorem dX8_freed_35 : decode cX8_freed 35 = .ok (.ifCond .ne 13, 3) := by decide +kernel
theorem dX8_freed_38 : decode cX8_freed 38 = .ok (.aload_n 0, 1) := by decide +kernel
theorem dX8_freed_39 : decode cX8_freed 39 = .ok (.getfield 33, 3) := by decide +kernel
theorem dX8_freed_42 : decode cX8_freed 42 = .ok (.getfield 147, 3) := by decide +kernel
theorem dX8_freed_45 : decode cX8_freed 45 = .ok (.goto 10, 3) := by decide +kernel
theorem dX8_freed_48 : decode cX8_freed 48 = .ok (.aload_n 0, 1) := by decide +kernel
theorem dX8_freed_49 : decode cX8_freed 49 = .ok (.getfield 33, 3) := by decide +kernel
theorem dX8_freed_52 : decode cX8_freed 52 = .ok (.getfield 150, 3) := by decide +kernel
theorem dX8_freed_55 : decode cX8_freed 55 = .ok (.ireturn, 1) := by decide +kernel
theorem dX8_done_0 : decode cX8_done 0 = .ok (.aload_n 0, 1) := by decide +kernel
theorem dX8_done_1 : decode cX8_done 1 = .ok (.getfield 33, 3) := by decide +kernel
theorem dX8_done_4 : decode cX8_done 4 = .ok (.aload_n 0, 1) := by decide +kernel
theorem dX8_done_5 : decode cX8_done 5 = .ok (.getfield 26, 3) := by decide +kernel
theorem dX8_done_8 : decode cX8_done 8 = .ok (.aload_n 0, 1) := by decide +kernel
theorem dX8_done_9 : decode cX8_done 9 = .ok (.getfield 10, 3) := by decide +kernel
theorem dX8_done_12 : decode cX8_done 12 = .ok (.invokevirtual 114, 3) := by decide +kernel
theorem dX8_done_15 : decode cX8_done 15 = .ok (.istore_n 1, 1) := by decide +kernel
theorem dX8_done_16 : decode cX8_done 16 = .ok (.iload_n 1, 1) := by decide +kernel
theorem dX8_done_17 : decode cX8_done 17 = .ok (.ifCond .eq 5, 3) := by decide +kernel
theorem dX8_done_20 : decode cX8_done 20 = .ok (.iload_n 1, 1) := by decide +kernel
theorem dX8_done_21 : decode cX8_done 21 = .ok (.ireturn, 1) := by decide +kernel
theorem dX8_done_22 : decode cX8_done 22 = .ok (.aload_n 0, 1) := by decide +kernel
theorem dX8_done_23 : decode cX8_done 23 = .ok (.getfield 10, 3) := by decide +kernel
theorem dX8_done_26 : decode cX8_done 26 = .ok (.aload_n 0, 1) := by decide +kernel
theorem dX8_done_27 : decode cX8_done 27 = .ok (.getfield 33, 3) := by decide +kernel
theorem dX8_done_30 : decode cX8_done 30 = .ok (.getfield 127, 3) := by decide +kernel
theorem dX8_done_33 : decode cX8_done 33 = .ok (.invokevirtual 153, 3) := by decide +kernel
theorem dX8_done_36 : decode cX8_done 36 = .ok (.aload_n 0, 1) := by decide +kernel
theorem dX8_done_37 : decode cX8_done 37 = .ok (.getfield 26, 3) := by decide +kernel
theorem dX8_done_40 : decode cX8_done 40 = .ok (.iconst 0, 1) := by decide +kernel
theorem dX8_done_41 : decode cX8_done 41 = .ok (.putfield 107, 3) := by decide +kernel
theorem dX8_done_44 : decode cX8_done 44 = .ok (.aload_n 0, 1) := by decide +kernel
theorem dX8_done_45 : decode cX8_done 45 = .ok (.getfield 33, 3) := by decide +kernel
theorem dX8_done_48 : decode cX8_done 48 = .ok (.getfield 157, 3) := by decide +kernel
theorem dX8_done_51 : decode cX8_done 51 = .ok (.ireturn, 1) := by decide +kernel
theorem dX8_may_0 : decode cX8_may 0 = .ok (.iconst 0, 1) := by decide +kernel
theorem dX8_may_1 : decode cX8_may 1 = .ok (.istore_n 1, 1) := by decide +kernel
theorem dX8_may_2 : decode cX8_may 2 = .ok (.iconst 0, 1) := by decide +kernel
theorem dX8_may_3 : decode cX8_may 3 = .ok (.istore_n 2, 1) := by decide +kernel
theorem dX8_may_4 : decode cX8_may 4 = .ok (.iload_n 2, 1) := by decide +kernel
theorem dX8_may_5 : decode cX8_may 5 = .ok (.bipush 6, 2) := by decide +kernel
theorem dX8_may_7 : decode cX8_may 7 = .ok (.if_icmp .ge 26, 3) := by decide +kernel
theorem dX8_may_10 : decode cX8_may 10 = .ok (.aload_n 0, 1) := by decide +kernel
theorem dX8_may_11 : decode cX8_may 11 = .ok (.getfield 10, 3) := by decide +kernel
theorem dX8_may_14 : decode cX8_may 14 = .ok (.iload_n 2, 1) := by decide +kernel
theorem dX8_may_15 : decode cX8_may 15 = .ok (.invokevirtual 160, 3) := by decide +kernel
theorem dX8_may_18 : decode cX8_may 18 = .ok (.ifCond .eq 9, 3) := by decide +kernel
theorem dX8_may_21 : decode cX8_may 21 = .ok (.iload_n 1, 1) := by decide +kernel
theorem dX8_may_22 : decode cX8_may 22 = .ok (.iconst 1, 1) := by decide +kernel
theorem dX8_may_23 : decode cX8_may 23 = .ok (.iload_n 2, 1) := by decide +kernel
theorem dX8_may_24 : decode cX8_may 24 = .ok (.ishl, 1) := by decide +kernel
theorem dX8_may_25 : decode cX8_may 25 = .ok (.ior, 1) := by decide +kernel
theorem dX8_may_26 : decode cX8_may 26 = .ok (.istore_n 1, 1) := by decide +kernel
theorem dX8_may_27 : decode cX8_may 27 = .ok (.iinc 2 1, 3) := by decide +kernel
theorem dX8_may_30 : decode cX8_may 30 = .ok (.goto (-26), 3) := by decide +kernel
theorem dX8_may_33 : decode cX8_may 33 = .ok (.iload_n 1, 1) := by decide +kernel
theorem dX8_may_34 : decode cX8_may 34 = .ok (.ireturn, 1) := by decide +kernel
theorem dX8_nights_0 : decode cX8_nights 0 = .ok (.aload_n 0, 1) := by decide +kernel
theorem dX8_nights_1 : decode cX8_nights 1 = .ok (.getfield 10, 3) := by decide +kernel
theorem dX8_nights_4 : decode cX8_nights 4 = .ok (.iload_n 1, 1) := by decide +kernel
theorem dX8_nights_5 : decode cX8_nights 5 = .ok (.invokevirtual 86, 3) := by decide +kernel
theorem dX8_nights_8 : decode cX8_nights 8 = .ok (.ifCond .ne 5, 3) := by decide +kernel
theorem dX8_nights_11 : decode cX8_nights 11 = .ok (.iconst (-1), 1) := by decide +kernel
theorem dX8_nights_12 : decode cX8_nights 12 = .ok (.ireturn, 1) := by decide +kernel
theorem dX8_nights_13 : decode cX8_nights 13 = .ok (.iload_n 2, 1) := by decide +kernel
theorem dX8_nights_14 : decode cX8_nights 14 = .ok (.iconst 0, 1) := by decide +kernel
theorem dX8_nights_15 : decode cX8_nights 15 = .ok (.iconst 1, 1) := by decide +kernel
theorem dX8_nights_16 : decode cX8_nights 16 = .ok (.invokestatic 68, 3) := by decide +kernel
theorem dX8_nights_19 : decode cX8_nights 19 = .ok (.ifCond .ne 6, 3) := by decide +kernel
theorem dX8_nights_22 : decode cX8_nights 22 = .ok (.bipush (-2), 2) := by decide +kernel
theorem dX8_nights_24 : decode cX8_nights 24 = .ok (.ireturn, 1) := by decide +kernel
theorem dX8_nights_25 : decode cX8_nights 25 = .ok (.aload_n 0, 1) := by decide +kernel
theorem dX8_nights_26 : decode cX8_nights 26 = .ok (.getfield 40, 3) := by decide +kernel
theorem dX8_nights_29 : decode cX8_nights 29 = .ok (.aload_n 0, 1) := by decide +kernel
theorem dX8_nights_30 : decode cX8_nights 30 = .ok (.getfield 10, 3) := by decide +kernel
theorem dX8_nights_33 : decode cX8_nights 33 = .ok (.iload_n 1, 1) := by decide +kernel
theorem dX8_nights_34 : decode cX8_nights 34 = .ok (.invokevirtual 163, 3) := by decide +kernel
theorem dX8_nights_37 : decode cX8_nights 37 = .ok (.iload_n 2, 1) := by decide +kernel
theorem dX8_nights_38 : decode cX8_nights 38 = .ok (.ifCond .ne 13, 3) := by decide +kernel
theorem dX8_nights_41 : decode cX8_nights 41 = .ok (.aload_n 0, 1) := by decide +kernel
theorem dX8_nights_42 : decode cX8_nights 42 = .ok (.getfield 40, 3) := by decide +kernel
theorem dX8_nights_45 : decode cX8_nights 45 = .ok (.getfield 167, 3) := by decide +kernel
theorem dX8_nights_48 : decode cX8_nights 48 = .ok (.goto 10, 3) := by decide +kernel
theorem dX8_nights_51 : decode cX8_nights 51 = .ok (.aload_n 0, 1) := by decide +kernel
theorem dX8_nights_52 : decode cX8_nights 52 = .ok (.getfield 40, 3) := by decide +kernel
theorem dX8_nights_55 : decode cX8_nights 55 = .ok (.getfield 170, 3) := by decide +kernel
theorem dX8_nights_58 : decode cX8_nights 58 = .ok (.ireturn, 1) := by decide +kernel
theorem dX8_programme_0 : decode cX8_programme 0 = .ok (.iload_n 1, 1) := by decide +kernel
theorem dX8_programme_1 : decode cX8_programme 1 = .ok (.iconst 0, 1) := by decide +kernel
theorem dX8_programme_2 : decode cX8_programme 2 = .ok (.bipush 99, 2) := by decide +kernel
theorem dX8_programme_4 : decode cX8_programme 4 = .ok (.invokestatic 68, 3) := by decide +kernel
theorem dX8_programme_7 : decode cX8_programme 7 = .ok (.ifCond .eq 12, 3) := by decide +kernel
theorem dX8_programme_10 : decode cX8_programme 10 = .ok (.iload_n 2, 1) := by decide +kernel
theorem dX8_programme_11 : decode cX8_programme 11 = .ok (.iconst 0, 1) := by decide +kernel
theorem dX8_programme_12 : decode cX8_programme 12 = .ok (.iconst 1, 1) := by decide +kernel
theorem dX8_programme_13 : decode cX8_programme 13 = .ok (.invokestatic 68, 3) := by decide +kernel
theorem dX8_programme_16 : decode cX8_programme 16 = .ok (.ifCond .ne 6, 3) := by decide +kernel
theorem dX8_programme_19 : decode cX8_programme 19 = .ok (.bipush (-2), 2) := by decide +kernel
theorem dX8_programme_21 : decode cX8_programme 21 = .ok (.ireturn, 1) := by decide +kernel
theorem dX8_programme_22 : decode cX8_programme 22 = .ok (.iconst 0, 1) := by decide +kernel
theorem dX8_programme_23 : decode cX8_programme 23 = .ok (.istore_n 3, 1) := by decide +kernel
theorem dX8_programme_24 : decode cX8_programme 24 = .ok (.iconst 0, 1) := by decide +kernel
theorem dX8_programme_25 : decode cX8_programme 25 = .ok (.istore 4, 2) := by decide +kernel
theorem dX8_programme_27 : decode cX8_programme 27 = .ok (.iconst 0, 1) := by decide +kernel
theorem dX8_programme_28 : decode cX8_programme 28 = .ok (.istore 5, 2) := by decide +kernel
theorem dX8_programme_30 : decode cX8_programme 30 = .ok (.iload 5, 2) := by decide +kernel
theorem dX8_programme_32 : decode cX8_programme 32 = .ok (.bipush 64, 2) := by decide +kernel
theorem dX8_programme_34 : decode cX8_programme 34 = .ok (.if_icmp .ge 46, 3) := by decide +kernel
theorem dX8_programme_37 : decode cX8_programme 37 = .ok (.aload_n 0, 1) := by decide +kernel
theorem dX8_programme_38 : decode cX8_programme 38 = .ok (.getfield 10, 3) := by decide +kernel
theorem dX8_programme_41 : decode cX8_programme 41 = .ok (.iload 5, 2) := by decide +kernel
theorem dX8_programme_43 : decode cX8_programme 43 = .ok (.invokevirtual 173, 3) := by decide +kernel
theorem dX8_programme_46 : decode cX8_programme 46 = .ok (.istore 6, 2) := by decide +kernel
theorem dX8_programme_48 : decode cX8_programme 48 = .ok (.aload_n 0, 1) := by decide +kernel
theorem dX8_programme_49 : decode cX8_programme 49 = .ok (.getfield 10, 3) := by decide +kernel
theorem dX8_programme_52 : decode cX8_programme 52 = .ok (.iload 5, 2) := by decide +kernel
theorem dX8_programme_54 : decode cX8_programme 54 = .ok (.invokevirtual 176, 3) := by decide +kernel
theorem dX8_programme_57 : decode cX8_programme 57 = .ok (.iload_n 1, 1) := by decide +kernel
theorem dX8_programme_58 : decode cX8_programme 58 = .ok (.if_icmp .gt 16, 3) := by decide +kernel
theorem dX8_programme_61 : decode cX8_programme 61 = .ok (.iload 6, 2) := by decide +kernel
theorem dX8_programme_63 : decode cX8_programme 63 = .ok (.iload_n 3, 1) := by decide +kernel
theorem dX8_programme_64 : decode cX8_programme 64 = .ok (.if_icmp .le 10, 3) := by decide +kernel
theorem dX8_programme_67 : decode cX8_programme 67 = .ok (.iload 6, 2) := by decide +kernel
theorem dX8_programme_69 : decode cX8_programme 69 = .ok (.istore_n 3, 1) := by decide +kernel
theorem dX8_programme_70 : decode cX8_programme 70 = .ok (.iload 5, 2) := by decide +kernel
theorem dX8_programme_72 : decode cX8_programme 72 = .ok (.istore 4, 2) := by decide +kernel
theorem dX8_programme_74 : decode cX8_programme 74 = .ok (.iinc 5 1, 3) := by decide +kernel
theorem dX8_programme_77 : decode cX8_programme 77 = .ok (.goto (-47), 3) := by decide +kernel
theorem dX8_programme_80 : decode cX8_programme 80 = .ok (.iload_n 2, 1) := by decide +kernel
theorem dX8_programme_81 : decode cX8_programme 81 = .ok (.ifCond .ne 7, 3) := by decide +kernel
theorem dX8_programme_84 : decode cX8_programme 84 = .ok (.iload_n 3, 1) := by decide +kernel
theorem dX8_programme_85 : decode cX8_programme 85 = .ok (.goto 5, 3) := by decide +kernel
theorem dX8_programme_88 : decode cX8_programme 88 = .ok (.iload 4, 2) := by decide +kernel
theorem dX8_programme_90 : decode cX8_programme 90 = .ok (.ireturn, 1) := by decide +kernel
theorem dX8_ruin_0 : decode cX8_ruin 0 = .ok (.iload_n 1, 1) := by decide +kernel
theorem dX8_ruin_1 : decode cX8_ruin 1 = .ok (.iconst 0, 1) := by decide +kernel
theorem dX8_ruin_2 : decode cX8_ruin 2 = .ok (.iconst 5, 1) := by decide +kernel
theorem dX8_ruin_3 : decode cX8_ruin 3 = .ok (.invokestatic 68, 3) := by decide +kernel
theorem dX8_ruin_6 : decode cX8_ruin 6 = .ok (.ifCond .ne 5, 3) := by decide +kernel
theorem dX8_ruin_9 : decode cX8_ruin 9 = .ok (.iconst (-1), 1) := by decide +kernel
theorem dX8_ruin_10 : decode cX8_ruin 10 = .ok (.ireturn, 1) := by decide +kernel
theorem dX8_ruin_11 : decode cX8_ruin 11 = .ok (.iload_n 2, 1) := by decide +kernel
theorem dX8_ruin_12 : decode cX8_ruin 12 = .ok (.iconst 0, 1) := by decide +kernel
theorem dX8_ruin_13 : decode cX8_ruin 13 = .ok (.iconst 1, 1) := by decide +kernel
theorem dX8_ruin_14 : decode cX8_ruin 14 = .ok (.invokestatic 68, 3) := by decide +kernel
theorem dX8_ruin_17 : decode cX8_ruin 17 = .ok (.ifCond .ne 6, 3) := by decide +kernel
theorem dX8_ruin_20 : decode cX8_ruin 20 = .ok (.bipush (-2), 2) := by decide +kernel
theorem dX8_ruin_22 : decode cX8_ruin 22 = .ok (.ireturn, 1) := by decide +kernel
theorem dX8_ruin_23 : decode cX8_ruin 23 = .ok (.iconst 0, 1) := by decide +kernel
theorem dX8_ruin_24 : decode cX8_ruin 24 = .ok (.istore_n 3, 1) := by decide +kernel
theorem dX8_ruin_25 : decode cX8_ruin 25 = .ok (.iconst 0, 1) := by decide +kernel
theorem dX8_ruin_26 : decode cX8_ruin 26 = .ok (.istore 4, 2) := by decide +kernel
theorem dX8_ruin_28 : decode cX8_ruin 28 = .ok (.iload 4, 2) := by decide +kernel
theorem dX8_ruin_30 : decode cX8_ruin 30 = .ok (.iconst 4, 1) := by decide +kernel
theorem dX8_ruin_31 : decode cX8_ruin 31 = .ok (.if_icmp .ge 65, 3) := by decide +kernel
theorem dX8_ruin_34 : decode cX8_ruin 34 = .ok (.aload_n 0, 1) := by decide +kernel
theorem dX8_ruin_35 : decode cX8_ruin 35 = .ok (.getfield 10, 3) := by decide +kernel
theorem dX8_ruin_38 : decode cX8_ruin 38 = .ok (.iload_n 1, 1) := by decide +kernel
theorem dX8_ruin_39 : decode cX8_ruin 39 = .ok (.iload 4, 2) := by decide +kernel
theorem dX8_ruin_41 : decode cX8_ruin 41 = .ok (.invokevirtual 179, 3) := by decide +kernel
theorem dX8_ruin_44 : decode cX8_ruin 44 = .ok (.aload_n 0, 1) := by decide +kernel
theorem dX8_ruin_45 : decode cX8_ruin 45 = .ok (.getfield 10, 3) := by decide +kernel
theorem dX8_ruin_48 : decode cX8_ruin 48 = .ok (.iload 4, 2) := by decide +kernel
theorem dX8_ruin_50 : decode cX8_ruin 50 = .ok (.invokevirtual 182, 3) := by decide +kernel
theorem dX8_ruin_53 : decode cX8_ruin 53 = .ok (.invokestatic 80, 3) := by decide +kernel
theorem dX8_ruin_56 : decode cX8_ruin 56 = .ok (.isub, 1) := by decide +kernel
theorem dX8_ruin_57 : decode cX8_ruin 57 = .ok (.istore 5, 2) := by decide +kernel
theorem dX8_ruin_59 : decode cX8_ruin 59 = .ok (.aload_n 0, 1) := by decide +kernel
theorem dX8_ruin_60 : decode cX8_ruin 60 = .ok (.getfield 10, 3) := by decide +kernel
theorem dX8_ruin_63 : decode cX8_ruin 63 = .ok (.iload 4, 2) := by decide +kernel
theorem dX8_ruin_65 : decode cX8_ruin 65 = .ok (.iload 5, 2) := by decide +kernel
theorem dX8_ruin_67 : decode cX8_ruin 67 = .ok (.invokevirtual 185, 3) := by decide +kernel
theorem dX8_ruin_70 : decode cX8_ruin 70 = .ok (.istore 6, 2) := by decide +kernel
theorem dX8_ruin_72 : decode cX8_ruin 72 = .ok (.iload 6, 2) := by decide +kernel
theorem dX8_ruin_74 : decode cX8_ruin 74 = .ok (.invokestatic 80, 3) := by decide +kernel
theorem dX8_ruin_77 : decode cX8_ruin 77 = .ok (.iload 5, 2) := by decide +kernel
theorem dX8_ruin_79 : decode cX8_ruin 79 = .ok (.if_icmp .ge 6, 3) := by decide +kernel
theorem dX8_ruin_82 : decode cX8_ruin 82 = .ok (.bipush (-6), 2) := by decide +kernel
theorem dX8_ruin_84 : decode cX8_ruin 84 = .ok (.ireturn, 1) := by decide +kernel
theorem dX8_ruin_85 : decode cX8_ruin 85 = .ok (.iload_n 3, 1) := by decide +kernel
theorem dX8_ruin_86 : decode cX8_ruin 86 = .ok (.iload 6, 2) := by decide +kernel
theorem dX8_ruin_88 : decode cX8_ruin 88 = .ok (.ior, 1) := by decide +kernel
theorem dX8_ruin_89 : decode cX8_ruin 89 = .ok (.istore_n 3, 1) := by decide +kernel
theorem dX8_ruin_90 : decode cX8_ruin 90 = .ok (.iinc 4 1, 3) := by decide +kernel
theorem dX8_ruin_93 : decode cX8_ruin 93 = .ok (.goto (-65), 3) := by decide +kernel
theorem dX8_ruin_96 : decode cX8_ruin 96 = .ok (.iload_n 2, 1) := by decide +kernel
theorem dX8_ruin_97 : decode cX8_ruin 97 = .ok (.ifCond .ne 10, 3) := by decide +kernel
theorem dX8_ruin_100 : decode cX8_ruin 100 = .ok (.iload_n 3, 1) := by decide +kernel
theorem dX8_ruin_101 : decode cX8_ruin 101 = .ok (.invokestatic 80, 3) := by decide +kernel
theorem dX8_ruin_104 : decode cX8_ruin 104 = .ok (.goto 4, 3) := by decide +kernel
theorem dX8_ruin_107 : decode cX8_ruin 107 = .ok (.iload_n 3, 1) := by decide +kernel
theorem dX8_ruin_108 : decode cX8_ruin 108 = .ok (.ireturn, 1) := by decide +kernel
theorem dX8_seats_0 : decode cX8_seats 0 = .ok (.iload_n 1, 1) := by decide +kernel
theorem dX8_seats_1 : decode cX8_seats 1 = .ok (.iconst 0, 1) := by decide +kernel
theorem dX8_seats_2 : decode cX8_seats 2 = .ok (.bipush 6, 2) := by decide +kernel
theorem dX8_seats_4 : decode cX8_seats 4 = .ok (.invokestatic 68, 3) := by decide +kernel
theorem dX8_seats_7 : decode cX8_seats 7 = .ok (.ifCond .eq 22, 3) := by decide +kernel
theorem dX8_seats_10 : decode cX8_seats 10 = .ok (.iload_n 2, 1) := by decide +kernel
theorem dX8_seats_11 : decode cX8_seats 11 = .ok (.iconst 0, 1) := by decide +kernel
theorem dX8_seats_12 : decode cX8_seats 12 = .ok (.ldc 188, 2) := by decide +kernel
theorem dX8_seats_14 : decode cX8_seats 14 = .ok (.invokestatic 68, 3) := by decide +kernel
theorem dX8_seats_17 : decode cX8_seats 17 = .ok (.ifCond .eq 12, 3) := by decide +kernel
theorem dX8_seats_20 : decode cX8_seats 20 = .ok (.iload_n 3, 1) := by decide +kernel
theorem dX8_seats_21 : decode cX8_seats 21 = .ok (.iconst 0, 1) := by decide +kernel
theorem dX8_seats_22 : decode cX8_seats 22 = .ok (.iconst 1, 1) := by decide +kernel
theorem dX8_seats_23 : decode cX8_seats 23 = .ok (.invokestatic 68, 3) := by decide +kernel
theorem dX8_seats_26 : decode cX8_seats 26 = .ok (.ifCond .ne 6, 3) := by decide +kernel
theorem dX8_seats_29 : decode cX8_seats 29 = .ok (.bipush (-2), 2) := by decide +kernel
theorem dX8_seats_31 : decode cX8_seats 31 = .ok (.ireturn, 1) := by decide +kernel
theorem dX8_seats_32 : decode cX8_seats 32 = .ok (.iconst 0, 1) := by decide +kernel
theorem dX8_seats_33 : decode cX8_seats 33 = .ok (.istore 4, 2) := by decide +kernel
theorem dX8_seats_35 : decode cX8_seats 35 = .ok (.iconst 0, 1) := by decide +kernel
theorem dX8_seats_36 : decode cX8_seats 36 = .ok (.istore 5, 2) := by decide +kernel
theorem dX8_seats_38 : decode cX8_seats 38 = .ok (.iconst 0, 1) := by decide +kernel
theorem dX8_seats_39 : decode cX8_seats 39 = .ok (.istore 6, 2) := by decide +kernel
theorem dX8_seats_41 : decode cX8_seats 41 = .ok (.iload 6, 2) := by decide +kernel
theorem dX8_seats_43 : decode cX8_seats 43 = .ok (.bipush 6, 2) := by decide +kernel
theorem dX8_seats_45 : decode cX8_seats 45 = .ok (.if_icmp .ge 51, 3) := by decide +kernel
theorem dX8_seats_48 : decode cX8_seats 48 = .ok (.iload_n 2, 1) := by decide +kernel
theorem dX8_seats_49 : decode cX8_seats 49 = .ok (.iload 6, 2) := by decide +kernel
theorem dX8_seats_51 : decode cX8_seats 51 = .ok (.invokestatic 189, 3) := by decide +kernel
theorem dX8_seats_54 : decode cX8_seats 54 = .ok (.istore 7, 2) := by decide +kernel
theorem dX8_seats_56 : decode cX8_seats 56 = .ok (.iload 7, 2) := by decide +kernel
theorem dX8_seats_58 : decode cX8_seats 58 = .ok (.iload_n 1, 1) := by decide +kernel
theorem dX8_seats_59 : decode cX8_seats 59 = .ok (.if_icmp .ge 15, 3) := by decide +kernel
theorem dX8_seats_62 : decode cX8_seats 62 = .ok (.iload 4, 2) := by decide +kernel
theorem dX8_seats_64 : decode cX8_seats 64 = .ok (.iconst 1, 1) := by decide +kernel
theorem dX8_seats_65 : decode cX8_seats 65 = .ok (.iload 6, 2) := by decide +kernel
theorem dX8_seats_67 : decode cX8_seats 67 = .ok (.ishl, 1) := by decide +kernel
theorem dX8_seats_68 : decode cX8_seats 68 = .ok (.ior, 1) := by decide +kernel
theorem dX8_seats_69 : decode cX8_seats 69 = .ok (.istore 4, 2) := by decide +kernel
theorem dX8_seats_71 : decode cX8_seats 71 = .ok (.goto 19, 3) := by decide +kernel
theorem dX8_seats_74 : decode cX8_seats 74 = .ok (.iload 7, 2) := by decide +kernel
theorem dX8_seats_76 : decode cX8_seats 76 = .ok (.iload_n 1, 1) := by decide +kernel
theorem dX8_seats_77 : decode cX8_seats 77 = .ok (.if_icmp .ne 13, 3) := by decide +kernel
theorem dX8_seats_80 : decode cX8_seats 80 = .ok (.iload_n 2, 1) := by decide +kernel
theorem dX8_seats_81 : decode cX8_seats 81 = .ok (.iconst 5, 1) := by decide +kernel
theorem dX8_seats_82 : decode cX8_seats 82 = .ok (.iload 6, 2) := by decide +kernel
theorem dX8_seats_84 : decode cX8_seats 84 = .ok (.isub, 1) := by decide +kernel
theorem dX8_seats_85 : decode cX8_seats 85 = .ok (.invokestatic 192, 3) := by decide +kernel
theorem dX8_seats_88 : decode cX8_seats 88 = .ok (.istore 5, 2) := by decide +kernel
theorem dX8_seats_90 : decode cX8_seats 90 = .ok (.iinc 6 1, 3) := by decide +kernel
theorem dX8_seats_93 : decode cX8_seats 93 = .ok (.goto (-52), 3) := by decide +kernel
theorem dX8_seats_96 : decode cX8_seats 96 = .ok (.iload_n 3, 1) := by decide +kernel
theorem dX8_seats_97 : decode cX8_seats 97 = .ok (.ifCond .ne 8, 3) := by decide +kernel
theorem dX8_seats_100 : decode cX8_seats 100 = .ok (.iload 4, 2) := by decide +kernel
theorem dX8_seats_102 : decode cX8_seats 102 = .ok (.goto 5, 3) := by decide +kernel
theorem dX8_seats_105 : decode cX8_seats 105 = .ok (.iload 5, 2) := by decide +kernel
theorem dX8_seats_107 : decode cX8_seats 107 = .ok (.ireturn, 1) := by decide +kernel
theorem dX8_rings_0 : decode cX8_rings 0 = .ok (.iload_n 1, 1) := by decide +kernel
theorem dX8_rings_1 : decode cX8_rings 1 = .ok (.invokestatic 195, 3) := by decide +kernel
theorem dX8_rings_4 : decode cX8_rings 4 = .ok (.ifCond .eq 35, 3) := by decide +kernel
theorem dX8_rings_7 : decode cX8_rings 7 = .ok (.iload_n 2, 1) := by decide +kernel
theorem dX8_rings_8 : decode cX8_rings 8 = .ok (.invokestatic 195, 3) := by decide +kernel
theorem dX8_rings_11 : decode cX8_rings 11 = .ok (.ifCond .eq 28, 3) := by decide +kernel
theorem dX8_rings_14 : decode cX8_rings 14 = .ok (.iload_n 3, 1) := by decide +kernel
theorem dX8_rings_15 : decode cX8_rings 15 = .ok (.invokestatic 195, 3) := by decide +kernel
theorem dX8_rings_18 : decode cX8_rings 18 = .ok (.ifCond .eq 21, 3) := by decide +kernel
theorem dX8_rings_21 : decode cX8_rings 21 = .ok (.iload 4, 2) := by decide +kernel
theorem dX8_rings_23 : decode cX8_rings 23 = .ok (.invokestatic 195, 3) := by decide +kernel
theorem dX8_rings_26 : decode cX8_rings 26 = .ok (.ifCond .eq 13, 3) := by decide +kernel
theorem dX8_rings_29 : decode cX8_rings 29 = .ok (.iload 5, 2) := by decide +kernel
theorem dX8_rings_31 : decode cX8_rings 31 = .ok (.iconst 0, 1) := by decide +kernel
theorem dX8_rings_32 : decode cX8_rings 32 = .ok (.iconst 1, 1) := by decide +kernel
theorem dX8_rings_33 : decode cX8_rings 33 = .ok (.invokestatic 68, 3) := by decide +kernel
theorem dX8_rings_36 : decode cX8_rings 36 = .ok (.ifCond .ne 6, 3) := by decide +kernel
theorem dX8_rings_39 : decode cX8_rings 39 = .ok (.bipush (-2), 2) := by decide +kernel
theorem dX8_rings_41 : decode cX8_rings 41 = .ok (.ireturn, 1) := by decide +kernel
theorem dX8_rings_42 : decode cX8_rings 42 = .ok (.aload_n 0, 1) := by decide +kernel
theorem dX8_rings_43 : decode cX8_rings 43 = .ok (.getfield 47, 3) := by decide +kernel
theorem dX8_rings_46 : decode cX8_rings 46 = .ok (.iload_n 1, 1) := by decide +kernel
theorem dX8_rings_47 : decode cX8_rings 47 = .ok (.iload_n 2, 1) := by decide +kernel
theorem dX8_rings_48 : decode cX8_rings 48 = .ok (.iload_n 3, 1) := by decide +kernel
theorem dX8_rings_49 : decode cX8_rings 49 = .ok (.iload 4, 2) := by decide +kernel
theorem dX8_rings_51 : decode cX8_rings 51 = .ok (.invokevirtual 198, 3) := by decide +kernel
theorem dX8_rings_54 : decode cX8_rings 54 = .ok (.aload_n 0, 1) := by decide +kernel
theorem dX8_rings_55 : decode cX8_rings 55 = .ok (.getfield 47, 3) := by decide +kernel
theorem dX8_rings_58 : decode cX8_rings 58 = .ok (.invokevirtual 201, 3) := by decide +kernel
theorem dX8_rings_61 : decode cX8_rings 61 = .ok (.iload 5, 2) := by decide +kernel
theorem dX8_rings_63 : decode cX8_rings 63 = .ok (.ifCond .ne 13, 3) := by decide +kernel
theorem dX8_rings_66 : decode cX8_rings 66 = .ok (.aload_n 0, 1) := by decide +kernel
theorem dX8_rings_67 : decode cX8_rings 67 = .ok (.getfield 47, 3) := by decide +kernel
theorem dX8_rings_70 : decode cX8_rings 70 = .ok (.invokevirtual 204, 3) := by decide +kernel
theorem dX8_rings_73 : decode cX8_rings 73 = .ok (.goto 10, 3) := by decide +kernel
theorem dX8_rings_76 : decode cX8_rings 76 = .ok (.aload_n 0, 1) := by decide +kernel
theorem dX8_rings_77 : decode cX8_rings 77 = .ok (.getfield 47, 3) := by decide +kernel
theorem dX8_rings_80 : decode cX8_rings 80 = .ok (.invokevirtual 207, 3) := by decide +kernel
theorem dX8_rings_83 : decode cX8_rings 83 = .ok (.ireturn, 1) := by decide +kernel
theorem dX8_seen_0 : decode cX8_seen 0 = .ok (.iload_n 1, 1) := by decide +kernel
theorem dX8_seen_1 : decode cX8_seen 1 = .ok (.iconst 1, 1) := by decide +kernel
theorem dX8_seen_2 : decode cX8_seen 2 = .ok (.bipush 9, 2) := by decide +kernel
theorem dX8_seen_4 : decode cX8_seen 4 = .ok (.invokestatic 68, 3) := by decide +kernel
theorem dX8_seen_7 : decode cX8_seen 7 = .ok (.ifCond .eq 13, 3) := by decide +kernel
theorem dX8_seen_10 : decode cX8_seen 10 = .ok (.iload_n 2, 1) := by decide +kernel
theorem dX8_seen_11 : decode cX8_seen 11 = .ok (.iconst 0, 1) := by decide +kernel
theorem dX8_seen_12 : decode cX8_seen 12 = .ok (.bipush 18, 2) := by decide +kernel
theorem dX8_seen_14 : decode cX8_seen 14 = .ok (.invokestatic 68, 3) := by decide +kernel
theorem dX8_seen_17 : decode cX8_seen 17 = .ok (.ifCond .ne 6, 3) := by decide +kernel
theorem dX8_seen_20 : decode cX8_seen 20 = .ok (.bipush (-2), 2) := by decide +kernel
theorem dX8_seen_22 : decode cX8_seen 22 = .ok (.ireturn, 1) := by decide +kernel
theorem dX8_seen_23 : decode cX8_seen 23 = .ok (.aload_n 0, 1) := by decide +kernel
theorem dX8_seen_24 : decode cX8_seen 24 = .ok (.getfield 19, 3) := by decide +kernel
theorem dX8_seen_27 : decode cX8_seen 27 = .ok (.iload_n 1, 1) := by decide +kernel
theorem dX8_seen_28 : decode cX8_seen 28 = .ok (.iload_n 2, 1) := by decide +kernel
theorem dX8_seen_29 : decode cX8_seen 29 = .ok (.invokevirtual 210, 3) := by decide +kernel
theorem dX8_seen_32 : decode cX8_seen 32 = .ok (.ifCond .eq 13, 3) := by decide +kernel
theorem dX8_seen_35 : decode cX8_seen 35 = .ok (.aload_n 0, 1) := by decide +kernel
theorem dX8_seen_36 : decode cX8_seen 36 = .ok (.getfield 19, 3) := by decide +kernel
theorem dX8_seen_39 : decode cX8_seen 39 = .ok (.getfield 213, 3) := by decide +kernel
theorem dX8_seen_42 : decode cX8_seen 42 = .ok (.goto 5, 3) := by decide +kernel
theorem dX8_seen_45 : decode cX8_seen 45 = .ok (.bipush (-4), 2) := by decide +kernel
theorem dX8_seen_47 : decode cX8_seen 47 = .ok (.ireturn, 1) := by decide +kernel
theorem dX8_forget_0 : decode cX8_forget 0 = .ok (.aload_n 0, 1) := by decide +kernel
theorem dX8_forget_1 : decode cX8_forget 1 = .ok (.getfield 19, 3) := by decide +kernel
theorem dX8_forget_4 : decode cX8_forget 4 = .ok (.getfield 213, 3) := by decide +kernel
theorem dX8_forget_7 : decode cX8_forget 7 = .ok (.istore_n 1, 1) := by decide +kernel
theorem dX8_forget_8 : decode cX8_forget 8 = .ok (.aload_n 0, 1) := by decide +kernel
theorem dX8_forget_9 : decode cX8_forget 9 = .ok (.getfield 19, 3) := by decide +kernel
theorem dX8_forget_12 : decode cX8_forget 12 = .ok (.iconst 0, 1) := by decide +kernel
theorem dX8_forget_13 : decode cX8_forget 13 = .ok (.putfield 213, 3) := by decide +kernel
theorem dX8_forget_16 : decode cX8_forget 16 = .ok (.iload_n 1, 1) := by decide +kernel
theorem dX8_forget_17 : decode cX8_forget 17 = .ok (.ireturn, 1) := by decide +kernel
theorem dX8_holds_0 : decode cX8_holds 0 = .ok (.aload_n 0, 1) := by decide +kernel
theorem dX8_holds_1 : decode cX8_holds 1 = .ok (.getfield 19, 3) := by decide +kernel
theorem dX8_holds_4 : decode cX8_holds 4 = .ok (.invokevirtual 214, 3) := by decide +kernel
theorem dX8_holds_7 : decode cX8_holds 7 = .ok (.iload_n 1, 1) := by decide +kernel
theorem dX8_holds_8 : decode cX8_holds 8 = .ok (.iconst (-1), 1) := by decide +kernel
theorem dX8_holds_9 : decode cX8_holds 9 = .ok (.if_icmp .ne 13, 3) := by decide +kernel
theorem dX8_holds_12 : decode cX8_holds 12 = .ok (.aload_n 0, 1) := by decide +kernel
theorem dX8_holds_13 : decode cX8_holds 13 = .ok (.getfield 19, 3) := by decide +kernel
theorem dX8_holds_16 : decode cX8_holds 16 = .ok (.getfield 217, 3) := by decide +kernel
theorem dX8_holds_19 : decode cX8_holds 19 = .ok (.goto 11, 3) := by decide +kernel
theorem dX8_holds_22 : decode cX8_holds 22 = .ok (.aload_n 0, 1) := by decide +kernel
theorem dX8_holds_23 : decode cX8_holds 23 = .ok (.getfield 19, 3) := by decide +kernel
theorem dX8_holds_26 : decode cX8_holds 26 = .ok (.iload_n 1, 1) := by decide +kernel
theorem dX8_holds_27 : decode cX8_holds 27 = .ok (.invokevirtual 220, 3) := by decide +kernel
theorem dX8_holds_30 : decode cX8_holds 30 = .ok (.ireturn, 1) := by decide +kernel
theorem dX8_ask_0 : decode cX8_ask 0 = .ok (.iload_n 1, 1) := by decide +kernel
theorem dX8_ask_1 : decode cX8_ask 1 = .ok (.iconst 0, 1) := by decide +kernel
theorem dX8_ask_2 : decode cX8_ask 2 = .ok (.iconst 1, 1) := by decide +kernel
theorem dX8_ask_3 : decode cX8_ask 3 = .ok (.invokestatic 68, 3) := by decide +kernel
theorem dX8_ask_6 : decode cX8_ask 6 = .ok (.ifCond .ne 6, 3) := by decide +kernel
theorem dX8_ask_9 : decode cX8_ask 9 = .ok (.bipush (-2), 2) := by decide +kernel
theorem dX8_ask_11 : decode cX8_ask 11 = .ok (.ireturn, 1) := by decide +kernel
theorem dX8_ask_12 : decode cX8_ask 12 = .ok (.aload_n 0, 1) := by decide +kernel
theorem dX8_ask_13 : decode cX8_ask 13 = .ok (.getfield 19, 3) := by decide +kernel
theorem dX8_ask_16 : decode cX8_ask 16 = .ok (.invokevirtual 214, 3) := by decide +kernel
theorem dX8_ask_19 : decode cX8_ask 19 = .ok (.aload_n 0, 1) := by decide +kernel
theorem dX8_ask_20 : decode cX8_ask 20 = .ok (.getfield 19, 3) := by decide +kernel
theorem dX8_ask_23 : decode cX8_ask 23 = .ok (.getfield 217, 3) := by decide +kernel
theorem dX8_ask_26 : decode cX8_ask 26 = .ok (.ifCond .ne 6, 3) := by decide +kernel
theorem dX8_ask_29 : decode cX8_ask 29 = .ok (.bipush (-6), 2) := by decide +kernel
theorem dX8_ask_31 : decode cX8_ask 31 = .ok (.ireturn, 1) := by decide +kernel
theorem dX8_ask_32 : decode cX8_ask 32 = .ok (.iconst 1, 1) := by decide +kernel
theorem dX8_ask_33 : decode cX8_ask 33 = .ok (.istore_n 2, 1) := by decide +kernel
theorem dX8_ask_34 : decode cX8_ask 34 = .ok (.aload_n 0, 1) := by decide +kernel
theorem dX8_ask_35 : decode cX8_ask 35 = .ok (.getfield 19, 3) := by decide +kernel
theorem dX8_ask_38 : decode cX8_ask 38 = .ok (.iconst 1, 1) := by decide +kernel
theorem dX8_ask_39 : decode cX8_ask 39 = .ok (.invokevirtual 223, 3) := by decide +kernel
theorem dX8_ask_42 : decode cX8_ask 42 = .ok (.istore_n 3, 1) := by decide +kernel
theorem dX8_ask_43 : decode cX8_ask 43 = .ok (.iconst 2, 1) := by decide +kernel
theorem dX8_ask_44 : decode cX8_ask 44 = .ok (.istore 4, 2) := by decide +kernel
theorem dX8_ask_46 : decode cX8_ask 46 = .ok (.iload 4, 2) := by decide +kernel
theorem dX8_ask_48 : decode cX8_ask 48 = .ok (.bipush 9, 2) := by decide +kernel
theorem dX8_ask_50 : decode cX8_ask 50 = .ok (.if_icmp .gt 32, 3) := by decide +kernel
theorem dX8_ask_53 : decode cX8_ask 53 = .ok (.aload_n 0, 1) := by decide +kernel
theorem dX8_ask_54 : decode cX8_ask 54 = .ok (.getfield 19, 3) := by decide +kernel
theorem dX8_ask_57 : decode cX8_ask 57 = .ok (.iload 4, 2) := by decide +kernel
theorem dX8_ask_59 : decode cX8_ask 59 = .ok (.invokevirtual 223, 3) := by decide +kernel
theorem dX8_ask_62 : decode cX8_ask 62 = .ok (.istore 5, 2) := by decide +kernel
theorem dX8_ask_64 : decode cX8_ask 64 = .ok (.iload 5, 2) := by decide +kernel
theorem dX8_ask_66 : decode cX8_ask 66 = .ok (.iload_n 3, 1) := by decide +kernel
theorem dX8_ask_67 : decode cX8_ask 67 = .ok (.if_icmp .ge 9, 3) := by decide +kernel
theorem dX8_ask_70 : decode cX8_ask 70 = .ok (.iload 4, 2) := by decide +kernel
theorem dX8_ask_72 : decode cX8_ask 72 = .ok (.istore_n 2, 1) := by decide +kernel
theorem dX8_ask_73 : decode cX8_ask 73 = .ok (.iload 5, 2) := by decide +kernel
theorem dX8_ask_75 : decode cX8_ask 75 = .ok (.istore_n 3, 1) := by decide +kernel
theorem dX8_ask_76 : decode cX8_ask 76 = .ok (.iinc 4 1, 3) := by decide +kernel
theorem dX8_ask_79 : decode cX8_ask 79 = .ok (.goto (-33), 3) := by decide +kernel
theorem dX8_ask_82 : decode cX8_ask 82 = .ok (.iload_n 1, 1) := by decide +kernel
theorem dX8_ask_83 : decode cX8_ask 83 = .ok (.ifCond .ne 7, 3) := by decide +kernel
theorem dX8_ask_86 : decode cX8_ask 86 = .ok (.iload_n 2, 1) := by decide +kernel
theorem dX8_ask_87 : decode cX8_ask 87 = .ok (.goto 4, 3) := by decide +kernel
theorem dX8_ask_90 : decode cX8_ask 90 = .ok (.iload_n 3, 1) := by decide +kernel
theorem dX8_ask_91 : decode cX8_ask 91 = .ok (.ireturn, 1) := by decide +kernel
theorem dX8_fugue_0 : decode cX8_fugue 0 = .ok (.iload_n 1, 1) := by decide +kernel
theorem dX8_fugue_1 : decode cX8_fugue 1 = .ok (.iconst 0, 1) := by decide +kernel
theorem dX8_fugue_2 : decode cX8_fugue 2 = .ok (.bipush 9, 2) := by decide +kernel
theorem dX8_fugue_4 : decode cX8_fugue 4 = .ok (.invokestatic 68, 3) := by decide +kernel
theorem dX8_fugue_7 : decode cX8_fugue 7 = .ok (.ifCond .eq 65, 3) := by decide +kernel
theorem dX8_fugue_10 : decode cX8_fugue 10 = .ok (.iload_n 2, 1) := by decide +kernel
theorem dX8_fugue_11 : decode cX8_fugue 11 = .ok (.iconst 0, 1) := by decide +kernel
theorem dX8_fugue_12 : decode cX8_fugue 12 = .ok (.bipush 8, 2) := by decide +kernel
theorem dX8_fugue_14 : decode cX8_fugue 14 = .ok (.invokestatic 68, 3) := by decide +kernel
theorem dX8_fugue_17 : decode cX8_fugue 17 = .ok (.ifCond .eq 55, 3) := by decide +kernel
theorem dX8_fugue_20 : decode cX8_fugue 20 = .ok (.iload_n 3, 1) := by decide +kernel
theorem dX8_fugue_21 : decode cX8_fugue 21 = .ok (.iconst 0, 1) := by decide +kernel
theorem dX8_fugue_22 : decode cX8_fugue 22 = .ok (.bipush 10, 2) := by decide +kernel
theorem dX8_fugue_24 : decode cX8_fugue 24 = .ok (.invokestatic 68, 3) := by decide +kernel
theorem dX8_fugue_27 : decode cX8_fugue 27 = .ok (.ifCond .eq 45, 3) := by decide +kernel
theorem dX8_fugue_30 : decode cX8_fugue 30 = .ok (.iload 4, 2) := by decide +kernel
theorem dX8_fugue_32 : decode cX8_fugue 32 = .ok (.iconst 0, 1) := by decide +kernel
theorem dX8_fugue_33 : decode cX8_fugue 33 = .ok (.bipush 9, 2) := by decide +kernel
theorem dX8_fugue_35 : decode cX8_fugue 35 = .ok (.invokestatic 68, 3) := by decide +kernel
theorem dX8_fugue_38 : decode cX8_fugue 38 = .ok (.ifCond .eq 34, 3) := by decide +kernel
theorem dX8_fugue_41 : decode cX8_fugue 41 = .ok (.iload 5, 2) := by decide +kernel
theorem dX8_fugue_43 : decode cX8_fugue 43 = .ok (.iconst 0, 1) := by decide +kernel
theorem dX8_fugue_44 : decode cX8_fugue 44 = .ok (.bipush 9, 2) := by decide +kernel
theorem dX8_fugue_46 : decode cX8_fugue 46 = .ok (.invokestatic 68, 3) := by decide +kernel
theorem dX8_fugue_49 : decode cX8_fugue 49 = .ok (.ifCond .eq 23, 3) := by decide +kernel
theorem dX8_fugue_52 : decode cX8_fugue 52 = .ok (.iload 6, 2) := by decide +kernel
theorem dX8_fugue_54 : decode cX8_fugue 54 = .ok (.iconst 0, 1) := by decide +kernel
theorem dX8_fugue_55 : decode cX8_fugue 55 = .ok (.iconst 1, 1) := by decide +kernel
theorem dX8_fugue_56 : decode cX8_fugue 56 = .ok (.invokestatic 68, 3) := by decide +kernel
theorem dX8_fugue_59 : decode cX8_fugue 59 = .ok (.ifCond .eq 13, 3) := by decide +kernel
theorem dX8_fugue_62 : decode cX8_fugue 62 = .ok (.iload 7, 2) := by decide +kernel
theorem dX8_fugue_64 : decode cX8_fugue 64 = .ok (.iconst 0, 1) := by decide +kernel
theorem dX8_fugue_65 : decode cX8_fugue 65 = .ok (.iconst 1, 1) := by decide +kernel
theorem dX8_fugue_66 : decode cX8_fugue 66 = .ok (.invokestatic 68, 3) := by decide +kernel
theorem dX8_fugue_69 : decode cX8_fugue 69 = .ok (.ifCond .ne 7, 3) := by decide +kernel
theorem dX8_fugue_72 : decode cX8_fugue 72 = .ok (.ldc2_w 226, 3) := by decide +kernel
theorem dX8_fugue_75 : decode cX8_fugue 75 = .ok (.lreturn, 1) := by decide +kernel
theorem dX8_fugue_76 : decode cX8_fugue 76 = .ok (.aload_n 0, 1) := by decide +kernel
theorem dX8_fugue_77 : decode cX8_fugue 77 = .ok (.getfield 54, 3) := by decide +kernel
theorem dX8_fugue_80 : decode cX8_fugue 80 = .ok (.iload 5, 2) := by decide +kernel
theorem dX8_fugue_82 : decode cX8_fugue 82 = .ok (.invokevirtual 228, 3) := by decide +kernel
theorem dX8_fugue_85 : decode cX8_fugue 85 = .ok (.iconst 0, 1) := by decide +kernel
theorem dX8_fugue_86 : decode cX8_fugue 86 = .ok (.istore 8, 2) := by decide +kernel
theorem dX8_fugue_88 : decode cX8_fugue 88 = .ok (.iload 8, 2) := by decide +kernel
theorem dX8_fugue_90 : decode cX8_fugue 90 = .ok (.iload_n 2, 1) := by decide +kernel
theorem dX8_fugue_91 : decode cX8_fugue 91 = .ok (.if_icmp .ge 19, 3) := by decide +kernel
theorem dX8_fugue_94 : decode cX8_fugue 94 = .ok (.aload_n 0, 1) := by decide +kernel
theorem dX8_fugue_95 : decode cX8_fugue 95 = .ok (.getfield 54, 3) := by decide +kernel
theorem dX8_fugue_98 : decode cX8_fugue 98 = .ok (.iload_n 3, 1) := by decide +kernel
theorem dX8_fugue_99 : decode cX8_fugue 99 = .ok (.iload 4, 2) := by decide +kernel
theorem dX8_fugue_101 : decode cX8_fugue 101 = .ok (.invokevirtual 230, 3) := by decide +kernel
theorem dX8_fugue_104 : decode cX8_fugue 104 = .ok (.iinc 8 1, 3) := by decide +kernel
theorem dX8_fugue_107 : decode cX8_fugue 107 = .ok (.goto (-19), 3) := by decide +kernel
theorem dX8_fugue_110 : decode cX8_fugue 110 = .ok (.iload 6, 2) := by decide +kernel
theorem dX8_fugue_112 : decode cX8_fugue 112 = .ok (.iconst 1, 1) := by decide +kernel
theorem dX8_fugue_113 : decode cX8_fugue 113 = .ok (.if_icmp .ne 16, 3) := by decide +kernel
theorem dX8_fugue_116 : decode cX8_fugue 116 = .ok (.aload_n 0, 1) := by decide +kernel
theorem dX8_fugue_117 : decode cX8_fugue 117 = .ok (.getfield 54, 3) := by decide +kernel
theorem dX8_fugue_120 : decode cX8_fugue 120 = .ok (.getfield 234, 3) := by decide +kernel
theorem dX8_fugue_123 : decode cX8_fugue 123 = .ok (.iload_n 1, 1) := by decide +kernel
theorem dX8_fugue_124 : decode cX8_fugue 124 = .ok (.invokestatic 137, 3) := by decide +kernel
theorem dX8_fugue_127 : decode cX8_fugue 127 = .ok (.i2l, 1) := by decide +kernel
theorem dX8_fugue_128 : decode cX8_fugue 128 = .ok (.lreturn, 1) := by decide +kernel
theorem dX8_fugue_129 : decode cX8_fugue 129 = .ok (.aload_n 0, 1) := by decide +kernel
theorem dX8_fugue_130 : decode cX8_fugue 130 = .ok (.getfield 54, 3) := by decide +kernel
theorem dX8_fugue_133 : decode cX8_fugue 133 = .ok (.iload_n 1, 1) := by decide +kernel
theorem dX8_fugue_134 : decode cX8_fugue 134 = .ok (.invokevirtual 237, 3) := by decide +kernel
theorem dX8_fugue_137 : decode cX8_fugue 137 = .ok (.lstore 8, 2) := by decide +kernel
theorem dX8_fugue_139 : decode cX8_fugue 139 = .ok (.lload 8, 2) := by decide +kernel
theorem dX8_fugue_141 : decode cX8_fugue 141 = .ok (.aload_n 0, 1) := by decide +kernel
theorem dX8_fugue_142 : decode cX8_fugue 142 = .ok (.getfield 54, 3) := by decide +kernel
theorem dX8_fugue_145 : decode cX8_fugue 145 = .ok (.getfield 241, 3) := by decide +kernel
theorem dX8_fugue_148 : decode cX8_fugue 148 = .ok (.invokestatic 245, 3) := by decide +kernel
theorem dX8_fugue_151 : decode cX8_fugue 151 = .ok (.lstore 10, 2) := by decide +kernel
theorem dX8_fugue_153 : decode cX8_fugue 153 = .ok (.iload 7, 2) := by decide +kernel
theorem dX8_fugue_155 : decode cX8_fugue 155 = .ok (.ifCond .ne 8, 3) := by decide +kernel
theorem dX8_fugue_158 : decode cX8_fugue 158 = .ok (.lload 8, 2) := by decide +kernel
theorem dX8_fugue_160 : decode cX8_fugue 160 = .ok (.goto 10, 3) := by decide +kernel
theorem dX8_fugue_163 : decode cX8_fugue 163 = .ok (.aload_n 0, 1) := by decide +kernel
theorem dX8_fugue_164 : decode cX8_fugue 164 = .ok (.getfield 54, 3) := by decide +kernel
theorem dX8_fugue_167 : decode cX8_fugue 167 = .ok (.getfield 241, 3) := by decide +kernel
theorem dX8_fugue_170 : decode cX8_fugue 170 = .ok (.lload 10, 2) := by decide +kernel
theorem dX8_fugue_172 : decode cX8_fugue 172 = .ok (.ldiv, 1) := by decide +kernel
theorem dX8_fugue_173 : decode cX8_fugue 173 = .ok (.lreturn, 1) := by decide +kernel
theorem dX8_year_0 : decode cX8_year 0 = .ok (.iload_n 1, 1) := by decide +kernel
theorem dX8_year_1 : decode cX8_year 1 = .ok (.iconst 0, 1) := by decide +kernel
theorem dX8_year_2 : decode cX8_year 2 = .ok (.sipush 9999, 3) := by decide +kernel
theorem dX8_year_5 : decode cX8_year 5 = .ok (.invokestatic 68, 3) := by decide +kernel
theorem dX8_year_8 : decode cX8_year 8 = .ok (.ifCond .eq 22, 3) := by decide +kernel
theorem dX8_year_11 : decode cX8_year 11 = .ok (.iload_n 2, 1) := by decide +kernel
theorem dX8_year_12 : decode cX8_year 12 = .ok (.iconst 1, 1) := by decide +kernel
theorem dX8_year_13 : decode cX8_year 13 = .ok (.bipush 99, 2) := by decide +kernel
theorem dX8_year_15 : decode cX8_year 15 = .ok (.invokestatic 68, 3) := by decide +kernel
theorem dX8_year_18 : decode cX8_year 18 = .ok (.ifCond .eq 12, 3) := by decide +kernel
theorem dX8_year_21 : decode cX8_year 21 = .ok (.iload_n 3, 1) := by decide +kernel
theorem dX8_year_22 : decode cX8_year 22 = .ok (.iconst 0, 1) := by decide +kernel
theorem dX8_year_23 : decode cX8_year 23 = .ok (.iconst 2, 1) := by decide +kernel
theorem dX8_year_24 : decode cX8_year 24 = .ok (.invokestatic 68, 3) := by decide +kernel
theorem dX8_year_27 : decode cX8_year 27 = .ok (.ifCond .ne 6, 3) := by decide +kernel
theorem dX8_year_30 : decode cX8_year 30 = .ok (.bipush (-2), 2) := by decide +kernel
theorem dX8_year_32 : decode cX8_year 32 = .ok (.ireturn, 1) := by decide +kernel
theorem dX8_year_33 : decode cX8_year 33 = .ok (.aload_n 0, 1) := by decide +kernel
theorem dX8_year_34 : decode cX8_year 34 = .ok (.getfield 33, 3) := by decide +kernel
theorem dX8_year_37 : decode cX8_year 37 = .ok (.aload_n 0, 1) := by decide +kernel
theorem dX8_year_38 : decode cX8_year 38 = .ok (.getfield 10, 3) := by decide +kernel
theorem dX8_year_41 : decode cX8_year 41 = .ok (.invokevirtual 249, 3) := by decide +kernel
theorem dX8_year_44 : decode cX8_year 44 = .ok (.iload_n 1, 1) := by decide +kernel
theorem dX8_year_45 : decode cX8_year 45 = .ok (.istore 4, 2) := by decide +kernel
theorem dX8_year_47 : decode cX8_year 47 = .ok (.iconst 0, 1) := by decide +kernel
theorem dX8_year_48 : decode cX8_year 48 = .ok (.istore 5, 2) := by decide +kernel
theorem dX8_year_50 : decode cX8_year 50 = .ok (.iload 5, 2) := by decide +kernel
theorem dX8_year_52 : decode cX8_year 52 = .ok (.iload_n 2, 1) := by decide +kernel
theorem dX8_year_53 : decode cX8_year 53 = .ok (.if_icmp .ge 31, 3) := by decide +kernel
theorem dX8_year_56 : decode cX8_year 56 = .ok (.bipush 75, 2) := by decide +kernel
theorem dX8_year_58 : decode cX8_year 58 = .ok (.iload 4, 2) := by decide +kernel
theorem dX8_year_60 : decode cX8_year 60 = .ok (.imul, 1) := by decide +kernel
theorem dX8_year_61 : decode cX8_year 61 = .ok (.bipush 74, 2) := by decide +kernel
theorem dX8_year_63 : decode cX8_year 63 = .ok (.iadd, 1) := by decide +kernel
theorem dX8_year_64 : decode cX8_year 64 = .ok (.ldc 251, 2) := by decide +kernel
theorem dX8_year_66 : decode cX8_year 66 = .ok (.irem, 1) := by decide +kernel
theorem dX8_year_67 : decode cX8_year 67 = .ok (.istore 4, 2) := by decide +kernel
theorem dX8_year_69 : decode cX8_year 69 = .ok (.aload_n 0, 1) := by decide +kernel
theorem dX8_year_70 : decode cX8_year 70 = .ok (.getfield 33, 3) := by decide +kernel
theorem dX8_year_73 : decode cX8_year 73 = .ok (.iload 4, 2) := by decide +kernel
theorem dX8_year_75 : decode cX8_year 75 = .ok (.invokevirtual 252, 3) := by decide +kernel
theorem dX8_year_78 : decode cX8_year 78 = .ok (.iinc 5 1, 3) := by decide +kernel
theorem dX8_year_81 : decode cX8_year 81 = .ok (.goto (-31), 3) := by decide +kernel
theorem dX8_year_84 : decode cX8_year 84 = .ok (.iload_n 3, 1) := by decide +kernel
theorem dX8_year_85 : decode cX8_year 85 = .ok (.ifCond .ne 14, 3) := by decide +kernel
theorem dX8_year_88 : decode cX8_year 88 = .ok (.aload_n 0, 1) := by decide +kernel
theorem dX8_year_89 : decode cX8_year 89 = .ok (.getfield 33, 3) := by decide +kernel
theorem dX8_year_92 : decode cX8_year 92 = .ok (.getfield 127, 3) := by decide +kernel
theorem dX8_year_95 : decode cX8_year 95 = .ok (.invokevirtual 141, 3) := by decide +kernel
theorem dX8_year_98 : decode cX8_year 98 = .ok (.ireturn, 1) := by decide +kernel
theorem dX8_year_99 : decode cX8_year 99 = .ok (.iload_n 3, 1) := by decide +kernel
theorem dX8_year_100 : decode cX8_year 100 = .ok (.iconst 1, 1) := by decide +kernel
theorem dX8_year_101 : decode cX8_year 101 = .ok (.if_icmp .ne 19, 3) := by decide +kernel
theorem dX8_year_104 : decode cX8_year 104 = .ok (.aload_n 0, 1) := by decide +kernel
theorem dX8_year_105 : decode cX8_year 105 = .ok (.getfield 33, 3) := by decide +kernel
theorem dX8_year_108 : decode cX8_year 108 = .ok (.getfield 127, 3) := by decide +kernel
theorem dX8_year_111 : decode cX8_year 111 = .ok (.invokevirtual 255, 3) := by decide +kernel
theorem dX8_year_114 : decode cX8_year 114 = .ok (.invokestatic 80, 3) := by decide +kernel
theorem dX8_year_117 : decode cX8_year 117 = .ok (.goto 13, 3) := by decide +kernel
theorem dX8_year_120 : decode cX8_year 120 = .ok (.aload_n 0, 1) := by decide +kernel
theorem dX8_year_121 : decode cX8_year 121 = .ok (.getfield 33, 3) := by decide +kernel
theorem dX8_year_124 : decode cX8_year 124 = .ok (.getfield 127, 3) := by decide +kernel
theorem dX8_year_127 : decode cX8_year 127 = .ok (.getfield 144, 3) := by decide +kernel
theorem dX8_year_130 : decode cX8_year 130 = .ok (.ireturn, 1) := by decide +kernel
theorem dX8_image_0 : decode cX8_image 0 = .ok (.iload_n 1, 1) := by decide +kernel
theorem dX8_image_1 : decode cX8_image 1 = .ok (.iconst 0, 1) := by decide +kernel
theorem dX8_image_2 : decode cX8_image 2 = .ok (.iconst 1, 1) := by decide +kernel
theorem dX8_image_3 : decode cX8_image 3 = .ok (.invokestatic 68, 3) := by decide +kernel
theorem dX8_image_6 : decode cX8_image 6 = .ok (.ifCond .ne 6, 3) := by decide +kernel
theorem dX8_image_9 : decode cX8_image 9 = .ok (.bipush (-2), 2) := by decide +kernel
theorem dX8_image_11 : decode cX8_image 11 = .ok (.ireturn, 1) := by decide +kernel
theorem dX8_image_12 : decode cX8_image 12 = .ok (.iload_n 1, 1) := by decide +kernel
theorem dX8_image_13 : decode cX8_image 13 = .ok (.ifCond .ne 10, 3) := by decide +kernel
theorem dX8_image_16 : decode cX8_image 16 = .ok (.aload_n 0, 1) := by decide +kernel
theorem dX8_image_17 : decode cX8_image 17 = .ok (.getfield 61, 3) := by decide +kernel
theorem dX8_image_20 : decode cX8_image 20 = .ok (.goto 7, 3) := by decide +kernel
theorem dX8_image_23 : decode cX8_image 23 = .ok (.aload_n 0, 1) := by decide +kernel
theorem dX8_image_24 : decode cX8_image 24 = .ok (.getfield 65, 3) := by decide +kernel
theorem dX8_image_27 : decode cX8_image 27 = .ok (.astore_n 2, 1) := by decide +kernel
theorem dX8_image_28 : decode cX8_image 28 = .ok (.aload_n 2, 1) := by decide +kernel
theorem dX8_image_29 : decode cX8_image 29 = .ok (.getfield 258, 3) := by decide +kernel
theorem dX8_image_32 : decode cX8_image 32 = .ok (.aload_n 0, 1) := by decide +kernel
theorem dX8_image_33 : decode cX8_image 33 = .ok (.getfield 10, 3) := by decide +kernel
theorem dX8_image_36 : decode cX8_image 36 = .ok (.invokevirtual 153, 3) := by decide +kernel
theorem dX8_image_39 : decode cX8_image 39 = .ok (.aload_n 2, 1) := by decide +kernel
theorem dX8_image_40 : decode cX8_image 40 = .ok (.getfield 259, 3) := by decide +kernel
theorem dX8_image_43 : decode cX8_image 43 = .ok (.aload_n 0, 1) := by decide +kernel
theorem dX8_image_44 : decode cX8_image 44 = .ok (.getfield 19, 3) := by decide +kernel
theorem dX8_image_47 : decode cX8_image 47 = .ok (.invokevirtual 260, 3) := by decide +kernel
theorem dX8_image_50 : decode cX8_image 50 = .ok (.aload_n 2, 1) := by decide +kernel
theorem dX8_image_51 : decode cX8_image 51 = .ok (.iconst 1, 1) := by decide +kernel
theorem dX8_image_52 : decode cX8_image 52 = .ok (.putfield 263, 3) := by decide +kernel
theorem dX8_image_55 : decode cX8_image 55 = .ok (.iconst 1, 1) := by decide +kernel
theorem dX8_image_56 : decode cX8_image 56 = .ok (.ireturn, 1) := by decide +kernel
theorem dX8_restore_0 : decode cX8_restore 0 = .ok (.iload_n 1, 1) := by decide +kernel
theorem dX8_restore_1 : decode cX8_restore 1 = .ok (.iconst 0, 1) := by decide +kernel
theorem dX8_restore_2 : decode cX8_restore 2 = .ok (.iconst 1, 1) := by decide +kernel
theorem dX8_restore_3 : decode cX8_restore 3 = .ok (.invokestatic 68, 3) := by decide +kernel
theorem dX8_restore_6 : decode cX8_restore 6 = .ok (.ifCond .ne 6, 3) := by decide +kernel
theorem dX8_restore_9 : decode cX8_restore 9 = .ok (.bipush (-2), 2) := by decide +kernel
theorem dX8_restore_11 : decode cX8_restore 11 = .ok (.ireturn, 1) := by decide +kernel
theorem dX8_restore_12 : decode cX8_restore 12 = .ok (.iload_n 1, 1) := by decide +kernel
theorem dX8_restore_13 : decode cX8_restore 13 = .ok (.ifCond .ne 10, 3) := by decide +kernel
theorem dX8_restore_16 : decode cX8_restore 16 = .ok (.aload_n 0, 1) := by decide +kernel
theorem dX8_restore_17 : decode cX8_restore 17 = .ok (.getfield 61, 3) := by decide +kernel
theorem dX8_restore_20 : decode cX8_restore 20 = .ok (.goto 7, 3) := by decide +kernel
theorem dX8_restore_23 : decode cX8_restore 23 = .ok (.aload_n 0, 1) := by decide +kernel
theorem dX8_restore_24 : decode cX8_restore 24 = .ok (.getfield 65, 3) := by decide +kernel
theorem dX8_restore_27 : decode cX8_restore 27 = .ok (.astore_n 2, 1) := by decide +kernel
theorem dX8_restore_28 : decode cX8_restore 28 = .ok (.aload_n 2, 1) := by decide +kernel
theorem dX8_restore_29 : decode cX8_restore 29 = .ok (.getfield 263, 3) := by decide +kernel
theorem dX8_restore_32 : decode cX8_restore 32 = .ok (.ifCond .ne 6, 3) := by decide +kernel
theorem dX8_restore_35 : decode cX8_restore 35 = .ok (.bipush (-3), 2) := by decide +kernel
theorem dX8_restore_37 : decode cX8_restore 37 = .ok (.ireturn, 1) := by decide +kernel
theorem dX8_restore_38 : decode cX8_restore 38 = .ok (.aload_n 0, 1) := by decide +kernel
theorem dX8_restore_39 : decode cX8_restore 39 = .ok (.getfield 10, 3) := by decide +kernel
theorem dX8_restore_42 : decode cX8_restore 42 = .ok (.aload_n 2, 1) := by decide +kernel
theorem dX8_restore_43 : decode cX8_restore 43 = .ok (.getfield 258, 3) := by decide +kernel
theorem dX8_restore_46 : decode cX8_restore 46 = .ok (.invokevirtual 153, 3) := by decide +kernel
theorem dX8_restore_49 : decode cX8_restore 49 = .ok (.aload_n 0, 1) := by decide +kernel
theorem dX8_restore_50 : decode cX8_restore 50 = .ok (.getfield 19, 3) := by decide +kernel
theorem dX8_restore_53 : decode cX8_restore 53 = .ok (.aload_n 2, 1) := by decide +kernel
theorem dX8_restore_54 : decode cX8_restore 54 = .ok (.getfield 259, 3) := by decide +kernel
theorem dX8_restore_57 : decode cX8_restore 57 = .ok (.invokevirtual 260, 3) := by decide +kernel
theorem dX8_restore_60 : decode cX8_restore 60 = .ok (.iconst 1, 1) := by decide +kernel
theorem dX8_restore_61 : decode cX8_restore 61 = .ok (.ireturn, 1) := by decide +kernel
theorem dX8_told_0 : decode cX8_told 0 = .ok (.iload_n 1, 1) := by decide +kernel
theorem dX8_told_1 : decode cX8_told 1 = .ok (.bipush 100, 2) := by decide +kernel
theorem dX8_told_3 : decode cX8_told 3 = .ok (.sipush 159, 3) := by decide +kernel
theorem dX8_told_6 : decode cX8_told 6 = .ok (.invokestatic 68, 3) := by decide +kernel
theorem dX8_told_9 : decode cX8_told 9 = .ok (.ifCond .eq 19, 3) := by decide +kernel
theorem dX8_told_12 : decode cX8_told 12 = .ok (.aload_n 0, 1) := by decide +kernel
theorem dX8_told_13 : decode cX8_told 13 = .ok (.iload_n 1, 1) := by decide +kernel
theorem dX8_told_14 : decode cX8_told 14 = .ok (.bipush 100, 2) := by decide +kernel
theorem dX8_told_16 : decode cX8_told 16 = .ok (.isub, 1) := by decide +kernel
theorem dX8_told_17 : decode cX8_told 17 = .ok (.bipush 10, 2) := by decide +kernel
theorem dX8_told_19 : decode cX8_told 19 = .ok (.idiv, 1) := by decide +kernel
theorem dX8_told_20 : decode cX8_told 20 = .ok (.iload_n 1, 1) := by decide +kernel
theorem dX8_told_21 : decode cX8_told 21 = .ok (.bipush 10, 2) := by decide +kernel
theorem dX8_told_23 : decode cX8_told 23 = .ok (.irem, 1) := by decide +kernel
theorem dX8_told_24 : decode cX8_told 24 = .ok (.invokevirtual 267, 3) := by decide +kernel
theorem dX8_told_27 : decode cX8_told 27 = .ok (.ireturn, 1) := by decide +kernel
theorem dX8_told_28 : decode cX8_told 28 = .ok (.iload_n 1, 1) := by decide +kernel
theorem dX8_told_29 : decode cX8_told 29 = .ok (.bipush 10, 2) := by decide +kernel
theorem dX8_told_31 : decode cX8_told 31 = .ok (.bipush 89, 2) := by decide +kernel
theorem dX8_told_33 : decode cX8_told 33 = .ok (.invokestatic 68, 3) := by decide +kernel
theorem dX8_told_36 : decode cX8_told 36 = .ok (.ifCond .eq 18, 3) := by decide +kernel
theorem dX8_told_39 : decode cX8_told 39 = .ok (.aload_n 0, 1) := by decide +kernel
theorem dX8_told_40 : decode cX8_told 40 = .ok (.iload_n 1, 1) := by decide +kernel
theorem dX8_told_41 : decode cX8_told 41 = .ok (.bipush 10, 2) := by decide +kernel
theorem dX8_told_43 : decode cX8_told 43 = .ok (.idiv, 1) := by decide +kernel
theorem dX8_told_44 : decode cX8_told 44 = .ok (.iconst 1, 1) := by decide +kernel
theorem dX8_told_45 : decode cX8_told 45 = .ok (.isub, 1) := by decide +kernel
theorem dX8_told_46 : decode cX8_told 46 = .ok (.iload_n 1, 1) := by decide +kernel
theorem dX8_told_47 : decode cX8_told 47 = .ok (.bipush 10, 2) := by decide +kernel
theorem dX8_told_49 : decode cX8_told 49 = .ok (.irem, 1) := by decide +kernel
theorem dX8_told_50 : decode cX8_told 50 = .ok (.invokevirtual 270, 3) := by decide +kernel
theorem dX8_told_53 : decode cX8_told 53 = .ok (.ireturn, 1) := by decide +kernel
theorem dX8_told_54 : decode cX8_told 54 = .ok (.iload_n 1, 1) := by decide +kernel
theorem dX8_told_55 : decode cX8_told 55 = .ok (.tableswitch 61 0 3 #[29, 37, 45, 53], 29) := by decide +kernel
theorem dX8_told_84 : decode cX8_told 84 = .ok (.aload_n 0, 1) := by decide +kernel
theorem dX8_told_85 : decode cX8_told 85 = .ok (.getfield 26, 3) := by decide +kernel
theorem dX8_told_88 : decode cX8_told 88 = .ok (.getfield 107, 3) := by decide +kernel
theorem dX8_told_91 : decode cX8_told 91 = .ok (.ireturn, 1) := by decide +kernel
theorem dX8_told_92 : decode cX8_told 92 = .ok (.aload_n 0, 1) := by decide +kernel
theorem dX8_told_93 : decode cX8_told 93 = .ok (.getfield 10, 3) := by decide +kernel
theorem dX8_told_96 : decode cX8_told 96 = .ok (.getfield 76, 3) := by decide +kernel
theorem dX8_told_99 : decode cX8_told 99 = .ok (.ireturn, 1) := by decide +kernel
theorem dX8_told_100 : decode cX8_told 100 = .ok (.aload_n 0, 1) := by decide +kernel
theorem dX8_told_101 : decode cX8_told 101 = .ok (.getfield 10, 3) := by decide +kernel
theorem dX8_told_104 : decode cX8_told 104 = .ok (.getfield 273, 3) := by decide +kernel
theorem dX8_told_107 : decode cX8_told 107 = .ok (.ireturn, 1) := by decide +kernel
theorem dX8_told_108 : decode cX8_told 108 = .ok (.aload_n 0, 1) := by decide +kernel
theorem dX8_told_109 : decode cX8_told 109 = .ok (.getfield 19, 3) := by decide +kernel
theorem dX8_told_112 : decode cX8_told 112 = .ok (.getfield 213, 3) := by decide +kernel
theorem dX8_told_115 : decode cX8_told 115 = .ok (.ireturn, 1) := by decide +kernel
theorem dX8_told_116 : decode cX8_told 116 = .ok (.bipush (-2), 2) := by decide +kernel
theorem dX8_told_118 : decode cX8_told 118 = .ok (.ireturn, 1) := by decide +kernel
theorem dX8_tellSinger_0 : decode cX8_tellSinger 0 = .ok (.aload_n 0, 1) := by decide +kernel
theorem dX8_tellSinger_1 : decode cX8_tellSinger 1 = .ok (.getfield 10, 3) := by decide +kernel
theorem dX8_tellSinger_4 : decode cX8_tellSinger 4 = .ok (.iload_n 1, 1) := by decide +kernel
theorem dX8_tellSinger_5 : decode cX8_tellSinger 5 = .ok (.invokevirtual 86, 3) := by decide +kernel
theorem dX8_tellSinger_8 : decode cX8_tellSinger 8 = .ok (.ifCond .ne 6, 3) := by decide +kernel
theorem dX8_tellSinger_11 : decode cX8_tellSinger 11 = .ok (.bipush (-2), 2) := by decide +kernel
theorem dX8_tellSinger_13 : decode cX8_tellSinger 13 = .ok (.ireturn, 1) := by decide +kernel
theorem dX8_tellSinger_14 : decode cX8_tellSinger 14 = .ok (.iload_n 2, 1) := by decide +kernel
theorem dX8_tellSinger_15 : decode cX8_tellSinger 15 = .ok (.tableswitch 71 0 3 #[29, 38, 47, 59], 29) := by decide +kernel
theorem dX8_tellSinger_44 : decode cX8_tellSinger 44 = .ok (.aload_n 0, 1) := by decide +kernel
theorem dX8_tellSinger_45 : decode cX8_tellSinger 45 = .ok (.getfield 10, 3) := by decide +kernel
theorem dX8_tellSinger_48 : decode cX8_tellSinger 48 = .ok (.iload_n 1, 1) := by decide +kernel
theorem dX8_tellSinger_49 : decode cX8_tellSinger 49 = .ok (.invokevirtual 276, 3) := by decide +kernel
theorem dX8_tellSinger_52 : decode cX8_tellSinger 52 = .ok (.ireturn, 1) := by decide +kernel
theorem dX8_tellSinger_53 : decode cX8_tellSinger 53 = .ok (.aload_n 0, 1) := by decide +kernel
theorem dX8_tellSinger_54 : decode cX8_tellSinger 54 = .ok (.getfield 10, 3) := by decide +kernel
theorem dX8_tellSinger_57 : decode cX8_tellSinger 57 = .ok (.iload_n 1, 1) := by decide +kernel
theorem dX8_tellSinger_58 : decode cX8_tellSinger 58 = .ok (.invokevirtual 128, 3) := by decide +kernel
theorem dX8_tellSinger_61 : decode cX8_tellSinger 61 = .ok (.ireturn, 1) := by decide +kernel
theorem dX8_tellSinger_62 : decode cX8_tellSinger 62 = .ok (.aload_n 0, 1) := by decide +kernel
theorem dX8_tellSinger_63 : decode cX8_tellSinger 63 = .ok (.getfield 10, 3) := by decide +kernel
theorem dX8_tellSinger_66 : decode cX8_tellSinger 66 = .ok (.getfield 131, 3) := by decide +kernel
theorem dX8_tellSinger_69 : decode cX8_tellSinger 69 = .ok (.iload_n 1, 1) := by decide +kernel
theorem dX8_tellSinger_70 : decode cX8_tellSinger 70 = .ok (.invokestatic 137, 3) := by decide +kernel
theorem dX8_tellSinger_73 : decode cX8_tellSinger 73 = .ok (.ireturn, 1) := by decide +kernel
theorem dX8_tellSinger_74 : decode cX8_tellSinger 74 = .ok (.aload_n 0, 1) := by decide +kernel
theorem dX8_tellSinger_75 : decode cX8_tellSinger 75 = .ok (.getfield 10, 3) := by decide +kernel
theorem dX8_tellSinger_78 : decode cX8_tellSinger 78 = .ok (.getfield 134, 3) := by decide +kernel
theorem dX8_tellSinger_81 : decode cX8_tellSinger 81 = .ok (.iload_n 1, 1) := by decide +kernel
theorem dX8_tellSinger_82 : decode cX8_tellSinger 82 = .ok (.invokestatic 137, 3) := by decide +kernel
theorem dX8_tellSinger_85 : decode cX8_tellSinger 85 = .ok (.ireturn, 1) := by decide +kernel
theorem dX8_tellSinger_86 : decode cX8_tellSinger 86 = .ok (.bipush (-2), 2) := by decide +kernel
theorem dX8_tellSinger_88 : decode cX8_tellSinger 88 = .ok (.ireturn, 1) := by decide +kernel
theorem dX8_tellPiece_0 : decode cX8_tellPiece 0 = .ok (.iload_n 2, 1) := by decide +kernel
theorem dX8_tellPiece_1 : decode cX8_tellPiece 1 = .ok (.iconst 0, 1) := by decide +kernel
theorem dX8_tellPiece_2 : decode cX8_tellPiece 2 = .ok (.iconst 3, 1) := by decide +kernel
theorem dX8_tellPiece_3 : decode cX8_tellPiece 3 = .ok (.invokestatic 68, 3) := by decide +kernel
theorem dX8_tellPiece_6 : decode cX8_tellPiece 6 = .ok (.ifCond .eq 13, 3) := by decide +kernel
theorem dX8_tellPiece_9 : decode cX8_tellPiece 9 = .ok (.aload_n 0, 1) := by decide +kernel
theorem dX8_tellPiece_10 : decode cX8_tellPiece 10 = .ok (.getfield 10, 3) := by decide +kernel
theorem dX8_tellPiece_13 : decode cX8_tellPiece 13 = .ok (.iload_n 1, 1) := by decide +kernel
theorem dX8_tellPiece_14 : decode cX8_tellPiece 14 = .ok (.iload_n 2, 1) := by decide +kernel
theorem dX8_tellPiece_15 : decode cX8_tellPiece 15 = .ok (.invokevirtual 179, 3) := by decide +kernel
theorem dX8_tellPiece_18 : decode cX8_tellPiece 18 = .ok (.ireturn, 1) := by decide +kernel
theorem dX8_tellPiece_19 : decode cX8_tellPiece 19 = .ok (.iload_n 2, 1) := by decide +kernel
theorem dX8_tellPiece_20 : decode cX8_tellPiece 20 = .ok (.iconst 4, 1) := by decide +kernel
theorem dX8_tellPiece_21 : decode cX8_tellPiece 21 = .ok (.if_icmp .ne 12, 3) := by decide +kernel
theorem dX8_tellPiece_24 : decode cX8_tellPiece 24 = .ok (.aload_n 0, 1) := by decide +kernel
theorem dX8_tellPiece_25 : decode cX8_tellPiece 25 = .ok (.getfield 10, 3) := by decide +kernel
theorem dX8_tellPiece_28 : decode cX8_tellPiece 28 = .ok (.iload_n 1, 1) := by decide +kernel
theorem dX8_tellPiece_29 : decode cX8_tellPiece 29 = .ok (.invokevirtual 97, 3) := by decide +kernel
theorem dX8_tellPiece_32 : decode cX8_tellPiece 32 = .ok (.ireturn, 1) := by decide +kernel
theorem dX8_tellPiece_33 : decode cX8_tellPiece 33 = .ok (.iload_n 2, 1) := by decide +kernel
theorem dX8_tellPiece_34 : decode cX8_tellPiece 34 = .ok (.iconst 5, 1) := by decide +kernel
theorem dX8_tellPiece_35 : decode cX8_tellPiece 35 = .ok (.if_icmp .ne 14, 3) := by decide +kernel
theorem dX8_tellPiece_38 : decode cX8_tellPiece 38 = .ok (.aload_n 0, 1) := by decide +kernel
theorem dX8_tellPiece_39 : decode cX8_tellPiece 39 = .ok (.getfield 10, 3) := by decide +kernel
theorem dX8_tellPiece_42 : decode cX8_tellPiece 42 = .ok (.iload_n 1, 1) := by decide +kernel
theorem dX8_tellPiece_43 : decode cX8_tellPiece 43 = .ok (.invokevirtual 279, 3) := by decide +kernel
theorem dX8_tellPiece_46 : decode cX8_tellPiece 46 = .ok (.goto 5, 3) := by decide +kernel
theorem dX8_tellPiece_49 : decode cX8_tellPiece 49 = .ok (.bipush (-2), 2) := by decide +kernel
theorem dX8_tellPiece_51 : decode cX8_tellPiece 51 = .ok (.ireturn, 1) := by decide +kernel
theorem dX8_placeOfBid_0 : decode cX8_placeOfBid 0 = .ok (.iload_n 0, 1) := by decide +kernel
theorem dX8_placeOfBid_1 : decode cX8_placeOfBid 1 = .ok (.iconst 5, 1) := by decide +kernel
theorem dX8_placeOfBid_2 : decode cX8_placeOfBid 2 = .ok (.iload_n 1, 1) := by decide +kernel
theorem dX8_placeOfBid_3 : decode cX8_placeOfBid 3 = .ok (.isub, 1) := by decide +kernel
theorem dX8_placeOfBid_4 : decode cX8_placeOfBid 4 = .ok (.invokestatic 192, 3) := by decide +kernel
theorem dX8_placeOfBid_7 : decode cX8_placeOfBid 7 = .ok (.istore_n 2, 1) := by decide +kernel
theorem dX8_placeOfBid_8 : decode cX8_placeOfBid 8 = .ok (.iconst 0, 1) := by decide +kernel
theorem dX8_placeOfBid_9 : decode cX8_placeOfBid 9 = .ok (.istore_n 3, 1) := by decide +kernel
theorem dX8_placeOfBid_10 : decode cX8_placeOfBid 10 = .ok (.iconst 0, 1) := by decide +kernel
theorem dX8_placeOfBid_11 : decode cX8_placeOfBid 11 = .ok (.istore 4, 2) := by decide +kernel
theorem dX8_placeOfBid_13 : decode cX8_placeOfBid 13 = .ok (.iload 4, 2) := by decide +kernel
theorem dX8_placeOfBid_15 : decode cX8_placeOfBid 15 = .ok (.bipush 6, 2) := by decide +kernel
theorem dX8_placeOfBid_17 : decode cX8_placeOfBid 17 = .ok (.if_icmp .ge 40, 3) := by decide +kernel
theorem dX8_placeOfBid_20 : decode cX8_placeOfBid 20 = .ok (.iload_n 0, 1) := by decide +kernel
theorem dX8_placeOfBid_21 : decode cX8_placeOfBid 21 = .ok (.iconst 5, 1) := by decide +kernel
theorem dX8_placeOfBid_22 : decode cX8_placeOfBid 22 = .ok (.iload 4, 2) := by decide +kernel
theorem dX8_placeOfBid_24 : decode cX8_placeOfBid 24 = .ok (.isub, 1) := by decide +kernel
theorem dX8_placeOfBid_25 : decode cX8_placeOfBid 25 = .ok (.invokestatic 192, 3) := by decide +kernel
theorem dX8_placeOfBid_28 : decode cX8_placeOfBid 28 = .ok (.istore 5, 2) := by decide +kernel
theorem dX8_placeOfBid_30 : decode cX8_placeOfBid 30 = .ok (.iload 5, 2) := by decide +kernel
theorem dX8_placeOfBid_32 : decode cX8_placeOfBid 32 = .ok (.iload_n 2, 1) := by decide +kernel
theorem dX8_placeOfBid_33 : decode cX8_placeOfBid 33 = .ok (.if_icmp .gt 15, 3) := by decide +kernel
theorem dX8_placeOfBid_36 : decode cX8_placeOfBid 36 = .ok (.iload 5, 2) := by decide +kernel
theorem dX8_placeOfBid_38 : decode cX8_placeOfBid 38 = .ok (.iload_n 2, 1) := by decide +kernel
theorem dX8_placeOfBid_39 : decode cX8_placeOfBid 39 = .ok (.if_icmp .ne 12, 3) := by decide +kernel
theorem dX8_placeOfBid_42 : decode cX8_placeOfBid 42 = .ok (.iload 4, 2) := by decide +kernel
theorem dX8_placeOfBid_44 : decode cX8_placeOfBid 44 = .ok (.iload_n 1, 1) := by decide +kernel
theorem dX8_placeOfBid_45 : decode cX8_placeOfBid 45 = .ok (.if_icmp .ge 6, 3) := by decide +kernel
theorem dX8_placeOfBid_48 : decode cX8_placeOfBid 48 = .ok (.iinc 3 1, 3) := by decide +kernel
theorem dX8_placeOfBid_51 : decode cX8_placeOfBid 51 = .ok (.iinc 4 1, 3) := by decide +kernel
theorem dX8_placeOfBid_54 : decode cX8_placeOfBid 54 = .ok (.goto (-41), 3) := by decide +kernel
theorem dX8_placeOfBid_57 : decode cX8_placeOfBid 57 = .ok (.iload_n 3, 1) := by decide +kernel
theorem dX8_placeOfBid_58 : decode cX8_placeOfBid 58 = .ok (.ireturn, 1) := by decide +kernel
theorem dX8_areNeeds_0 : decode cX8_areNeeds 0 = .ok (.iload_n 0, 1) := by decide +kernel
theorem dX8_areNeeds_1 : decode cX8_areNeeds 1 = .ok (.iconst 0, 1) := by decide +kernel
theorem dX8_areNeeds_2 : decode cX8_areNeeds 2 = .ok (.sipush 9999, 3) := by decide +kernel
theorem dX8_areNeeds_5 : decode cX8_areNeeds 5 = .ok (.invokestatic 68, 3) := by decide +kernel
theorem dX8_areNeeds_8 : decode cX8_areNeeds 8 = .ok (.ifCond .ne 5, 3) := by decide +kernel
theorem dX8_areNeeds_11 : decode cX8_areNeeds 11 = .ok (.iconst 0, 1) := by decide +kernel
theorem dX8_areNeeds_12 : decode cX8_areNeeds 12 = .ok (.ireturn, 1) := by decide +kernel
theorem dX8_areNeeds_13 : decode cX8_areNeeds 13 = .ok (.iconst 0, 1) := by decide +kernel
theorem dX8_areNeeds_14 : decode cX8_areNeeds 14 = .ok (.istore_n 1, 1) := by decide +kernel
theorem dX8_areNeeds_15 : decode cX8_areNeeds 15 = .ok (.iload_n 1, 1) := by decide +kernel
theorem dX8_areNeeds_16 : decode cX8_areNeeds 16 = .ok (.iconst 4, 1) := by decide +kernel
theorem dX8_areNeeds_17 : decode cX8_areNeeds 17 = .ok (.if_icmp .ge 20, 3) := by decide +kernel
theorem dX8_areNeeds_20 : decode cX8_areNeeds 20 = .ok (.iload_n 0, 1) := by decide +kernel
theorem dX8_areNeeds_21 : decode cX8_areNeeds 21 = .ok (.iload_n 1, 1) := by decide +kernel
theorem dX8_areNeeds_22 : decode cX8_areNeeds 22 = .ok (.invokestatic 192, 3) := by decide +kernel
theorem dX8_areNeeds_25 : decode cX8_areNeeds 25 = .ok (.iconst 3, 1) := by decide +kernel
theorem dX8_areNeeds_26 : decode cX8_areNeeds 26 = .ok (.if_icmp .le 5, 3) := by decide +kernel
theorem dX8_areNeeds_29 : decode cX8_areNeeds 29 = .ok (.iconst 0, 1) := by decide +kernel
theorem dX8_areNeeds_30 : decode cX8_areNeeds 30 = .ok (.ireturn, 1) := by decide +kernel
theorem dX8_areNeeds_31 : decode cX8_areNeeds 31 = .ok (.iinc 1 1, 3) := by decide +kernel
theorem dX8_areNeeds_34 : decode cX8_areNeeds 34 = .ok (.goto (-19), 3) := by decide +kernel
theorem dX8_areNeeds_37 : decode cX8_areNeeds 37 = .ok (.iconst 1, 1) := by decide +kernel
theorem dX8_areNeeds_38 : decode cX8_areNeeds 38 = .ok (.ireturn, 1) := by decide +kernel
theorem dX8_areRanks_0 : decode cX8_areRanks 0 = .ok (.iload_n 0, 1) := by decide +kernel
theorem dX8_areRanks_1 : decode cX8_areRanks 1 = .ok (.iconst 0, 1) := by decide +kernel
theorem dX8_areRanks_2 : decode cX8_areRanks 2 = .ok (.sipush 9999, 3) := by decide +kernel
theorem dX8_areRanks_5 : decode cX8_areRanks 5 = .ok (.invokestatic 68, 3) := by decide +kernel
theorem dX8_areRanks_8 : decode cX8_areRanks 8 = .ok (.ifCond .ne 5, 3) := by decide +kernel
theorem dX8_areRanks_11 : decode cX8_areRanks 11 = .ok (.iconst 0, 1) := by decide +kernel
theorem dX8_areRanks_12 : decode cX8_areRanks 12 = .ok (.ireturn, 1) := by decide +kernel
theorem dX8_areRanks_13 : decode cX8_areRanks 13 = .ok (.iconst 0, 1) := by decide +kernel
theorem dX8_areRanks_14 : decode cX8_areRanks 14 = .ok (.istore_n 1, 1) := by decide +kernel
theorem dX8_areRanks_15 : decode cX8_areRanks 15 = .ok (.iconst 0, 1) := by decide +kernel
theorem dX8_areRanks_16 : decode cX8_areRanks 16 = .ok (.istore_n 2, 1) := by decide +kernel
theorem dX8_areRanks_17 : decode cX8_areRanks 17 = .ok (.iload_n 2, 1) := by decide +kernel
theorem dX8_areRanks_18 : decode cX8_areRanks 18 = .ok (.iconst 4, 1) := by decide +kernel
theorem dX8_areRanks_19 : decode cX8_areRanks 19 = .ok (.if_icmp .ge 19, 3) := by decide +kernel
theorem dX8_areRanks_22 : decode cX8_areRanks 22 = .ok (.iload_n 1, 1) := by decide +kernel
theorem dX8_areRanks_23 : decode cX8_areRanks 23 = .ok (.iconst 1, 1) := by decide +kernel
theorem dX8_areRanks_24 : decode cX8_areRanks 24 = .ok (.iload_n 0, 1) := by decide +kernel
theorem dX8_areRanks_25 : decode cX8_areRanks 25 = .ok (.iload_n 2, 1) := by decide +kernel
theorem dX8_areRanks_26 : decode cX8_areRanks 26 = .ok (.invokestatic 192, 3) := by decide +kernel
theorem dX8_areRanks_29 : decode cX8_areRanks 29 = .ok (.ishl, 1) := by decide +kernel
theorem dX8_areRanks_30 : decode cX8_areRanks 30 = .ok (.ior, 1) := by decide +kernel
theorem dX8_areRanks_31 : decode cX8_areRanks 31 = .ok (.istore_n 1, 1) := by decide +kernel
theorem dX8_areRanks_32 : decode cX8_areRanks 32 = .ok (.iinc 2 1, 3) := by decide +kernel
theorem dX8_areRanks_35 : decode cX8_areRanks 35 = .ok (.goto (-18), 3) := by decide +kernel
theorem dX8_areRanks_38 : decode cX8_areRanks 38 = .ok (.iload_n 1, 1) := by decide +kernel
theorem dX8_areRanks_39 : decode cX8_areRanks 39 = .ok (.bipush 15, 2) := by decide +kernel
theorem dX8_areRanks_41 : decode cX8_areRanks 41 = .ok (.if_icmp .ne 7, 3) := by decide +kernel
theorem dX8_areRanks_44 : decode cX8_areRanks 44 = .ok (.iconst 1, 1) := by decide +kernel
theorem dX8_areRanks_45 : decode cX8_areRanks 45 = .ok (.goto 4, 3) := by decide +kernel
theorem dX8_areRanks_48 : decode cX8_areRanks 48 = .ok (.iconst 0, 1) := by decide +kernel
theorem dX8_areRanks_49 : decode cX8_areRanks 49 = .ok (.ireturn, 1) := by decide +kernel
theorem dX8_digitOf_0 : decode cX8_digitOf 0 = .ok (.iload_n 0, 1) := by decide +kernel
theorem dX8_digitOf_1 : decode cX8_digitOf 1 = .ok (.istore_n 2, 1) := by decide +kernel
theorem dX8_digitOf_2 : decode cX8_digitOf 2 = .ok (.iconst 0, 1) := by decide +kernel
theorem dX8_digitOf_3 : decode cX8_digitOf 3 = .ok (.istore_n 3, 1) := by decide +kernel
theorem dX8_digitOf_4 : decode cX8_digitOf 4 = .ok (.iload_n 3, 1) := by decide +kernel
theorem dX8_digitOf_5 : decode cX8_digitOf 5 = .ok (.iload_n 1, 1) := by decide +kernel
theorem dX8_digitOf_6 : decode cX8_digitOf 6 = .ok (.if_icmp .ge 14, 3) := by decide +kernel
theorem dX8_digitOf_9 : decode cX8_digitOf 9 = .ok (.iload_n 2, 1) := by decide +kernel
theorem dX8_digitOf_10 : decode cX8_digitOf 10 = .ok (.bipush 10, 2) := by decide +kernel
theorem dX8_digitOf_12 : decode cX8_digitOf 12 = .ok (.idiv, 1) := by decide +kernel
theorem dX8_digitOf_13 : decode cX8_digitOf 13 = .ok (.istore_n 2, 1) := by decide +kernel
theorem dX8_digitOf_14 : decode cX8_digitOf 14 = .ok (.iinc 3 1, 3) := by decide +kernel
theorem dX8_digitOf_17 : decode cX8_digitOf 17 = .ok (.goto (-13), 3) := by decide +kernel
theorem dX8_digitOf_20 : decode cX8_digitOf 20 = .ok (.iload_n 2, 1) := by decide +kernel
theorem dX8_digitOf_21 : decode cX8_digitOf 21 = .ok (.bipush 10, 2) := by decide +kernel
theorem dX8_digitOf_23 : decode cX8_digitOf 23 = .ok (.irem, 1) := by decide +kernel
theorem dX8_digitOf_24 : decode cX8_digitOf 24 = .ok (.ireturn, 1) := by decide +kernel
theorem dX8_within_0 : decode cX8_within 0 = .ok (.iload_n 0, 1) := by decide +kernel
theorem dX8_within_1 : decode cX8_within 1 = .ok (.iload_n 1, 1) := by decide +kernel
theorem dX8_within_2 : decode cX8_within 2 = .ok (.if_icmp .lt 12, 3) := by decide +kernel
theorem dX8_within_5 : decode cX8_within 5 = .ok (.iload_n 0, 1) := by decide +kernel
theorem dX8_within_6 : decode cX8_within 6 = .ok (.iload_n 2, 1) := by decide +kernel
theorem dX8_within_7 : decode cX8_within 7 = .ok (.if_icmp .gt 7, 3) := by decide +kernel
theorem dX8_within_10 : decode cX8_within 10 = .ok (.iconst 1, 1) := by decide +kernel
theorem dX8_within_11 : decode cX8_within 11 = .ok (.goto 4, 3) := by decide +kernel
theorem dX8_within_14 : decode cX8_within 14 = .ok (.iconst 0, 1) := by decide +kernel
theorem dX8_within_15 : decode cX8_within 15 = .ok (.ireturn, 1) := by decide +kernel
theorem dX8_bit_0 : decode cX8_bit 0 = .ok (.iload_n 0, 1) := by decide +kernel
theorem dX8_bit_1 : decode cX8_bit 1 = .ok (.iload_n 1, 1) := by decide +kernel
theorem dX8_bit_2 : decode cX8_bit 2 = .ok (.ishr, 1) := by decide +kernel
theorem dX8_bit_3 : decode cX8_bit 3 = .ok (.iconst 1, 1) := by decide +kernel
theorem dX8_bit_4 : decode cX8_bit 4 = .ok (.iand, 1) := by decide +kernel
theorem dX8_bit_5 : decode cX8_bit 5 = .ok (.ireturn, 1) := by decide +kernel
theorem dX8_commonDivisor_0 : decode cX8_commonDivisor 0 = .ok (.lload_n 0, 1) := by decide +kernel
theorem dX8_commonDivisor_1 : decode cX8_commonDivisor 1 = .ok (.invokestatic 282, 3) := by decide +kernel
theorem dX8_commonDivisor_4 : decode cX8_commonDivisor 4 = .ok (.lstore 4, 2) := by decide +kernel
theorem dX8_commonDivisor_6 : decode cX8_commonDivisor 6 = .ok (.lload_n 2, 1) := by decide +kernel
theorem dX8_commonDivisor_7 : decode cX8_commonDivisor 7 = .ok (.invokestatic 282, 3) := by decide +kernel
theorem dX8_commonDivisor_10 : decode cX8_commonDivisor 10 = .ok (.lstore 6, 2) := by decide +kernel
theorem dX8_commonDivisor_12 : decode cX8_commonDivisor 12 = .ok (.iconst 0, 1) := by decide +kernel
theorem dX8_commonDivisor_13 : decode cX8_commonDivisor 13 = .ok (.istore 8, 2) := by decide +kernel
theorem dX8_commonDivisor_15 : decode cX8_commonDivisor 15 = .ok (.iload 8, 2) := by decide +kernel
theorem dX8_commonDivisor_17 : decode cX8_commonDivisor 17 = .ok (.sipush 1000, 3) := by decide +kernel
theorem dX8_commonDivisor_20 : decode cX8_commonDivisor 20 = .ok (.if_icmp .ge 31, 3) := by decide +kernel
theorem dX8_commonDivisor_23 : decode cX8_commonDivisor 23 = .ok (.lload 6, 2) := by decide +kernel
theorem dX8_commonDivisor_25 : decode cX8_commonDivisor 25 = .ok (.lconst 0, 1) := by decide +kernel
theorem dX8_commonDivisor_26 : decode cX8_commonDivisor 26 = .ok (.lcmp, 1) := by decide +kernel
theorem dX8_commonDivisor_27 : decode cX8_commonDivisor 27 = .ok (.ifCond .eq 24, 3) := by decide +kernel
theorem dX8_commonDivisor_30 : decode cX8_commonDivisor 30 = .ok (.lload 4, 2) := by decide +kernel
theorem dX8_commonDivisor_32 : decode cX8_commonDivisor 32 = .ok (.lload 6, 2) := by decide +kernel
theorem dX8_commonDivisor_34 : decode cX8_commonDivisor 34 = .ok (.lrem, 1) := by decide +kernel
theorem dX8_commonDivisor_35 : decode cX8_commonDivisor 35 = .ok (.lstore 9, 2) := by decide +kernel
theorem dX8_commonDivisor_37 : decode cX8_commonDivisor 37 = .ok (.lload 6, 2) := by decide +kernel
theorem dX8_commonDivisor_39 : decode cX8_commonDivisor 39 = .ok (.lstore 4, 2) := by decide +kernel
theorem dX8_commonDivisor_41 : decode cX8_commonDivisor 41 = .ok (.lload 9, 2) := by decide +kernel
theorem dX8_commonDivisor_43 : decode cX8_commonDivisor 43 = .ok (.lstore 6, 2) := by decide +kernel
theorem dX8_commonDivisor_45 : decode cX8_commonDivisor 45 = .ok (.iinc 8 1, 3) := by decide +kernel
theorem dX8_commonDivisor_48 : decode cX8_commonDivisor 48 = .ok (.goto (-33), 3) := by decide +kernel
theorem dX8_commonDivisor_51 : decode cX8_commonDivisor 51 = .ok (.lconst 1, 1) := by decide +kernel
theorem dX8_commonDivisor_52 : decode cX8_commonDivisor 52 = .ok (.lload 4, 2) := by decide +kernel
theorem dX8_commonDivisor_54 : decode cX8_commonDivisor 54 = .ok (.invokestatic 288, 3) := by decide +kernel
theorem dX8_commonDivisor_57 : decode cX8_commonDivisor 57 = .ok (.lreturn, 1) := by decide +kernel
theorem dJ6_numberOfTrailingZeros_0f7a4_0 : decode cJ6_numberOfTrailingZeros_0f7a4 0 = .ok (.iload_n 0, 1) := by decide +kernel
theorem dJ6_numberOfTrailingZeros_0f7a4_1 : decode cJ6_numberOfTrailingZeros_0f7a4 1 = .ok (.iconst (-1), 1) := by decide +kernel
theorem dJ6_numberOfTrailingZeros_0f7a4_2 : decode cJ6_numberOfTrailingZeros_0f7a4 2 = .ok (.ixor, 1) := by decide +kernel
theorem dJ6_numberOfTrailingZeros_0f7a4_3 : decode cJ6_numberOfTrailingZeros_0f7a4 3 = .ok (.iload_n 0, 1) := by decide +kernel
theorem dJ6_numberOfTrailingZeros_0f7a4_4 : decode cJ6_numberOfTrailingZeros_0f7a4 4 = .ok (.iconst 1, 1) := by decide +kernel
theorem dJ6_numberOfTrailingZeros_0f7a4_5 : decode cJ6_numberOfTrailingZeros_0f7a4 5 = .ok (.isub, 1) := by decide +kernel
theorem dJ6_numberOfTrailingZeros_0f7a4_6 : decode cJ6_numberOfTrailingZeros_0f7a4 6 = .ok (.iand, 1) := by decide +kernel
theorem dJ6_numberOfTrailingZeros_0f7a4_7 : decode cJ6_numberOfTrailingZeros_0f7a4 7 = .ok (.istore_n 0, 1) := by decide +kernel
theorem dJ6_numberOfTrailingZeros_0f7a4_8 : decode cJ6_numberOfTrailingZeros_0f7a4 8 = .ok (.iload_n 0, 1) := by decide +kernel
theorem dJ6_numberOfTrailingZeros_0f7a4_9 : decode cJ6_numberOfTrailingZeros_0f7a4 9 = .ok (.ifCond .gt 8, 3) := by decide +kernel
theorem dJ6_numberOfTrailingZeros_0f7a4_12 : decode cJ6_numberOfTrailingZeros_0f7a4 12 = .ok (.iload_n 0, 1) := by decide +kernel
theorem dJ6_numberOfTrailingZeros_0f7a4_13 : decode cJ6_numberOfTrailingZeros_0f7a4 13 = .ok (.bipush 32, 2) := by decide +kernel
theorem dJ6_numberOfTrailingZeros_0f7a4_15 : decode cJ6_numberOfTrailingZeros_0f7a4 15 = .ok (.iand, 1) := by decide +kernel
theorem dJ6_numberOfTrailingZeros_0f7a4_16 : decode cJ6_numberOfTrailingZeros_0f7a4 16 = .ok (.ireturn, 1) := by decide +kernel
theorem dJ6_numberOfTrailingZeros_0f7a4_17 : decode cJ6_numberOfTrailingZeros_0f7a4 17 = .ok (.iconst 1, 1) := by decide +kernel
theorem dJ6_numberOfTrailingZeros_0f7a4_18 : decode cJ6_numberOfTrailingZeros_0f7a4 18 = .ok (.istore_n 1, 1) := by decide +kernel
theorem dJ6_numberOfTrailingZeros_0f7a4_19 : decode cJ6_numberOfTrailingZeros_0f7a4 19 = .ok (.iload_n 0, 1) := by decide +kernel
theorem dJ6_numberOfTrailingZeros_0f7a4_20 : decode cJ6_numberOfTrailingZeros_0f7a4 20 = .ok (.ldc_w 264, 3) := by decide +kernel
theorem dJ6_numberOfTrailingZeros_0f7a4_23 : decode cJ6_numberOfTrailingZeros_0f7a4 23 = .ok (.if_icmp .le 11, 3) := by decide +kernel
theorem dJ6_numberOfTrailingZeros_0f7a4_26 : decode cJ6_numberOfTrailingZeros_0f7a4 26 = .ok (.iinc 1 16, 3) := by decide +kernel
theorem dJ6_numberOfTrailingZeros_0f7a4_29 : decode cJ6_numberOfTrailingZeros_0f7a4 29 = .ok (.iload_n 0, 1) := by decide +kernel
theorem dJ6_numberOfTrailingZeros_0f7a4_30 : decode cJ6_numberOfTrailingZeros_0f7a4 30 = .ok (.bipush 16, 2) := by decide +kernel
theorem dJ6_numberOfTrailingZeros_0f7a4_32 : decode cJ6_numberOfTrailingZeros_0f7a4 32 = .ok (.iushr, 1) := by decide +kernel
theorem dJ6_numberOfTrailingZeros_0f7a4_33 : decode cJ6_numberOfTrailingZeros_0f7a4 33 = .ok (.istore_n 0, 1) := by decide +kernel
theorem dJ6_numberOfTrailingZeros_0f7a4_34 : decode cJ6_numberOfTrailingZeros_0f7a4 34 = .ok (.iload_n 0, 1) := by decide +kernel
theorem dJ6_numberOfTrailingZeros_0f7a4_35 : decode cJ6_numberOfTrailingZeros_0f7a4 35 = .ok (.sipush 256, 3) := by decide +kernel
theorem dJ6_numberOfTrailingZeros_0f7a4_38 : decode cJ6_numberOfTrailingZeros_0f7a4 38 = .ok (.if_icmp .le 11, 3) := by decide +kernel
theorem dJ6_numberOfTrailingZeros_0f7a4_41 : decode cJ6_numberOfTrailingZeros_0f7a4 41 = .ok (.iinc 1 8, 3) := by decide +kernel
theorem dJ6_numberOfTrailingZeros_0f7a4_44 : decode cJ6_numberOfTrailingZeros_0f7a4 44 = .ok (.iload_n 0, 1) := by decide +kernel
theorem dJ6_numberOfTrailingZeros_0f7a4_45 : decode cJ6_numberOfTrailingZeros_0f7a4 45 = .ok (.bipush 8, 2) := by decide +kernel
theorem dJ6_numberOfTrailingZeros_0f7a4_47 : decode cJ6_numberOfTrailingZeros_0f7a4 47 = .ok (.iushr, 1) := by decide +kernel
theorem dJ6_numberOfTrailingZeros_0f7a4_48 : decode cJ6_numberOfTrailingZeros_0f7a4 48 = .ok (.istore_n 0, 1) := by decide +kernel
theorem dJ6_numberOfTrailingZeros_0f7a4_49 : decode cJ6_numberOfTrailingZeros_0f7a4 49 = .ok (.iload_n 0, 1) := by decide +kernel
theorem dJ6_numberOfTrailingZeros_0f7a4_50 : decode cJ6_numberOfTrailingZeros_0f7a4 50 = .ok (.bipush 16, 2) := by decide +kernel
theorem dJ6_numberOfTrailingZeros_0f7a4_52 : decode cJ6_numberOfTrailingZeros_0f7a4 52 = .ok (.if_icmp .le 10, 3) := by decide +kernel
theorem dJ6_numberOfTrailingZeros_0f7a4_55 : decode cJ6_numberOfTrailingZeros_0f7a4 55 = .ok (.iinc 1 4, 3) := by decide +kernel
theorem dJ6_numberOfTrailingZeros_0f7a4_58 : decode cJ6_numberOfTrailingZeros_0f7a4 58 = .ok (.iload_n 0, 1) := by decide +kernel
theorem dJ6_numberOfTrailingZeros_0f7a4_59 : decode cJ6_numberOfTrailingZeros_0f7a4 59 = .ok (.iconst 4, 1) := by decide +kernel
theorem dJ6_numberOfTrailingZeros_0f7a4_60 : decode cJ6_numberOfTrailingZeros_0f7a4 60 = .ok (.iushr, 1) := by decide +kernel
theorem dJ6_numberOfTrailingZeros_0f7a4_61 : decode cJ6_numberOfTrailingZeros_0f7a4 61 = .ok (.istore_n 0, 1) := by decide +kernel
theorem dJ6_numberOfTrailingZeros_0f7a4_62 : decode cJ6_numberOfTrailingZeros_0f7a4 62 = .ok (.iload_n 0, 1) := by decide +kernel
theorem dJ6_numberOfTrailingZeros_0f7a4_63 : decode cJ6_numberOfTrailingZeros_0f7a4 63 = .ok (.iconst 4, 1) := by decide +kernel
theorem dJ6_numberOfTrailingZeros_0f7a4_64 : decode cJ6_numberOfTrailingZeros_0f7a4 64 = .ok (.if_icmp .le 10, 3) := by decide +kernel
theorem dJ6_numberOfTrailingZeros_0f7a4_67 : decode cJ6_numberOfTrailingZeros_0f7a4 67 = .ok (.iinc 1 2, 3) := by decide +kernel
theorem dJ6_numberOfTrailingZeros_0f7a4_70 : decode cJ6_numberOfTrailingZeros_0f7a4 70 = .ok (.iload_n 0, 1) := by decide +kernel
theorem dJ6_numberOfTrailingZeros_0f7a4_71 : decode cJ6_numberOfTrailingZeros_0f7a4 71 = .ok (.iconst 2, 1) := by decide +kernel
theorem dJ6_numberOfTrailingZeros_0f7a4_72 : decode cJ6_numberOfTrailingZeros_0f7a4 72 = .ok (.iushr, 1) := by decide +kernel
theorem dJ6_numberOfTrailingZeros_0f7a4_73 : decode cJ6_numberOfTrailingZeros_0f7a4 73 = .ok (.istore_n 0, 1) := by decide +kernel
theorem dJ6_numberOfTrailingZeros_0f7a4_74 : decode cJ6_numberOfTrailingZeros_0f7a4 74 = .ok (.iload_n 1, 1) := by decide +kernel
theorem dJ6_numberOfTrailingZeros_0f7a4_75 : decode cJ6_numberOfTrailingZeros_0f7a4 75 = .ok (.iload_n 0, 1) := by decide +kernel
theorem dJ6_numberOfTrailingZeros_0f7a4_76 : decode cJ6_numberOfTrailingZeros_0f7a4 76 = .ok (.iconst 1, 1) := by decide +kernel
theorem dJ6_numberOfTrailingZeros_0f7a4_77 : decode cJ6_numberOfTrailingZeros_0f7a4 77 = .ok (.iushr, 1) := by decide +kernel
theorem dJ6_numberOfTrailingZeros_0f7a4_78 : decode cJ6_numberOfTrailingZeros_0f7a4 78 = .ok (.iadd, 1) := by decide +kernel
theorem dJ6_numberOfTrailingZeros_0f7a4_79 : decode cJ6_numberOfTrailingZeros_0f7a4 79 = .ok (.ireturn, 1) := by decide +kernel
theorem dJ6_bitCount_0f7a4_0 : decode cJ6_bitCount_0f7a4 0 = .ok (.iload_n 0, 1) := by decide +kernel
theorem dJ6_bitCount_0f7a4_1 : decode cJ6_bitCount_0f7a4 1 = .ok (.iload_n 0, 1) := by decide +kernel
theorem dJ6_bitCount_0f7a4_2 : decode cJ6_bitCount_0f7a4 2 = .ok (.iconst 1, 1) := by decide +kernel
theorem dJ6_bitCount_0f7a4_3 : decode cJ6_bitCount_0f7a4 3 = .ok (.iushr, 1) := by decide +kernel
theorem dJ6_bitCount_0f7a4_4 : decode cJ6_bitCount_0f7a4 4 = .ok (.ldc_w 265, 3) := by decide +kernel
theorem dJ6_bitCount_0f7a4_7 : decode cJ6_bitCount_0f7a4 7 = .ok (.iand, 1) := by decide +kernel
theorem dJ6_bitCount_0f7a4_8 : decode cJ6_bitCount_0f7a4 8 = .ok (.isub, 1) := by decide +kernel
theorem dJ6_bitCount_0f7a4_9 : decode cJ6_bitCount_0f7a4 9 = .ok (.istore_n 0, 1) := by decide +kernel
theorem dJ6_bitCount_0f7a4_10 : decode cJ6_bitCount_0f7a4 10 = .ok (.iload_n 0, 1) := by decide +kernel
theorem dJ6_bitCount_0f7a4_11 : decode cJ6_bitCount_0f7a4 11 = .ok (.ldc_w 266, 3) := by decide +kernel
theorem dJ6_bitCount_0f7a4_14 : decode cJ6_bitCount_0f7a4 14 = .ok (.iand, 1) := by decide +kernel
theorem dJ6_bitCount_0f7a4_15 : decode cJ6_bitCount_0f7a4 15 = .ok (.iload_n 0, 1) := by decide +kernel
theorem dJ6_bitCount_0f7a4_16 : decode cJ6_bitCount_0f7a4 16 = .ok (.iconst 2, 1) := by decide +kernel
theorem dJ6_bitCount_0f7a4_17 : decode cJ6_bitCount_0f7a4 17 = .ok (.iushr, 1) := by decide +kernel
theorem dJ6_bitCount_0f7a4_18 : decode cJ6_bitCount_0f7a4 18 = .ok (.ldc_w 266, 3) := by decide +kernel
theorem dJ6_bitCount_0f7a4_21 : decode cJ6_bitCount_0f7a4 21 = .ok (.iand, 1) := by decide +kernel
theorem dJ6_bitCount_0f7a4_22 : decode cJ6_bitCount_0f7a4 22 = .ok (.iadd, 1) := by decide +kernel
theorem dJ6_bitCount_0f7a4_23 : decode cJ6_bitCount_0f7a4 23 = .ok (.istore_n 0, 1) := by decide +kernel
theorem dJ6_bitCount_0f7a4_24 : decode cJ6_bitCount_0f7a4 24 = .ok (.iload_n 0, 1) := by decide +kernel
theorem dJ6_bitCount_0f7a4_25 : decode cJ6_bitCount_0f7a4 25 = .ok (.iload_n 0, 1) := by decide +kernel
theorem dJ6_bitCount_0f7a4_26 : decode cJ6_bitCount_0f7a4 26 = .ok (.iconst 4, 1) := by decide +kernel
theorem dJ6_bitCount_0f7a4_27 : decode cJ6_bitCount_0f7a4 27 = .ok (.iushr, 1) := by decide +kernel
theorem dJ6_bitCount_0f7a4_28 : decode cJ6_bitCount_0f7a4 28 = .ok (.iadd, 1) := by decide +kernel
theorem dJ6_bitCount_0f7a4_29 : decode cJ6_bitCount_0f7a4 29 = .ok (.ldc_w 267, 3) := by decide +kernel
theorem dJ6_bitCount_0f7a4_32 : decode cJ6_bitCount_0f7a4 32 = .ok (.iand, 1) := by decide +kernel
theorem dJ6_bitCount_0f7a4_33 : decode cJ6_bitCount_0f7a4 33 = .ok (.istore_n 0, 1) := by decide +kernel
theorem dJ6_bitCount_0f7a4_34 : decode cJ6_bitCount_0f7a4 34 = .ok (.iload_n 0, 1) := by decide +kernel
theorem dJ6_bitCount_0f7a4_35 : decode cJ6_bitCount_0f7a4 35 = .ok (.iload_n 0, 1) := by decide +kernel
theorem dJ6_bitCount_0f7a4_36 : decode cJ6_bitCount_0f7a4 36 = .ok (.bipush 8, 2) := by decide +kernel
theorem dJ6_bitCount_0f7a4_38 : decode cJ6_bitCount_0f7a4 38 = .ok (.iushr, 1) := by decide +kernel
theorem dJ6_bitCount_0f7a4_39 : decode cJ6_bitCount_0f7a4 39 = .ok (.iadd, 1) := by decide +kernel
theorem dJ6_bitCount_0f7a4_40 : decode cJ6_bitCount_0f7a4 40 = .ok (.istore_n 0, 1) := by decide +kernel
theorem dJ6_bitCount_0f7a4_41 : decode cJ6_bitCount_0f7a4 41 = .ok (.iload_n 0, 1) := by decide +kernel
theorem dJ6_bitCount_0f7a4_42 : decode cJ6_bitCount_0f7a4 42 = .ok (.iload_n 0, 1) := by decide +kernel
theorem dJ6_bitCount_0f7a4_43 : decode cJ6_bitCount_0f7a4 43 = .ok (.bipush 16, 2) := by decide +kernel
theorem dJ6_bitCount_0f7a4_45 : decode cJ6_bitCount_0f7a4 45 = .ok (.iushr, 1) := by decide +kernel
theorem dJ6_bitCount_0f7a4_46 : decode cJ6_bitCount_0f7a4 46 = .ok (.iadd, 1) := by decide +kernel
theorem dJ6_bitCount_0f7a4_47 : decode cJ6_bitCount_0f7a4 47 = .ok (.istore_n 0, 1) := by decide +kernel
theorem dJ6_bitCount_0f7a4_48 : decode cJ6_bitCount_0f7a4 48 = .ok (.iload_n 0, 1) := by decide +kernel
theorem dJ6_bitCount_0f7a4_49 : decode cJ6_bitCount_0f7a4 49 = .ok (.bipush 63, 2) := by decide +kernel
theorem dJ6_bitCount_0f7a4_51 : decode cJ6_bitCount_0f7a4 51 = .ok (.iand, 1) := by decide +kernel
theorem dJ6_bitCount_0f7a4_52 : decode cJ6_bitCount_0f7a4 52 = .ok (.ireturn, 1) := by decide +kernel
theorem dJ9_abs_067f4_0 : decode cJ9_abs_067f4 0 = .ok (.lload_n 0, 1) := by decide +kernel
theorem dJ9_abs_067f4_1 : decode cJ9_abs_067f4 1 = .ok (.lconst 0, 1) := by decide +kernel
theorem dJ9_abs_067f4_2 : decode cJ9_abs_067f4 2 = .ok (.lcmp, 1) := by decide +kernel
theorem dJ9_abs_067f4_3 : decode cJ9_abs_067f4 3 = .ok (.ifCond .ge 8, 3) := by decide +kernel
theorem dJ9_abs_067f4_6 : decode cJ9_abs_067f4 6 = .ok (.lload_n 0, 1) := by decide +kernel
theorem dJ9_abs_067f4_7 : decode cJ9_abs_067f4 7 = .ok (.lneg, 1) := by decide +kernel
theorem dJ9_abs_067f4_8 : decode cJ9_abs_067f4 8 = .ok (.goto 4, 3) := by decide +kernel
theorem dJ9_abs_067f4_11 : decode cJ9_abs_067f4 11 = .ok (.lload_n 0, 1) := by decide +kernel
theorem dJ9_abs_067f4_12 : decode cJ9_abs_067f4 12 = .ok (.lreturn, 1) := by decide +kernel
theorem dJ9_max_7cf53_0 : decode cJ9_max_7cf53 0 = .ok (.iload_n 0, 1) := by decide +kernel
theorem dJ9_max_7cf53_1 : decode cJ9_max_7cf53 1 = .ok (.iload_n 1, 1) := by decide +kernel
theorem dJ9_max_7cf53_2 : decode cJ9_max_7cf53 2 = .ok (.if_icmp .lt 7, 3) := by decide +kernel
theorem dJ9_max_7cf53_5 : decode cJ9_max_7cf53 5 = .ok (.iload_n 0, 1) := by decide +kernel
theorem dJ9_max_7cf53_6 : decode cJ9_max_7cf53 6 = .ok (.goto 4, 3) := by decide +kernel
theorem dJ9_max_7cf53_9 : decode cJ9_max_7cf53 9 = .ok (.iload_n 1, 1) := by decide +kernel
theorem dJ9_max_7cf53_10 : decode cJ9_max_7cf53 10 = .ok (.ireturn, 1) := by decide +kernel
theorem dJ9_max_f86c9_0 : decode cJ9_max_f86c9 0 = .ok (.lload_n 0, 1) := by decide +kernel
theorem dJ9_max_f86c9_1 : decode cJ9_max_f86c9 1 = .ok (.lload_n 2, 1) := by decide +kernel
theorem dJ9_max_f86c9_2 : decode cJ9_max_f86c9 2 = .ok (.lcmp, 1) := by decide +kernel
theorem dJ9_max_f86c9_3 : decode cJ9_max_f86c9 3 = .ok (.ifCond .lt 7, 3) := by decide +kernel
theorem dJ9_max_f86c9_6 : decode cJ9_max_f86c9 6 = .ok (.lload_n 0, 1) := by decide +kernel
theorem dJ9_max_f86c9_7 : decode cJ9_max_f86c9 7 = .ok (.goto 4, 3) := by decide +kernel
theorem dJ9_max_f86c9_10 : decode cJ9_max_f86c9 10 = .ok (.lload_n 2, 1) := by decide +kernel
theorem dJ9_max_f86c9_11 : decode cJ9_max_f86c9 11 = .ok (.lreturn, 1) := by decide +kernel
theorem dJ9_min_7cf53_0 : decode cJ9_min_7cf53 0 = .ok (.iload_n 0, 1) := by decide +kernel
theorem dJ9_min_7cf53_1 : decode cJ9_min_7cf53 1 = .ok (.iload_n 1, 1) := by decide +kernel
theorem dJ9_min_7cf53_2 : decode cJ9_min_7cf53 2 = .ok (.if_icmp .gt 7, 3) := by decide +kernel
theorem dJ9_min_7cf53_5 : decode cJ9_min_7cf53 5 = .ok (.iload_n 0, 1) := by decide +kernel
theorem dJ9_min_7cf53_6 : decode cJ9_min_7cf53 6 = .ok (.goto 4, 3) := by decide +kernel
theorem dJ9_min_7cf53_9 : decode cJ9_min_7cf53 9 = .ok (.iload_n 1, 1) := by decide +kernel
theorem dJ9_min_7cf53_10 : decode cJ9_min_7cf53 10 = .ok (.ireturn, 1) := by decide +kernel
theorem dL_law_0 : decode cL_law 0 = .ok (.new 7, 3) := by decide +kernel
theorem dL_law_3 : decode cL_law 3 = .ok (.dup, 1) := by decide +kernel
theorem dL_law_4 : decode cL_law 4 = .ok (.invokespecial 9, 3) := by decide +kernel
theorem dL_law_7 : decode cL_law 7 = .ok (.astore_n 1, 1) := by decide +kernel
theorem dL_law_8 : decode cL_law 8 = .ok (.new 10, 3) := by decide +kernel
theorem dL_law_11 : decode cL_law 11 = .ok (.dup, 1) := by decide +kernel
theorem dL_law_12 : decode cL_law 12 = .ok (.invokespecial 12, 3) := by decide +kernel
theorem dL_law_15 : decode cL_law 15 = .ok (.astore_n 2, 1) := by decide +kernel
theorem dL_law_16 : decode cL_law 16 = .ok (.iconst 0, 1) := by decide +kernel
theorem dL_law_17 : decode cL_law 17 = .ok (.istore_n 3, 1) := by decide +kernel
theorem dL_law_18 : decode cL_law 18 = .ok (.iload_n 3, 1) := by decide +kernel
theorem dL_law_19 : decode cL_law 19 = .ok (.aload_n 0, 1) := by decide +kernel
theorem dL_law_20 : decode cL_law 20 = .ok (.arraylength, 1) := by decide +kernel
theorem dL_law_21 : decode cL_law 21 = .ok (.bipush 8, 2) := by decide +kernel
theorem dL_law_23 : decode cL_law 23 = .ok (.isub, 1) := by decide +kernel
theorem dL_law_24 : decode cL_law 24 = .ok (.if_icmp .gt 927, 3) := by decide +kernel
theorem dL_law_27 : decode cL_law 27 = .ok (.aload_n 0, 1) := by decide +kernel
theorem dL_law_28 : decode cL_law 28 = .ok (.iload_n 3, 1) := by decide +kernel
theorem dL_law_29 : decode cL_law 29 = .ok (.iaload, 1) := by decide +kernel
theorem dL_law_30 : decode cL_law 30 = .ok (.bipush 31, 2) := by decide +kernel
theorem dL_law_32 : decode cL_law 32 = .ok (.iand, 1) := by decide +kernel
theorem dL_law_33 : decode cL_law 33 = .ok (.tableswitch 912 0 25 #[119, 162, 185, 238, 261, 274, 287, 310, 343, 366, 389, 402, 415, 448, 481, 514, 557, 620, 653, 666, 689, 712, 800, 843, 866, 889], 119) := by decide +kernel
theorem dL_law_152 : decode cL_law 152 = .ok (.aload_n 1, 1) := by decide +kernel
theorem dL_law_153 : decode cL_law 153 = .ok (.aload_n 0, 1) := by decide +kernel
theorem dL_law_154 : decode cL_law 154 = .ok (.iload_n 3, 1) := by decide +kernel
theorem dL_law_155 : decode cL_law 155 = .ok (.iconst 1, 1) := by decide +kernel
theorem dL_law_156 : decode cL_law 156 = .ok (.iadd, 1) := by decide +kernel
theorem dL_law_157 : decode cL_law 157 = .ok (.iaload, 1) := by decide +kernel
theorem dL_law_158 : decode cL_law 158 = .ok (.aload_n 0, 1) := by decide +kernel
theorem dL_law_159 : decode cL_law 159 = .ok (.iload_n 3, 1) := by decide +kernel
theorem dL_law_160 : decode cL_law 160 = .ok (.iconst 2, 1) := by decide +kernel
theorem dL_law_161 : decode cL_law 161 = .ok (.iadd, 1) := by decide +kernel
theorem dL_law_162 : decode cL_law 162 = .ok (.iaload, 1) := by decide +kernel
theorem dL_law_163 : decode cL_law 163 = .ok (.aload_n 0, 1) := by decide +kernel
theorem dL_law_164 : decode cL_law 164 = .ok (.iload_n 3, 1) := by decide +kernel
theorem dL_law_165 : decode cL_law 165 = .ok (.iconst 3, 1) := by decide +kernel
theorem dL_law_166 : decode cL_law 166 = .ok (.iadd, 1) := by decide +kernel
theorem dL_law_167 : decode cL_law 167 = .ok (.iaload, 1) := by decide +kernel
theorem dL_law_168 : decode cL_law 168 = .ok (.invokevirtual 13, 3) := by decide +kernel
theorem dL_law_171 : decode cL_law 171 = .ok (.aload_n 2, 1) := by decide +kernel
theorem dL_law_172 : decode cL_law 172 = .ok (.aload_n 0, 1) := by decide +kernel
theorem dL_law_173 : decode cL_law 173 = .ok (.iload_n 3, 1) := by decide +kernel
theorem dL_law_174 : decode cL_law 174 = .ok (.iconst 1, 1) := by decide +kernel
theorem dL_law_175 : decode cL_law 175 = .ok (.iadd, 1) := by decide +kernel
theorem dL_law_176 : decode cL_law 176 = .ok (.iaload, 1) := by decide +kernel
theorem dL_law_177 : decode cL_law 177 = .ok (.aload_n 0, 1) := by decide +kernel
theorem dL_law_178 : decode cL_law 178 = .ok (.iload_n 3, 1) := by decide +kernel
theorem dL_law_179 : decode cL_law 179 = .ok (.iconst 2, 1) := by decide +kernel
theorem dL_law_180 : decode cL_law 180 = .ok (.iadd, 1) := by decide +kernel
theorem dL_law_181 : decode cL_law 181 = .ok (.iaload, 1) := by decide +kernel
theorem dL_law_182 : decode cL_law 182 = .ok (.aload_n 0, 1) := by decide +kernel
theorem dL_law_183 : decode cL_law 183 = .ok (.iload_n 3, 1) := by decide +kernel
theorem dL_law_184 : decode cL_law 184 = .ok (.iconst 3, 1) := by decide +kernel
theorem dL_law_185 : decode cL_law 185 = .ok (.iadd, 1) := by decide +kernel
theorem dL_law_186 : decode cL_law 186 = .ok (.iaload, 1) := by decide +kernel
theorem dL_law_187 : decode cL_law 187 = .ok (.invokevirtual 17, 3) := by decide +kernel
theorem dL_law_190 : decode cL_law 190 = .ok (.if_icmp .eq 755, 3) := by decide +kernel
theorem dL_law_193 : decode cL_law 193 = .ok (.iconst 0, 1) := by decide +kernel
theorem dL_law_194 : decode cL_law 194 = .ok (.ireturn, 1) := by decide +kernel
theorem dL_law_195 : decode cL_law 195 = .ok (.aload_n 1, 1) := by decide +kernel
theorem dL_law_196 : decode cL_law 196 = .ok (.aload_n 0, 1) := by decide +kernel
theorem dL_law_197 : decode cL_law 197 = .ok (.iload_n 3, 1) := by decide +kernel
theorem dL_law_198 : decode cL_law 198 = .ok (.iconst 1, 1) := by decide +kernel
theorem dL_law_199 : decode cL_law 199 = .ok (.iadd, 1) := by decide +kernel
theorem dL_law_200 : decode cL_law 200 = .ok (.iaload, 1) := by decide +kernel
theorem dL_law_201 : decode cL_law 201 = .ok (.invokevirtual 18, 3) := by decide +kernel
theorem dL_law_204 : decode cL_law 204 = .ok (.aload_n 2, 1) := by decide +kernel
theorem dL_law_205 : decode cL_law 205 = .ok (.aload_n 0, 1) := by decide +kernel
theorem dL_law_206 : decode cL_law 206 = .ok (.iload_n 3, 1) := by decide +kernel
theorem dL_law_207 : decode cL_law 207 = .ok (.iconst 1, 1) := by decide +kernel
theorem dL_law_208 : decode cL_law 208 = .ok (.iadd, 1) := by decide +kernel
theorem dL_law_209 : decode cL_law 209 = .ok (.iaload, 1) := by decide +kernel
theorem dL_law_210 : decode cL_law 210 = .ok (.invokevirtual 22, 3) := by decide +kernel
theorem dL_law_213 : decode cL_law 213 = .ok (.if_icmp .eq 732, 3) := by decide +kernel
theorem dL_law_216 : decode cL_law 216 = .ok (.iconst 0, 1) := by decide +kernel
theorem dL_law_217 : decode cL_law 217 = .ok (.ireturn, 1) := by decide +kernel
theorem dL_law_218 : decode cL_law 218 = .ok (.aload_n 1, 1) := by decide +kernel
theorem dL_law_219 : decode cL_law 219 = .ok (.aload_n 0, 1) := by decide +kernel
theorem dL_law_220 : decode cL_law 220 = .ok (.iload_n 3, 1) := by decide +kernel
theorem dL_law_221 : decode cL_law 221 = .ok (.iconst 1, 1) := by decide +kernel
theorem dL_law_222 : decode cL_law 222 = .ok (.iadd, 1) := by decide +kernel
theorem dL_law_223 : decode cL_law 223 = .ok (.iaload, 1) := by decide +kernel
theorem dL_law_224 : decode cL_law 224 = .ok (.aload_n 0, 1) := by decide +kernel
theorem dL_law_225 : decode cL_law 225 = .ok (.iload_n 3, 1) := by decide +kernel
theorem dL_law_226 : decode cL_law 226 = .ok (.iconst 2, 1) := by decide +kernel
theorem dL_law_227 : decode cL_law 227 = .ok (.iadd, 1) := by decide +kernel
theorem dL_law_228 : decode cL_law 228 = .ok (.iaload, 1) := by decide +kernel
theorem dL_law_229 : decode cL_law 229 = .ok (.aload_n 0, 1) := by decide +kernel
theorem dL_law_230 : decode cL_law 230 = .ok (.iload_n 3, 1) := by decide +kernel
theorem dL_law_231 : decode cL_law 231 = .ok (.iconst 3, 1) := by decide +kernel
theorem dL_law_232 : decode cL_law 232 = .ok (.iadd, 1) := by decide +kernel
theorem dL_law_233 : decode cL_law 233 = .ok (.iaload, 1) := by decide +kernel
theorem dL_law_234 : decode cL_law 234 = .ok (.aload_n 0, 1) := by decide +kernel
theorem dL_law_235 : decode cL_law 235 = .ok (.iload_n 3, 1) := by decide +kernel
theorem dL_law_236 : decode cL_law 236 = .ok (.iconst 4, 1) := by decide +kernel
theorem dL_law_237 : decode cL_law 237 = .ok (.iadd, 1) := by decide +kernel
theorem dL_law_238 : decode cL_law 238 = .ok (.iaload, 1) := by decide +kernel
theorem dL_law_239 : decode cL_law 239 = .ok (.invokevirtual 23, 3) := by decide +kernel
theorem dL_law_242 : decode cL_law 242 = .ok (.aload_n 2, 1) := by decide +kernel
theorem dL_law_243 : decode cL_law 243 = .ok (.aload_n 0, 1) := by decide +kernel
theorem dL_law_244 : decode cL_law 244 = .ok (.iload_n 3, 1) := by decide +kernel
theorem dL_law_245 : decode cL_law 245 = .ok (.iconst 1, 1) := by decide +kernel
theorem dL_law_246 : decode cL_law 246 = .ok (.iadd, 1) := by decide +kernel
theorem dL_law_247 : decode cL_law 247 = .ok (.iaload, 1) := by decide +kernel
theorem dL_law_248 : decode cL_law 248 = .ok (.aload_n 0, 1) := by decide +kernel
theorem dL_law_249 : decode cL_law 249 = .ok (.iload_n 3, 1) := by decide +kernel
theorem dL_law_250 : decode cL_law 250 = .ok (.iconst 2, 1) := by decide +kernel
theorem dL_law_251 : decode cL_law 251 = .ok (.iadd, 1) := by decide +kernel
theorem dL_law_252 : decode cL_law 252 = .ok (.iaload, 1) := by decide +kernel
theorem dL_law_253 : decode cL_law 253 = .ok (.aload_n 0, 1) := by decide +kernel
theorem dL_law_254 : decode cL_law 254 = .ok (.iload_n 3, 1) := by decide +kernel
theorem dL_law_255 : decode cL_law 255 = .ok (.iconst 3, 1) := by decide +kernel
theorem dL_law_256 : decode cL_law 256 = .ok (.iadd, 1) := by decide +kernel
theorem dL_law_257 : decode cL_law 257 = .ok (.iaload, 1) := by decide +kernel
theorem dL_law_258 : decode cL_law 258 = .ok (.aload_n 0, 1) := by decide +kernel
theorem dL_law_259 : decode cL_law 259 = .ok (.iload_n 3, 1) := by decide +kernel
theorem dL_law_260 : decode cL_law 260 = .ok (.iconst 4, 1) := by decide +kernel
theorem dL_law_261 : decode cL_law 261 = .ok (.iadd, 1) := by decide +kernel
theorem dL_law_262 : decode cL_law 262 = .ok (.iaload, 1) := by decide +kernel
theorem dL_law_263 : decode cL_law 263 = .ok (.invokevirtual 27, 3) := by decide +kernel
theorem dL_law_266 : decode cL_law 266 = .ok (.if_icmp .eq 679, 3) := by decide +kernel
theorem dL_law_269 : decode cL_law 269 = .ok (.iconst 0, 1) := by decide +kernel
theorem dL_law_270 : decode cL_law 270 = .ok (.ireturn, 1) := by decide +kernel
theorem dL_law_271 : decode cL_law 271 = .ok (.aload_n 1, 1) := by decide +kernel
theorem dL_law_272 : decode cL_law 272 = .ok (.aload_n 0, 1) := by decide +kernel
theorem dL_law_273 : decode cL_law 273 = .ok (.iload_n 3, 1) := by decide +kernel
theorem dL_law_274 : decode cL_law 274 = .ok (.iconst 1, 1) := by decide +kernel
theorem dL_law_275 : decode cL_law 275 = .ok (.iadd, 1) := by decide +kernel
theorem dL_law_276 : decode cL_law 276 = .ok (.iaload, 1) := by decide +kernel
theorem dL_law_277 : decode cL_law 277 = .ok (.invokevirtual 28, 3) := by decide +kernel
theorem dL_law_280 : decode cL_law 280 = .ok (.aload_n 2, 1) := by decide +kernel
theorem dL_law_281 : decode cL_law 281 = .ok (.aload_n 0, 1) := by decide +kernel
theorem dL_law_282 : decode cL_law 282 = .ok (.iload_n 3, 1) := by decide +kernel
theorem dL_law_283 : decode cL_law 283 = .ok (.iconst 1, 1) := by decide +kernel
theorem dL_law_284 : decode cL_law 284 = .ok (.iadd, 1) := by decide +kernel
theorem dL_law_285 : decode cL_law 285 = .ok (.iaload, 1) := by decide +kernel
theorem dL_law_286 : decode cL_law 286 = .ok (.invokevirtual 31, 3) := by decide +kernel
theorem dL_law_289 : decode cL_law 289 = .ok (.if_icmp .eq 656, 3) := by decide +kernel
theorem dL_law_292 : decode cL_law 292 = .ok (.iconst 0, 1) := by decide +kernel
theorem dL_law_293 : decode cL_law 293 = .ok (.ireturn, 1) := by decide +kernel
theorem dL_law_294 : decode cL_law 294 = .ok (.aload_n 1, 1) := by decide +kernel
theorem dL_law_295 : decode cL_law 295 = .ok (.invokevirtual 32, 3) := by decide +kernel
theorem dL_law_298 : decode cL_law 298 = .ok (.aload_n 2, 1) := by decide +kernel
theorem dL_law_299 : decode cL_law 299 = .ok (.invokevirtual 36, 3) := by decide +kernel
theorem dL_law_302 : decode cL_law 302 = .ok (.if_icmp .eq 643, 3) := by decide +kernel
theorem dL_law_305 : decode cL_law 305 = .ok (.iconst 0, 1) := by decide +kernel
theorem dL_law_306 : decode cL_law 306 = .ok (.ireturn, 1) := by decide +kernel
theorem dL_law_307 : decode cL_law 307 = .ok (.aload_n 1, 1) := by decide +kernel
theorem dL_law_308 : decode cL_law 308 = .ok (.invokevirtual 37, 3) := by decide +kernel
theorem dL_law_311 : decode cL_law 311 = .ok (.aload_n 2, 1) := by decide +kernel
theorem dL_law_312 : decode cL_law 312 = .ok (.invokevirtual 40, 3) := by decide +kernel
theorem dL_law_315 : decode cL_law 315 = .ok (.if_icmp .eq 630, 3) := by decide +kernel
theorem dL_law_318 : decode cL_law 318 = .ok (.iconst 0, 1) := by decide +kernel
theorem dL_law_319 : decode cL_law 319 = .ok (.ireturn, 1) := by decide +kernel
theorem dL_law_320 : decode cL_law 320 = .ok (.aload_n 1, 1) := by decide +kernel
theorem dL_law_321 : decode cL_law 321 = .ok (.aload_n 0, 1) := by decide +kernel
theorem dL_law_322 : decode cL_law 322 = .ok (.iload_n 3, 1) := by decide +kernel
theorem dL_law_323 : decode cL_law 323 = .ok (.iconst 1, 1) := by decide +kernel
theorem dL_law_324 : decode cL_law 324 = .ok (.iadd, 1) := by decide +kernel
theorem dL_law_325 : decode cL_law 325 = .ok (.iaload, 1) := by decide +kernel
theorem dL_law_326 : decode cL_law 326 = .ok (.invokevirtual 41, 3) := by decide +kernel
theorem dL_law_329 : decode cL_law 329 = .ok (.aload_n 2, 1) := by decide +kernel
theorem dL_law_330 : decode cL_law 330 = .ok (.aload_n 0, 1) := by decide +kernel
theorem dL_law_331 : decode cL_law 331 = .ok (.iload_n 3, 1) := by decide +kernel
theorem dL_law_332 : decode cL_law 332 = .ok (.iconst 1, 1) := by decide +kernel
theorem dL_law_333 : decode cL_law 333 = .ok (.iadd, 1) := by decide +kernel
theorem dL_law_334 : decode cL_law 334 = .ok (.iaload, 1) := by decide +kernel
theorem dL_law_335 : decode cL_law 335 = .ok (.invokevirtual 44, 3) := by decide +kernel
theorem dL_law_338 : decode cL_law 338 = .ok (.if_icmp .eq 607, 3) := by decide +kernel
theorem dL_law_341 : decode cL_law 341 = .ok (.iconst 0, 1) := by decide +kernel
theorem dL_law_342 : decode cL_law 342 = .ok (.ireturn, 1) := by decide +kernel
theorem dL_law_343 : decode cL_law 343 = .ok (.aload_n 1, 1) := by decide +kernel
theorem dL_law_344 : decode cL_law 344 = .ok (.aload_n 0, 1) := by decide +kernel
theorem dL_law_345 : decode cL_law 345 = .ok (.iload_n 3, 1) := by decide +kernel
theorem dL_law_346 : decode cL_law 346 = .ok (.iconst 1, 1) := by decide +kernel
theorem dL_law_347 : decode cL_law 347 = .ok (.iadd, 1) := by decide +kernel
theorem dL_law_348 : decode cL_law 348 = .ok (.iaload, 1) := by decide +kernel
theorem dL_law_349 : decode cL_law 349 = .ok (.aload_n 0, 1) := by decide +kernel
theorem dL_law_350 : decode cL_law 350 = .ok (.iload_n 3, 1) := by decide +kernel
theorem dL_law_351 : decode cL_law 351 = .ok (.iconst 2, 1) := by decide +kernel
theorem dL_law_352 : decode cL_law 352 = .ok (.iadd, 1) := by decide +kernel
theorem dL_law_353 : decode cL_law 353 = .ok (.iaload, 1) := by decide +kernel
theorem dL_law_354 : decode cL_law 354 = .ok (.invokevirtual 45, 3) := by decide +kernel
theorem dL_law_357 : decode cL_law 357 = .ok (.aload_n 2, 1) := by decide +kernel
theorem dL_law_358 : decode cL_law 358 = .ok (.aload_n 0, 1) := by decide +kernel
theorem dL_law_359 : decode cL_law 359 = .ok (.iload_n 3, 1) := by decide +kernel
theorem dL_law_360 : decode cL_law 360 = .ok (.iconst 1, 1) := by decide +kernel
theorem dL_law_361 : decode cL_law 361 = .ok (.iadd, 1) := by decide +kernel
theorem dL_law_362 : decode cL_law 362 = .ok (.iaload, 1) := by decide +kernel
theorem dL_law_363 : decode cL_law 363 = .ok (.aload_n 0, 1) := by decide +kernel
theorem dL_law_364 : decode cL_law 364 = .ok (.iload_n 3, 1) := by decide +kernel
theorem dL_law_365 : decode cL_law 365 = .ok (.iconst 2, 1) := by decide +kernel
theorem dL_law_366 : decode cL_law 366 = .ok (.iadd, 1) := by decide +kernel
theorem dL_law_367 : decode cL_law 367 = .ok (.iaload, 1) := by decide +kernel
theorem dL_law_368 : decode cL_law 368 = .ok (.invokevirtual 49, 3) := by decide +kernel
theorem dL_law_371 : decode cL_law 371 = .ok (.if_icmp .eq 574, 3) := by decide +kernel
theorem dL_law_374 : decode cL_law 374 = .ok (.iconst 0, 1) := by decide +kernel
theorem dL_law_375 : decode cL_law 375 = .ok (.ireturn, 1) := by decide +kernel
theorem dL_law_376 : decode cL_law 376 = .ok (.aload_n 1, 1) := by decide +kernel
theorem dL_law_377 : decode cL_law 377 = .ok (.aload_n 0, 1) := by decide +kernel
theorem dL_law_378 : decode cL_law 378 = .ok (.iload_n 3, 1) := by decide +kernel
theorem dL_law_379 : decode cL_law 379 = .ok (.iconst 1, 1) := by decide +kernel
theorem dL_law_380 : decode cL_law 380 = .ok (.iadd, 1) := by decide +kernel
theorem dL_law_381 : decode cL_law 381 = .ok (.iaload, 1) := by decide +kernel
theorem dL_law_382 : decode cL_law 382 = .ok (.invokevirtual 50, 3) := by decide +kernel
theorem dL_law_385 : decode cL_law 385 = .ok (.aload_n 2, 1) := by decide +kernel
theorem dL_law_386 : decode cL_law 386 = .ok (.aload_n 0, 1) := by decide +kernel
theorem dL_law_387 : decode cL_law 387 = .ok (.iload_n 3, 1) := by decide +kernel
theorem dL_law_388 : decode cL_law 388 = .ok (.iconst 1, 1) := by decide +kernel
theorem dL_law_389 : decode cL_law 389 = .ok (.iadd, 1) := by decide +kernel
theorem dL_law_390 : decode cL_law 390 = .ok (.iaload, 1) := by decide +kernel
theorem dL_law_391 : decode cL_law 391 = .ok (.invokevirtual 53, 3) := by decide +kernel
theorem dL_law_394 : decode cL_law 394 = .ok (.if_icmp .eq 551, 3) := by decide +kernel
theorem dL_law_397 : decode cL_law 397 = .ok (.iconst 0, 1) := by decide +kernel
theorem dL_law_398 : decode cL_law 398 = .ok (.ireturn, 1) := by decide +kernel
theorem dL_law_399 : decode cL_law 399 = .ok (.aload_n 1, 1) := by decide +kernel
theorem dL_law_400 : decode cL_law 400 = .ok (.aload_n 0, 1) := by decide +kernel
theorem dL_law_401 : decode cL_law 401 = .ok (.iload_n 3, 1) := by decide +kernel
theorem dL_law_402 : decode cL_law 402 = .ok (.iconst 1, 1) := by decide +kernel
theorem dL_law_403 : decode cL_law 403 = .ok (.iadd, 1) := by decide +kernel
theorem dL_law_404 : decode cL_law 404 = .ok (.iaload, 1) := by decide +kernel
theorem dL_law_405 : decode cL_law 405 = .ok (.invokevirtual 54, 3) := by decide +kernel
theorem dL_law_408 : decode cL_law 408 = .ok (.aload_n 2, 1) := by decide +kernel
theorem dL_law_409 : decode cL_law 409 = .ok (.aload_n 0, 1) := by decide +kernel
theorem dL_law_410 : decode cL_law 410 = .ok (.iload_n 3, 1) := by decide +kernel
theorem dL_law_411 : decode cL_law 411 = .ok (.iconst 1, 1) := by decide +kernel
theorem dL_law_412 : decode cL_law 412 = .ok (.iadd, 1) := by decide +kernel
theorem dL_law_413 : decode cL_law 413 = .ok (.iaload, 1) := by decide +kernel
theorem dL_law_414 : decode cL_law 414 = .ok (.invokevirtual 57, 3) := by decide +kernel
theorem dL_law_417 : decode cL_law 417 = .ok (.if_icmp .eq 528, 3) := by decide +kernel
theorem dL_law_420 : decode cL_law 420 = .ok (.iconst 0, 1) := by decide +kernel
theorem dL_law_421 : decode cL_law 421 = .ok (.ireturn, 1) := by decide +kernel
theorem dL_law_422 : decode cL_law 422 = .ok (.aload_n 1, 1) := by decide +kernel
theorem dL_law_423 : decode cL_law 423 = .ok (.invokevirtual 58, 3) := by decide +kernel
theorem dL_law_426 : decode cL_law 426 = .ok (.aload_n 2, 1) := by decide +kernel
theorem dL_law_427 : decode cL_law 427 = .ok (.invokevirtual 61, 3) := by decide +kernel
theorem dL_law_430 : decode cL_law 430 = .ok (.if_icmp .eq 515, 3) := by decide +kernel
theorem dL_law_433 : decode cL_law 433 = .ok (.iconst 0, 1) := by decide +kernel
theorem dL_law_434 : decode cL_law 434 = .ok (.ireturn, 1) := by decide +kernel
theorem dL_law_435 : decode cL_law 435 = .ok (.aload_n 1, 1) := by decide +kernel
theorem dL_law_436 : decode cL_law 436 = .ok (.invokevirtual 62, 3) := by decide +kernel
theorem dL_law_439 : decode cL_law 439 = .ok (.aload_n 2, 1) := by decide +kernel
theorem dL_law_440 : decode cL_law 440 = .ok (.invokevirtual 65, 3) := by decide +kernel
theorem dL_law_443 : decode cL_law 443 = .ok (.if_icmp .eq 502, 3) := by decide +kernel
theorem dL_law_446 : decode cL_law 446 = .ok (.iconst 0, 1) := by decide +kernel
theorem dL_law_447 : decode cL_law 447 = .ok (.ireturn, 1) := by decide +kernel
theorem dL_law_448 : decode cL_law 448 = .ok (.aload_n 1, 1) := by decide +kernel
theorem dL_law_449 : decode cL_law 449 = .ok (.aload_n 0, 1) := by decide +kernel
theorem dL_law_450 : decode cL_law 450 = .ok (.iload_n 3, 1) := by decide +kernel
theorem dL_law_451 : decode cL_law 451 = .ok (.iconst 1, 1) := by decide +kernel
theorem dL_law_452 : decode cL_law 452 = .ok (.iadd, 1) := by decide +kernel
theorem dL_law_453 : decode cL_law 453 = .ok (.iaload, 1) := by decide +kernel
theorem dL_law_454 : decode cL_law 454 = .ok (.aload_n 0, 1) := by decide +kernel
theorem dL_law_455 : decode cL_law 455 = .ok (.iload_n 3, 1) := by decide +kernel
theorem dL_law_456 : decode cL_law 456 = .ok (.iconst 2, 1) := by decide +kernel
theorem dL_law_457 : decode cL_law 457 = .ok (.iadd, 1) := by decide +kernel
theorem dL_law_458 : decode cL_law 458 = .ok (.iaload, 1) := by decide +kernel
theorem dL_law_459 : decode cL_law 459 = .ok (.invokevirtual 66, 3) := by decide +kernel
theorem dL_law_462 : decode cL_law 462 = .ok (.aload_n 2, 1) := by decide +kernel
theorem dL_law_463 : decode cL_law 463 = .ok (.aload_n 0, 1) := by decide +kernel
theorem dL_law_464 : decode cL_law 464 = .ok (.iload_n 3, 1) := by decide +kernel
theorem dL_law_465 : decode cL_law 465 = .ok (.iconst 1, 1) := by decide +kernel
theorem dL_law_466 : decode cL_law 466 = .ok (.iadd, 1) := by decide +kernel
theorem dL_law_467 : decode cL_law 467 = .ok (.iaload, 1) := by decide +kernel
theorem dL_law_468 : decode cL_law 468 = .ok (.aload_n 0, 1) := by decide +kernel
theorem dL_law_469 : decode cL_law 469 = .ok (.iload_n 3, 1) := by decide +kernel
theorem dL_law_470 : decode cL_law 470 = .ok (.iconst 2, 1) := by decide +kernel
theorem dL_law_471 : decode cL_law 471 = .ok (.iadd, 1) := by decide +kernel
theorem dL_law_472 : decode cL_law 472 = .ok (.iaload, 1) := by decide +kernel
theorem dL_law_473 : decode cL_law 473 = .ok (.invokevirtual 69, 3) := by decide +kernel
theorem dL_law_476 : decode cL_law 476 = .ok (.if_icmp .eq 469, 3) := by decide +kernel
theorem dL_law_479 : decode cL_law 479 = .ok (.iconst 0, 1) := by decide +kernel
theorem dL_law_480 : decode cL_law 480 = .ok (.ireturn, 1) := by decide +kernel
theorem dL_law_481 : decode cL_law 481 = .ok (.aload_n 1, 1) := by decide +kernel
theorem dL_law_482 : decode cL_law 482 = .ok (.aload_n 0, 1) := by decide +kernel
theorem dL_law_483 : decode cL_law 483 = .ok (.iload_n 3, 1) := by decide +kernel
theorem dL_law_484 : decode cL_law 484 = .ok (.iconst 1, 1) := by decide +kernel
theorem dL_law_485 : decode cL_law 485 = .ok (.iadd, 1) := by decide +kernel
theorem dL_law_486 : decode cL_law 486 = .ok (.iaload, 1) := by decide +kernel
theorem dL_law_487 : decode cL_law 487 = .ok (.aload_n 0, 1) := by decide +kernel
theorem dL_law_488 : decode cL_law 488 = .ok (.iload_n 3, 1) := by decide +kernel
theorem dL_law_489 : decode cL_law 489 = .ok (.iconst 2, 1) := by decide +kernel
theorem dL_law_490 : decode cL_law 490 = .ok (.iadd, 1) := by decide +kernel
theorem dL_law_491 : decode cL_law 491 = .ok (.iaload, 1) := by decide +kernel
theorem dL_law_492 : decode cL_law 492 = .ok (.invokevirtual 70, 3) := by decide +kernel
theorem dL_law_495 : decode cL_law 495 = .ok (.aload_n 2, 1) := by decide +kernel
theorem dL_law_496 : decode cL_law 496 = .ok (.aload_n 0, 1) := by decide +kernel
theorem dL_law_497 : decode cL_law 497 = .ok (.iload_n 3, 1) := by decide +kernel
theorem dL_law_498 : decode cL_law 498 = .ok (.iconst 1, 1) := by decide +kernel
theorem dL_law_499 : decode cL_law 499 = .ok (.iadd, 1) := by decide +kernel
theorem dL_law_500 : decode cL_law 500 = .ok (.iaload, 1) := by decide +kernel
theorem dL_law_501 : decode cL_law 501 = .ok (.aload_n 0, 1) := by decide +kernel
theorem dL_law_502 : decode cL_law 502 = .ok (.iload_n 3, 1) := by decide +kernel
theorem dL_law_503 : decode cL_law 503 = .ok (.iconst 2, 1) := by decide +kernel
theorem dL_law_504 : decode cL_law 504 = .ok (.iadd, 1) := by decide +kernel
theorem dL_law_505 : decode cL_law 505 = .ok (.iaload, 1) := by decide +kernel
theorem dL_law_506 : decode cL_law 506 = .ok (.invokevirtual 73, 3) := by decide +kernel
theorem dL_law_509 : decode cL_law 509 = .ok (.if_icmp .eq 436, 3) := by decide +kernel
theorem dL_law_512 : decode cL_law 512 = .ok (.iconst 0, 1) := by decide +kernel
theorem dL_law_513 : decode cL_law 513 = .ok (.ireturn, 1) := by decide +kernel
theorem dL_law_514 : decode cL_law 514 = .ok (.aload_n 1, 1) := by decide +kernel
theorem dL_law_515 : decode cL_law 515 = .ok (.aload_n 0, 1) := by decide +kernel
theorem dL_law_516 : decode cL_law 516 = .ok (.iload_n 3, 1) := by decide +kernel
theorem dL_law_517 : decode cL_law 517 = .ok (.iconst 1, 1) := by decide +kernel
theorem dL_law_518 : decode cL_law 518 = .ok (.iadd, 1) := by decide +kernel
theorem dL_law_519 : decode cL_law 519 = .ok (.iaload, 1) := by decide +kernel
theorem dL_law_520 : decode cL_law 520 = .ok (.aload_n 0, 1) := by decide +kernel
theorem dL_law_521 : decode cL_law 521 = .ok (.iload_n 3, 1) := by decide +kernel
theorem dL_law_522 : decode cL_law 522 = .ok (.iconst 2, 1) := by decide +kernel
theorem dL_law_523 : decode cL_law 523 = .ok (.iadd, 1) := by decide +kernel
theorem dL_law_524 : decode cL_law 524 = .ok (.iaload, 1) := by decide +kernel
theorem dL_law_525 : decode cL_law 525 = .ok (.invokevirtual 74, 3) := by decide +kernel
theorem dL_law_528 : decode cL_law 528 = .ok (.aload_n 2, 1) := by decide +kernel
theorem dL_law_529 : decode cL_law 529 = .ok (.aload_n 0, 1) := by decide +kernel
theorem dL_law_530 : decode cL_law 530 = .ok (.iload_n 3, 1) := by decide +kernel
theorem dL_law_531 : decode cL_law 531 = .ok (.iconst 1, 1) := by decide +kernel
theorem dL_law_532 : decode cL_law 532 = .ok (.iadd, 1) := by decide +kernel
theorem dL_law_533 : decode cL_law 533 = .ok (.iaload, 1) := by decide +kernel
theorem dL_law_534 : decode cL_law 534 = .ok (.aload_n 0, 1) := by decide +kernel
theorem dL_law_535 : decode cL_law 535 = .ok (.iload_n 3, 1) := by decide +kernel
theorem dL_law_536 : decode cL_law 536 = .ok (.iconst 2, 1) := by decide +kernel
theorem dL_law_537 : decode cL_law 537 = .ok (.iadd, 1) := by decide +kernel
theorem dL_law_538 : decode cL_law 538 = .ok (.iaload, 1) := by decide +kernel
theorem dL_law_539 : decode cL_law 539 = .ok (.invokevirtual 77, 3) := by decide +kernel
theorem dL_law_542 : decode cL_law 542 = .ok (.if_icmp .eq 403, 3) := by decide +kernel
theorem dL_law_545 : decode cL_law 545 = .ok (.iconst 0, 1) := by decide +kernel
theorem dL_law_546 : decode cL_law 546 = .ok (.ireturn, 1) := by decide +kernel
theorem dL_law_547 : decode cL_law 547 = .ok (.aload_n 1, 1) := by decide +kernel
theorem dL_law_548 : decode cL_law 548 = .ok (.aload_n 0, 1) := by decide +kernel
theorem dL_law_549 : decode cL_law 549 = .ok (.iload_n 3, 1) := by decide +kernel
theorem dL_law_550 : decode cL_law 550 = .ok (.iconst 1, 1) := by decide +kernel
theorem dL_law_551 : decode cL_law 551 = .ok (.iadd, 1) := by decide +kernel
theorem dL_law_552 : decode cL_law 552 = .ok (.iaload, 1) := by decide +kernel
theorem dL_law_553 : decode cL_law 553 = .ok (.aload_n 0, 1) := by decide +kernel
theorem dL_law_554 : decode cL_law 554 = .ok (.iload_n 3, 1) := by decide +kernel
theorem dL_law_555 : decode cL_law 555 = .ok (.iconst 2, 1) := by decide +kernel
theorem dL_law_556 : decode cL_law 556 = .ok (.iadd, 1) := by decide +kernel
theorem dL_law_557 : decode cL_law 557 = .ok (.iaload, 1) := by decide +kernel
theorem dL_law_558 : decode cL_law 558 = .ok (.aload_n 0, 1) := by decide +kernel
theorem dL_law_559 : decode cL_law 559 = .ok (.iload_n 3, 1) := by decide +kernel
theorem dL_law_560 : decode cL_law 560 = .ok (.iconst 3, 1) := by decide +kernel
theorem dL_law_561 : decode cL_law 561 = .ok (.iadd, 1) := by decide +kernel
theorem dL_law_562 : decode cL_law 562 = .ok (.iaload, 1) := by decide +kernel
theorem dL_law_563 : decode cL_law 563 = .ok (.invokevirtual 78, 3) := by decide +kernel
theorem dL_law_566 : decode cL_law 566 = .ok (.aload_n 2, 1) := by decide +kernel
theorem dL_law_567 : decode cL_law 567 = .ok (.aload_n 0, 1) := by decide +kernel
theorem dL_law_568 : decode cL_law 568 = .ok (.iload_n 3, 1) := by decide +kernel
theorem dL_law_569 : decode cL_law 569 = .ok (.iconst 1, 1) := by decide +kernel
theorem dL_law_570 : decode cL_law 570 = .ok (.iadd, 1) := by decide +kernel
theorem dL_law_571 : decode cL_law 571 = .ok (.iaload, 1) := by decide +kernel
theorem dL_law_572 : decode cL_law 572 = .ok (.aload_n 0, 1) := by decide +kernel
theorem dL_law_573 : decode cL_law 573 = .ok (.iload_n 3, 1) := by decide +kernel
theorem dL_law_574 : decode cL_law 574 = .ok (.iconst 2, 1) := by decide +kernel
theorem dL_law_575 : decode cL_law 575 = .ok (.iadd, 1) := by decide +kernel
theorem dL_law_576 : decode cL_law 576 = .ok (.iaload, 1) := by decide +kernel
theorem dL_law_577 : decode cL_law 577 = .ok (.aload_n 0, 1) := by decide +kernel
theorem dL_law_578 : decode cL_law 578 = .ok (.iload_n 3, 1) := by decide +kernel
theorem dL_law_579 : decode cL_law 579 = .ok (.iconst 3, 1) := by decide +kernel
theorem dL_law_580 : decode cL_law 580 = .ok (.iadd, 1) := by decide +kernel
theorem dL_law_581 : decode cL_law 581 = .ok (.iaload, 1) := by decide +kernel
theorem dL_law_582 : decode cL_law 582 = .ok (.invokevirtual 81, 3) := by decide +kernel
theorem dL_law_585 : decode cL_law 585 = .ok (.if_icmp .eq 360, 3) := by decide +kernel
theorem dL_law_588 : decode cL_law 588 = .ok (.iconst 0, 1) := by decide +kernel
theorem dL_law_589 : decode cL_law 589 = .ok (.ireturn, 1) := by decide +kernel
theorem dL_law_590 : decode cL_law 590 = .ok (.aload_n 1, 1) := by decide +kernel
theorem dL_law_591 : decode cL_law 591 = .ok (.aload_n 0, 1) := by decide +kernel
theorem dL_law_592 : decode cL_law 592 = .ok (.iload_n 3, 1) := by decide +kernel
theorem dL_law_593 : decode cL_law 593 = .ok (.iconst 1, 1) := by decide +kernel
theorem dL_law_594 : decode cL_law 594 = .ok (.iadd, 1) := by decide +kernel
theorem dL_law_595 : decode cL_law 595 = .ok (.iaload, 1) := by decide +kernel
theorem dL_law_596 : decode cL_law 596 = .ok (.aload_n 0, 1) := by decide +kernel
theorem dL_law_597 : decode cL_law 597 = .ok (.iload_n 3, 1) := by decide +kernel
theorem dL_law_598 : decode cL_law 598 = .ok (.iconst 2, 1) := by decide +kernel
theorem dL_law_599 : decode cL_law 599 = .ok (.iadd, 1) := by decide +kernel
theorem dL_law_600 : decode cL_law 600 = .ok (.iaload, 1) := by decide +kernel
theorem dL_law_601 : decode cL_law 601 = .ok (.aload_n 0, 1) := by decide +kernel
theorem dL_law_602 : decode cL_law 602 = .ok (.iload_n 3, 1) := by decide +kernel
theorem dL_law_603 : decode cL_law 603 = .ok (.iconst 3, 1) := by decide +kernel
theorem dL_law_604 : decode cL_law 604 = .ok (.iadd, 1) := by decide +kernel
theorem dL_law_605 : decode cL_law 605 = .ok (.iaload, 1) := by decide +kernel
theorem dL_law_606 : decode cL_law 606 = .ok (.aload_n 0, 1) := by decide +kernel
theorem dL_law_607 : decode cL_law 607 = .ok (.iload_n 3, 1) := by decide +kernel
theorem dL_law_608 : decode cL_law 608 = .ok (.iconst 4, 1) := by decide +kernel
theorem dL_law_609 : decode cL_law 609 = .ok (.iadd, 1) := by decide +kernel
theorem dL_law_610 : decode cL_law 610 = .ok (.iaload, 1) := by decide +kernel
theorem dL_law_611 : decode cL_law 611 = .ok (.aload_n 0, 1) := by decide +kernel
theorem dL_law_612 : decode cL_law 612 = .ok (.iload_n 3, 1) := by decide +kernel
theorem dL_law_613 : decode cL_law 613 = .ok (.iconst 5, 1) := by decide +kernel
theorem dL_law_614 : decode cL_law 614 = .ok (.iadd, 1) := by decide +kernel
theorem dL_law_615 : decode cL_law 615 = .ok (.iaload, 1) := by decide +kernel
theorem dL_law_616 : decode cL_law 616 = .ok (.invokevirtual 82, 3) := by decide +kernel
theorem dL_law_619 : decode cL_law 619 = .ok (.aload_n 2, 1) := by decide +kernel
theorem dL_law_620 : decode cL_law 620 = .ok (.aload_n 0, 1) := by decide +kernel
theorem dL_law_621 : decode cL_law 621 = .ok (.iload_n 3, 1) := by decide +kernel
theorem dL_law_622 : decode cL_law 622 = .ok (.iconst 1, 1) := by decide +kernel
theorem dL_law_623 : decode cL_law 623 = .ok (.iadd, 1) := by decide +kernel
theorem dL_law_624 : decode cL_law 624 = .ok (.iaload, 1) := by decide +kernel
theorem dL_law_625 : decode cL_law 625 = .ok (.aload_n 0, 1) := by decide +kernel
theorem dL_law_626 : decode cL_law 626 = .ok (.iload_n 3, 1) := by decide +kernel
theorem dL_law_627 : decode cL_law 627 = .ok (.iconst 2, 1) := by decide +kernel
theorem dL_law_628 : decode cL_law 628 = .ok (.iadd, 1) := by decide +kernel
theorem dL_law_629 : decode cL_law 629 = .ok (.iaload, 1) := by decide +kernel
theorem dL_law_630 : decode cL_law 630 = .ok (.aload_n 0, 1) := by decide +kernel
theorem dL_law_631 : decode cL_law 631 = .ok (.iload_n 3, 1) := by decide +kernel
theorem dL_law_632 : decode cL_law 632 = .ok (.iconst 3, 1) := by decide +kernel
theorem dL_law_633 : decode cL_law 633 = .ok (.iadd, 1) := by decide +kernel
theorem dL_law_634 : decode cL_law 634 = .ok (.iaload, 1) := by decide +kernel
theorem dL_law_635 : decode cL_law 635 = .ok (.aload_n 0, 1) := by decide +kernel
theorem dL_law_636 : decode cL_law 636 = .ok (.iload_n 3, 1) := by decide +kernel
theorem dL_law_637 : decode cL_law 637 = .ok (.iconst 4, 1) := by decide +kernel
theorem dL_law_638 : decode cL_law 638 = .ok (.iadd, 1) := by decide +kernel
theorem dL_law_639 : decode cL_law 639 = .ok (.iaload, 1) := by decide +kernel
theorem dL_law_640 : decode cL_law 640 = .ok (.aload_n 0, 1) := by decide +kernel
theorem dL_law_641 : decode cL_law 641 = .ok (.iload_n 3, 1) := by decide +kernel
theorem dL_law_642 : decode cL_law 642 = .ok (.iconst 5, 1) := by decide +kernel
theorem dL_law_643 : decode cL_law 643 = .ok (.iadd, 1) := by decide +kernel
theorem dL_law_644 : decode cL_law 644 = .ok (.iaload, 1) := by decide +kernel
theorem dL_law_645 : decode cL_law 645 = .ok (.invokevirtual 86, 3) := by decide +kernel
theorem dL_law_648 : decode cL_law 648 = .ok (.if_icmp .eq 297, 3) := by decide +kernel
theorem dL_law_651 : decode cL_law 651 = .ok (.iconst 0, 1) := by decide +kernel
theorem dL_law_652 : decode cL_law 652 = .ok (.ireturn, 1) := by decide +kernel
theorem dL_law_653 : decode cL_law 653 = .ok (.aload_n 1, 1) := by decide +kernel
theorem dL_law_654 : decode cL_law 654 = .ok (.aload_n 0, 1) := by decide +kernel
theorem dL_law_655 : decode cL_law 655 = .ok (.iload_n 3, 1) := by decide +kernel
theorem dL_law_656 : decode cL_law 656 = .ok (.iconst 1, 1) := by decide +kernel
theorem dL_law_657 : decode cL_law 657 = .ok (.iadd, 1) := by decide +kernel
theorem dL_law_658 : decode cL_law 658 = .ok (.iaload, 1) := by decide +kernel
theorem dL_law_659 : decode cL_law 659 = .ok (.aload_n 0, 1) := by decide +kernel
theorem dL_law_660 : decode cL_law 660 = .ok (.iload_n 3, 1) := by decide +kernel
theorem dL_law_661 : decode cL_law 661 = .ok (.iconst 2, 1) := by decide +kernel
theorem dL_law_662 : decode cL_law 662 = .ok (.iadd, 1) := by decide +kernel
theorem dL_law_663 : decode cL_law 663 = .ok (.iaload, 1) := by decide +kernel
theorem dL_law_664 : decode cL_law 664 = .ok (.invokevirtual 87, 3) := by decide +kernel
theorem dL_law_667 : decode cL_law 667 = .ok (.aload_n 2, 1) := by decide +kernel
theorem dL_law_668 : decode cL_law 668 = .ok (.aload_n 0, 1) := by decide +kernel
theorem dL_law_669 : decode cL_law 669 = .ok (.iload_n 3, 1) := by decide +kernel
theorem dL_law_670 : decode cL_law 670 = .ok (.iconst 1, 1) := by decide +kernel
theorem dL_law_671 : decode cL_law 671 = .ok (.iadd, 1) := by decide +kernel
theorem dL_law_672 : decode cL_law 672 = .ok (.iaload, 1) := by decide +kernel
theorem dL_law_673 : decode cL_law 673 = .ok (.aload_n 0, 1) := by decide +kernel
theorem dL_law_674 : decode cL_law 674 = .ok (.iload_n 3, 1) := by decide +kernel
theorem dL_law_675 : decode cL_law 675 = .ok (.iconst 2, 1) := by decide +kernel
theorem dL_law_676 : decode cL_law 676 = .ok (.iadd, 1) := by decide +kernel
theorem dL_law_677 : decode cL_law 677 = .ok (.iaload, 1) := by decide +kernel
theorem dL_law_678 : decode cL_law 678 = .ok (.invokevirtual 90, 3) := by decide +kernel
theorem dL_law_681 : decode cL_law 681 = .ok (.if_icmp .eq 264, 3) := by decide +kernel
theorem dL_law_684 : decode cL_law 684 = .ok (.iconst 0, 1) := by decide +kernel
theorem dL_law_685 : decode cL_law 685 = .ok (.ireturn, 1) := by decide +kernel
theorem dL_law_686 : decode cL_law 686 = .ok (.aload_n 1, 1) := by decide +kernel
theorem dL_law_687 : decode cL_law 687 = .ok (.invokevirtual 91, 3) := by decide +kernel
theorem dL_law_690 : decode cL_law 690 = .ok (.aload_n 2, 1) := by decide +kernel
theorem dL_law_691 : decode cL_law 691 = .ok (.invokevirtual 94, 3) := by decide +kernel
theorem dL_law_694 : decode cL_law 694 = .ok (.if_icmp .eq 251, 3) := by decide +kernel
theorem dL_law_697 : decode cL_law 697 = .ok (.iconst 0, 1) := by decide +kernel
theorem dL_law_698 : decode cL_law 698 = .ok (.ireturn, 1) := by decide +kernel
theorem dL_law_699 : decode cL_law 699 = .ok (.aload_n 1, 1) := by decide +kernel
theorem dL_law_700 : decode cL_law 700 = .ok (.aload_n 0, 1) := by decide +kernel
theorem dL_law_701 : decode cL_law 701 = .ok (.iload_n 3, 1) := by decide +kernel
theorem dL_law_702 : decode cL_law 702 = .ok (.iconst 1, 1) := by decide +kernel
theorem dL_law_703 : decode cL_law 703 = .ok (.iadd, 1) := by decide +kernel
theorem dL_law_704 : decode cL_law 704 = .ok (.iaload, 1) := by decide +kernel
theorem dL_law_705 : decode cL_law 705 = .ok (.invokevirtual 95, 3) := by decide +kernel
theorem dL_law_708 : decode cL_law 708 = .ok (.aload_n 2, 1) := by decide +kernel
theorem dL_law_709 : decode cL_law 709 = .ok (.aload_n 0, 1) := by decide +kernel
theorem dL_law_710 : decode cL_law 710 = .ok (.iload_n 3, 1) := by decide +kernel
theorem dL_law_711 : decode cL_law 711 = .ok (.iconst 1, 1) := by decide +kernel
theorem dL_law_712 : decode cL_law 712 = .ok (.iadd, 1) := by decide +kernel
theorem dL_law_713 : decode cL_law 713 = .ok (.iaload, 1) := by decide +kernel
theorem dL_law_714 : decode cL_law 714 = .ok (.invokevirtual 98, 3) := by decide +kernel
theorem dL_law_717 : decode cL_law 717 = .ok (.if_icmp .eq 228, 3) := by decide +kernel
theorem dL_law_720 : decode cL_law 720 = .ok (.iconst 0, 1) := by decide +kernel
theorem dL_law_721 : decode cL_law 721 = .ok (.ireturn, 1) := by decide +kernel
theorem dL_law_722 : decode cL_law 722 = .ok (.aload_n 1, 1) := by decide +kernel
theorem dL_law_723 : decode cL_law 723 = .ok (.aload_n 0, 1) := by decide +kernel
theorem dL_law_724 : decode cL_law 724 = .ok (.iload_n 3, 1) := by decide +kernel
theorem dL_law_725 : decode cL_law 725 = .ok (.iconst 1, 1) := by decide +kernel
theorem dL_law_726 : decode cL_law 726 = .ok (.iadd, 1) := by decide +kernel
theorem dL_law_727 : decode cL_law 727 = .ok (.iaload, 1) := by decide +kernel
theorem dL_law_728 : decode cL_law 728 = .ok (.invokevirtual 99, 3) := by decide +kernel
theorem dL_law_731 : decode cL_law 731 = .ok (.aload_n 2, 1) := by decide +kernel
theorem dL_law_732 : decode cL_law 732 = .ok (.aload_n 0, 1) := by decide +kernel
theorem dL_law_733 : decode cL_law 733 = .ok (.iload_n 3, 1) := by decide +kernel
theorem dL_law_734 : decode cL_law 734 = .ok (.iconst 1, 1) := by decide +kernel
theorem dL_law_735 : decode cL_law 735 = .ok (.iadd, 1) := by decide +kernel
theorem dL_law_736 : decode cL_law 736 = .ok (.iaload, 1) := by decide +kernel
theorem dL_law_737 : decode cL_law 737 = .ok (.invokevirtual 102, 3) := by decide +kernel
theorem dL_law_740 : decode cL_law 740 = .ok (.if_icmp .eq 205, 3) := by decide +kernel
theorem dL_law_743 : decode cL_law 743 = .ok (.iconst 0, 1) := by decide +kernel
theorem dL_law_744 : decode cL_law 744 = .ok (.ireturn, 1) := by decide +kernel
theorem dL_law_745 : decode cL_law 745 = .ok (.aload_n 1, 1) := by decide +kernel
theorem dL_law_746 : decode cL_law 746 = .ok (.aload_n 0, 1) := by decide +kernel
theorem dL_law_747 : decode cL_law 747 = .ok (.iload_n 3, 1) := by decide +kernel
theorem dL_law_748 : decode cL_law 748 = .ok (.iconst 1, 1) := by decide +kernel
theorem dL_law_749 : decode cL_law 749 = .ok (.iadd, 1) := by decide +kernel
theorem dL_law_750 : decode cL_law 750 = .ok (.iaload, 1) := by decide +kernel
theorem dL_law_751 : decode cL_law 751 = .ok (.aload_n 0, 1) := by decide +kernel
theorem dL_law_752 : decode cL_law 752 = .ok (.iload_n 3, 1) := by decide +kernel
theorem dL_law_753 : decode cL_law 753 = .ok (.iconst 2, 1) := by decide +kernel
theorem dL_law_754 : decode cL_law 754 = .ok (.iadd, 1) := by decide +kernel
theorem dL_law_755 : decode cL_law 755 = .ok (.iaload, 1) := by decide +kernel
theorem dL_law_756 : decode cL_law 756 = .ok (.aload_n 0, 1) := by decide +kernel
theorem dL_law_757 : decode cL_law 757 = .ok (.iload_n 3, 1) := by decide +kernel
theorem dL_law_758 : decode cL_law 758 = .ok (.iconst 3, 1) := by decide +kernel
theorem dL_law_759 : decode cL_law 759 = .ok (.iadd, 1) := by decide +kernel
theorem dL_law_760 : decode cL_law 760 = .ok (.iaload, 1) := by decide +kernel
theorem dL_law_761 : decode cL_law 761 = .ok (.aload_n 0, 1) := by decide +kernel
theorem dL_law_762 : decode cL_law 762 = .ok (.iload_n 3, 1) := by decide +kernel
theorem dL_law_763 : decode cL_law 763 = .ok (.iconst 4, 1) := by decide +kernel
theorem dL_law_764 : decode cL_law 764 = .ok (.iadd, 1) := by decide +kernel
theorem dL_law_765 : decode cL_law 765 = .ok (.iaload, 1) := by decide +kernel
theorem dL_law_766 : decode cL_law 766 = .ok (.aload_n 0, 1) := by decide +kernel
theorem dL_law_767 : decode cL_law 767 = .ok (.iload_n 3, 1) := by decide +kernel
theorem dL_law_768 : decode cL_law 768 = .ok (.iconst 5, 1) := by decide +kernel
theorem dL_law_769 : decode cL_law 769 = .ok (.iadd, 1) := by decide +kernel
theorem dL_law_770 : decode cL_law 770 = .ok (.iaload, 1) := by decide +kernel
theorem dL_law_771 : decode cL_law 771 = .ok (.aload_n 0, 1) := by decide +kernel
theorem dL_law_772 : decode cL_law 772 = .ok (.iload_n 3, 1) := by decide +kernel
theorem dL_law_773 : decode cL_law 773 = .ok (.bipush 6, 2) := by decide +kernel
theorem dL_law_775 : decode cL_law 775 = .ok (.iadd, 1) := by decide +kernel
theorem dL_law_776 : decode cL_law 776 = .ok (.iaload, 1) := by decide +kernel
theorem dL_law_777 : decode cL_law 777 = .ok (.aload_n 0, 1) := by decide +kernel
theorem dL_law_778 : decode cL_law 778 = .ok (.iload_n 3, 1) := by decide +kernel
theorem dL_law_779 : decode cL_law 779 = .ok (.bipush 7, 2) := by decide +kernel
theorem dL_law_781 : decode cL_law 781 = .ok (.iadd, 1) := by decide +kernel
theorem dL_law_782 : decode cL_law 782 = .ok (.iaload, 1) := by decide +kernel
theorem dL_law_783 : decode cL_law 783 = .ok (.invokevirtual 103, 3) := by decide +kernel
theorem dL_law_786 : decode cL_law 786 = .ok (.aload_n 2, 1) := by decide +kernel
theorem dL_law_787 : decode cL_law 787 = .ok (.aload_n 0, 1) := by decide +kernel
theorem dL_law_788 : decode cL_law 788 = .ok (.iload_n 3, 1) := by decide +kernel
theorem dL_law_789 : decode cL_law 789 = .ok (.iconst 1, 1) := by decide +kernel
theorem dL_law_790 : decode cL_law 790 = .ok (.iadd, 1) := by decide +kernel
theorem dL_law_791 : decode cL_law 791 = .ok (.iaload, 1) := by decide +kernel
theorem dL_law_792 : decode cL_law 792 = .ok (.aload_n 0, 1) := by decide +kernel
theorem dL_law_793 : decode cL_law 793 = .ok (.iload_n 3, 1) := by decide +kernel
theorem dL_law_794 : decode cL_law 794 = .ok (.iconst 2, 1) := by decide +kernel
theorem dL_law_795 : decode cL_law 795 = .ok (.iadd, 1) := by decide +kernel
theorem dL_law_796 : decode cL_law 796 = .ok (.iaload, 1) := by decide +kernel
theorem dL_law_797 : decode cL_law 797 = .ok (.aload_n 0, 1) := by decide +kernel
theorem dL_law_798 : decode cL_law 798 = .ok (.iload_n 3, 1) := by decide +kernel
theorem dL_law_799 : decode cL_law 799 = .ok (.iconst 3, 1) := by decide +kernel
theorem dL_law_800 : decode cL_law 800 = .ok (.iadd, 1) := by decide +kernel
theorem dL_law_801 : decode cL_law 801 = .ok (.iaload, 1) := by decide +kernel
theorem dL_law_802 : decode cL_law 802 = .ok (.aload_n 0, 1) := by decide +kernel
theorem dL_law_803 : decode cL_law 803 = .ok (.iload_n 3, 1) := by decide +kernel
theorem dL_law_804 : decode cL_law 804 = .ok (.iconst 4, 1) := by decide +kernel
theorem dL_law_805 : decode cL_law 805 = .ok (.iadd, 1) := by decide +kernel
theorem dL_law_806 : decode cL_law 806 = .ok (.iaload, 1) := by decide +kernel
theorem dL_law_807 : decode cL_law 807 = .ok (.aload_n 0, 1) := by decide +kernel
theorem dL_law_808 : decode cL_law 808 = .ok (.iload_n 3, 1) := by decide +kernel
theorem dL_law_809 : decode cL_law 809 = .ok (.iconst 5, 1) := by decide +kernel
theorem dL_law_810 : decode cL_law 810 = .ok (.iadd, 1) := by decide +kernel
theorem dL_law_811 : decode cL_law 811 = .ok (.iaload, 1) := by decide +kernel
theorem dL_law_812 : decode cL_law 812 = .ok (.aload_n 0, 1) := by decide +kernel
theorem dL_law_813 : decode cL_law 813 = .ok (.iload_n 3, 1) := by decide +kernel
theorem dL_law_814 : decode cL_law 814 = .ok (.bipush 6, 2) := by decide +kernel
theorem dL_law_816 : decode cL_law 816 = .ok (.iadd, 1) := by decide +kernel
theorem dL_law_817 : decode cL_law 817 = .ok (.iaload, 1) := by decide +kernel
theorem dL_law_818 : decode cL_law 818 = .ok (.aload_n 0, 1) := by decide +kernel
theorem dL_law_819 : decode cL_law 819 = .ok (.iload_n 3, 1) := by decide +kernel
theorem dL_law_820 : decode cL_law 820 = .ok (.bipush 7, 2) := by decide +kernel
theorem dL_law_822 : decode cL_law 822 = .ok (.iadd, 1) := by decide +kernel
theorem dL_law_823 : decode cL_law 823 = .ok (.iaload, 1) := by decide +kernel
theorem dL_law_824 : decode cL_law 824 = .ok (.invokevirtual 107, 3) := by decide +kernel
theorem dL_law_827 : decode cL_law 827 = .ok (.lcmp, 1) := by decide +kernel
theorem dL_law_828 : decode cL_law 828 = .ok (.ifCond .eq 117, 3) := by decide +kernel
theorem dL_law_831 : decode cL_law 831 = .ok (.iconst 0, 1) := by decide +kernel
theorem dL_law_832 : decode cL_law 832 = .ok (.ireturn, 1) := by decide +kernel
theorem dL_law_833 : decode cL_law 833 = .ok (.aload_n 1, 1) := by decide +kernel
theorem dL_law_834 : decode cL_law 834 = .ok (.aload_n 0, 1) := by decide +kernel
theorem dL_law_835 : decode cL_law 835 = .ok (.iload_n 3, 1) := by decide +kernel
theorem dL_law_836 : decode cL_law 836 = .ok (.iconst 1, 1) := by decide +kernel
theorem dL_law_837 : decode cL_law 837 = .ok (.iadd, 1) := by decide +kernel
theorem dL_law_838 : decode cL_law 838 = .ok (.iaload, 1) := by decide +kernel
theorem dL_law_839 : decode cL_law 839 = .ok (.aload_n 0, 1) := by decide +kernel
theorem dL_law_840 : decode cL_law 840 = .ok (.iload_n 3, 1) := by decide +kernel
theorem dL_law_841 : decode cL_law 841 = .ok (.iconst 2, 1) := by decide +kernel
theorem dL_law_842 : decode cL_law 842 = .ok (.iadd, 1) := by decide +kernel
theorem dL_law_843 : decode cL_law 843 = .ok (.iaload, 1) := by decide +kernel
theorem dL_law_844 : decode cL_law 844 = .ok (.aload_n 0, 1) := by decide +kernel
theorem dL_law_845 : decode cL_law 845 = .ok (.iload_n 3, 1) := by decide +kernel
theorem dL_law_846 : decode cL_law 846 = .ok (.iconst 3, 1) := by decide +kernel
theorem dL_law_847 : decode cL_law 847 = .ok (.iadd, 1) := by decide +kernel
theorem dL_law_848 : decode cL_law 848 = .ok (.iaload, 1) := by decide +kernel
theorem dL_law_849 : decode cL_law 849 = .ok (.invokevirtual 108, 3) := by decide +kernel
theorem dL_law_852 : decode cL_law 852 = .ok (.aload_n 2, 1) := by decide +kernel
theorem dL_law_853 : decode cL_law 853 = .ok (.aload_n 0, 1) := by decide +kernel
theorem dL_law_854 : decode cL_law 854 = .ok (.iload_n 3, 1) := by decide +kernel
theorem dL_law_855 : decode cL_law 855 = .ok (.iconst 1, 1) := by decide +kernel
theorem dL_law_856 : decode cL_law 856 = .ok (.iadd, 1) := by decide +kernel
theorem dL_law_857 : decode cL_law 857 = .ok (.iaload, 1) := by decide +kernel
theorem dL_law_858 : decode cL_law 858 = .ok (.aload_n 0, 1) := by decide +kernel
theorem dL_law_859 : decode cL_law 859 = .ok (.iload_n 3, 1) := by decide +kernel
theorem dL_law_860 : decode cL_law 860 = .ok (.iconst 2, 1) := by decide +kernel
theorem dL_law_861 : decode cL_law 861 = .ok (.iadd, 1) := by decide +kernel
theorem dL_law_862 : decode cL_law 862 = .ok (.iaload, 1) := by decide +kernel
theorem dL_law_863 : decode cL_law 863 = .ok (.aload_n 0, 1) := by decide +kernel
theorem dL_law_864 : decode cL_law 864 = .ok (.iload_n 3, 1) := by decide +kernel
theorem dL_law_865 : decode cL_law 865 = .ok (.iconst 3, 1) := by decide +kernel
theorem dL_law_866 : decode cL_law 866 = .ok (.iadd, 1) := by decide +kernel
theorem dL_law_867 : decode cL_law 867 = .ok (.iaload, 1) := by decide +kernel
theorem dL_law_868 : decode cL_law 868 = .ok (.invokevirtual 111, 3) := by decide +kernel
theorem dL_law_871 : decode cL_law 871 = .ok (.if_icmp .eq 74, 3) := by decide +kernel
theorem dL_law_874 : decode cL_law 874 = .ok (.iconst 0, 1) := by decide +kernel
theorem dL_law_875 : decode cL_law 875 = .ok (.ireturn, 1) := by decide +kernel
theorem dL_law_876 : decode cL_law 876 = .ok (.aload_n 1, 1) := by decide +kernel
theorem dL_law_877 : decode cL_law 877 = .ok (.aload_n 0, 1) := by decide +kernel
theorem dL_law_878 : decode cL_law 878 = .ok (.iload_n 3, 1) := by decide +kernel
theorem dL_law_879 : decode cL_law 879 = .ok (.iconst 1, 1) := by decide +kernel
theorem dL_law_880 : decode cL_law 880 = .ok (.iadd, 1) := by decide +kernel
theorem dL_law_881 : decode cL_law 881 = .ok (.iaload, 1) := by decide +kernel
theorem dL_law_882 : decode cL_law 882 = .ok (.invokevirtual 112, 3) := by decide +kernel
theorem dL_law_885 : decode cL_law 885 = .ok (.aload_n 2, 1) := by decide +kernel
theorem dL_law_886 : decode cL_law 886 = .ok (.aload_n 0, 1) := by decide +kernel
theorem dL_law_887 : decode cL_law 887 = .ok (.iload_n 3, 1) := by decide +kernel
theorem dL_law_888 : decode cL_law 888 = .ok (.iconst 1, 1) := by decide +kernel
theorem dL_law_889 : decode cL_law 889 = .ok (.iadd, 1) := by decide +kernel
theorem dL_law_890 : decode cL_law 890 = .ok (.iaload, 1) := by decide +kernel
theorem dL_law_891 : decode cL_law 891 = .ok (.invokevirtual 115, 3) := by decide +kernel
theorem dL_law_894 : decode cL_law 894 = .ok (.if_icmp .eq 51, 3) := by decide +kernel
theorem dL_law_897 : decode cL_law 897 = .ok (.iconst 0, 1) := by decide +kernel
theorem dL_law_898 : decode cL_law 898 = .ok (.ireturn, 1) := by decide +kernel
theorem dL_law_899 : decode cL_law 899 = .ok (.aload_n 1, 1) := by decide +kernel
theorem dL_law_900 : decode cL_law 900 = .ok (.aload_n 0, 1) := by decide +kernel
theorem dL_law_901 : decode cL_law 901 = .ok (.iload_n 3, 1) := by decide +kernel
theorem dL_law_902 : decode cL_law 902 = .ok (.iconst 1, 1) := by decide +kernel
theorem dL_law_903 : decode cL_law 903 = .ok (.iadd, 1) := by decide +kernel
theorem dL_law_904 : decode cL_law 904 = .ok (.iaload, 1) := by decide +kernel
theorem dL_law_905 : decode cL_law 905 = .ok (.invokevirtual 116, 3) := by decide +kernel
theorem dL_law_908 : decode cL_law 908 = .ok (.aload_n 2, 1) := by decide +kernel
theorem dL_law_909 : decode cL_law 909 = .ok (.aload_n 0, 1) := by decide +kernel
theorem dL_law_910 : decode cL_law 910 = .ok (.iload_n 3, 1) := by decide +kernel
theorem dL_law_911 : decode cL_law 911 = .ok (.iconst 1, 1) := by decide +kernel
theorem dL_law_912 : decode cL_law 912 = .ok (.iadd, 1) := by decide +kernel
theorem dL_law_913 : decode cL_law 913 = .ok (.iaload, 1) := by decide +kernel
theorem dL_law_914 : decode cL_law 914 = .ok (.invokevirtual 119, 3) := by decide +kernel
theorem dL_law_917 : decode cL_law 917 = .ok (.if_icmp .eq 28, 3) := by decide +kernel
theorem dL_law_920 : decode cL_law 920 = .ok (.iconst 0, 1) := by decide +kernel
theorem dL_law_921 : decode cL_law 921 = .ok (.ireturn, 1) := by decide +kernel
theorem dL_law_922 : decode cL_law 922 = .ok (.aload_n 1, 1) := by decide +kernel
theorem dL_law_923 : decode cL_law 923 = .ok (.aload_n 0, 1) := by decide +kernel
theorem dL_law_924 : decode cL_law 924 = .ok (.iload_n 3, 1) := by decide +kernel
theorem dL_law_925 : decode cL_law 925 = .ok (.iconst 1, 1) := by decide +kernel
theorem dL_law_926 : decode cL_law 926 = .ok (.iadd, 1) := by decide +kernel
theorem dL_law_927 : decode cL_law 927 = .ok (.iaload, 1) := by decide +kernel
theorem dL_law_928 : decode cL_law 928 = .ok (.invokevirtual 120, 3) := by decide +kernel
theorem dL_law_931 : decode cL_law 931 = .ok (.aload_n 2, 1) := by decide +kernel
theorem dL_law_932 : decode cL_law 932 = .ok (.aload_n 0, 1) := by decide +kernel
theorem dL_law_933 : decode cL_law 933 = .ok (.iload_n 3, 1) := by decide +kernel
theorem dL_law_934 : decode cL_law 934 = .ok (.iconst 1, 1) := by decide +kernel
theorem dL_law_935 : decode cL_law 935 = .ok (.iadd, 1) := by decide +kernel
theorem dL_law_936 : decode cL_law 936 = .ok (.iaload, 1) := by decide +kernel
theorem dL_law_937 : decode cL_law 937 = .ok (.invokevirtual 123, 3) := by decide +kernel
theorem dL_law_940 : decode cL_law 940 = .ok (.if_icmp .eq 5, 3) := by decide +kernel
theorem dL_law_943 : decode cL_law 943 = .ok (.iconst 0, 1) := by decide +kernel
theorem dL_law_944 : decode cL_law 944 = .ok (.ireturn, 1) := by decide +kernel
theorem dL_law_945 : decode cL_law 945 = .ok (.iinc 3 8, 3) := by decide +kernel
theorem dL_law_948 : decode cL_law 948 = .ok (.goto (-930), 3) := by decide +kernel
theorem dL_law_951 : decode cL_law 951 = .ok (.iconst 1, 1) := by decide +kernel
theorem dL_law_952 : decode cL_law 952 = .ok (.ireturn, 1) := by decide +kernel
end
section
theorem dX9_init_0 : decode cX9_init 0 = .ok (.aload_n 0, 1) := by decide +kernel
theorem dX9_init_1 : decode cX9_init 1 = .ok (.invokespecial 1, 3) := by decide +kernel
theorem dX9_init_4 : decode cX9_init 4 = .ok (.aload_n 0, 1) := by decide +kernel
theorem dX9_init_5 : decode cX9_init 5 = .ok (.bipush 8, 2) := by decide +kernel
theorem dX9_init_7 : decode cX9_init 7 = .ok (.newarray .int, 2) := by decide +kernel
theorem dX9_init_9 : decode cX9_init 9 = .ok (.putfield 7, 3) := by decide +kernel
theorem dX9_init_12 : decode cX9_init 12 = .ok (.aload_n 0, 1) := by decide +kernel
theorem dX9_init_13 : decode cX9_init 13 = .ok (.bipush 8, 2) := by decide +kernel
theorem dX9_init_15 : decode cX9_init 15 = .ok (.newarray .int, 2) := by decide +kernel
theorem dX9_init_17 : decode cX9_init 17 = .ok (.putfield 13, 3) := by decide +kernel
theorem dX9_init_20 : decode cX9_init 20 = .ok (.aload_n 0, 1) := by decide +kernel
theorem dX9_init_21 : decode cX9_init 21 = .ok (.bipush 24, 2) := by decide +kernel
theorem dX9_init_23 : decode cX9_init 23 = .ok (.newarray .int, 2) := by decide +kernel
theorem dX9_init_25 : decode cX9_init 25 = .ok (.putfield 16, 3) := by decide +kernel
theorem dX9_init_28 : decode cX9_init 28 = .ok (.aload_n 0, 1) := by decide +kernel
theorem dX9_init_29 : decode cX9_init 29 = .ok (.bipush 6, 2) := by decide +kernel
theorem dX9_init_31 : decode cX9_init 31 = .ok (.newarray .int, 2) := by decide +kernel
theorem dX9_init_33 : decode cX9_init 33 = .ok (.putfield 19, 3) := by decide +kernel
theorem dX9_init_36 : decode cX9_init 36 = .ok (.aload_n 0, 1) := by decide +kernel
theorem dX9_init_37 : decode cX9_init 37 = .ok (.bipush 6, 2) := by decide +kernel
theorem dX9_init_39 : decode cX9_init 39 = .ok (.newarray .int, 2) := by decide +kernel
theorem dX9_init_41 : decode cX9_init 41 = .ok (.putfield 22, 3) := by decide +kernel
theorem dX9_init_44 : decode cX9_init 44 = .ok (.aload_n 0, 1) := by decide +kernel
theorem dX9_init_45 : decode cX9_init 45 = .ok (.bipush 8, 2) := by decide +kernel
theorem dX9_init_47 : decode cX9_init 47 = .ok (.newarray .int, 2) := by decide +kernel
theorem dX9_init_49 : decode cX9_init 49 = .ok (.putfield 25, 3) := by decide +kernel
theorem dX9_init_52 : decode cX9_init 52 = .ok (.aload_n 0, 1) := by decide +kernel
theorem dX9_init_53 : decode cX9_init 53 = .ok (.bipush 8, 2) := by decide +kernel
theorem dX9_init_55 : decode cX9_init 55 = .ok (.newarray .int, 2) := by decide +kernel
theorem dX9_init_57 : decode cX9_init 57 = .ok (.putfield 28, 3) := by decide +kernel
theorem dX9_init_60 : decode cX9_init 60 = .ok (.aload_n 0, 1) := by decide +kernel
theorem dX9_init_61 : decode cX9_init 61 = .ok (.bipush 60, 2) := by decide +kernel
theorem dX9_init_63 : decode cX9_init 63 = .ok (.newarray .int, 2) := by decide +kernel
theorem dX9_init_65 : decode cX9_init 65 = .ok (.putfield 31, 3) := by decide +kernel
theorem dX9_init_68 : decode cX9_init 68 = .ok (.aload_n 0, 1) := by decide +kernel
theorem dX9_init_69 : decode cX9_init 69 = .ok (.bipush 60, 2) := by decide +kernel
theorem dX9_init_71 : decode cX9_init 71 = .ok (.newarray .int, 2) := by decide +kernel
theorem dX9_init_73 : decode cX9_init 73 = .ok (.putfield 34, 3) := by decide +kernel
theorem dX9_init_76 : decode cX9_init 76 = .ok (.aload_n 0, 1) := by decide +kernel
theorem dX9_init_77 : decode cX9_init 77 = .ok (.bipush 60, 2) := by decide +kernel
theorem dX9_init_79 : decode cX9_init 79 = .ok (.newarray .int, 2) := by decide +kernel
theorem dX9_init_81 : decode cX9_init 81 = .ok (.putfield 37, 3) := by decide +kernel
theorem dX9_init_84 : decode cX9_init 84 = .ok (.aload_n 0, 1) := by decide +kernel
theorem dX9_init_85 : decode cX9_init 85 = .ok (.bipush 60, 2) := by decide +kernel
theorem dX9_init_87 : decode cX9_init 87 = .ok (.newarray .int, 2) := by decide +kernel
theorem dX9_init_89 : decode cX9_init 89 = .ok (.putfield 40, 3) := by decide +kernel
theorem dX9_init_92 : decode cX9_init 92 = .ok (.aload_n 0, 1) := by decide +kernel
theorem dX9_init_93 : decode cX9_init 93 = .ok (.bipush 11, 2) := by decide +kernel
theorem dX9_init_95 : decode cX9_init 95 = .ok (.newarray .int, 2) := by decide +kernel
theorem dX9_init_97 : decode cX9_init 97 = .ok (.putfield 43, 3) := by decide +kernel
theorem dX9_init_100 : decode cX9_init 100 = .ok (.aload_n 0, 1) := by decide +kernel
theorem dX9_init_101 : decode cX9_init 101 = .ok (.bipush 64, 2) := by decide +kernel
theorem dX9_init_103 : decode cX9_init 103 = .ok (.newarray .int, 2) := by decide +kernel
theorem dX9_init_105 : decode cX9_init 105 = .ok (.putfield 46, 3) := by decide +kernel
theorem dX9_init_108 : decode cX9_init 108 = .ok (.aload_n 0, 1) := by decide +kernel
theorem dX9_init_109 : decode cX9_init 109 = .ok (.bipush 6, 2) := by decide +kernel
theorem dX9_init_111 : decode cX9_init 111 = .ok (.newarray .int, 2) := by decide +kernel
theorem dX9_init_113 : decode cX9_init 113 = .ok (.putfield 49, 3) := by decide +kernel
theorem dX9_init_116 : decode cX9_init 116 = .ok (.aload_n 0, 1) := by decide +kernel
theorem dX9_init_117 : decode cX9_init 117 = .ok (.bipush 16, 2) := by decide +kernel
theorem dX9_init_119 : decode cX9_init 119 = .ok (.newarray .int, 2) := by decide +kernel
theorem dX9_init_121 : decode cX9_init 121 = .ok (.putfield 52, 3) := by decide +kernel
theorem dX9_init_124 : decode cX9_init 124 = .ok (.aload_n 0, 1) := by decide +kernel
theorem dX9_init_125 : decode cX9_init 125 = .ok (.iconst 4, 1) := by decide +kernel
theorem dX9_init_126 : decode cX9_init 126 = .ok (.newarray .int, 2) := by decide +kernel
theorem dX9_init_128 : decode cX9_init 128 = .ok (.putfield 55, 3) := by decide +kernel
theorem dX9_init_131 : decode cX9_init 131 = .ok (.aload_n 0, 1) := by decide +kernel
theorem dX9_init_132 : decode cX9_init 132 = .ok (.bipush 19, 2) := by decide +kernel
theorem dX9_init_134 : decode cX9_init 134 = .ok (.newarray .int, 2) := by decide +kernel
theorem dX9_init_136 : decode cX9_init 136 = .ok (.putfield 58, 3) := by decide +kernel
theorem dX9_init_139 : decode cX9_init 139 = .ok (.aload_n 0, 1) := by decide +kernel
theorem dX9_init_140 : decode cX9_init 140 = .ok (.bipush 10, 2) := by decide +kernel
theorem dX9_init_142 : decode cX9_init 142 = .ok (.newarray .long, 2) := by decide +kernel
theorem dX9_init_144 : decode cX9_init 144 = .ok (.putfield 61, 3) := by decide +kernel
theorem dX9_init_147 : decode cX9_init 147 = .ok (.aload_n 0, 1) := by decide +kernel
theorem dX9_init_148 : decode cX9_init 148 = .ok (.bipush 10, 2) := by decide +kernel
theorem dX9_init_150 : decode cX9_init 150 = .ok (.newarray .long, 2) := by decide +kernel
theorem dX9_init_152 : decode cX9_init 152 = .ok (.putfield 65, 3) := by decide +kernel
theorem dX9_init_155 : decode cX9_init 155 = .ok (.aload_n 0, 1) := by decide +kernel
theorem dX9_init_156 : decode cX9_init 156 = .ok (.sipush 180, 3) := by decide +kernel
theorem dX9_init_159 : decode cX9_init 159 = .ok (.newarray .int, 2) := by decide +kernel
theorem dX9_init_161 : decode cX9_init 161 = .ok (.putfield 68, 3) := by decide +kernel
theorem dX9_init_164 : decode cX9_init 164 = .ok (.aload_n 0, 1) := by decide +kernel
theorem dX9_init_165 : decode cX9_init 165 = .ok (.iconst 2, 1) := by decide +kernel
theorem dX9_init_166 : decode cX9_init 166 = .ok (.newarray .boolean, 2) := by decide +kernel
theorem dX9_init_168 : decode cX9_init 168 = .ok (.putfield 71, 3) := by decide +kernel
theorem dX9_init_171 : decode cX9_init 171 = .ok (.return_, 1) := by decide +kernel
theorem dX9_in_0 : decode cX9_in 0 = .ok (.lload_n 0, 1) := by decide +kernel
theorem dX9_in_1 : decode cX9_in 1 = .ok (.lload_n 2, 1) := by decide +kernel
theorem dX9_in_2 : decode cX9_in 2 = .ok (.lcmp, 1) := by decide +kernel
theorem dX9_in_3 : decode cX9_in 3 = .ok (.ifCond .lt 14, 3) := by decide +kernel
theorem dX9_in_6 : decode cX9_in 6 = .ok (.lload_n 0, 1) := by decide +kernel
theorem dX9_in_7 : decode cX9_in 7 = .ok (.lload 4, 2) := by decide +kernel
theorem dX9_in_9 : decode cX9_in 9 = .ok (.lcmp, 1) := by decide +kernel
theorem dX9_in_10 : decode cX9_in 10 = .ok (.ifCond .gt 7, 3) := by decide +kernel
theorem dX9_in_13 : decode cX9_in 13 = .ok (.iconst 1, 1) := by decide +kernel
theorem dX9_in_14 : decode cX9_in 14 = .ok (.goto 4, 3) := by decide +kernel
theorem dX9_in_17 : decode cX9_in 17 = .ok (.iconst 0, 1) := by decide +kernel
theorem dX9_in_18 : decode cX9_in 18 = .ok (.ireturn, 1) := by decide +kernel
theorem dX9_bitsOf_0 : decode cX9_bitsOf 0 = .ok (.iconst 0, 1) := by decide +kernel
theorem dX9_bitsOf_1 : decode cX9_bitsOf 1 = .ok (.istore_n 1, 1) := by decide +kernel
theorem dX9_bitsOf_2 : decode cX9_bitsOf 2 = .ok (.iload_n 0, 1) := by decide +kernel
theorem dX9_bitsOf_3 : decode cX9_bitsOf 3 = .ok (.istore_n 2, 1) := by decide +kernel
theorem dX9_bitsOf_4 : decode cX9_bitsOf 4 = .ok (.iload_n 2, 1) := by decide +kernel
theorem dX9_bitsOf_5 : decode cX9_bitsOf 5 = .ok (.ifCond .eq 15, 3) := by decide +kernel
theorem dX9_bitsOf_8 : decode cX9_bitsOf 8 = .ok (.iinc 1 1, 3) := by decide +kernel
theorem dX9_bitsOf_11 : decode cX9_bitsOf 11 = .ok (.iload_n 2, 1) := by decide +kernel
theorem dX9_bitsOf_12 : decode cX9_bitsOf 12 = .ok (.iload_n 2, 1) := by decide +kernel
theorem dX9_bitsOf_13 : decode cX9_bitsOf 13 = .ok (.iconst 1, 1) := by decide +kernel
theorem dX9_bitsOf_14 : decode cX9_bitsOf 14 = .ok (.isub, 1) := by decide +kernel
theorem dX9_bitsOf_15 : decode cX9_bitsOf 15 = .ok (.iand, 1) := by decide +kernel
theorem dX9_bitsOf_16 : decode cX9_bitsOf 16 = .ok (.istore_n 2, 1) := by decide +kernel
theorem dX9_bitsOf_17 : decode cX9_bitsOf 17 = .ok (.goto (-13), 3) := by decide +kernel
theorem dX9_bitsOf_20 : decode cX9_bitsOf 20 = .ok (.iload_n 1, 1) := by decide +kernel
theorem dX9_bitsOf_21 : decode cX9_bitsOf 21 = .ok (.ireturn, 1) := by decide +kernel
theorem dX9_isSinger_0 : decode cX9_isSinger 0 = .ok (.iload_n 1, 1) := by decide +kernel
theorem dX9_isSinger_1 : decode cX9_isSinger 1 = .ok (.i2l, 1) := by decide +kernel
theorem dX9_isSinger_2 : decode cX9_isSinger 2 = .ok (.lconst 0, 1) := by decide +kernel
theorem dX9_isSinger_3 : decode cX9_isSinger 3 = .ok (.ldc2_w 75, 3) := by decide +kernel
theorem dX9_isSinger_6 : decode cX9_isSinger 6 = .ok (.invokestatic 77, 3) := by decide +kernel
theorem dX9_isSinger_9 : decode cX9_isSinger 9 = .ok (.ifCond .eq 19, 3) := by decide +kernel
theorem dX9_isSinger_12 : decode cX9_isSinger 12 = .ok (.aload_n 0, 1) := by decide +kernel
theorem dX9_isSinger_13 : decode cX9_isSinger 13 = .ok (.getfield 81, 3) := by decide +kernel
theorem dX9_isSinger_16 : decode cX9_isSinger 16 = .ok (.iload_n 1, 1) := by decide +kernel
theorem dX9_isSinger_17 : decode cX9_isSinger 17 = .ok (.ishr, 1) := by decide +kernel
theorem dX9_isSinger_18 : decode cX9_isSinger 18 = .ok (.iconst 1, 1) := by decide +kernel
theorem dX9_isSinger_19 : decode cX9_isSinger 19 = .ok (.iand, 1) := by decide +kernel
theorem dX9_isSinger_20 : decode cX9_isSinger 20 = .ok (.iconst 1, 1) := by decide +kernel
theorem dX9_isSinger_21 : decode cX9_isSinger 21 = .ok (.if_icmp .ne 7, 3) := by decide +kernel
theorem dX9_isSinger_24 : decode cX9_isSinger 24 = .ok (.iconst 1, 1) := by decide +kernel
theorem dX9_isSinger_25 : decode cX9_isSinger 25 = .ok (.goto 4, 3) := by decide +kernel
theorem dX9_isSinger_28 : decode cX9_isSinger 28 = .ok (.iconst 0, 1) := by decide +kernel
theorem dX9_isSinger_29 : decode cX9_isSinger 29 = .ok (.ireturn, 1) := by decide +kernel
theorem dX9_singer_0 : decode cX9_singer 0 = .ok (.iload_n 1, 1) := by decide +kernel
theorem dX9_singer_1 : decode cX9_singer 1 = .ok (.i2l, 1) := by decide +kernel
theorem dX9_singer_2 : decode cX9_singer 2 = .ok (.lconst 0, 1) := by decide +kernel
theorem dX9_singer_3 : decode cX9_singer 3 = .ok (.ldc2_w 75, 3) := by decide +kernel
theorem dX9_singer_6 : decode cX9_singer 6 = .ok (.invokestatic 77, 3) := by decide +kernel
theorem dX9_singer_9 : decode cX9_singer 9 = .ok (.ifCond .ne 5, 3) := by decide +kernel
theorem dX9_singer_12 : decode cX9_singer 12 = .ok (.iconst (-1), 1) := by decide +kernel
theorem dX9_singer_13 : decode cX9_singer 13 = .ok (.ireturn, 1) := by decide +kernel
theorem dX9_singer_14 : decode cX9_singer 14 = .ok (.iload_n 2, 1) := by decide +kernel
theorem dX9_singer_15 : decode cX9_singer 15 = .ok (.i2l, 1) := by decide +kernel
theorem dX9_singer_16 : decode cX9_singer 16 = .ok (.lconst 0, 1) := by decide +kernel
theorem dX9_singer_17 : decode cX9_singer 17 = .ok (.ldc2_w 85, 3) := by decide +kernel
theorem dX9_singer_20 : decode cX9_singer 20 = .ok (.invokestatic 77, 3) := by decide +kernel
theorem dX9_singer_23 : decode cX9_singer 23 = .ok (.ifCond .eq 15, 3) := by decide +kernel
theorem dX9_singer_26 : decode cX9_singer 26 = .ok (.iload_n 3, 1) := by decide +kernel
theorem dX9_singer_27 : decode cX9_singer 27 = .ok (.i2l, 1) := by decide +kernel
theorem dX9_singer_28 : decode cX9_singer 28 = .ok (.lconst 0, 1) := by decide +kernel
theorem dX9_singer_29 : decode cX9_singer 29 = .ok (.ldc2_w 87, 3) := by decide +kernel
theorem dX9_singer_32 : decode cX9_singer 32 = .ok (.invokestatic 77, 3) := by decide +kernel
theorem dX9_singer_35 : decode cX9_singer 35 = .ok (.ifCond .ne 6, 3) := by decide +kernel
theorem dX9_singer_38 : decode cX9_singer 38 = .ok (.bipush (-2), 2) := by decide +kernel
theorem dX9_singer_40 : decode cX9_singer 40 = .ok (.ireturn, 1) := by decide +kernel
theorem dX9_singer_41 : decode cX9_singer 41 = .ok (.aload_n 0, 1) := by decide +kernel
theorem dX9_singer_42 : decode cX9_singer 42 = .ok (.dup, 1) := by decide +kernel
theorem dX9_singer_43 : decode cX9_singer 43 = .ok (.getfield 81, 3) := by decide +kernel
theorem dX9_singer_46 : decode cX9_singer 46 = .ok (.iconst 1, 1) := by decide +kernel
theorem dX9_singer_47 : decode cX9_singer 47 = .ok (.iload_n 1, 1) := by decide +kernel
theorem dX9_singer_48 : decode cX9_singer 48 = .ok (.ishl, 1) := by decide +kernel
theorem dX9_singer_49 : decode cX9_singer 49 = .ok (.ior, 1) := by decide +kernel
theorem dX9_singer_50 : decode cX9_singer 50 = .ok (.putfield 81, 3) := by decide +kernel
theorem dX9_singer_53 : decode cX9_singer 53 = .ok (.aload_n 0, 1) := by decide +kernel
theorem dX9_singer_54 : decode cX9_singer 54 = .ok (.dup, 1) := by decide +kernel
theorem dX9_singer_55 : decode cX9_singer 55 = .ok (.getfield 89, 3) := by decide +kernel
theorem dX9_singer_58 : decode cX9_singer 58 = .ok (.iconst 1, 1) := by decide +kernel
theorem dX9_singer_59 : decode cX9_singer 59 = .ok (.iload_n 1, 1) := by decide +kernel
theorem dX9_singer_60 : decode cX9_singer 60 = .ok (.ishl, 1) := by decide +kernel
theorem dX9_singer_61 : decode cX9_singer 61 = .ok (.iconst (-1), 1) := by decide +kernel
theorem dX9_singer_62 : decode cX9_singer 62 = .ok (.ixor, 1) := by decide +kernel
theorem dX9_singer_63 : decode cX9_singer 63 = .ok (.iand, 1) := by decide +kernel
theorem dX9_singer_64 : decode cX9_singer 64 = .ok (.putfield 89, 3) := by decide +kernel
theorem dX9_singer_67 : decode cX9_singer 67 = .ok (.aload_n 0, 1) := by decide +kernel
theorem dX9_singer_68 : decode cX9_singer 68 = .ok (.dup, 1) := by decide +kernel
theorem dX9_singer_69 : decode cX9_singer 69 = .ok (.getfield 92, 3) := by decide +kernel
theorem dX9_singer_72 : decode cX9_singer 72 = .ok (.iconst 1, 1) := by decide +kernel
theorem dX9_singer_73 : decode cX9_singer 73 = .ok (.iload_n 1, 1) := by decide +kernel
theorem dX9_singer_74 : decode cX9_singer 74 = .ok (.ishl, 1) := by decide +kernel
theorem dX9_singer_75 : decode cX9_singer 75 = .ok (.iconst (-1), 1) := by decide +kernel
theorem dX9_singer_76 : decode cX9_singer 76 = .ok (.ixor, 1) := by decide +kernel
theorem dX9_singer_77 : decode cX9_singer 77 = .ok (.iand, 1) := by decide +kernel
theorem dX9_singer_78 : decode cX9_singer 78 = .ok (.putfield 92, 3) := by decide +kernel
theorem dX9_singer_81 : decode cX9_singer 81 = .ok (.aload_n 0, 1) := by decide +kernel
theorem dX9_singer_82 : decode cX9_singer 82 = .ok (.getfield 7, 3) := by decide +kernel
theorem dX9_singer_85 : decode cX9_singer 85 = .ok (.iload_n 1, 1) := by decide +kernel
theorem dX9_singer_86 : decode cX9_singer 86 = .ok (.iload_n 2, 1) := by decide +kernel
theorem dX9_singer_87 : decode cX9_singer 87 = .ok (.iastore, 1) := by decide +kernel
theorem dX9_singer_88 : decode cX9_singer 88 = .ok (.aload_n 0, 1) := by decide +kernel
theorem dX9_singer_89 : decode cX9_singer 89 = .ok (.getfield 13, 3) := by decide +kernel
theorem dX9_singer_92 : decode cX9_singer 92 = .ok (.iload_n 1, 1) := by decide +kernel
theorem dX9_singer_93 : decode cX9_singer 93 = .ok (.iload_n 3, 1) := by decide +kernel
theorem dX9_singer_94 : decode cX9_singer 94 = .ok (.iastore, 1) := by decide +kernel
theorem dX9_singer_95 : decode cX9_singer 95 = .ok (.aload_n 0, 1) := by decide +kernel
theorem dX9_singer_96 : decode cX9_singer 96 = .ok (.getfield 81, 3) := by decide +kernel
theorem dX9_singer_99 : decode cX9_singer 99 = .ok (.invokestatic 95, 3) := by decide +kernel
theorem dX9_singer_102 : decode cX9_singer 102 = .ok (.ireturn, 1) := by decide +kernel
theorem dX9_leave_0 : decode cX9_leave 0 = .ok (.aload_n 0, 1) := by decide +kernel
theorem dX9_leave_1 : decode cX9_leave 1 = .ok (.iload_n 1, 1) := by decide +kernel
theorem dX9_leave_2 : decode cX9_leave 2 = .ok (.invokevirtual 99, 3) := by decide +kernel
theorem dX9_leave_5 : decode cX9_leave 5 = .ok (.ifCond .ne 5, 3) := by decide +kernel
theorem dX9_leave_8 : decode cX9_leave 8 = .ok (.iconst (-1), 1) := by decide +kernel
theorem dX9_leave_9 : decode cX9_leave 9 = .ok (.ireturn, 1) := by decide +kernel
theorem dX9_leave_10 : decode cX9_leave 10 = .ok (.aload_n 0, 1) := by decide +kernel
theorem dX9_leave_11 : decode cX9_leave 11 = .ok (.dup, 1) := by decide +kernel
theorem dX9_leave_12 : decode cX9_leave 12 = .ok (.getfield 81, 3) := by decide +kernel
theorem dX9_leave_15 : decode cX9_leave 15 = .ok (.iconst 1, 1) := by decide +kernel
theorem dX9_leave_16 : decode cX9_leave 16 = .ok (.iload_n 1, 1) := by decide +kernel
theorem dX9_leave_17 : decode cX9_leave 17 = .ok (.ishl, 1) := by decide +kernel
theorem dX9_leave_18 : decode cX9_leave 18 = .ok (.iconst (-1), 1) := by decide +kernel
theorem dX9_leave_19 : decode cX9_leave 19 = .ok (.ixor, 1) := by decide +kernel
theorem dX9_leave_20 : decode cX9_leave 20 = .ok (.iand, 1) := by decide +kernel
theorem dX9_leave_21 : decode cX9_leave 21 = .ok (.putfield 81, 3) := by decide +kernel
theorem dX9_leave_24 : decode cX9_leave 24 = .ok (.aload_n 0, 1) := by decide +kernel
theorem dX9_leave_25 : decode cX9_leave 25 = .ok (.getfield 81, 3) := by decide +kernel
theorem dX9_leave_28 : decode cX9_leave 28 = .ok (.invokestatic 95, 3) := by decide +kernel
theorem dX9_leave_31 : decode cX9_leave 31 = .ok (.ireturn, 1) := by decide +kernel
theorem dX9_areNeeds_0 : decode cX9_areNeeds 0 = .ok (.iload_n 0, 1) := by decide +kernel
theorem dX9_areNeeds_1 : decode cX9_areNeeds 1 = .ok (.i2l, 1) := by decide +kernel
theorem dX9_areNeeds_2 : decode cX9_areNeeds 2 = .ok (.lconst 0, 1) := by decide +kernel
theorem dX9_areNeeds_3 : decode cX9_areNeeds 3 = .ok (.ldc2_w 103, 3) := by decide +kernel
theorem dX9_areNeeds_6 : decode cX9_areNeeds 6 = .ok (.invokestatic 77, 3) := by decide +kernel
theorem dX9_areNeeds_9 : decode cX9_areNeeds 9 = .ok (.istore_n 1, 1) := by decide +kernel
theorem dX9_areNeeds_10 : decode cX9_areNeeds 10 = .ok (.iload_n 0, 1) := by decide +kernel
theorem dX9_areNeeds_11 : decode cX9_areNeeds 11 = .ok (.istore_n 2, 1) := by decide +kernel
theorem dX9_areNeeds_12 : decode cX9_areNeeds 12 = .ok (.iconst 0, 1) := by decide +kernel
theorem dX9_areNeeds_13 : decode cX9_areNeeds 13 = .ok (.istore_n 3, 1) := by decide +kernel
theorem dX9_areNeeds_14 : decode cX9_areNeeds 14 = .ok (.iload_n 3, 1) := by decide +kernel
theorem dX9_areNeeds_15 : decode cX9_areNeeds 15 = .ok (.iconst 4, 1) := by decide +kernel
theorem dX9_areNeeds_16 : decode cX9_areNeeds 16 = .ok (.if_icmp .ge 39, 3) := by decide +kernel
theorem dX9_areNeeds_19 : decode cX9_areNeeds 19 = .ok (.iload_n 1, 1) := by decide +kernel
theorem dX9_areNeeds_20 : decode cX9_areNeeds 20 = .ok (.ifCond .eq 22, 3) := by decide +kernel
theorem dX9_areNeeds_23 : decode cX9_areNeeds 23 = .ok (.iload_n 2, 1) := by decide +kernel
theorem dX9_areNeeds_24 : decode cX9_areNeeds 24 = .ok (.bipush 10, 2) := by decide +kernel
theorem dX9_areNeeds_26 : decode cX9_areNeeds 26 = .ok (.irem, 1) := by decide +kernel
theorem dX9_areNeeds_27 : decode cX9_areNeeds 27 = .ok (.i2l, 1) := by decide +kernel
theorem dX9_areNeeds_28 : decode cX9_areNeeds 28 = .ok (.lconst 0, 1) := by decide +kernel
theorem dX9_areNeeds_29 : decode cX9_areNeeds 29 = .ok (.ldc2_w 85, 3) := by decide +kernel
theorem dX9_areNeeds_32 : decode cX9_areNeeds 32 = .ok (.invokestatic 77, 3) := by decide +kernel
theorem dX9_areNeeds_35 : decode cX9_areNeeds 35 = .ok (.ifCond .eq 7, 3) := by decide +kernel
theorem dX9_areNeeds_38 : decode cX9_areNeeds 38 = .ok (.iconst 1, 1) := by decide +kernel
theorem dX9_areNeeds_39 : decode cX9_areNeeds 39 = .ok (.goto 4, 3) := by decide +kernel
theorem dX9_areNeeds_42 : decode cX9_areNeeds 42 = .ok (.iconst 0, 1) := by decide +kernel
theorem dX9_areNeeds_43 : decode cX9_areNeeds 43 = .ok (.istore_n 1, 1) := by decide +kernel
theorem dX9_areNeeds_44 : decode cX9_areNeeds 44 = .ok (.iload_n 2, 1) := by decide +kernel
theorem dX9_areNeeds_45 : decode cX9_areNeeds 45 = .ok (.bipush 10, 2) := by decide +kernel
theorem dX9_areNeeds_47 : decode cX9_areNeeds 47 = .ok (.idiv, 1) := by decide +kernel
theorem dX9_areNeeds_48 : decode cX9_areNeeds 48 = .ok (.istore_n 2, 1) := by decide +kernel
theorem dX9_areNeeds_49 : decode cX9_areNeeds 49 = .ok (.iinc 3 1, 3) := by decide +kernel
theorem dX9_areNeeds_52 : decode cX9_areNeeds 52 = .ok (.goto (-38), 3) := by decide +kernel
theorem dX9_areNeeds_55 : decode cX9_areNeeds 55 = .ok (.iload_n 1, 1) := by decide +kernel
theorem dX9_areNeeds_56 : decode cX9_areNeeds 56 = .ok (.ireturn, 1) := by decide +kernel
theorem dX9_piece_0 : decode cX9_piece 0 = .ok (.iload_n 1, 1) := by decide +kernel
theorem dX9_piece_1 : decode cX9_piece 1 = .ok (.i2l, 1) := by decide +kernel
theorem dX9_piece_2 : decode cX9_piece 2 = .ok (.lconst 0, 1) := by decide +kernel
theorem dX9_piece_3 : decode cX9_piece 3 = .ok (.ldc2_w 105, 3) := by decide +kernel
theorem dX9_piece_6 : decode cX9_piece 6 = .ok (.invokestatic 77, 3) := by decide +kernel
theorem dX9_piece_9 : decode cX9_piece 9 = .ok (.ifCond .ne 5, 3) := by decide +kernel
theorem dX9_piece_12 : decode cX9_piece 12 = .ok (.iconst (-1), 1) := by decide +kernel
theorem dX9_piece_13 : decode cX9_piece 13 = .ok (.ireturn, 1) := by decide +kernel
theorem dX9_piece_14 : decode cX9_piece 14 = .ok (.iload_n 2, 1) := by decide +kernel
theorem dX9_piece_15 : decode cX9_piece 15 = .ok (.invokestatic 107, 3) := by decide +kernel
theorem dX9_piece_18 : decode cX9_piece 18 = .ok (.ifCond .eq 28, 3) := by decide +kernel
theorem dX9_piece_21 : decode cX9_piece 21 = .ok (.iload_n 3, 1) := by decide +kernel
theorem dX9_piece_22 : decode cX9_piece 22 = .ok (.i2l, 1) := by decide +kernel
theorem dX9_piece_23 : decode cX9_piece 23 = .ok (.lconst 0, 1) := by decide +kernel
theorem dX9_piece_24 : decode cX9_piece 24 = .ok (.ldc2_w 110, 3) := by decide +kernel
theorem dX9_piece_27 : decode cX9_piece 27 = .ok (.invokestatic 77, 3) := by decide +kernel
theorem dX9_piece_30 : decode cX9_piece 30 = .ok (.ifCond .eq 16, 3) := by decide +kernel
theorem dX9_piece_33 : decode cX9_piece 33 = .ok (.iload 4, 2) := by decide +kernel
theorem dX9_piece_35 : decode cX9_piece 35 = .ok (.i2l, 1) := by decide +kernel
theorem dX9_piece_36 : decode cX9_piece 36 = .ok (.lconst 0, 1) := by decide +kernel
theorem dX9_piece_37 : decode cX9_piece 37 = .ok (.ldc2_w 112, 3) := by decide +kernel
theorem dX9_piece_40 : decode cX9_piece 40 = .ok (.invokestatic 77, 3) := by decide +kernel
theorem dX9_piece_43 : decode cX9_piece 43 = .ok (.ifCond .ne 6, 3) := by decide +kernel
theorem dX9_piece_46 : decode cX9_piece 46 = .ok (.bipush (-2), 2) := by decide +kernel
theorem dX9_piece_48 : decode cX9_piece 48 = .ok (.ireturn, 1) := by decide +kernel
theorem dX9_piece_49 : decode cX9_piece 49 = .ok (.aload_n 0, 1) := by decide +kernel
theorem dX9_piece_50 : decode cX9_piece 50 = .ok (.getfield 19, 3) := by decide +kernel
theorem dX9_piece_53 : decode cX9_piece 53 = .ok (.iload_n 1, 1) := by decide +kernel
theorem dX9_piece_54 : decode cX9_piece 54 = .ok (.iaload, 1) := by decide +kernel
theorem dX9_piece_55 : decode cX9_piece 55 = .ok (.istore 5, 2) := by decide +kernel
theorem dX9_piece_57 : decode cX9_piece 57 = .ok (.iload_n 2, 1) := by decide +kernel
theorem dX9_piece_58 : decode cX9_piece 58 = .ok (.istore 6, 2) := by decide +kernel
theorem dX9_piece_60 : decode cX9_piece 60 = .ok (.iconst 3, 1) := by decide +kernel
theorem dX9_piece_61 : decode cX9_piece 61 = .ok (.istore 7, 2) := by decide +kernel
theorem dX9_piece_63 : decode cX9_piece 63 = .ok (.iload 7, 2) := by decide +kernel
theorem dX9_piece_65 : decode cX9_piece 65 = .ok (.ifCond .lt 32, 3) := by decide +kernel
theorem dX9_piece_68 : decode cX9_piece 68 = .ok (.aload_n 0, 1) := by decide +kernel
theorem dX9_piece_69 : decode cX9_piece 69 = .ok (.getfield 16, 3) := by decide +kernel
theorem dX9_piece_72 : decode cX9_piece 72 = .ok (.iconst 4, 1) := by decide +kernel
theorem dX9_piece_73 : decode cX9_piece 73 = .ok (.iload_n 1, 1) := by decide +kernel
theorem dX9_piece_74 : decode cX9_piece 74 = .ok (.imul, 1) := by decide +kernel
theorem dX9_piece_75 : decode cX9_piece 75 = .ok (.iload 7, 2) := by decide +kernel
theorem dX9_piece_77 : decode cX9_piece 77 = .ok (.iadd, 1) := by decide +kernel
theorem dX9_piece_78 : decode cX9_piece 78 = .ok (.iload 6, 2) := by decide +kernel
theorem dX9_piece_80 : decode cX9_piece 80 = .ok (.bipush 10, 2) := by decide +kernel
theorem dX9_piece_82 : decode cX9_piece 82 = .ok (.irem, 1) := by decide +kernel
theorem dX9_piece_83 : decode cX9_piece 83 = .ok (.iastore, 1) := by decide +kernel
theorem dX9_piece_84 : decode cX9_piece 84 = .ok (.iload 6, 2) := by decide +kernel
theorem dX9_piece_86 : decode cX9_piece 86 = .ok (.bipush 10, 2) := by decide +kernel
theorem dX9_piece_88 : decode cX9_piece 88 = .ok (.idiv, 1) := by decide +kernel
theorem dX9_piece_89 : decode cX9_piece 89 = .ok (.istore 6, 2) := by decide +kernel
theorem dX9_piece_91 : decode cX9_piece 91 = .ok (.iinc 7 (-1), 3) := by decide +kernel
theorem dX9_piece_94 : decode cX9_piece 94 = .ok (.goto (-31), 3) := by decide +kernel
theorem dX9_piece_97 : decode cX9_piece 97 = .ok (.aload_n 0, 1) := by decide +kernel
theorem dX9_piece_98 : decode cX9_piece 98 = .ok (.getfield 19, 3) := by decide +kernel
theorem dX9_piece_101 : decode cX9_piece 101 = .ok (.iload_n 1, 1) := by decide +kernel
theorem dX9_piece_102 : decode cX9_piece 102 = .ok (.iload_n 3, 1) := by decide +kernel
theorem dX9_piece_103 : decode cX9_piece 103 = .ok (.iastore, 1) := by decide +kernel
theorem dX9_piece_104 : decode cX9_piece 104 = .ok (.aload_n 0, 1) := by decide +kernel
theorem dX9_piece_105 : decode cX9_piece 105 = .ok (.getfield 22, 3) := by decide +kernel
theorem dX9_piece_108 : decode cX9_piece 108 = .ok (.iload_n 1, 1) := by decide +kernel
theorem dX9_piece_109 : decode cX9_piece 109 = .ok (.iload 4, 2) := by decide +kernel
theorem dX9_piece_111 : decode cX9_piece 111 = .ok (.iastore, 1) := by decide +kernel
theorem dX9_piece_112 : decode cX9_piece 112 = .ok (.iload 5, 2) := by decide +kernel
theorem dX9_piece_114 : decode cX9_piece 114 = .ok (.ireturn, 1) := by decide +kernel
theorem dX9_say_0 : decode cX9_say 0 = .ok (.iload_n 1, 1) := by decide +kernel
theorem dX9_say_1 : decode cX9_say 1 = .ok (.i2l, 1) := by decide +kernel
theorem dX9_say_2 : decode cX9_say 2 = .ok (.ldc2_w 114, 3) := by decide +kernel
theorem dX9_say_5 : decode cX9_say 5 = .ok (.ldc2_w 116, 3) := by decide +kernel
theorem dX9_say_8 : decode cX9_say 8 = .ok (.invokestatic 77, 3) := by decide +kernel
theorem dX9_say_11 : decode cX9_say 11 = .ok (.ifCond .ne 6, 3) := by decide +kernel
theorem dX9_say_14 : decode cX9_say 14 = .ok (.bipush (-2), 2) := by decide +kernel
theorem dX9_say_16 : decode cX9_say 16 = .ok (.ireturn, 1) := by decide +kernel
theorem dX9_say_17 : decode cX9_say 17 = .ok (.aload_n 0, 1) := by decide +kernel
theorem dX9_say_18 : decode cX9_say 18 = .ok (.getfield 118, 3) := by decide +kernel
theorem dX9_say_21 : decode cX9_say 21 = .ok (.bipush 60, 2) := by decide +kernel
theorem dX9_say_23 : decode cX9_say 23 = .ok (.if_icmp .ne 6, 3) := by decide +kernel
theorem dX9_say_26 : decode cX9_say 26 = .ok (.bipush (-4), 2) := by decide +kernel
theorem dX9_say_28 : decode cX9_say 28 = .ok (.ireturn, 1) := by decide +kernel
theorem dX9_say_29 : decode cX9_say 29 = .ok (.aload_n 0, 1) := by decide +kernel
theorem dX9_say_30 : decode cX9_say 30 = .ok (.getfield 31, 3) := by decide +kernel
theorem dX9_say_33 : decode cX9_say 33 = .ok (.aload_n 0, 1) := by decide +kernel
theorem dX9_say_34 : decode cX9_say 34 = .ok (.getfield 118, 3) := by decide +kernel
theorem dX9_say_37 : decode cX9_say 37 = .ok (.iload_n 1, 1) := by decide +kernel
theorem dX9_say_38 : decode cX9_say 38 = .ok (.iastore, 1) := by decide +kernel
theorem dX9_say_39 : decode cX9_say 39 = .ok (.aload_n 0, 1) := by decide +kernel
theorem dX9_say_40 : decode cX9_say 40 = .ok (.dup, 1) := by decide +kernel
theorem dX9_say_41 : decode cX9_say 41 = .ok (.getfield 118, 3) := by decide +kernel
theorem dX9_say_44 : decode cX9_say 44 = .ok (.iconst 1, 1) := by decide +kernel
theorem dX9_say_45 : decode cX9_say 45 = .ok (.iadd, 1) := by decide +kernel
theorem dX9_say_46 : decode cX9_say 46 = .ok (.putfield 118, 3) := by decide +kernel
theorem dX9_say_49 : decode cX9_say 49 = .ok (.aload_n 0, 1) := by decide +kernel
theorem dX9_say_50 : decode cX9_say 50 = .ok (.getfield 118, 3) := by decide +kernel
theorem dX9_say_53 : decode cX9_say 53 = .ok (.ireturn, 1) := by decide +kernel
theorem dX9_wipe_0 : decode cX9_wipe 0 = .ok (.aload_n 0, 1) := by decide +kernel
theorem dX9_wipe_1 : decode cX9_wipe 1 = .ok (.getfield 118, 3) := by decide +kernel
theorem dX9_wipe_4 : decode cX9_wipe 4 = .ok (.istore_n 1, 1) := by decide +kernel
theorem dX9_wipe_5 : decode cX9_wipe 5 = .ok (.aload_n 0, 1) := by decide +kernel
theorem dX9_wipe_6 : decode cX9_wipe 6 = .ok (.iconst 0, 1) := by decide +kernel
theorem dX9_wipe_7 : decode cX9_wipe 7 = .ok (.putfield 118, 3) := by decide +kernel
theorem dX9_wipe_10 : decode cX9_wipe 10 = .ok (.iload_n 1, 1) := by decide +kernel
theorem dX9_wipe_11 : decode cX9_wipe 11 = .ok (.ireturn, 1) := by decide +kernel
theorem dX9_close_0 : decode cX9_close 0 = .ok (.aload_n 0, 1) := by decide +kernel
theorem dX9_close_1 : decode cX9_close 1 = .ok (.getfield 34, 3) := by decide +kernel
theorem dX9_close_4 : decode cX9_close 4 = .ok (.aload_n 0, 1) := by decide +kernel
theorem dX9_close_5 : decode cX9_close 5 = .ok (.getfield 121, 3) := by decide +kernel
theorem dX9_close_8 : decode cX9_close 8 = .ok (.iload_n 1, 1) := by decide +kernel
theorem dX9_close_9 : decode cX9_close 9 = .ok (.iastore, 1) := by decide +kernel
theorem dX9_close_10 : decode cX9_close 10 = .ok (.aload_n 0, 1) := by decide +kernel
theorem dX9_close_11 : decode cX9_close 11 = .ok (.getfield 40, 3) := by decide +kernel
theorem dX9_close_14 : decode cX9_close 14 = .ok (.aload_n 0, 1) := by decide +kernel
theorem dX9_close_15 : decode cX9_close 15 = .ok (.getfield 121, 3) := by decide +kernel
theorem dX9_close_18 : decode cX9_close 18 = .ok (.iload_n 2, 1) := by decide +kernel
theorem dX9_close_19 : decode cX9_close 19 = .ok (.iastore, 1) := by decide +kernel
theorem dX9_close_20 : decode cX9_close 20 = .ok (.aload_n 0, 1) := by decide +kernel
theorem dX9_close_21 : decode cX9_close 21 = .ok (.dup, 1) := by decide +kernel
theorem dX9_close_22 : decode cX9_close 22 = .ok (.getfield 121, 3) := by decide +kernel
theorem dX9_close_25 : decode cX9_close 25 = .ok (.iconst 1, 1) := by decide +kernel
theorem dX9_close_26 : decode cX9_close 26 = .ok (.iadd, 1) := by decide +kernel
theorem dX9_close_27 : decode cX9_close 27 = .ok (.putfield 121, 3) := by decide +kernel
theorem dX9_close_30 : decode cX9_close 30 = .ok (.iconst 0, 1) := by decide +kernel
theorem dX9_close_31 : decode cX9_close 31 = .ok (.ireturn, 1) := by decide +kernel
theorem dX9_begin_0 : decode cX9_begin 0 = .ok (.iload_n 1, 1) := by decide +kernel
theorem dX9_begin_1 : decode cX9_begin 1 = .ok (.i2l, 1) := by decide +kernel
theorem dX9_begin_2 : decode cX9_begin 2 = .ok (.ldc2_w 124, 3) := by decide +kernel
theorem dX9_begin_5 : decode cX9_begin 5 = .ok (.ldc2_w 126, 3) := by decide +kernel
theorem dX9_begin_8 : decode cX9_begin 8 = .ok (.invokestatic 77, 3) := by decide +kernel
theorem dX9_begin_11 : decode cX9_begin 11 = .ok (.istore_n 2, 1) := by decide +kernel
theorem dX9_begin_12 : decode cX9_begin 12 = .ok (.iload_n 1, 1) := by decide +kernel
theorem dX9_begin_13 : decode cX9_begin 13 = .ok (.i2l, 1) := by decide +kernel
theorem dX9_begin_14 : decode cX9_begin 14 = .ok (.ldc2_w 128, 3) := by decide +kernel
theorem dX9_begin_17 : decode cX9_begin 17 = .ok (.ldc2_w 130, 3) := by decide +kernel
theorem dX9_begin_20 : decode cX9_begin 20 = .ok (.invokestatic 77, 3) := by decide +kernel
theorem dX9_begin_23 : decode cX9_begin 23 = .ok (.istore_n 3, 1) := by decide +kernel
theorem dX9_begin_24 : decode cX9_begin 24 = .ok (.aload_n 0, 1) := by decide +kernel
theorem dX9_begin_25 : decode cX9_begin 25 = .ok (.getfield 37, 3) := by decide +kernel
theorem dX9_begin_28 : decode cX9_begin 28 = .ok (.aload_n 0, 1) := by decide +kernel
theorem dX9_begin_29 : decode cX9_begin 29 = .ok (.getfield 121, 3) := by decide +kernel
theorem dX9_begin_32 : decode cX9_begin 32 = .ok (.iload_n 2, 1) := by decide +kernel
theorem dX9_begin_33 : decode cX9_begin 33 = .ok (.ifCond .eq 10, 3) := by decide +kernel
theorem dX9_begin_36 : decode cX9_begin 36 = .ok (.iload_n 1, 1) := by decide +kernel
theorem dX9_begin_37 : decode cX9_begin 37 = .ok (.bipush 48, 2) := by decide +kernel
theorem dX9_begin_39 : decode cX9_begin 39 = .ok (.isub, 1) := by decide +kernel
theorem dX9_begin_40 : decode cX9_begin 40 = .ok (.goto 15, 3) := by decide +kernel
theorem dX9_begin_43 : decode cX9_begin 43 = .ok (.iload_n 3, 1) := by decide +kernel
theorem dX9_begin_44 : decode cX9_begin 44 = .ok (.ifCond .eq 10, 3) := by decide +kernel
theorem dX9_begin_47 : decode cX9_begin 47 = .ok (.iload_n 1, 1) := by decide +kernel
theorem dX9_begin_48 : decode cX9_begin 48 = .ok (.bipush 65, 2) := by decide +kernel
theorem dX9_begin_50 : decode cX9_begin 50 = .ok (.isub, 1) := by decide +kernel
theorem dX9_begin_51 : decode cX9_begin 51 = .ok (.goto 4, 3) := by decide +kernel
theorem dX9_begin_54 : decode cX9_begin 54 = .ok (.iconst 0, 1) := by decide +kernel
theorem dX9_begin_55 : decode cX9_begin 55 = .ok (.iastore, 1) := by decide +kernel
theorem dX9_begin_56 : decode cX9_begin 56 = .ok (.iload_n 2, 1) := by decide +kernel
theorem dX9_begin_57 : decode cX9_begin 57 = .ok (.ifCond .eq 12, 3) := by decide +kernel
theorem dX9_begin_60 : decode cX9_begin 60 = .ok (.aload_n 0, 1) := by decide +kernel
theorem dX9_begin_61 : decode cX9_begin 61 = .ok (.iconst 0, 1) := by decide +kernel
theorem dX9_begin_62 : decode cX9_begin 62 = .ok (.iconst 0, 1) := by decide +kernel
theorem dX9_begin_63 : decode cX9_begin 63 = .ok (.invokevirtual 132, 3) := by decide +kernel
theorem dX9_begin_66 : decode cX9_begin 66 = .ok (.goto 28, 3) := by decide +kernel
theorem dX9_begin_69 : decode cX9_begin 69 = .ok (.iload_n 1, 1) := by decide +kernel
theorem dX9_begin_70 : decode cX9_begin 70 = .ok (.bipush 46, 2) := by decide +kernel
theorem dX9_begin_72 : decode cX9_begin 72 = .ok (.if_icmp .ne 12, 3) := by decide +kernel
theorem dX9_begin_75 : decode cX9_begin 75 = .ok (.aload_n 0, 1) := by decide +kernel
theorem dX9_begin_76 : decode cX9_begin 76 = .ok (.iconst 5, 1) := by decide +kernel
theorem dX9_begin_77 : decode cX9_begin 77 = .ok (.iconst 0, 1) := by decide +kernel
theorem dX9_begin_78 : decode cX9_begin 78 = .ok (.invokevirtual 132, 3) := by decide +kernel
theorem dX9_begin_81 : decode cX9_begin 81 = .ok (.goto 13, 3) := by decide +kernel
theorem dX9_begin_84 : decode cX9_begin 84 = .ok (.iload_n 3, 1) := by decide +kernel
theorem dX9_begin_85 : decode cX9_begin 85 = .ok (.ifCond .eq 7, 3) := by decide +kernel
theorem dX9_begin_88 : decode cX9_begin 88 = .ok (.iconst 1, 1) := by decide +kernel
theorem dX9_begin_89 : decode cX9_begin 89 = .ok (.goto 5, 3) := by decide +kernel
theorem dX9_begin_92 : decode cX9_begin 92 = .ok (.bipush (-6), 2) := by decide +kernel
theorem dX9_begin_94 : decode cX9_begin 94 = .ok (.ireturn, 1) := by decide +kernel
theorem dX9_readOn_0 : decode cX9_readOn 0 = .ok (.iload_n 1, 1) := by decide +kernel
theorem dX9_readOn_1 : decode cX9_readOn 1 = .ok (.ifCond .ne 9, 3) := by decide +kernel
theorem dX9_readOn_4 : decode cX9_readOn 4 = .ok (.aload_n 0, 1) := by decide +kernel
theorem dX9_readOn_5 : decode cX9_readOn 5 = .ok (.iload_n 2, 1) := by decide +kernel
theorem dX9_readOn_6 : decode cX9_readOn 6 = .ok (.invokevirtual 136, 3) := by decide +kernel
theorem dX9_readOn_9 : decode cX9_readOn 9 = .ok (.ireturn, 1) := by decide +kernel
theorem dX9_readOn_10 : decode cX9_readOn 10 = .ok (.iload_n 1, 1) := by decide +kernel
theorem dX9_readOn_11 : decode cX9_readOn 11 = .ok (.iconst 2, 1) := by decide +kernel
theorem dX9_readOn_12 : decode cX9_readOn 12 = .ok (.if_icmp .ne 35, 3) := by decide +kernel
theorem dX9_readOn_15 : decode cX9_readOn 15 = .ok (.iload_n 2, 1) := by decide +kernel
theorem dX9_readOn_16 : decode cX9_readOn 16 = .ok (.i2l, 1) := by decide +kernel
theorem dX9_readOn_17 : decode cX9_readOn 17 = .ok (.ldc2_w 139, 3) := by decide +kernel
theorem dX9_readOn_20 : decode cX9_readOn 20 = .ok (.ldc2_w 141, 3) := by decide +kernel
theorem dX9_readOn_23 : decode cX9_readOn 23 = .ok (.invokestatic 77, 3) := by decide +kernel
theorem dX9_readOn_26 : decode cX9_readOn 26 = .ok (.ifCond .eq 18, 3) := by decide +kernel
theorem dX9_readOn_29 : decode cX9_readOn 29 = .ok (.aload_n 0, 1) := by decide +kernel
theorem dX9_readOn_30 : decode cX9_readOn 30 = .ok (.iconst 1, 1) := by decide +kernel
theorem dX9_readOn_31 : decode cX9_readOn 31 = .ok (.bipush 10, 2) := by decide +kernel
theorem dX9_readOn_33 : decode cX9_readOn 33 = .ok (.iload_n 2, 1) := by decide +kernel
theorem dX9_readOn_34 : decode cX9_readOn 34 = .ok (.bipush 48, 2) := by decide +kernel
theorem dX9_readOn_36 : decode cX9_readOn 36 = .ok (.isub, 1) := by decide +kernel
theorem dX9_readOn_37 : decode cX9_readOn 37 = .ok (.imul, 1) := by decide +kernel
theorem dX9_readOn_38 : decode cX9_readOn 38 = .ok (.invokevirtual 132, 3) := by decide +kernel
theorem dX9_readOn_41 : decode cX9_readOn 41 = .ok (.goto 5, 3) := by decide +kernel
theorem dX9_readOn_44 : decode cX9_readOn 44 = .ok (.bipush (-6), 2) := by decide +kernel
theorem dX9_readOn_46 : decode cX9_readOn 46 = .ok (.ireturn, 1) := by decide +kernel
theorem dX9_readOn_47 : decode cX9_readOn 47 = .ok (.iload_n 1, 1) := by decide +kernel
theorem dX9_readOn_48 : decode cX9_readOn 48 = .ok (.iconst 3, 1) := by decide +kernel
theorem dX9_readOn_49 : decode cX9_readOn 49 = .ok (.if_icmp .ne 32, 3) := by decide +kernel
theorem dX9_readOn_52 : decode cX9_readOn 52 = .ok (.iload_n 2, 1) := by decide +kernel
theorem dX9_readOn_53 : decode cX9_readOn 53 = .ok (.i2l, 1) := by decide +kernel
theorem dX9_readOn_54 : decode cX9_readOn 54 = .ok (.ldc2_w 128, 3) := by decide +kernel
theorem dX9_readOn_57 : decode cX9_readOn 57 = .ok (.ldc2_w 130, 3) := by decide +kernel
theorem dX9_readOn_60 : decode cX9_readOn 60 = .ok (.invokestatic 77, 3) := by decide +kernel
theorem dX9_readOn_63 : decode cX9_readOn 63 = .ok (.ifCond .eq 15, 3) := by decide +kernel
theorem dX9_readOn_66 : decode cX9_readOn 66 = .ok (.aload_n 0, 1) := by decide +kernel
theorem dX9_readOn_67 : decode cX9_readOn 67 = .ok (.iconst 3, 1) := by decide +kernel
theorem dX9_readOn_68 : decode cX9_readOn 68 = .ok (.iload_n 2, 1) := by decide +kernel
theorem dX9_readOn_69 : decode cX9_readOn 69 = .ok (.bipush 65, 2) := by decide +kernel
theorem dX9_readOn_71 : decode cX9_readOn 71 = .ok (.isub, 1) := by decide +kernel
theorem dX9_readOn_72 : decode cX9_readOn 72 = .ok (.invokevirtual 132, 3) := by decide +kernel
theorem dX9_readOn_75 : decode cX9_readOn 75 = .ok (.goto 5, 3) := by decide +kernel
theorem dX9_readOn_78 : decode cX9_readOn 78 = .ok (.bipush (-6), 2) := by decide +kernel
theorem dX9_readOn_80 : decode cX9_readOn 80 = .ok (.ireturn, 1) := by decide +kernel
theorem dX9_readOn_81 : decode cX9_readOn 81 = .ok (.iload_n 2, 1) := by decide +kernel
theorem dX9_readOn_82 : decode cX9_readOn 82 = .ok (.bipush 43, 2) := by decide +kernel
theorem dX9_readOn_84 : decode cX9_readOn 84 = .ok (.if_icmp .ne 7, 3) := by decide +kernel
theorem dX9_readOn_87 : decode cX9_readOn 87 = .ok (.iconst 2, 1) := by decide +kernel
theorem dX9_readOn_88 : decode cX9_readOn 88 = .ok (.goto 45, 3) := by decide +kernel
theorem dX9_readOn_91 : decode cX9_readOn 91 = .ok (.iload_n 2, 1) := by decide +kernel
theorem dX9_readOn_92 : decode cX9_readOn 92 = .ok (.bipush 61, 2) := by decide +kernel
theorem dX9_readOn_94 : decode cX9_readOn 94 = .ok (.if_icmp .ne 7, 3) := by decide +kernel
theorem dX9_readOn_97 : decode cX9_readOn 97 = .ok (.iconst 3, 1) := by decide +kernel
theorem dX9_readOn_98 : decode cX9_readOn 98 = .ok (.goto 35, 3) := by decide +kernel
theorem dX9_readOn_101 : decode cX9_readOn 101 = .ok (.iload_n 2, 1) := by decide +kernel
theorem dX9_readOn_102 : decode cX9_readOn 102 = .ok (.bipush 42, 2) := by decide +kernel
theorem dX9_readOn_104 : decode cX9_readOn 104 = .ok (.if_icmp .ne 12, 3) := by decide +kernel
theorem dX9_readOn_107 : decode cX9_readOn 107 = .ok (.aload_n 0, 1) := by decide +kernel
theorem dX9_readOn_108 : decode cX9_readOn 108 = .ok (.iconst 2, 1) := by decide +kernel
theorem dX9_readOn_109 : decode cX9_readOn 109 = .ok (.iconst 0, 1) := by decide +kernel
theorem dX9_readOn_110 : decode cX9_readOn 110 = .ok (.invokevirtual 132, 3) := by decide +kernel
theorem dX9_readOn_113 : decode cX9_readOn 113 = .ok (.goto 20, 3) := by decide +kernel
theorem dX9_readOn_116 : decode cX9_readOn 116 = .ok (.iload_n 2, 1) := by decide +kernel
theorem dX9_readOn_117 : decode cX9_readOn 117 = .ok (.bipush 120, 2) := by decide +kernel
theorem dX9_readOn_119 : decode cX9_readOn 119 = .ok (.if_icmp .ne 12, 3) := by decide +kernel
theorem dX9_readOn_122 : decode cX9_readOn 122 = .ok (.aload_n 0, 1) := by decide +kernel
theorem dX9_readOn_123 : decode cX9_readOn 123 = .ok (.iconst 4, 1) := by decide +kernel
theorem dX9_readOn_124 : decode cX9_readOn 124 = .ok (.iconst 0, 1) := by decide +kernel
theorem dX9_readOn_125 : decode cX9_readOn 125 = .ok (.invokevirtual 132, 3) := by decide +kernel
theorem dX9_readOn_128 : decode cX9_readOn 128 = .ok (.goto 5, 3) := by decide +kernel
theorem dX9_readOn_131 : decode cX9_readOn 131 = .ok (.bipush (-6), 2) := by decide +kernel
theorem dX9_readOn_133 : decode cX9_readOn 133 = .ok (.ireturn, 1) := by decide +kernel
theorem dX9_fault_0 : decode cX9_fault 0 = .ok (.aload_n 0, 1) := by decide +kernel
theorem dX9_fault_1 : decode cX9_fault 1 = .ok (.iconst 0, 1) := by decide +kernel
theorem dX9_fault_2 : decode cX9_fault 2 = .ok (.putfield 121, 3) := by decide +kernel
theorem dX9_fault_5 : decode cX9_fault 5 = .ok (.iconst 0, 1) := by decide +kernel
theorem dX9_fault_6 : decode cX9_fault 6 = .ok (.istore_n 1, 1) := by decide +kernel
theorem dX9_fault_7 : decode cX9_fault 7 = .ok (.iconst 0, 1) := by decide +kernel
theorem dX9_fault_8 : decode cX9_fault 8 = .ok (.istore_n 2, 1) := by decide +kernel
theorem dX9_fault_9 : decode cX9_fault 9 = .ok (.iload_n 2, 1) := by decide +kernel
theorem dX9_fault_10 : decode cX9_fault 10 = .ok (.aload_n 0, 1) := by decide +kernel
theorem dX9_fault_11 : decode cX9_fault 11 = .ok (.getfield 118, 3) := by decide +kernel
theorem dX9_fault_14 : decode cX9_fault 14 = .ok (.if_icmp .ge 27, 3) := by decide +kernel
theorem dX9_fault_17 : decode cX9_fault 17 = .ok (.aload_n 0, 1) := by decide +kernel
theorem dX9_fault_18 : decode cX9_fault 18 = .ok (.iload_n 1, 1) := by decide +kernel
theorem dX9_fault_19 : decode cX9_fault 19 = .ok (.aload_n 0, 1) := by decide +kernel
theorem dX9_fault_20 : decode cX9_fault 20 = .ok (.getfield 31, 3) := by decide +kernel
theorem dX9_fault_23 : decode cX9_fault 23 = .ok (.iload_n 2, 1) := by decide +kernel
theorem dX9_fault_24 : decode cX9_fault 24 = .ok (.iaload, 1) := by decide +kernel
theorem dX9_fault_25 : decode cX9_fault 25 = .ok (.invokevirtual 143, 3) := by decide +kernel
theorem dX9_fault_28 : decode cX9_fault 28 = .ok (.istore_n 1, 1) := by decide +kernel
theorem dX9_fault_29 : decode cX9_fault 29 = .ok (.iload_n 1, 1) := by decide +kernel
theorem dX9_fault_30 : decode cX9_fault 30 = .ok (.ifCond .ge 5, 3) := by decide +kernel
theorem dX9_fault_33 : decode cX9_fault 33 = .ok (.iload_n 2, 1) := by decide +kernel
theorem dX9_fault_34 : decode cX9_fault 34 = .ok (.ireturn, 1) := by decide +kernel
theorem dX9_fault_35 : decode cX9_fault 35 = .ok (.iinc 2 1, 3) := by decide +kernel
theorem dX9_fault_38 : decode cX9_fault 38 = .ok (.goto (-29), 3) := by decide +kernel
theorem dX9_fault_41 : decode cX9_fault 41 = .ok (.iload_n 1, 1) := by decide +kernel
theorem dX9_fault_42 : decode cX9_fault 42 = .ok (.ifCond .ne 8, 3) := by decide +kernel
theorem dX9_fault_45 : decode cX9_fault 45 = .ok (.bipush (-6), 2) := by decide +kernel
theorem dX9_fault_47 : decode cX9_fault 47 = .ok (.goto 7, 3) := by decide +kernel
theorem dX9_fault_50 : decode cX9_fault 50 = .ok (.aload_n 0, 1) := by decide +kernel
theorem dX9_fault_51 : decode cX9_fault 51 = .ok (.getfield 118, 3) := by decide +kernel
theorem dX9_fault_54 : decode cX9_fault 54 = .ok (.ireturn, 1) := by decide +kernel
theorem dX9_mayHere_0 : decode cX9_mayHere 0 = .ok (.aload_n 0, 1) := by decide +kernel
theorem dX9_mayHere_1 : decode cX9_mayHere 1 = .ok (.iload_n 1, 1) := by decide +kernel
theorem dX9_mayHere_2 : decode cX9_mayHere 2 = .ok (.invokevirtual 99, 3) := by decide +kernel
theorem dX9_mayHere_5 : decode cX9_mayHere 5 = .ok (.ifCond .eq 39, 3) := by decide +kernel
theorem dX9_mayHere_8 : decode cX9_mayHere 8 = .ok (.aload_n 0, 1) := by decide +kernel
theorem dX9_mayHere_9 : decode cX9_mayHere 9 = .ok (.getfield 7, 3) := by decide +kernel
theorem dX9_mayHere_12 : decode cX9_mayHere 12 = .ok (.iload_n 1, 1) := by decide +kernel
theorem dX9_mayHere_13 : decode cX9_mayHere 13 = .ok (.iaload, 1) := by decide +kernel
theorem dX9_mayHere_14 : decode cX9_mayHere 14 = .ok (.iload_n 2, 1) := by decide +kernel
theorem dX9_mayHere_15 : decode cX9_mayHere 15 = .ok (.if_icmp .ne 29, 3) := by decide +kernel
theorem dX9_mayHere_18 : decode cX9_mayHere 18 = .ok (.aload_n 0, 1) := by decide +kernel
theorem dX9_mayHere_19 : decode cX9_mayHere 19 = .ok (.getfield 89, 3) := by decide +kernel
theorem dX9_mayHere_22 : decode cX9_mayHere 22 = .ok (.iload_n 1, 1) := by decide +kernel
theorem dX9_mayHere_23 : decode cX9_mayHere 23 = .ok (.ishr, 1) := by decide +kernel
theorem dX9_mayHere_24 : decode cX9_mayHere 24 = .ok (.iconst 1, 1) := by decide +kernel
theorem dX9_mayHere_25 : decode cX9_mayHere 25 = .ok (.iand, 1) := by decide +kernel
theorem dX9_mayHere_26 : decode cX9_mayHere 26 = .ok (.ifCond .ne 18, 3) := by decide +kernel
theorem dX9_mayHere_29 : decode cX9_mayHere 29 = .ok (.aload_n 0, 1) := by decide +kernel
theorem dX9_mayHere_30 : decode cX9_mayHere 30 = .ok (.getfield 92, 3) := by decide +kernel
theorem dX9_mayHere_33 : decode cX9_mayHere 33 = .ok (.iload_n 1, 1) := by decide +kernel
theorem dX9_mayHere_34 : decode cX9_mayHere 34 = .ok (.ishr, 1) := by decide +kernel
theorem dX9_mayHere_35 : decode cX9_mayHere 35 = .ok (.iconst 1, 1) := by decide +kernel
theorem dX9_mayHere_36 : decode cX9_mayHere 36 = .ok (.iand, 1) := by decide +kernel
theorem dX9_mayHere_37 : decode cX9_mayHere 37 = .ok (.ifCond .ne 7, 3) := by decide +kernel
theorem dX9_mayHere_40 : decode cX9_mayHere 40 = .ok (.iconst 1, 1) := by decide +kernel
theorem dX9_mayHere_41 : decode cX9_mayHere 41 = .ok (.goto 4, 3) := by decide +kernel
theorem dX9_mayHere_44 : decode cX9_mayHere 44 = .ok (.iconst 0, 1) := by decide +kernel
theorem dX9_mayHere_45 : decode cX9_mayHere 45 = .ok (.ireturn, 1) := by decide +kernel
theorem dX9_ready_0 : decode cX9_ready 0 = .ok (.iconst 0, 1) := by decide +kernel
theorem dX9_ready_1 : decode cX9_ready 1 = .ok (.istore_n 3, 1) := by decide +kernel
theorem dX9_ready_2 : decode cX9_ready 2 = .ok (.iconst 0, 1) := by decide +kernel
theorem dX9_ready_3 : decode cX9_ready 3 = .ok (.istore 4, 2) := by decide +kernel
theorem dX9_ready_5 : decode cX9_ready 5 = .ok (.iload 4, 2) := by decide +kernel
theorem dX9_ready_7 : decode cX9_ready 7 = .ok (.bipush 8, 2) := by decide +kernel
theorem dX9_ready_9 : decode cX9_ready 9 = .ok (.if_icmp .ge 46, 3) := by decide +kernel
theorem dX9_ready_12 : decode cX9_ready 12 = .ok (.iload_n 3, 1) := by decide +kernel
theorem dX9_ready_13 : decode cX9_ready 13 = .ok (.aload_n 0, 1) := by decide +kernel
theorem dX9_ready_14 : decode cX9_ready 14 = .ok (.iload 4, 2) := by decide +kernel
theorem dX9_ready_16 : decode cX9_ready 16 = .ok (.iload_n 1, 1) := by decide +kernel
theorem dX9_ready_17 : decode cX9_ready 17 = .ok (.invokevirtual 146, 3) := by decide +kernel
theorem dX9_ready_20 : decode cX9_ready 20 = .ok (.ifCond .eq 26, 3) := by decide +kernel
theorem dX9_ready_23 : decode cX9_ready 23 = .ok (.aload_n 0, 1) := by decide +kernel
theorem dX9_ready_24 : decode cX9_ready 24 = .ok (.getfield 13, 3) := by decide +kernel
theorem dX9_ready_27 : decode cX9_ready 27 = .ok (.iload 4, 2) := by decide +kernel
theorem dX9_ready_29 : decode cX9_ready 29 = .ok (.iaload, 1) := by decide +kernel
theorem dX9_ready_30 : decode cX9_ready 30 = .ok (.ifCond .le 7, 3) := by decide +kernel
theorem dX9_ready_33 : decode cX9_ready 33 = .ok (.iconst 1, 1) := by decide +kernel
theorem dX9_ready_34 : decode cX9_ready 34 = .ok (.goto 4, 3) := by decide +kernel
theorem dX9_ready_37 : decode cX9_ready 37 = .ok (.iconst 0, 1) := by decide +kernel
theorem dX9_ready_38 : decode cX9_ready 38 = .ok (.iload_n 2, 1) := by decide +kernel
theorem dX9_ready_39 : decode cX9_ready 39 = .ok (.if_icmp .ne 7, 3) := by decide +kernel
theorem dX9_ready_42 : decode cX9_ready 42 = .ok (.iconst 1, 1) := by decide +kernel
theorem dX9_ready_43 : decode cX9_ready 43 = .ok (.goto 4, 3) := by decide +kernel
theorem dX9_ready_46 : decode cX9_ready 46 = .ok (.iconst 0, 1) := by decide +kernel
theorem dX9_ready_47 : decode cX9_ready 47 = .ok (.iadd, 1) := by decide +kernel
theorem dX9_ready_48 : decode cX9_ready 48 = .ok (.istore_n 3, 1) := by decide +kernel
theorem dX9_ready_49 : decode cX9_ready 49 = .ok (.iinc 4 1, 3) := by decide +kernel
theorem dX9_ready_52 : decode cX9_ready 52 = .ok (.goto (-47), 3) := by decide +kernel
theorem dX9_ready_55 : decode cX9_ready 55 = .ok (.iload_n 3, 1) := by decide +kernel
theorem dX9_ready_56 : decode cX9_ready 56 = .ok (.ireturn, 1) := by decide +kernel
theorem dX9_canBeSung_0 : decode cX9_canBeSung 0 = .ok (.iconst 1, 1) := by decide +kernel
theorem dX9_canBeSung_1 : decode cX9_canBeSung 1 = .ok (.istore_n 2, 1) := by decide +kernel
theorem dX9_canBeSung_2 : decode cX9_canBeSung 2 = .ok (.iconst 0, 1) := by decide +kernel
theorem dX9_canBeSung_3 : decode cX9_canBeSung 3 = .ok (.istore_n 3, 1) := by decide +kernel
theorem dX9_canBeSung_4 : decode cX9_canBeSung 4 = .ok (.iload_n 3, 1) := by decide +kernel
theorem dX9_canBeSung_5 : decode cX9_canBeSung 5 = .ok (.iconst 4, 1) := by decide +kernel
theorem dX9_canBeSung_6 : decode cX9_canBeSung 6 = .ok (.if_icmp .ge 38, 3) := by decide +kernel
theorem dX9_canBeSung_9 : decode cX9_canBeSung 9 = .ok (.iload_n 2, 1) := by decide +kernel
theorem dX9_canBeSung_10 : decode cX9_canBeSung 10 = .ok (.ifCond .eq 26, 3) := by decide +kernel
theorem dX9_canBeSung_13 : decode cX9_canBeSung 13 = .ok (.aload_n 0, 1) := by decide +kernel
theorem dX9_canBeSung_14 : decode cX9_canBeSung 14 = .ok (.iload_n 3, 1) := by decide +kernel
theorem dX9_canBeSung_15 : decode cX9_canBeSung 15 = .ok (.iconst 1, 1) := by decide +kernel
theorem dX9_canBeSung_16 : decode cX9_canBeSung 16 = .ok (.invokevirtual 150, 3) := by decide +kernel
theorem dX9_canBeSung_19 : decode cX9_canBeSung 19 = .ok (.aload_n 0, 1) := by decide +kernel
theorem dX9_canBeSung_20 : decode cX9_canBeSung 20 = .ok (.getfield 16, 3) := by decide +kernel
theorem dX9_canBeSung_23 : decode cX9_canBeSung 23 = .ok (.iconst 4, 1) := by decide +kernel
theorem dX9_canBeSung_24 : decode cX9_canBeSung 24 = .ok (.iload_n 1, 1) := by decide +kernel
theorem dX9_canBeSung_25 : decode cX9_canBeSung 25 = .ok (.imul, 1) := by decide +kernel
theorem dX9_canBeSung_26 : decode cX9_canBeSung 26 = .ok (.iload_n 3, 1) := by decide +kernel
theorem dX9_canBeSung_27 : decode cX9_canBeSung 27 = .ok (.iadd, 1) := by decide +kernel
theorem dX9_canBeSung_28 : decode cX9_canBeSung 28 = .ok (.iaload, 1) := by decide +kernel
theorem dX9_canBeSung_29 : decode cX9_canBeSung 29 = .ok (.if_icmp .lt 7, 3) := by decide +kernel
theorem dX9_canBeSung_32 : decode cX9_canBeSung 32 = .ok (.iconst 1, 1) := by decide +kernel
theorem dX9_canBeSung_33 : decode cX9_canBeSung 33 = .ok (.goto 4, 3) := by decide +kernel
theorem dX9_canBeSung_36 : decode cX9_canBeSung 36 = .ok (.iconst 0, 1) := by decide +kernel
theorem dX9_canBeSung_37 : decode cX9_canBeSung 37 = .ok (.istore_n 2, 1) := by decide +kernel
theorem dX9_canBeSung_38 : decode cX9_canBeSung 38 = .ok (.iinc 3 1, 3) := by decide +kernel
theorem dX9_canBeSung_41 : decode cX9_canBeSung 41 = .ok (.goto (-37), 3) := by decide +kernel
theorem dX9_canBeSung_44 : decode cX9_canBeSung 44 = .ok (.iload_n 2, 1) := by decide +kernel
theorem dX9_canBeSung_45 : decode cX9_canBeSung 45 = .ok (.ireturn, 1) := by decide +kernel
theorem dX9_whyNotTake_0 : decode cX9_whyNotTake 0 = .ok (.aload_n 0, 1) := by decide +kernel
theorem dX9_whyNotTake_1 : decode cX9_whyNotTake 1 = .ok (.iload_n 2, 1) := by decide +kernel
theorem dX9_whyNotTake_2 : decode cX9_whyNotTake 2 = .ok (.invokevirtual 99, 3) := by decide +kernel
theorem dX9_whyNotTake_5 : decode cX9_whyNotTake 5 = .ok (.ifCond .ne 5, 3) := by decide +kernel
theorem dX9_whyNotTake_8 : decode cX9_whyNotTake 8 = .ok (.iconst 1, 1) := by decide +kernel
theorem dX9_whyNotTake_9 : decode cX9_whyNotTake 9 = .ok (.ireturn, 1) := by decide +kernel
theorem dX9_whyNotTake_10 : decode cX9_whyNotTake 10 = .ok (.iload_n 1, 1) := by decide +kernel
theorem dX9_whyNotTake_11 : decode cX9_whyNotTake 11 = .ok (.iload_n 2, 1) := by decide +kernel
theorem dX9_whyNotTake_12 : decode cX9_whyNotTake 12 = .ok (.if_icmp .eq 12, 3) := by decide +kernel
theorem dX9_whyNotTake_15 : decode cX9_whyNotTake 15 = .ok (.aload_n 0, 1) := by decide +kernel
theorem dX9_whyNotTake_16 : decode cX9_whyNotTake 16 = .ok (.getfield 13, 3) := by decide +kernel
theorem dX9_whyNotTake_19 : decode cX9_whyNotTake 19 = .ok (.iload_n 1, 1) := by decide +kernel
theorem dX9_whyNotTake_20 : decode cX9_whyNotTake 20 = .ok (.iaload, 1) := by decide +kernel
theorem dX9_whyNotTake_21 : decode cX9_whyNotTake 21 = .ok (.ifCond .ne 5, 3) := by decide +kernel
theorem dX9_whyNotTake_24 : decode cX9_whyNotTake 24 = .ok (.iconst 2, 1) := by decide +kernel
theorem dX9_whyNotTake_25 : decode cX9_whyNotTake 25 = .ok (.ireturn, 1) := by decide +kernel
theorem dX9_whyNotTake_26 : decode cX9_whyNotTake 26 = .ok (.aload_n 0, 1) := by decide +kernel
theorem dX9_whyNotTake_27 : decode cX9_whyNotTake 27 = .ok (.getfield 13, 3) := by decide +kernel
theorem dX9_whyNotTake_30 : decode cX9_whyNotTake 30 = .ok (.iload_n 1, 1) := by decide +kernel
theorem dX9_whyNotTake_31 : decode cX9_whyNotTake 31 = .ok (.iaload, 1) := by decide +kernel
theorem dX9_whyNotTake_32 : decode cX9_whyNotTake 32 = .ok (.aload_n 0, 1) := by decide +kernel
theorem dX9_whyNotTake_33 : decode cX9_whyNotTake 33 = .ok (.getfield 13, 3) := by decide +kernel
theorem dX9_whyNotTake_36 : decode cX9_whyNotTake 36 = .ok (.iload_n 2, 1) := by decide +kernel
theorem dX9_whyNotTake_37 : decode cX9_whyNotTake 37 = .ok (.iaload, 1) := by decide +kernel
theorem dX9_whyNotTake_38 : decode cX9_whyNotTake 38 = .ok (.iadd, 1) := by decide +kernel
theorem dX9_whyNotTake_39 : decode cX9_whyNotTake 39 = .ok (.sipush 999, 3) := by decide +kernel
theorem dX9_whyNotTake_42 : decode cX9_whyNotTake 42 = .ok (.if_icmp .le 7, 3) := by decide +kernel
theorem dX9_whyNotTake_45 : decode cX9_whyNotTake 45 = .ok (.iconst 3, 1) := by decide +kernel
theorem dX9_whyNotTake_46 : decode cX9_whyNotTake 46 = .ok (.goto 4, 3) := by decide +kernel
theorem dX9_whyNotTake_49 : decode cX9_whyNotTake 49 = .ok (.iconst 0, 1) := by decide +kernel
theorem dX9_whyNotTake_50 : decode cX9_whyNotTake 50 = .ok (.ireturn, 1) := by decide +kernel
theorem dX9_whyNot_0 : decode cX9_whyNot 0 = .ok (.iload_n 1, 1) := by decide +kernel
theorem dX9_whyNot_1 : decode cX9_whyNot 1 = .ok (.iconst 5, 1) := by decide +kernel
theorem dX9_whyNot_2 : decode cX9_whyNot 2 = .ok (.if_icmp .ne 18, 3) := by decide +kernel
theorem dX9_whyNot_5 : decode cX9_whyNot 5 = .ok (.aload_n 0, 1) := by decide +kernel
theorem dX9_whyNot_6 : decode cX9_whyNot 6 = .ok (.getfield 154, 3) := by decide +kernel
theorem dX9_whyNot_9 : decode cX9_whyNot 9 = .ok (.bipush 99, 2) := by decide +kernel
theorem dX9_whyNot_11 : decode cX9_whyNot 11 = .ok (.if_icmp .ne 7, 3) := by decide +kernel
theorem dX9_whyNot_14 : decode cX9_whyNot 14 = .ok (.iconst 5, 1) := by decide +kernel
theorem dX9_whyNot_15 : decode cX9_whyNot 15 = .ok (.goto 4, 3) := by decide +kernel
theorem dX9_whyNot_18 : decode cX9_whyNot 18 = .ok (.iconst 0, 1) := by decide +kernel
theorem dX9_whyNot_19 : decode cX9_whyNot 19 = .ok (.ireturn, 1) := by decide +kernel
theorem dX9_whyNot_20 : decode cX9_whyNot 20 = .ok (.iload_n 1, 1) := by decide +kernel
theorem dX9_whyNot_21 : decode cX9_whyNot 21 = .ok (.ifCond .ne 17, 3) := by decide +kernel
theorem dX9_whyNot_24 : decode cX9_whyNot 24 = .ok (.aload_n 0, 1) := by decide +kernel
theorem dX9_whyNot_25 : decode cX9_whyNot 25 = .ok (.iload_n 2, 1) := by decide +kernel
theorem dX9_whyNot_26 : decode cX9_whyNot 26 = .ok (.invokevirtual 157, 3) := by decide +kernel
theorem dX9_whyNot_29 : decode cX9_whyNot 29 = .ok (.ifCond .eq 7, 3) := by decide +kernel
theorem dX9_whyNot_32 : decode cX9_whyNot 32 = .ok (.iconst 0, 1) := by decide +kernel
theorem dX9_whyNot_33 : decode cX9_whyNot 33 = .ok (.goto 4, 3) := by decide +kernel
theorem dX9_whyNot_36 : decode cX9_whyNot 36 = .ok (.iconst 4, 1) := by decide +kernel
theorem dX9_whyNot_37 : decode cX9_whyNot 37 = .ok (.ireturn, 1) := by decide +kernel
theorem dX9_whyNot_38 : decode cX9_whyNot 38 = .ok (.aload_n 0, 1) := by decide +kernel
theorem dX9_whyNot_39 : decode cX9_whyNot 39 = .ok (.iload_n 2, 1) := by decide +kernel
theorem dX9_whyNot_40 : decode cX9_whyNot 40 = .ok (.invokevirtual 99, 3) := by decide +kernel
theorem dX9_whyNot_43 : decode cX9_whyNot 43 = .ok (.ifCond .ne 5, 3) := by decide +kernel
theorem dX9_whyNot_46 : decode cX9_whyNot 46 = .ok (.iconst 1, 1) := by decide +kernel
theorem dX9_whyNot_47 : decode cX9_whyNot 47 = .ok (.ireturn, 1) := by decide +kernel
theorem dX9_whyNot_48 : decode cX9_whyNot 48 = .ok (.iload_n 1, 1) := by decide +kernel
theorem dX9_whyNot_49 : decode cX9_whyNot 49 = .ok (.tableswitch 73 1 4 #[31, 73, 51, 58], 31) := by decide +kernel
theorem dX9_whyNot_80 : decode cX9_whyNot 80 = .ok (.aload_n 0, 1) := by decide +kernel
theorem dX9_whyNot_81 : decode cX9_whyNot 81 = .ok (.getfield 13, 3) := by decide +kernel
theorem dX9_whyNot_84 : decode cX9_whyNot 84 = .ok (.iload_n 2, 1) := by decide +kernel
theorem dX9_whyNot_85 : decode cX9_whyNot 85 = .ok (.iaload, 1) := by decide +kernel
theorem dX9_whyNot_86 : decode cX9_whyNot 86 = .ok (.iload_n 3, 1) := by decide +kernel
theorem dX9_whyNot_87 : decode cX9_whyNot 87 = .ok (.iadd, 1) := by decide +kernel
theorem dX9_whyNot_88 : decode cX9_whyNot 88 = .ok (.sipush 999, 3) := by decide +kernel
theorem dX9_whyNot_91 : decode cX9_whyNot 91 = .ok (.if_icmp .le 7, 3) := by decide +kernel
theorem dX9_whyNot_94 : decode cX9_whyNot 94 = .ok (.iconst 3, 1) := by decide +kernel
theorem dX9_whyNot_95 : decode cX9_whyNot 95 = .ok (.goto 4, 3) := by decide +kernel
theorem dX9_whyNot_98 : decode cX9_whyNot 98 = .ok (.iconst 0, 1) := by decide +kernel
theorem dX9_whyNot_99 : decode cX9_whyNot 99 = .ok (.ireturn, 1) := by decide +kernel
theorem dX9_whyNot_100 : decode cX9_whyNot 100 = .ok (.aload_n 0, 1) := by decide +kernel
theorem dX9_whyNot_101 : decode cX9_whyNot 101 = .ok (.iload_n 2, 1) := by decide +kernel
theorem dX9_whyNot_102 : decode cX9_whyNot 102 = .ok (.iload_n 3, 1) := by decide +kernel
theorem dX9_whyNot_103 : decode cX9_whyNot 103 = .ok (.invokevirtual 160, 3) := by decide +kernel
theorem dX9_whyNot_106 : decode cX9_whyNot 106 = .ok (.ireturn, 1) := by decide +kernel
theorem dX9_whyNot_107 : decode cX9_whyNot 107 = .ok (.aload_n 0, 1) := by decide +kernel
theorem dX9_whyNot_108 : decode cX9_whyNot 108 = .ok (.getfield 13, 3) := by decide +kernel
theorem dX9_whyNot_111 : decode cX9_whyNot 111 = .ok (.iload_n 2, 1) := by decide +kernel
theorem dX9_whyNot_112 : decode cX9_whyNot 112 = .ok (.iaload, 1) := by decide +kernel
theorem dX9_whyNot_113 : decode cX9_whyNot 113 = .ok (.ifCond .ne 7, 3) := by decide +kernel
theorem dX9_whyNot_116 : decode cX9_whyNot 116 = .ok (.iconst 2, 1) := by decide +kernel
theorem dX9_whyNot_117 : decode cX9_whyNot 117 = .ok (.goto 4, 3) := by decide +kernel
theorem dX9_whyNot_120 : decode cX9_whyNot 120 = .ok (.iconst 0, 1) := by decide +kernel
theorem dX9_whyNot_121 : decode cX9_whyNot 121 = .ok (.ireturn, 1) := by decide +kernel
theorem dX9_whyNot_122 : decode cX9_whyNot 122 = .ok (.iconst 0, 1) := by decide +kernel
theorem dX9_whyNot_123 : decode cX9_whyNot 123 = .ok (.ireturn, 1) := by decide +kernel
theorem dX9_singOne_0 : decode cX9_singOne 0 = .ok (.bipush (-6), 2) := by decide +kernel
theorem dX9_singOne_2 : decode cX9_singOne 2 = .ok (.istore_n 3, 1) := by decide +kernel
theorem dX9_singOne_3 : decode cX9_singOne 3 = .ok (.iconst 0, 1) := by decide +kernel
theorem dX9_singOne_4 : decode cX9_singOne 4 = .ok (.istore 4, 2) := by decide +kernel
theorem dX9_singOne_6 : decode cX9_singOne 6 = .ok (.iload 4, 2) := by decide +kernel
theorem dX9_singOne_8 : decode cX9_singOne 8 = .ok (.bipush 8, 2) := by decide +kernel
theorem dX9_singOne_10 : decode cX9_singOne 10 = .ok (.if_icmp .ge 68, 3) := by decide +kernel
theorem dX9_singOne_13 : decode cX9_singOne 13 = .ok (.aload_n 0, 1) := by decide +kernel
theorem dX9_singOne_14 : decode cX9_singOne 14 = .ok (.iload 4, 2) := by decide +kernel
theorem dX9_singOne_16 : decode cX9_singOne 16 = .ok (.iload_n 1, 1) := by decide +kernel
theorem dX9_singOne_17 : decode cX9_singOne 17 = .ok (.invokevirtual 146, 3) := by decide +kernel
theorem dX9_singOne_20 : decode cX9_singOne 20 = .ok (.ifCond .eq 17, 3) := by decide +kernel
theorem dX9_singOne_23 : decode cX9_singOne 23 = .ok (.aload_n 0, 1) := by decide +kernel
theorem dX9_singOne_24 : decode cX9_singOne 24 = .ok (.getfield 13, 3) := by decide +kernel
theorem dX9_singOne_27 : decode cX9_singOne 27 = .ok (.iload 4, 2) := by decide +kernel
theorem dX9_singOne_29 : decode cX9_singOne 29 = .ok (.iaload, 1) := by decide +kernel
theorem dX9_singOne_30 : decode cX9_singOne 30 = .ok (.ifCond .le 7, 3) := by decide +kernel
theorem dX9_singOne_33 : decode cX9_singOne 33 = .ok (.iconst 1, 1) := by decide +kernel
theorem dX9_singOne_34 : decode cX9_singOne 34 = .ok (.goto 4, 3) := by decide +kernel
theorem dX9_singOne_37 : decode cX9_singOne 37 = .ok (.iconst 0, 1) := by decide +kernel
theorem dX9_singOne_38 : decode cX9_singOne 38 = .ok (.istore 5, 2) := by decide +kernel
theorem dX9_singOne_40 : decode cX9_singOne 40 = .ok (.iload 5, 2) := by decide +kernel
theorem dX9_singOne_42 : decode cX9_singOne 42 = .ok (.ifCond .eq 28, 3) := by decide +kernel
theorem dX9_singOne_45 : decode cX9_singOne 45 = .ok (.iload_n 3, 1) := by decide +kernel
theorem dX9_singOne_46 : decode cX9_singOne 46 = .ok (.ifCond .lt 19, 3) := by decide +kernel
theorem dX9_singOne_49 : decode cX9_singOne 49 = .ok (.aload_n 0, 1) := by decide +kernel
theorem dX9_singOne_50 : decode cX9_singOne 50 = .ok (.getfield 13, 3) := by decide +kernel
theorem dX9_singOne_53 : decode cX9_singOne 53 = .ok (.iload 4, 2) := by decide +kernel
theorem dX9_singOne_55 : decode cX9_singOne 55 = .ok (.iaload, 1) := by decide +kernel
theorem dX9_singOne_56 : decode cX9_singOne 56 = .ok (.aload_n 0, 1) := by decide +kernel
theorem dX9_singOne_57 : decode cX9_singOne 57 = .ok (.getfield 13, 3) := by decide +kernel
theorem dX9_singOne_60 : decode cX9_singOne 60 = .ok (.iload_n 3, 1) := by decide +kernel
theorem dX9_singOne_61 : decode cX9_singOne 61 = .ok (.iaload, 1) := by decide +kernel
theorem dX9_singOne_62 : decode cX9_singOne 62 = .ok (.if_icmp .le 8, 3) := by decide +kernel
theorem dX9_singOne_65 : decode cX9_singOne 65 = .ok (.iload 4, 2) := by decide +kernel
theorem dX9_singOne_67 : decode cX9_singOne 67 = .ok (.goto 4, 3) := by decide +kernel
theorem dX9_singOne_70 : decode cX9_singOne 70 = .ok (.iload_n 3, 1) := by decide +kernel
theorem dX9_singOne_71 : decode cX9_singOne 71 = .ok (.istore_n 3, 1) := by decide +kernel
theorem dX9_singOne_72 : decode cX9_singOne 72 = .ok (.iinc 4 1, 3) := by decide +kernel
theorem dX9_singOne_75 : decode cX9_singOne 75 = .ok (.goto (-69), 3) := by decide +kernel
theorem dX9_singOne_78 : decode cX9_singOne 78 = .ok (.aload_n 0, 1) := by decide +kernel
theorem dX9_singOne_79 : decode cX9_singOne 79 = .ok (.getfield 13, 3) := by decide +kernel
theorem dX9_singOne_82 : decode cX9_singOne 82 = .ok (.iload_n 3, 1) := by decide +kernel
theorem dX9_singOne_83 : decode cX9_singOne 83 = .ok (.iaload, 1) := by decide +kernel
theorem dX9_singOne_84 : decode cX9_singOne 84 = .ok (.iload_n 2, 1) := by decide +kernel
theorem dX9_singOne_85 : decode cX9_singOne 85 = .ok (.if_icmp .ge 12, 3) := by decide +kernel
theorem dX9_singOne_88 : decode cX9_singOne 88 = .ok (.aload_n 0, 1) := by decide +kernel
theorem dX9_singOne_89 : decode cX9_singOne 89 = .ok (.getfield 13, 3) := by decide +kernel
theorem dX9_singOne_92 : decode cX9_singOne 92 = .ok (.iload_n 3, 1) := by decide +kernel
theorem dX9_singOne_93 : decode cX9_singOne 93 = .ok (.iaload, 1) := by decide +kernel
theorem dX9_singOne_94 : decode cX9_singOne 94 = .ok (.goto 4, 3) := by decide +kernel
theorem dX9_singOne_97 : decode cX9_singOne 97 = .ok (.iload_n 2, 1) := by decide +kernel
theorem dX9_singOne_98 : decode cX9_singOne 98 = .ok (.istore 4, 2) := by decide +kernel
theorem dX9_singOne_100 : decode cX9_singOne 100 = .ok (.aload_n 0, 1) := by decide +kernel
theorem dX9_singOne_101 : decode cX9_singOne 101 = .ok (.getfield 13, 3) := by decide +kernel
theorem dX9_singOne_104 : decode cX9_singOne 104 = .ok (.iload_n 3, 1) := by decide +kernel
theorem dX9_singOne_105 : decode cX9_singOne 105 = .ok (.dup2, 1) := by decide +kernel
theorem dX9_singOne_106 : decode cX9_singOne 106 = .ok (.iaload, 1) := by decide +kernel
theorem dX9_singOne_107 : decode cX9_singOne 107 = .ok (.iload 4, 2) := by decide +kernel
theorem dX9_singOne_109 : decode cX9_singOne 109 = .ok (.isub, 1) := by decide +kernel
theorem dX9_singOne_110 : decode cX9_singOne 110 = .ok (.iastore, 1) := by decide +kernel
theorem dX9_singOne_111 : decode cX9_singOne 111 = .ok (.aload_n 0, 1) := by decide +kernel
theorem dX9_singOne_112 : decode cX9_singOne 112 = .ok (.dup, 1) := by decide +kernel
theorem dX9_singOne_113 : decode cX9_singOne 113 = .ok (.getfield 163, 3) := by decide +kernel
theorem dX9_singOne_116 : decode cX9_singOne 116 = .ok (.iload 4, 2) := by decide +kernel
theorem dX9_singOne_118 : decode cX9_singOne 118 = .ok (.iadd, 1) := by decide +kernel
theorem dX9_singOne_119 : decode cX9_singOne 119 = .ok (.putfield 163, 3) := by decide +kernel
theorem dX9_singOne_122 : decode cX9_singOne 122 = .ok (.aload_n 0, 1) := by decide +kernel
theorem dX9_singOne_123 : decode cX9_singOne 123 = .ok (.dup, 1) := by decide +kernel
theorem dX9_singOne_124 : decode cX9_singOne 124 = .ok (.getfield 92, 3) := by decide +kernel
theorem dX9_singOne_127 : decode cX9_singOne 127 = .ok (.iconst 1, 1) := by decide +kernel
theorem dX9_singOne_128 : decode cX9_singOne 128 = .ok (.iload_n 3, 1) := by decide +kernel
theorem dX9_singOne_129 : decode cX9_singOne 129 = .ok (.ishl, 1) := by decide +kernel
theorem dX9_singOne_130 : decode cX9_singOne 130 = .ok (.ior, 1) := by decide +kernel
theorem dX9_singOne_131 : decode cX9_singOne 131 = .ok (.putfield 92, 3) := by decide +kernel
theorem dX9_singOne_134 : decode cX9_singOne 134 = .ok (.return_, 1) := by decide +kernel
theorem dX9_singPiece_0 : decode cX9_singPiece 0 = .ok (.aload_n 0, 1) := by decide +kernel
theorem dX9_singPiece_1 : decode cX9_singPiece 1 = .ok (.dup, 1) := by decide +kernel
theorem dX9_singPiece_2 : decode cX9_singPiece 2 = .ok (.getfield 166, 3) := by decide +kernel
theorem dX9_singPiece_5 : decode cX9_singPiece 5 = .ok (.iconst 1, 1) := by decide +kernel
theorem dX9_singPiece_6 : decode cX9_singPiece 6 = .ok (.iadd, 1) := by decide +kernel
theorem dX9_singPiece_7 : decode cX9_singPiece 7 = .ok (.putfield 166, 3) := by decide +kernel
theorem dX9_singPiece_10 : decode cX9_singPiece 10 = .ok (.iconst 0, 1) := by decide +kernel
theorem dX9_singPiece_11 : decode cX9_singPiece 11 = .ok (.istore_n 2, 1) := by decide +kernel
theorem dX9_singPiece_12 : decode cX9_singPiece 12 = .ok (.iload_n 2, 1) := by decide +kernel
theorem dX9_singPiece_13 : decode cX9_singPiece 13 = .ok (.iconst 4, 1) := by decide +kernel
theorem dX9_singPiece_14 : decode cX9_singPiece 14 = .ok (.if_icmp .ge 49, 3) := by decide +kernel
theorem dX9_singPiece_17 : decode cX9_singPiece 17 = .ok (.iconst 0, 1) := by decide +kernel
theorem dX9_singPiece_18 : decode cX9_singPiece 18 = .ok (.istore_n 3, 1) := by decide +kernel
theorem dX9_singPiece_19 : decode cX9_singPiece 19 = .ok (.iload_n 3, 1) := by decide +kernel
theorem dX9_singPiece_20 : decode cX9_singPiece 20 = .ok (.aload_n 0, 1) := by decide +kernel
theorem dX9_singPiece_21 : decode cX9_singPiece 21 = .ok (.getfield 16, 3) := by decide +kernel
theorem dX9_singPiece_24 : decode cX9_singPiece 24 = .ok (.iconst 4, 1) := by decide +kernel
theorem dX9_singPiece_25 : decode cX9_singPiece 25 = .ok (.iload_n 1, 1) := by decide +kernel
theorem dX9_singPiece_26 : decode cX9_singPiece 26 = .ok (.imul, 1) := by decide +kernel
theorem dX9_singPiece_27 : decode cX9_singPiece 27 = .ok (.iload_n 2, 1) := by decide +kernel
theorem dX9_singPiece_28 : decode cX9_singPiece 28 = .ok (.iadd, 1) := by decide +kernel
theorem dX9_singPiece_29 : decode cX9_singPiece 29 = .ok (.iaload, 1) := by decide +kernel
theorem dX9_singPiece_30 : decode cX9_singPiece 30 = .ok (.if_icmp .ge 27, 3) := by decide +kernel
theorem dX9_singPiece_33 : decode cX9_singPiece 33 = .ok (.aload_n 0, 1) := by decide +kernel
theorem dX9_singPiece_34 : decode cX9_singPiece 34 = .ok (.iload_n 2, 1) := by decide +kernel
theorem dX9_singPiece_35 : decode cX9_singPiece 35 = .ok (.aload_n 0, 1) := by decide +kernel
theorem dX9_singPiece_36 : decode cX9_singPiece 36 = .ok (.getfield 19, 3) := by decide +kernel
theorem dX9_singPiece_39 : decode cX9_singPiece 39 = .ok (.iload_n 1, 1) := by decide +kernel
theorem dX9_singPiece_40 : decode cX9_singPiece 40 = .ok (.iaload, 1) := by decide +kernel
theorem dX9_singPiece_41 : decode cX9_singPiece 41 = .ok (.aload_n 0, 1) := by decide +kernel
theorem dX9_singPiece_42 : decode cX9_singPiece 42 = .ok (.getfield 22, 3) := by decide +kernel
theorem dX9_singPiece_45 : decode cX9_singPiece 45 = .ok (.iload_n 1, 1) := by decide +kernel
theorem dX9_singPiece_46 : decode cX9_singPiece 46 = .ok (.iaload, 1) := by decide +kernel
theorem dX9_singPiece_47 : decode cX9_singPiece 47 = .ok (.imul, 1) := by decide +kernel
theorem dX9_singPiece_48 : decode cX9_singPiece 48 = .ok (.invokevirtual 169, 3) := by decide +kernel
theorem dX9_singPiece_51 : decode cX9_singPiece 51 = .ok (.iinc 3 1, 3) := by decide +kernel
theorem dX9_singPiece_54 : decode cX9_singPiece 54 = .ok (.goto (-35), 3) := by decide +kernel
theorem dX9_singPiece_57 : decode cX9_singPiece 57 = .ok (.iinc 2 1, 3) := by decide +kernel
theorem dX9_singPiece_60 : decode cX9_singPiece 60 = .ok (.goto (-48), 3) := by decide +kernel
theorem dX9_singPiece_63 : decode cX9_singPiece 63 = .ok (.return_, 1) := by decide +kernel
theorem dX9_endEvening_0 : decode cX9_endEvening 0 = .ok (.iconst 0, 1) := by decide +kernel
theorem dX9_endEvening_1 : decode cX9_endEvening 1 = .ok (.istore_n 1, 1) := by decide +kernel
theorem dX9_endEvening_2 : decode cX9_endEvening 2 = .ok (.iload_n 1, 1) := by decide +kernel
theorem dX9_endEvening_3 : decode cX9_endEvening 3 = .ok (.bipush 8, 2) := by decide +kernel
theorem dX9_endEvening_5 : decode cX9_endEvening 5 = .ok (.if_icmp .ge 96, 3) := by decide +kernel
theorem dX9_endEvening_8 : decode cX9_endEvening 8 = .ok (.aload_n 0, 1) := by decide +kernel
theorem dX9_endEvening_9 : decode cX9_endEvening 9 = .ok (.iload_n 1, 1) := by decide +kernel
theorem dX9_endEvening_10 : decode cX9_endEvening 10 = .ok (.invokevirtual 99, 3) := by decide +kernel
theorem dX9_endEvening_13 : decode cX9_endEvening 13 = .ok (.ifCond .eq 30, 3) := by decide +kernel
theorem dX9_endEvening_16 : decode cX9_endEvening 16 = .ok (.aload_n 0, 1) := by decide +kernel
theorem dX9_endEvening_17 : decode cX9_endEvening 17 = .ok (.getfield 89, 3) := by decide +kernel
theorem dX9_endEvening_20 : decode cX9_endEvening 20 = .ok (.iload_n 1, 1) := by decide +kernel
theorem dX9_endEvening_21 : decode cX9_endEvening 21 = .ok (.ishr, 1) := by decide +kernel
theorem dX9_endEvening_22 : decode cX9_endEvening 22 = .ok (.iconst 1, 1) := by decide +kernel
theorem dX9_endEvening_23 : decode cX9_endEvening 23 = .ok (.iand, 1) := by decide +kernel
theorem dX9_endEvening_24 : decode cX9_endEvening 24 = .ok (.iconst 1, 1) := by decide +kernel
theorem dX9_endEvening_25 : decode cX9_endEvening 25 = .ok (.if_icmp .eq 14, 3) := by decide +kernel
theorem dX9_endEvening_28 : decode cX9_endEvening 28 = .ok (.aload_n 0, 1) := by decide +kernel
theorem dX9_endEvening_29 : decode cX9_endEvening 29 = .ok (.getfield 92, 3) := by decide +kernel
theorem dX9_endEvening_32 : decode cX9_endEvening 32 = .ok (.iload_n 1, 1) := by decide +kernel
theorem dX9_endEvening_33 : decode cX9_endEvening 33 = .ok (.ishr, 1) := by decide +kernel
theorem dX9_endEvening_34 : decode cX9_endEvening 34 = .ok (.iconst 1, 1) := by decide +kernel
theorem dX9_endEvening_35 : decode cX9_endEvening 35 = .ok (.iand, 1) := by decide +kernel
theorem dX9_endEvening_36 : decode cX9_endEvening 36 = .ok (.ifCond .ne 7, 3) := by decide +kernel
theorem dX9_endEvening_39 : decode cX9_endEvening 39 = .ok (.iconst 1, 1) := by decide +kernel
theorem dX9_endEvening_40 : decode cX9_endEvening 40 = .ok (.goto 4, 3) := by decide +kernel
theorem dX9_endEvening_43 : decode cX9_endEvening 43 = .ok (.iconst 0, 1) := by decide +kernel
theorem dX9_endEvening_44 : decode cX9_endEvening 44 = .ok (.istore_n 2, 1) := by decide +kernel
theorem dX9_endEvening_45 : decode cX9_endEvening 45 = .ok (.iload_n 2, 1) := by decide +kernel
theorem dX9_endEvening_46 : decode cX9_endEvening 46 = .ok (.ifCond .eq 22, 3) := by decide +kernel
theorem dX9_endEvening_49 : decode cX9_endEvening 49 = .ok (.aload_n 0, 1) := by decide +kernel
theorem dX9_endEvening_50 : decode cX9_endEvening 50 = .ok (.getfield 13, 3) := by decide +kernel
theorem dX9_endEvening_53 : decode cX9_endEvening 53 = .ok (.iload_n 1, 1) := by decide +kernel
theorem dX9_endEvening_54 : decode cX9_endEvening 54 = .ok (.iaload, 1) := by decide +kernel
theorem dX9_endEvening_55 : decode cX9_endEvening 55 = .ok (.aload_n 0, 1) := by decide +kernel
theorem dX9_endEvening_56 : decode cX9_endEvening 56 = .ok (.getfield 13, 3) := by decide +kernel
theorem dX9_endEvening_59 : decode cX9_endEvening 59 = .ok (.iload_n 1, 1) := by decide +kernel
theorem dX9_endEvening_60 : decode cX9_endEvening 60 = .ok (.iaload, 1) := by decide +kernel
theorem dX9_endEvening_61 : decode cX9_endEvening 61 = .ok (.bipush 10, 2) := by decide +kernel
theorem dX9_endEvening_63 : decode cX9_endEvening 63 = .ok (.idiv, 1) := by decide +kernel
theorem dX9_endEvening_64 : decode cX9_endEvening 64 = .ok (.iadd, 1) := by decide +kernel
theorem dX9_endEvening_65 : decode cX9_endEvening 65 = .ok (.goto 9, 3) := by decide +kernel
theorem dX9_endEvening_68 : decode cX9_endEvening 68 = .ok (.aload_n 0, 1) := by decide +kernel
theorem dX9_endEvening_69 : decode cX9_endEvening 69 = .ok (.getfield 13, 3) := by decide +kernel
theorem dX9_endEvening_72 : decode cX9_endEvening 72 = .ok (.iload_n 1, 1) := by decide +kernel
theorem dX9_endEvening_73 : decode cX9_endEvening 73 = .ok (.iaload, 1) := by decide +kernel
theorem dX9_endEvening_74 : decode cX9_endEvening 74 = .ok (.istore_n 3, 1) := by decide +kernel
theorem dX9_endEvening_75 : decode cX9_endEvening 75 = .ok (.aload_n 0, 1) := by decide +kernel
theorem dX9_endEvening_76 : decode cX9_endEvening 76 = .ok (.getfield 13, 3) := by decide +kernel
theorem dX9_endEvening_79 : decode cX9_endEvening 79 = .ok (.iload_n 1, 1) := by decide +kernel
theorem dX9_endEvening_80 : decode cX9_endEvening 80 = .ok (.iload_n 3, 1) := by decide +kernel
theorem dX9_endEvening_81 : decode cX9_endEvening 81 = .ok (.sipush 999, 3) := by decide +kernel
theorem dX9_endEvening_84 : decode cX9_endEvening 84 = .ok (.if_icmp .le 9, 3) := by decide +kernel
theorem dX9_endEvening_87 : decode cX9_endEvening 87 = .ok (.sipush 999, 3) := by decide +kernel
theorem dX9_endEvening_90 : decode cX9_endEvening 90 = .ok (.goto 4, 3) := by decide +kernel
theorem dX9_endEvening_93 : decode cX9_endEvening 93 = .ok (.iload_n 3, 1) := by decide +kernel
theorem dX9_endEvening_94 : decode cX9_endEvening 94 = .ok (.iastore, 1) := by decide +kernel
theorem dX9_endEvening_95 : decode cX9_endEvening 95 = .ok (.iinc 1 1, 3) := by decide +kernel
theorem dX9_endEvening_98 : decode cX9_endEvening 98 = .ok (.goto (-96), 3) := by decide +kernel
theorem dX9_endEvening_101 : decode cX9_endEvening 101 = .ok (.aload_n 0, 1) := by decide +kernel
theorem dX9_endEvening_102 : decode cX9_endEvening 102 = .ok (.iconst 0, 1) := by decide +kernel
theorem dX9_endEvening_103 : decode cX9_endEvening 103 = .ok (.putfield 92, 3) := by decide +kernel
theorem dX9_endEvening_106 : decode cX9_endEvening 106 = .ok (.aload_n 0, 1) := by decide +kernel
theorem dX9_endEvening_107 : decode cX9_endEvening 107 = .ok (.dup, 1) := by decide +kernel
theorem dX9_endEvening_108 : decode cX9_endEvening 108 = .ok (.getfield 154, 3) := by decide +kernel
theorem dX9_endEvening_111 : decode cX9_endEvening 111 = .ok (.iconst 1, 1) := by decide +kernel
theorem dX9_endEvening_112 : decode cX9_endEvening 112 = .ok (.iadd, 1) := by decide +kernel
theorem dX9_endEvening_113 : decode cX9_endEvening 113 = .ok (.putfield 154, 3) := by decide +kernel
theorem dX9_endEvening_116 : decode cX9_endEvening 116 = .ok (.return_, 1) := by decide +kernel
theorem dX9_happen_0 : decode cX9_happen 0 = .ok (.iload_n 1, 1) := by decide +kernel
theorem dX9_happen_1 : decode cX9_happen 1 = .ok (.tableswitch 106 0 4 #[35, 43, 56, 71, 96], 35) := by decide +kernel
theorem dX9_happen_36 : decode cX9_happen 36 = .ok (.aload_n 0, 1) := by decide +kernel
theorem dX9_happen_37 : decode cX9_happen 37 = .ok (.iload_n 2, 1) := by decide +kernel
theorem dX9_happen_38 : decode cX9_happen 38 = .ok (.invokevirtual 173, 3) := by decide +kernel
theorem dX9_happen_41 : decode cX9_happen 41 = .ok (.goto 70, 3) := by decide +kernel
theorem dX9_happen_44 : decode cX9_happen 44 = .ok (.aload_n 0, 1) := by decide +kernel
theorem dX9_happen_45 : decode cX9_happen 45 = .ok (.getfield 13, 3) := by decide +kernel
theorem dX9_happen_48 : decode cX9_happen 48 = .ok (.iload_n 2, 1) := by decide +kernel
theorem dX9_happen_49 : decode cX9_happen 49 = .ok (.dup2, 1) := by decide +kernel
theorem dX9_happen_50 : decode cX9_happen 50 = .ok (.iaload, 1) := by decide +kernel
theorem dX9_happen_51 : decode cX9_happen 51 = .ok (.iload_n 3, 1) := by decide +kernel
theorem dX9_happen_52 : decode cX9_happen 52 = .ok (.iadd, 1) := by decide +kernel
theorem dX9_happen_53 : decode cX9_happen 53 = .ok (.iastore, 1) := by decide +kernel
theorem dX9_happen_54 : decode cX9_happen 54 = .ok (.goto 57, 3) := by decide +kernel
theorem dX9_happen_57 : decode cX9_happen 57 = .ok (.aload_n 0, 1) := by decide +kernel
theorem dX9_happen_58 : decode cX9_happen 58 = .ok (.dup, 1) := by decide +kernel
theorem dX9_happen_59 : decode cX9_happen 59 = .ok (.getfield 89, 3) := by decide +kernel
theorem dX9_happen_62 : decode cX9_happen 62 = .ok (.iconst 1, 1) := by decide +kernel
theorem dX9_happen_63 : decode cX9_happen 63 = .ok (.iload_n 2, 1) := by decide +kernel
theorem dX9_happen_64 : decode cX9_happen 64 = .ok (.ishl, 1) := by decide +kernel
theorem dX9_happen_65 : decode cX9_happen 65 = .ok (.ixor, 1) := by decide +kernel
theorem dX9_happen_66 : decode cX9_happen 66 = .ok (.putfield 89, 3) := by decide +kernel
theorem dX9_happen_69 : decode cX9_happen 69 = .ok (.goto 42, 3) := by decide +kernel
theorem dX9_happen_72 : decode cX9_happen 72 = .ok (.aload_n 0, 1) := by decide +kernel
theorem dX9_happen_73 : decode cX9_happen 73 = .ok (.getfield 13, 3) := by decide +kernel
theorem dX9_happen_76 : decode cX9_happen 76 = .ok (.iload_n 3, 1) := by decide +kernel
theorem dX9_happen_77 : decode cX9_happen 77 = .ok (.dup2, 1) := by decide +kernel
theorem dX9_happen_78 : decode cX9_happen 78 = .ok (.iaload, 1) := by decide +kernel
theorem dX9_happen_79 : decode cX9_happen 79 = .ok (.aload_n 0, 1) := by decide +kernel
theorem dX9_happen_80 : decode cX9_happen 80 = .ok (.getfield 13, 3) := by decide +kernel
theorem dX9_happen_83 : decode cX9_happen 83 = .ok (.iload_n 2, 1) := by decide +kernel
theorem dX9_happen_84 : decode cX9_happen 84 = .ok (.iaload, 1) := by decide +kernel
theorem dX9_happen_85 : decode cX9_happen 85 = .ok (.iadd, 1) := by decide +kernel
theorem dX9_happen_86 : decode cX9_happen 86 = .ok (.iastore, 1) := by decide +kernel
theorem dX9_happen_87 : decode cX9_happen 87 = .ok (.aload_n 0, 1) := by decide +kernel
theorem dX9_happen_88 : decode cX9_happen 88 = .ok (.getfield 13, 3) := by decide +kernel
theorem dX9_happen_91 : decode cX9_happen 91 = .ok (.iload_n 2, 1) := by decide +kernel
theorem dX9_happen_92 : decode cX9_happen 92 = .ok (.iconst 0, 1) := by decide +kernel
theorem dX9_happen_93 : decode cX9_happen 93 = .ok (.iastore, 1) := by decide +kernel
theorem dX9_happen_94 : decode cX9_happen 94 = .ok (.goto 17, 3) := by decide +kernel
theorem dX9_happen_97 : decode cX9_happen 97 = .ok (.aload_n 0, 1) := by decide +kernel
theorem dX9_happen_98 : decode cX9_happen 98 = .ok (.getfield 13, 3) := by decide +kernel
theorem dX9_happen_101 : decode cX9_happen 101 = .ok (.iload_n 2, 1) := by decide +kernel
theorem dX9_happen_102 : decode cX9_happen 102 = .ok (.iconst 0, 1) := by decide +kernel
theorem dX9_happen_103 : decode cX9_happen 103 = .ok (.iastore, 1) := by decide +kernel
theorem dX9_happen_104 : decode cX9_happen 104 = .ok (.goto 7, 3) := by decide +kernel
theorem dX9_happen_107 : decode cX9_happen 107 = .ok (.aload_n 0, 1) := by decide +kernel
theorem dX9_happen_108 : decode cX9_happen 108 = .ok (.invokevirtual 177, 3) := by decide +kernel
theorem dX9_happen_111 : decode cX9_happen 111 = .ok (.return_, 1) := by decide +kernel
theorem dX9_keepNow_0 : decode cX9_keepNow 0 = .ok (.iconst 0, 1) := by decide +kernel
theorem dX9_keepNow_1 : decode cX9_keepNow 1 = .ok (.istore_n 1, 1) := by decide +kernel
theorem dX9_keepNow_2 : decode cX9_keepNow 2 = .ok (.iload_n 1, 1) := by decide +kernel
theorem dX9_keepNow_3 : decode cX9_keepNow 3 = .ok (.bipush 8, 2) := by decide +kernel
theorem dX9_keepNow_5 : decode cX9_keepNow 5 = .ok (.if_icmp .ge 21, 3) := by decide +kernel
theorem dX9_keepNow_8 : decode cX9_keepNow 8 = .ok (.aload_n 0, 1) := by decide +kernel
theorem dX9_keepNow_9 : decode cX9_keepNow 9 = .ok (.getfield 43, 3) := by decide +kernel
theorem dX9_keepNow_12 : decode cX9_keepNow 12 = .ok (.iload_n 1, 1) := by decide +kernel
theorem dX9_keepNow_13 : decode cX9_keepNow 13 = .ok (.aload_n 0, 1) := by decide +kernel
theorem dX9_keepNow_14 : decode cX9_keepNow 14 = .ok (.getfield 13, 3) := by decide +kernel
theorem dX9_keepNow_17 : decode cX9_keepNow 17 = .ok (.iload_n 1, 1) := by decide +kernel
theorem dX9_keepNow_18 : decode cX9_keepNow 18 = .ok (.iaload, 1) := by decide +kernel
theorem dX9_keepNow_19 : decode cX9_keepNow 19 = .ok (.iastore, 1) := by decide +kernel
theorem dX9_keepNow_20 : decode cX9_keepNow 20 = .ok (.iinc 1 1, 3) := by decide +kernel
theorem dX9_keepNow_23 : decode cX9_keepNow 23 = .ok (.goto (-21), 3) := by decide +kernel
theorem dX9_keepNow_26 : decode cX9_keepNow 26 = .ok (.aload_n 0, 1) := by decide +kernel
theorem dX9_keepNow_27 : decode cX9_keepNow 27 = .ok (.getfield 43, 3) := by decide +kernel
theorem dX9_keepNow_30 : decode cX9_keepNow 30 = .ok (.bipush 8, 2) := by decide +kernel
theorem dX9_keepNow_32 : decode cX9_keepNow 32 = .ok (.aload_n 0, 1) := by decide +kernel
theorem dX9_keepNow_33 : decode cX9_keepNow 33 = .ok (.getfield 89, 3) := by decide +kernel
theorem dX9_keepNow_36 : decode cX9_keepNow 36 = .ok (.iastore, 1) := by decide +kernel
theorem dX9_keepNow_37 : decode cX9_keepNow 37 = .ok (.aload_n 0, 1) := by decide +kernel
theorem dX9_keepNow_38 : decode cX9_keepNow 38 = .ok (.getfield 43, 3) := by decide +kernel
theorem dX9_keepNow_41 : decode cX9_keepNow 41 = .ok (.bipush 9, 2) := by decide +kernel
theorem dX9_keepNow_43 : decode cX9_keepNow 43 = .ok (.aload_n 0, 1) := by decide +kernel
theorem dX9_keepNow_44 : decode cX9_keepNow 44 = .ok (.getfield 92, 3) := by decide +kernel
theorem dX9_keepNow_47 : decode cX9_keepNow 47 = .ok (.iastore, 1) := by decide +kernel
theorem dX9_keepNow_48 : decode cX9_keepNow 48 = .ok (.aload_n 0, 1) := by decide +kernel
theorem dX9_keepNow_49 : decode cX9_keepNow 49 = .ok (.getfield 43, 3) := by decide +kernel
theorem dX9_keepNow_52 : decode cX9_keepNow 52 = .ok (.bipush 10, 2) := by decide +kernel
theorem dX9_keepNow_54 : decode cX9_keepNow 54 = .ok (.aload_n 0, 1) := by decide +kernel
theorem dX9_keepNow_55 : decode cX9_keepNow 55 = .ok (.getfield 154, 3) := by decide +kernel
theorem dX9_keepNow_58 : decode cX9_keepNow 58 = .ok (.iastore, 1) := by decide +kernel
theorem dX9_keepNow_59 : decode cX9_keepNow 59 = .ok (.return_, 1) := by decide +kernel
theorem dX9_back_0 : decode cX9_back 0 = .ok (.iconst 0, 1) := by decide +kernel
theorem dX9_back_1 : decode cX9_back 1 = .ok (.istore_n 2, 1) := by decide +kernel
theorem dX9_back_2 : decode cX9_back 2 = .ok (.iload_n 2, 1) := by decide +kernel
theorem dX9_back_3 : decode cX9_back 3 = .ok (.bipush 8, 2) := by decide +kernel
theorem dX9_back_5 : decode cX9_back 5 = .ok (.if_icmp .ge 21, 3) := by decide +kernel
theorem dX9_back_8 : decode cX9_back 8 = .ok (.aload_n 0, 1) := by decide +kernel
theorem dX9_back_9 : decode cX9_back 9 = .ok (.getfield 13, 3) := by decide +kernel
theorem dX9_back_12 : decode cX9_back 12 = .ok (.iload_n 2, 1) := by decide +kernel
theorem dX9_back_13 : decode cX9_back 13 = .ok (.aload_n 0, 1) := by decide +kernel
theorem dX9_back_14 : decode cX9_back 14 = .ok (.getfield 43, 3) := by decide +kernel
theorem dX9_back_17 : decode cX9_back 17 = .ok (.iload_n 2, 1) := by decide +kernel
theorem dX9_back_18 : decode cX9_back 18 = .ok (.iaload, 1) := by decide +kernel
theorem dX9_back_19 : decode cX9_back 19 = .ok (.iastore, 1) := by decide +kernel
theorem dX9_back_20 : decode cX9_back 20 = .ok (.iinc 2 1, 3) := by decide +kernel
theorem dX9_back_23 : decode cX9_back 23 = .ok (.goto (-21), 3) := by decide +kernel
theorem dX9_back_26 : decode cX9_back 26 = .ok (.aload_n 0, 1) := by decide +kernel
theorem dX9_back_27 : decode cX9_back 27 = .ok (.aload_n 0, 1) := by decide +kernel
theorem dX9_back_28 : decode cX9_back 28 = .ok (.getfield 43, 3) := by decide +kernel
theorem dX9_back_31 : decode cX9_back 31 = .ok (.bipush 8, 2) := by decide +kernel
theorem dX9_back_33 : decode cX9_back 33 = .ok (.iaload, 1) := by decide +kernel
theorem dX9_back_34 : decode cX9_back 34 = .ok (.putfield 89, 3) := by decide +kernel
theorem dX9_back_37 : decode cX9_back 37 = .ok (.aload_n 0, 1) := by decide +kernel
theorem dX9_back_38 : decode cX9_back 38 = .ok (.aload_n 0, 1) := by decide +kernel
theorem dX9_back_39 : decode cX9_back 39 = .ok (.getfield 43, 3) := by decide +kernel
theorem dX9_back_42 : decode cX9_back 42 = .ok (.bipush 9, 2) := by decide +kernel
theorem dX9_back_44 : decode cX9_back 44 = .ok (.iaload, 1) := by decide +kernel
theorem dX9_back_45 : decode cX9_back 45 = .ok (.putfield 92, 3) := by decide +kernel
theorem dX9_back_48 : decode cX9_back 48 = .ok (.aload_n 0, 1) := by decide +kernel
theorem dX9_back_49 : decode cX9_back 49 = .ok (.aload_n 0, 1) := by decide +kernel
theorem dX9_back_50 : decode cX9_back 50 = .ok (.getfield 43, 3) := by decide +kernel
theorem dX9_back_53 : decode cX9_back 53 = .ok (.bipush 10, 2) := by decide +kernel
theorem dX9_back_55 : decode cX9_back 55 = .ok (.iaload, 1) := by decide +kernel
theorem dX9_back_56 : decode cX9_back 56 = .ok (.putfield 154, 3) := by decide +kernel
theorem dX9_back_59 : decode cX9_back 59 = .ok (.iload_n 1, 1) := by decide +kernel
theorem dX9_back_60 : decode cX9_back 60 = .ok (.ireturn, 1) := by decide +kernel
theorem dX9_owing_0 : decode cX9_owing 0 = .ok (.iconst 0, 1) := by decide +kernel
theorem dX9_owing_1 : decode cX9_owing 1 = .ok (.istore_n 1, 1) := by decide +kernel
theorem dX9_owing_2 : decode cX9_owing 2 = .ok (.iconst 0, 1) := by decide +kernel
theorem dX9_owing_3 : decode cX9_owing 3 = .ok (.istore_n 2, 1) := by decide +kernel
theorem dX9_owing_4 : decode cX9_owing 4 = .ok (.iload_n 2, 1) := by decide +kernel
theorem dX9_owing_5 : decode cX9_owing 5 = .ok (.bipush 8, 2) := by decide +kernel
theorem dX9_owing_7 : decode cX9_owing 7 = .ok (.if_icmp .ge 36, 3) := by decide +kernel
theorem dX9_owing_10 : decode cX9_owing 10 = .ok (.iload_n 1, 1) := by decide +kernel
theorem dX9_owing_11 : decode cX9_owing 11 = .ok (.aload_n 0, 1) := by decide +kernel
theorem dX9_owing_12 : decode cX9_owing 12 = .ok (.iload_n 2, 1) := by decide +kernel
theorem dX9_owing_13 : decode cX9_owing 13 = .ok (.invokevirtual 99, 3) := by decide +kernel
theorem dX9_owing_16 : decode cX9_owing 16 = .ok (.ifCond .eq 18, 3) := by decide +kernel
theorem dX9_owing_19 : decode cX9_owing 19 = .ok (.aload_n 0, 1) := by decide +kernel
theorem dX9_owing_20 : decode cX9_owing 20 = .ok (.getfield 13, 3) := by decide +kernel
theorem dX9_owing_23 : decode cX9_owing 23 = .ok (.iload_n 2, 1) := by decide +kernel
theorem dX9_owing_24 : decode cX9_owing 24 = .ok (.iaload, 1) := by decide +kernel
theorem dX9_owing_25 : decode cX9_owing 25 = .ok (.ifCond .le 9, 3) := by decide +kernel
theorem dX9_owing_28 : decode cX9_owing 28 = .ok (.iconst 1, 1) := by decide +kernel
theorem dX9_owing_29 : decode cX9_owing 29 = .ok (.iload_n 2, 1) := by decide +kernel
theorem dX9_owing_30 : decode cX9_owing 30 = .ok (.ishl, 1) := by decide +kernel
theorem dX9_owing_31 : decode cX9_owing 31 = .ok (.goto 4, 3) := by decide +kernel
theorem dX9_owing_34 : decode cX9_owing 34 = .ok (.iconst 0, 1) := by decide +kernel
theorem dX9_owing_35 : decode cX9_owing 35 = .ok (.ior, 1) := by decide +kernel
theorem dX9_owing_36 : decode cX9_owing 36 = .ok (.istore_n 1, 1) := by decide +kernel
theorem dX9_owing_37 : decode cX9_owing 37 = .ok (.iinc 2 1, 3) := by decide +kernel
theorem dX9_owing_40 : decode cX9_owing 40 = .ok (.goto (-36), 3) := by decide +kernel
theorem dX9_owing_43 : decode cX9_owing 43 = .ok (.iload_n 1, 1) := by decide +kernel
theorem dX9_owing_44 : decode cX9_owing 44 = .ok (.ireturn, 1) := by decide +kernel
theorem dX9_leastOf_0 : decode cX9_leastOf 0 = .ok (.iconst 0, 1) := by decide +kernel
theorem dX9_leastOf_1 : decode cX9_leastOf 1 = .ok (.istore_n 1, 1) := by decide +kernel
theorem dX9_leastOf_2 : decode cX9_leastOf 2 = .ok (.iload_n 0, 1) := by decide +kernel
theorem dX9_leastOf_3 : decode cX9_leastOf 3 = .ok (.iload_n 1, 1) := by decide +kernel
theorem dX9_leastOf_4 : decode cX9_leastOf 4 = .ok (.ishr, 1) := by decide +kernel
theorem dX9_leastOf_5 : decode cX9_leastOf 5 = .ok (.iconst 1, 1) := by decide +kernel
theorem dX9_leastOf_6 : decode cX9_leastOf 6 = .ok (.iand, 1) := by decide +kernel
theorem dX9_leastOf_7 : decode cX9_leastOf 7 = .ok (.ifCond .ne 9, 3) := by decide +kernel
theorem dX9_leastOf_10 : decode cX9_leastOf 10 = .ok (.iinc 1 1, 3) := by decide +kernel
theorem dX9_leastOf_13 : decode cX9_leastOf 13 = .ok (.goto (-11), 3) := by decide +kernel
theorem dX9_leastOf_16 : decode cX9_leastOf 16 = .ok (.iload_n 1, 1) := by decide +kernel
theorem dX9_leastOf_17 : decode cX9_leastOf 17 = .ok (.ireturn, 1) := by decide +kernel
theorem dX9_goEvenings_0 : decode cX9_goEvenings 0 = .ok (.aload_n 0, 1) := by decide +kernel
theorem dX9_goEvenings_1 : decode cX9_goEvenings 1 = .ok (.iconst 0, 1) := by decide +kernel
theorem dX9_goEvenings_2 : decode cX9_goEvenings 2 = .ok (.putfield 163, 3) := by decide +kernel
theorem dX9_goEvenings_5 : decode cX9_goEvenings 5 = .ok (.aload_n 0, 1) := by decide +kernel
theorem dX9_goEvenings_6 : decode cX9_goEvenings 6 = .ok (.iconst 0, 1) := by decide +kernel
theorem dX9_goEvenings_7 : decode cX9_goEvenings 7 = .ok (.putfield 166, 3) := by decide +kernel
theorem dX9_goEvenings_10 : decode cX9_goEvenings 10 = .ok (.aload_n 0, 1) := by decide +kernel
theorem dX9_goEvenings_11 : decode cX9_goEvenings 11 = .ok (.bipush (-6), 2) := by decide +kernel
theorem dX9_goEvenings_13 : decode cX9_goEvenings 13 = .ok (.putfield 180, 3) := by decide +kernel
theorem dX9_goEvenings_16 : decode cX9_goEvenings 16 = .ok (.aload_n 0, 1) := by decide +kernel
theorem dX9_goEvenings_17 : decode cX9_goEvenings 17 = .ok (.bipush (-6), 2) := by decide +kernel
theorem dX9_goEvenings_19 : decode cX9_goEvenings 19 = .ok (.putfield 183, 3) := by decide +kernel
theorem dX9_goEvenings_22 : decode cX9_goEvenings 22 = .ok (.aload_n 0, 1) := by decide +kernel
theorem dX9_goEvenings_23 : decode cX9_goEvenings 23 = .ok (.bipush (-6), 2) := by decide +kernel
theorem dX9_goEvenings_25 : decode cX9_goEvenings 25 = .ok (.putfield 186, 3) := by decide +kernel
theorem dX9_goEvenings_28 : decode cX9_goEvenings 28 = .ok (.aload_n 0, 1) := by decide +kernel
theorem dX9_goEvenings_29 : decode cX9_goEvenings 29 = .ok (.bipush (-6), 2) := by decide +kernel
theorem dX9_goEvenings_31 : decode cX9_goEvenings 31 = .ok (.putfield 189, 3) := by decide +kernel
theorem dX9_goEvenings_34 : decode cX9_goEvenings 34 = .ok (.iconst 0, 1) := by decide +kernel
theorem dX9_goEvenings_35 : decode cX9_goEvenings 35 = .ok (.istore_n 1, 1) := by decide +kernel
theorem dX9_goEvenings_36 : decode cX9_goEvenings 36 = .ok (.iload_n 1, 1) := by decide +kernel
theorem dX9_goEvenings_37 : decode cX9_goEvenings 37 = .ok (.aload_n 0, 1) := by decide +kernel
theorem dX9_goEvenings_38 : decode cX9_goEvenings 38 = .ok (.getfield 121, 3) := by decide +kernel
theorem dX9_goEvenings_41 : decode cX9_goEvenings 41 = .ok (.if_icmp .ge 76, 3) := by decide +kernel
theorem dX9_goEvenings_44 : decode cX9_goEvenings 44 = .ok (.aload_n 0, 1) := by decide +kernel
theorem dX9_goEvenings_45 : decode cX9_goEvenings 45 = .ok (.getfield 180, 3) := by decide +kernel
theorem dX9_goEvenings_48 : decode cX9_goEvenings 48 = .ok (.ifCond .ge 69, 3) := by decide +kernel
theorem dX9_goEvenings_51 : decode cX9_goEvenings 51 = .ok (.aload_n 0, 1) := by decide +kernel
theorem dX9_goEvenings_52 : decode cX9_goEvenings 52 = .ok (.aload_n 0, 1) := by decide +kernel
theorem dX9_goEvenings_53 : decode cX9_goEvenings 53 = .ok (.getfield 34, 3) := by decide +kernel
theorem dX9_goEvenings_56 : decode cX9_goEvenings 56 = .ok (.iload_n 1, 1) := by decide +kernel
theorem dX9_goEvenings_57 : decode cX9_goEvenings 57 = .ok (.iaload, 1) := by decide +kernel
theorem dX9_goEvenings_58 : decode cX9_goEvenings 58 = .ok (.aload_n 0, 1) := by decide +kernel
theorem dX9_goEvenings_59 : decode cX9_goEvenings 59 = .ok (.getfield 37, 3) := by decide +kernel
theorem dX9_goEvenings_62 : decode cX9_goEvenings 62 = .ok (.iload_n 1, 1) := by decide +kernel
theorem dX9_goEvenings_63 : decode cX9_goEvenings 63 = .ok (.iaload, 1) := by decide +kernel
theorem dX9_goEvenings_64 : decode cX9_goEvenings 64 = .ok (.aload_n 0, 1) := by decide +kernel
theorem dX9_goEvenings_65 : decode cX9_goEvenings 65 = .ok (.getfield 40, 3) := by decide +kernel
theorem dX9_goEvenings_68 : decode cX9_goEvenings 68 = .ok (.iload_n 1, 1) := by decide +kernel
theorem dX9_goEvenings_69 : decode cX9_goEvenings 69 = .ok (.iaload, 1) := by decide +kernel
theorem dX9_goEvenings_70 : decode cX9_goEvenings 70 = .ok (.invokevirtual 192, 3) := by decide +kernel
theorem dX9_goEvenings_73 : decode cX9_goEvenings 73 = .ok (.istore_n 2, 1) := by decide +kernel
theorem dX9_goEvenings_74 : decode cX9_goEvenings 74 = .ok (.aload_n 0, 1) := by decide +kernel
theorem dX9_goEvenings_75 : decode cX9_goEvenings 75 = .ok (.iload_n 2, 1) := by decide +kernel
theorem dX9_goEvenings_76 : decode cX9_goEvenings 76 = .ok (.ifCond .le 7, 3) := by decide +kernel
theorem dX9_goEvenings_79 : decode cX9_goEvenings 79 = .ok (.iload_n 1, 1) := by decide +kernel
theorem dX9_goEvenings_80 : decode cX9_goEvenings 80 = .ok (.goto 5, 3) := by decide +kernel
theorem dX9_goEvenings_83 : decode cX9_goEvenings 83 = .ok (.bipush (-6), 2) := by decide +kernel
theorem dX9_goEvenings_85 : decode cX9_goEvenings 85 = .ok (.putfield 180, 3) := by decide +kernel
theorem dX9_goEvenings_88 : decode cX9_goEvenings 88 = .ok (.aload_n 0, 1) := by decide +kernel
theorem dX9_goEvenings_89 : decode cX9_goEvenings 89 = .ok (.iload_n 2, 1) := by decide +kernel
theorem dX9_goEvenings_90 : decode cX9_goEvenings 90 = .ok (.ifCond .le 7, 3) := by decide +kernel
theorem dX9_goEvenings_93 : decode cX9_goEvenings 93 = .ok (.iload_n 2, 1) := by decide +kernel
theorem dX9_goEvenings_94 : decode cX9_goEvenings 94 = .ok (.goto 5, 3) := by decide +kernel
theorem dX9_goEvenings_97 : decode cX9_goEvenings 97 = .ok (.bipush (-6), 2) := by decide +kernel
theorem dX9_goEvenings_99 : decode cX9_goEvenings 99 = .ok (.putfield 183, 3) := by decide +kernel
theorem dX9_goEvenings_102 : decode cX9_goEvenings 102 = .ok (.iload_n 2, 1) := by decide +kernel
theorem dX9_goEvenings_103 : decode cX9_goEvenings 103 = .ok (.ifCond .ne 8, 3) := by decide +kernel
theorem dX9_goEvenings_106 : decode cX9_goEvenings 106 = .ok (.aload_n 0, 1) := by decide +kernel
theorem dX9_goEvenings_107 : decode cX9_goEvenings 107 = .ok (.iload_n 1, 1) := by decide +kernel
theorem dX9_goEvenings_108 : decode cX9_goEvenings 108 = .ok (.invokevirtual 196, 3) := by decide +kernel
theorem dX9_goEvenings_111 : decode cX9_goEvenings 111 = .ok (.iinc 1 1, 3) := by decide +kernel
theorem dX9_goEvenings_114 : decode cX9_goEvenings 114 = .ok (.goto (-78), 3) := by decide +kernel
theorem dX9_goEvenings_117 : decode cX9_goEvenings 117 = .ok (.return_, 1) := by decide +kernel
theorem dX9_goOne_0 : decode cX9_goOne 0 = .ok (.aload_n 0, 1) := by decide +kernel
theorem dX9_goOne_1 : decode cX9_goOne 1 = .ok (.invokevirtual 199, 3) := by decide +kernel
theorem dX9_goOne_4 : decode cX9_goOne 4 = .ok (.istore_n 2, 1) := by decide +kernel
theorem dX9_goOne_5 : decode cX9_goOne 5 = .ok (.aload_n 0, 1) := by decide +kernel
theorem dX9_goOne_6 : decode cX9_goOne 6 = .ok (.aload_n 0, 1) := by decide +kernel
theorem dX9_goOne_7 : decode cX9_goOne 7 = .ok (.getfield 34, 3) := by decide +kernel
theorem dX9_goOne_10 : decode cX9_goOne 10 = .ok (.iload_n 1, 1) := by decide +kernel
theorem dX9_goOne_11 : decode cX9_goOne 11 = .ok (.iaload, 1) := by decide +kernel
theorem dX9_goOne_12 : decode cX9_goOne 12 = .ok (.aload_n 0, 1) := by decide +kernel
theorem dX9_goOne_13 : decode cX9_goOne 13 = .ok (.getfield 37, 3) := by decide +kernel
theorem dX9_goOne_16 : decode cX9_goOne 16 = .ok (.iload_n 1, 1) := by decide +kernel
theorem dX9_goOne_17 : decode cX9_goOne 17 = .ok (.iaload, 1) := by decide +kernel
theorem dX9_goOne_18 : decode cX9_goOne 18 = .ok (.aload_n 0, 1) := by decide +kernel
theorem dX9_goOne_19 : decode cX9_goOne 19 = .ok (.getfield 40, 3) := by decide +kernel
theorem dX9_goOne_22 : decode cX9_goOne 22 = .ok (.iload_n 1, 1) := by decide +kernel
theorem dX9_goOne_23 : decode cX9_goOne 23 = .ok (.iaload, 1) := by decide +kernel
theorem dX9_goOne_24 : decode cX9_goOne 24 = .ok (.invokevirtual 203, 3) := by decide +kernel
theorem dX9_goOne_27 : decode cX9_goOne 27 = .ok (.iload_n 2, 1) := by decide +kernel
theorem dX9_goOne_28 : decode cX9_goOne 28 = .ok (.aload_n 0, 1) := by decide +kernel
theorem dX9_goOne_29 : decode cX9_goOne 29 = .ok (.invokevirtual 199, 3) := by decide +kernel
theorem dX9_goOne_32 : decode cX9_goOne 32 = .ok (.iconst (-1), 1) := by decide +kernel
theorem dX9_goOne_33 : decode cX9_goOne 33 = .ok (.ixor, 1) := by decide +kernel
theorem dX9_goOne_34 : decode cX9_goOne 34 = .ok (.iand, 1) := by decide +kernel
theorem dX9_goOne_35 : decode cX9_goOne 35 = .ok (.istore_n 3, 1) := by decide +kernel
theorem dX9_goOne_36 : decode cX9_goOne 36 = .ok (.iload_n 3, 1) := by decide +kernel
theorem dX9_goOne_37 : decode cX9_goOne 37 = .ok (.ifCond .eq 23, 3) := by decide +kernel
theorem dX9_goOne_40 : decode cX9_goOne 40 = .ok (.aload_n 0, 1) := by decide +kernel
theorem dX9_goOne_41 : decode cX9_goOne 41 = .ok (.getfield 186, 3) := by decide +kernel
theorem dX9_goOne_44 : decode cX9_goOne 44 = .ok (.ifCond .ge 16, 3) := by decide +kernel
theorem dX9_goOne_47 : decode cX9_goOne 47 = .ok (.aload_n 0, 1) := by decide +kernel
theorem dX9_goOne_48 : decode cX9_goOne 48 = .ok (.iload_n 1, 1) := by decide +kernel
theorem dX9_goOne_49 : decode cX9_goOne 49 = .ok (.putfield 186, 3) := by decide +kernel
theorem dX9_goOne_52 : decode cX9_goOne 52 = .ok (.aload_n 0, 1) := by decide +kernel
theorem dX9_goOne_53 : decode cX9_goOne 53 = .ok (.iload_n 3, 1) := by decide +kernel
theorem dX9_goOne_54 : decode cX9_goOne 54 = .ok (.invokestatic 207, 3) := by decide +kernel
theorem dX9_goOne_57 : decode cX9_goOne 57 = .ok (.putfield 189, 3) := by decide +kernel
theorem dX9_goOne_60 : decode cX9_goOne 60 = .ok (.return_, 1) := by decide +kernel
theorem dX9_refusal_0 : decode cX9_refusal 0 = .ok (.aload_n 0, 1) := by decide +kernel
theorem dX9_refusal_1 : decode cX9_refusal 1 = .ok (.invokevirtual 210, 3) := by decide +kernel
theorem dX9_refusal_4 : decode cX9_refusal 4 = .ok (.aload_n 0, 1) := by decide +kernel
theorem dX9_refusal_5 : decode cX9_refusal 5 = .ok (.invokevirtual 213, 3) := by decide +kernel
theorem dX9_refusal_8 : decode cX9_refusal 8 = .ok (.ifCond .lt 6, 3) := by decide +kernel
theorem dX9_refusal_11 : decode cX9_refusal 11 = .ok (.bipush (-5), 2) := by decide +kernel
theorem dX9_refusal_13 : decode cX9_refusal 13 = .ok (.ireturn, 1) := by decide +kernel
theorem dX9_refusal_14 : decode cX9_refusal 14 = .ok (.aload_n 0, 1) := by decide +kernel
theorem dX9_refusal_15 : decode cX9_refusal 15 = .ok (.invokevirtual 216, 3) := by decide +kernel
theorem dX9_refusal_18 : decode cX9_refusal 18 = .ok (.aload_n 0, 1) := by decide +kernel
theorem dX9_refusal_19 : decode cX9_refusal 19 = .ok (.getfield 180, 3) := by decide +kernel
theorem dX9_refusal_22 : decode cX9_refusal 22 = .ok (.ifCond .lt 8, 3) := by decide +kernel
theorem dX9_refusal_25 : decode cX9_refusal 25 = .ok (.bipush (-3), 2) := by decide +kernel
theorem dX9_refusal_27 : decode cX9_refusal 27 = .ok (.goto 5, 3) := by decide +kernel
theorem dX9_refusal_30 : decode cX9_refusal 30 = .ok (.bipush (-6), 2) := by decide +kernel
theorem dX9_refusal_32 : decode cX9_refusal 32 = .ok (.ireturn, 1) := by decide +kernel
theorem dX9_judge_0 : decode cX9_judge 0 = .ok (.iload_n 1, 1) := by decide +kernel
theorem dX9_judge_1 : decode cX9_judge 1 = .ok (.i2l, 1) := by decide +kernel
theorem dX9_judge_2 : decode cX9_judge 2 = .ok (.lconst 0, 1) := by decide +kernel
theorem dX9_judge_3 : decode cX9_judge 3 = .ok (.ldc2_w 219, 3) := by decide +kernel
theorem dX9_judge_6 : decode cX9_judge 6 = .ok (.invokestatic 77, 3) := by decide +kernel
theorem dX9_judge_9 : decode cX9_judge 9 = .ok (.ifCond .ne 6, 3) := by decide +kernel
theorem dX9_judge_12 : decode cX9_judge 12 = .ok (.bipush (-2), 2) := by decide +kernel
theorem dX9_judge_14 : decode cX9_judge 14 = .ok (.ireturn, 1) := by decide +kernel
theorem dX9_judge_15 : decode cX9_judge 15 = .ok (.aload_n 0, 1) := by decide +kernel
theorem dX9_judge_16 : decode cX9_judge 16 = .ok (.aload_n 0, 1) := by decide +kernel
theorem dX9_judge_17 : decode cX9_judge 17 = .ok (.invokevirtual 221, 3) := by decide +kernel
theorem dX9_judge_20 : decode cX9_judge 20 = .ok (.invokevirtual 224, 3) := by decide +kernel
theorem dX9_judge_23 : decode cX9_judge 23 = .ok (.istore_n 2, 1) := by decide +kernel
theorem dX9_judge_24 : decode cX9_judge 24 = .ok (.iload_n 2, 1) := by decide +kernel
theorem dX9_judge_25 : decode cX9_judge 25 = .ok (.bipush (-5), 2) := by decide +kernel
theorem dX9_judge_27 : decode cX9_judge 27 = .ok (.if_icmp .eq 14, 3) := by decide +kernel
theorem dX9_judge_30 : decode cX9_judge 30 = .ok (.iload_n 1, 1) := by decide +kernel
theorem dX9_judge_31 : decode cX9_judge 31 = .ok (.iconst 1, 1) := by decide +kernel
theorem dX9_judge_32 : decode cX9_judge 32 = .ok (.if_icmp .le 11, 3) := by decide +kernel
theorem dX9_judge_35 : decode cX9_judge 35 = .ok (.iload_n 2, 1) := by decide +kernel
theorem dX9_judge_36 : decode cX9_judge 36 = .ok (.bipush (-3), 2) := by decide +kernel
theorem dX9_judge_38 : decode cX9_judge 38 = .ok (.if_icmp .ne 5, 3) := by decide +kernel
theorem dX9_judge_41 : decode cX9_judge 41 = .ok (.iload_n 2, 1) := by decide +kernel
theorem dX9_judge_42 : decode cX9_judge 42 = .ok (.ireturn, 1) := by decide +kernel
theorem dX9_judge_43 : decode cX9_judge 43 = .ok (.iload_n 1, 1) := by decide +kernel
theorem dX9_judge_44 : decode cX9_judge 44 = .ok (.ifCond .ne 10, 3) := by decide +kernel
theorem dX9_judge_47 : decode cX9_judge 47 = .ok (.aload_n 0, 1) := by decide +kernel
theorem dX9_judge_48 : decode cX9_judge 48 = .ok (.getfield 180, 3) := by decide +kernel
theorem dX9_judge_51 : decode cX9_judge 51 = .ok (.goto 19, 3) := by decide +kernel
theorem dX9_judge_54 : decode cX9_judge 54 = .ok (.iload_n 1, 1) := by decide +kernel
theorem dX9_judge_55 : decode cX9_judge 55 = .ok (.iconst 1, 1) := by decide +kernel
theorem dX9_judge_56 : decode cX9_judge 56 = .ok (.if_icmp .ne 10, 3) := by decide +kernel
theorem dX9_judge_59 : decode cX9_judge 59 = .ok (.aload_n 0, 1) := by decide +kernel
theorem dX9_judge_60 : decode cX9_judge 60 = .ok (.getfield 183, 3) := by decide +kernel
theorem dX9_judge_63 : decode cX9_judge 63 = .ok (.goto 7, 3) := by decide +kernel
theorem dX9_judge_66 : decode cX9_judge 66 = .ok (.aload_n 0, 1) := by decide +kernel
theorem dX9_judge_67 : decode cX9_judge 67 = .ok (.getfield 166, 3) := by decide +kernel
theorem dX9_judge_70 : decode cX9_judge 70 = .ok (.ireturn, 1) := by decide +kernel
theorem dX9_behind_0 : decode cX9_behind 0 = .ok (.aload_n 0, 1) := by decide +kernel
theorem dX9_behind_1 : decode cX9_behind 1 = .ok (.iload_n 1, 1) := by decide +kernel
theorem dX9_behind_2 : decode cX9_behind 2 = .ok (.invokevirtual 99, 3) := by decide +kernel
theorem dX9_behind_5 : decode cX9_behind 5 = .ok (.ifCond .ne 5, 3) := by decide +kernel
theorem dX9_behind_8 : decode cX9_behind 8 = .ok (.iconst (-1), 1) := by decide +kernel
theorem dX9_behind_9 : decode cX9_behind 9 = .ok (.ireturn, 1) := by decide +kernel
theorem dX9_behind_10 : decode cX9_behind 10 = .ok (.iload_n 2, 1) := by decide +kernel
theorem dX9_behind_11 : decode cX9_behind 11 = .ok (.i2l, 1) := by decide +kernel
theorem dX9_behind_12 : decode cX9_behind 12 = .ok (.lconst 0, 1) := by decide +kernel
theorem dX9_behind_13 : decode cX9_behind 13 = .ok (.ldc2_w 219, 3) := by decide +kernel
theorem dX9_behind_16 : decode cX9_behind 16 = .ok (.invokestatic 77, 3) := by decide +kernel
theorem dX9_behind_19 : decode cX9_behind 19 = .ok (.ifCond .ne 6, 3) := by decide +kernel
theorem dX9_behind_22 : decode cX9_behind 22 = .ok (.bipush (-2), 2) := by decide +kernel
theorem dX9_behind_24 : decode cX9_behind 24 = .ok (.ireturn, 1) := by decide +kernel
theorem dX9_behind_25 : decode cX9_behind 25 = .ok (.aload_n 0, 1) := by decide +kernel
theorem dX9_behind_26 : decode cX9_behind 26 = .ok (.invokevirtual 221, 3) := by decide +kernel
theorem dX9_behind_29 : decode cX9_behind 29 = .ok (.istore_n 3, 1) := by decide +kernel
theorem dX9_behind_30 : decode cX9_behind 30 = .ok (.iload_n 2, 1) := by decide +kernel
theorem dX9_behind_31 : decode cX9_behind 31 = .ok (.ifCond .ne 12, 3) := by decide +kernel
theorem dX9_behind_34 : decode cX9_behind 34 = .ok (.aload_n 0, 1) := by decide +kernel
theorem dX9_behind_35 : decode cX9_behind 35 = .ok (.getfield 13, 3) := by decide +kernel
theorem dX9_behind_38 : decode cX9_behind 38 = .ok (.iload_n 1, 1) := by decide +kernel
theorem dX9_behind_39 : decode cX9_behind 39 = .ok (.iaload, 1) := by decide +kernel
theorem dX9_behind_40 : decode cX9_behind 40 = .ok (.goto 23, 3) := by decide +kernel
theorem dX9_behind_43 : decode cX9_behind 43 = .ok (.iload_n 2, 1) := by decide +kernel
theorem dX9_behind_44 : decode cX9_behind 44 = .ok (.iconst 1, 1) := by decide +kernel
theorem dX9_behind_45 : decode cX9_behind 45 = .ok (.if_icmp .ne 10, 3) := by decide +kernel
theorem dX9_behind_48 : decode cX9_behind 48 = .ok (.aload_n 0, 1) := by decide +kernel
theorem dX9_behind_49 : decode cX9_behind 49 = .ok (.getfield 89, 3) := by decide +kernel
theorem dX9_behind_52 : decode cX9_behind 52 = .ok (.goto 7, 3) := by decide +kernel
theorem dX9_behind_55 : decode cX9_behind 55 = .ok (.aload_n 0, 1) := by decide +kernel
theorem dX9_behind_56 : decode cX9_behind 56 = .ok (.getfield 92, 3) := by decide +kernel
theorem dX9_behind_59 : decode cX9_behind 59 = .ok (.iload_n 1, 1) := by decide +kernel
theorem dX9_behind_60 : decode cX9_behind 60 = .ok (.ishr, 1) := by decide +kernel
theorem dX9_behind_61 : decode cX9_behind 61 = .ok (.iconst 1, 1) := by decide +kernel
theorem dX9_behind_62 : decode cX9_behind 62 = .ok (.iand, 1) := by decide +kernel
theorem dX9_behind_63 : decode cX9_behind 63 = .ok (.istore 4, 2) := by decide +kernel
theorem dX9_behind_65 : decode cX9_behind 65 = .ok (.aload_n 0, 1) := by decide +kernel
theorem dX9_behind_66 : decode cX9_behind 66 = .ok (.iload_n 3, 1) := by decide +kernel
theorem dX9_behind_67 : decode cX9_behind 67 = .ok (.bipush (-6), 2) := by decide +kernel
theorem dX9_behind_69 : decode cX9_behind 69 = .ok (.if_icmp .eq 7, 3) := by decide +kernel
theorem dX9_behind_72 : decode cX9_behind 72 = .ok (.iload_n 3, 1) := by decide +kernel
theorem dX9_behind_73 : decode cX9_behind 73 = .ok (.goto 5, 3) := by decide +kernel
theorem dX9_behind_76 : decode cX9_behind 76 = .ok (.iload 4, 2) := by decide +kernel
theorem dX9_behind_78 : decode cX9_behind 78 = .ok (.invokevirtual 224, 3) := by decide +kernel
theorem dX9_behind_81 : decode cX9_behind 81 = .ok (.ireturn, 1) := by decide +kernel
theorem dX9_allDebts_0 : decode cX9_allDebts 0 = .ok (.iconst 0, 1) := by decide +kernel
theorem dX9_allDebts_1 : decode cX9_allDebts 1 = .ok (.istore_n 1, 1) := by decide +kernel
theorem dX9_allDebts_2 : decode cX9_allDebts 2 = .ok (.iconst 0, 1) := by decide +kernel
theorem dX9_allDebts_3 : decode cX9_allDebts 3 = .ok (.istore_n 2, 1) := by decide +kernel
theorem dX9_allDebts_4 : decode cX9_allDebts 4 = .ok (.iload_n 2, 1) := by decide +kernel
theorem dX9_allDebts_5 : decode cX9_allDebts 5 = .ok (.bipush 8, 2) := by decide +kernel
theorem dX9_allDebts_7 : decode cX9_allDebts 7 = .ok (.if_icmp .ge 30, 3) := by decide +kernel
theorem dX9_allDebts_10 : decode cX9_allDebts 10 = .ok (.iload_n 1, 1) := by decide +kernel
theorem dX9_allDebts_11 : decode cX9_allDebts 11 = .ok (.aload_n 0, 1) := by decide +kernel
theorem dX9_allDebts_12 : decode cX9_allDebts 12 = .ok (.iload_n 2, 1) := by decide +kernel
theorem dX9_allDebts_13 : decode cX9_allDebts 13 = .ok (.invokevirtual 99, 3) := by decide +kernel
theorem dX9_allDebts_16 : decode cX9_allDebts 16 = .ok (.ifCond .eq 12, 3) := by decide +kernel
theorem dX9_allDebts_19 : decode cX9_allDebts 19 = .ok (.aload_n 0, 1) := by decide +kernel
theorem dX9_allDebts_20 : decode cX9_allDebts 20 = .ok (.getfield 13, 3) := by decide +kernel
theorem dX9_allDebts_23 : decode cX9_allDebts 23 = .ok (.iload_n 2, 1) := by decide +kernel
theorem dX9_allDebts_24 : decode cX9_allDebts 24 = .ok (.iaload, 1) := by decide +kernel
theorem dX9_allDebts_25 : decode cX9_allDebts 25 = .ok (.goto 4, 3) := by decide +kernel
theorem dX9_allDebts_28 : decode cX9_allDebts 28 = .ok (.iconst 0, 1) := by decide +kernel
theorem dX9_allDebts_29 : decode cX9_allDebts 29 = .ok (.iadd, 1) := by decide +kernel
theorem dX9_allDebts_30 : decode cX9_allDebts 30 = .ok (.istore_n 1, 1) := by decide +kernel
theorem dX9_allDebts_31 : decode cX9_allDebts 31 = .ok (.iinc 2 1, 3) := by decide +kernel
theorem dX9_allDebts_34 : decode cX9_allDebts 34 = .ok (.goto (-30), 3) := by decide +kernel
theorem dX9_allDebts_37 : decode cX9_allDebts 37 = .ok (.iload_n 1, 1) := by decide +kernel
theorem dX9_allDebts_38 : decode cX9_allDebts 38 = .ok (.ireturn, 1) := by decide +kernel
theorem dX9_owed_0 : decode cX9_owed 0 = .ok (.iload_n 1, 1) := by decide +kernel
theorem dX9_owed_1 : decode cX9_owed 1 = .ok (.i2l, 1) := by decide +kernel
theorem dX9_owed_2 : decode cX9_owed 2 = .ok (.lconst 0, 1) := by decide +kernel
theorem dX9_owed_3 : decode cX9_owed 3 = .ok (.lconst 1, 1) := by decide +kernel
theorem dX9_owed_4 : decode cX9_owed 4 = .ok (.invokestatic 77, 3) := by decide +kernel
theorem dX9_owed_7 : decode cX9_owed 7 = .ok (.ifCond .ne 6, 3) := by decide +kernel
theorem dX9_owed_10 : decode cX9_owed 10 = .ok (.bipush (-2), 2) := by decide +kernel
theorem dX9_owed_12 : decode cX9_owed 12 = .ok (.ireturn, 1) := by decide +kernel
theorem dX9_owed_13 : decode cX9_owed 13 = .ok (.aload_n 0, 1) := by decide +kernel
theorem dX9_owed_14 : decode cX9_owed 14 = .ok (.invokevirtual 221, 3) := by decide +kernel
theorem dX9_owed_17 : decode cX9_owed 17 = .ok (.istore_n 2, 1) := by decide +kernel
theorem dX9_owed_18 : decode cX9_owed 18 = .ok (.aload_n 0, 1) := by decide +kernel
theorem dX9_owed_19 : decode cX9_owed 19 = .ok (.iload_n 2, 1) := by decide +kernel
theorem dX9_owed_20 : decode cX9_owed 20 = .ok (.bipush (-6), 2) := by decide +kernel
theorem dX9_owed_22 : decode cX9_owed 22 = .ok (.if_icmp .eq 7, 3) := by decide +kernel
theorem dX9_owed_25 : decode cX9_owed 25 = .ok (.iload_n 2, 1) := by decide +kernel
theorem dX9_owed_26 : decode cX9_owed 26 = .ok (.goto 18, 3) := by decide +kernel
theorem dX9_owed_29 : decode cX9_owed 29 = .ok (.iload_n 1, 1) := by decide +kernel
theorem dX9_owed_30 : decode cX9_owed 30 = .ok (.ifCond .ne 10, 3) := by decide +kernel
theorem dX9_owed_33 : decode cX9_owed 33 = .ok (.aload_n 0, 1) := by decide +kernel
theorem dX9_owed_34 : decode cX9_owed 34 = .ok (.invokevirtual 227, 3) := by decide +kernel
theorem dX9_owed_37 : decode cX9_owed 37 = .ok (.goto 7, 3) := by decide +kernel
theorem dX9_owed_40 : decode cX9_owed 40 = .ok (.aload_n 0, 1) := by decide +kernel
theorem dX9_owed_41 : decode cX9_owed 41 = .ok (.getfield 163, 3) := by decide +kernel
theorem dX9_owed_44 : decode cX9_owed 44 = .ok (.invokevirtual 224, 3) := by decide +kernel
theorem dX9_owed_47 : decode cX9_owed 47 = .ok (.ireturn, 1) := by decide +kernel
theorem dX9_freed_0 : decode cX9_freed 0 = .ok (.iload_n 1, 1) := by decide +kernel
theorem dX9_freed_1 : decode cX9_freed 1 = .ok (.i2l, 1) := by decide +kernel
theorem dX9_freed_2 : decode cX9_freed 2 = .ok (.lconst 0, 1) := by decide +kernel
theorem dX9_freed_3 : decode cX9_freed 3 = .ok (.lconst 1, 1) := by decide +kernel
theorem dX9_freed_4 : decode cX9_freed 4 = .ok (.invokestatic 77, 3) := by decide +kernel
theorem dX9_freed_7 : decode cX9_freed 7 = .ok (.ifCond .ne 6, 3) := by decide +kernel
theorem dX9_freed_10 : decode cX9_freed 10 = .ok (.bipush (-2), 2) := by decide +kernel
theorem dX9_freed_12 : decode cX9_freed 12 = .ok (.ireturn, 1) := by decide +kernel
theorem dX9_freed_13 : decode cX9_freed 13 = .ok (.aload_n 0, 1) := by decide +kernel
theorem dX9_freed_14 : decode cX9_freed 14 = .ok (.aload_n 0, 1) := by decide +kernel
theorem dX9_freed_15 : decode cX9_freed 15 = .ok (.invokevirtual 221, 3) := by decide +kernel
theorem dX9_freed_18 : decode cX9_freed 18 = .ok (.invokevirtual 224, 3) := by decide +kernel
theorem dX9_freed_21 : decode cX9_freed 21 = .ok (.istore_n 2, 1) := by decide +kernel
theorem dX9_freed_22 : decode cX9_freed 22 = .ok (.iload_n 2, 1) := by decide +kernel
theorem dX9_freed_23 : decode cX9_freed 23 = .ok (.bipush (-6), 2) := by decide +kernel
theorem dX9_freed_25 : decode cX9_freed 25 = .ok (.if_icmp .eq 7, 3) := by decide +kernel
theorem dX9_freed_28 : decode cX9_freed 28 = .ok (.iload_n 2, 1) := by decide +kernel
theorem dX9_freed_29 : decode cX9_freed 29 = .ok (.goto 18, 3) := by decide +kernel
theorem dX9_freed_32 : decode cX9_freed 32 = .ok (.iload_n 1, 1) := by decide +kernel
theorem dX9_freed_33 : decode cX9_freed 33 = .ok (.ifCond .ne 10, 3) := by decide +kernel
theorem dX9_freed_36 : decode cX9_freed 36 = .ok (.aload_n 0, 1) := by decide +kernel
theorem dX9_freed_37 : decode cX9_freed 37 = .ok (.getfield 186, 3) := by decide +kernel
theorem dX9_freed_40 : decode cX9_freed 40 = .ok (.goto 7, 3) := by decide +kernel
theorem dX9_freed_43 : decode cX9_freed 43 = .ok (.aload_n 0, 1) := by decide +kernel
theorem dX9_freed_44 : decode cX9_freed 44 = .ok (.getfield 189, 3) := by decide +kernel
theorem dX9_freed_47 : decode cX9_freed 47 = .ok (.ireturn, 1) := by decide +kernel
theorem dX9_done_0 : decode cX9_done 0 = .ok (.aload_n 0, 1) := by decide +kernel
theorem dX9_done_1 : decode cX9_done 1 = .ok (.invokevirtual 221, 3) := by decide +kernel
theorem dX9_done_4 : decode cX9_done 4 = .ok (.istore_n 1, 1) := by decide +kernel
theorem dX9_done_5 : decode cX9_done 5 = .ok (.iload_n 1, 1) := by decide +kernel
theorem dX9_done_6 : decode cX9_done 6 = .ok (.bipush (-6), 2) := by decide +kernel
theorem dX9_done_8 : decode cX9_done 8 = .ok (.if_icmp .eq 9, 3) := by decide +kernel
theorem dX9_done_11 : decode cX9_done 11 = .ok (.aload_n 0, 1) := by decide +kernel
theorem dX9_done_12 : decode cX9_done 12 = .ok (.iload_n 1, 1) := by decide +kernel
theorem dX9_done_13 : decode cX9_done 13 = .ok (.invokevirtual 224, 3) := by decide +kernel
theorem dX9_done_16 : decode cX9_done 16 = .ok (.ireturn, 1) := by decide +kernel
theorem dX9_done_17 : decode cX9_done 17 = .ok (.aload_n 0, 1) := by decide +kernel
theorem dX9_done_18 : decode cX9_done 18 = .ok (.iconst 0, 1) := by decide +kernel
theorem dX9_done_19 : decode cX9_done 19 = .ok (.putfield 118, 3) := by decide +kernel
theorem dX9_done_22 : decode cX9_done 22 = .ok (.aload_n 0, 1) := by decide +kernel
theorem dX9_done_23 : decode cX9_done 23 = .ok (.getfield 121, 3) := by decide +kernel
theorem dX9_done_26 : decode cX9_done 26 = .ok (.ireturn, 1) := by decide +kernel
theorem dX9_may_0 : decode cX9_may 0 = .ok (.iconst 0, 1) := by decide +kernel
theorem dX9_may_1 : decode cX9_may 1 = .ok (.istore_n 1, 1) := by decide +kernel
theorem dX9_may_2 : decode cX9_may 2 = .ok (.iconst 0, 1) := by decide +kernel
theorem dX9_may_3 : decode cX9_may 3 = .ok (.istore_n 2, 1) := by decide +kernel
theorem dX9_may_4 : decode cX9_may 4 = .ok (.iload_n 2, 1) := by decide +kernel
theorem dX9_may_5 : decode cX9_may 5 = .ok (.bipush 6, 2) := by decide +kernel
theorem dX9_may_7 : decode cX9_may 7 = .ok (.if_icmp .ge 27, 3) := by decide +kernel
theorem dX9_may_10 : decode cX9_may 10 = .ok (.iload_n 1, 1) := by decide +kernel
theorem dX9_may_11 : decode cX9_may 11 = .ok (.aload_n 0, 1) := by decide +kernel
theorem dX9_may_12 : decode cX9_may 12 = .ok (.iload_n 2, 1) := by decide +kernel
theorem dX9_may_13 : decode cX9_may 13 = .ok (.invokevirtual 157, 3) := by decide +kernel
theorem dX9_may_16 : decode cX9_may 16 = .ok (.ifCond .eq 9, 3) := by decide +kernel
theorem dX9_may_19 : decode cX9_may 19 = .ok (.iconst 1, 1) := by decide +kernel
theorem dX9_may_20 : decode cX9_may 20 = .ok (.iload_n 2, 1) := by decide +kernel
theorem dX9_may_21 : decode cX9_may 21 = .ok (.ishl, 1) := by decide +kernel
theorem dX9_may_22 : decode cX9_may 22 = .ok (.goto 4, 3) := by decide +kernel
theorem dX9_may_25 : decode cX9_may 25 = .ok (.iconst 0, 1) := by decide +kernel
theorem dX9_may_26 : decode cX9_may 26 = .ok (.ior, 1) := by decide +kernel
theorem dX9_may_27 : decode cX9_may 27 = .ok (.istore_n 1, 1) := by decide +kernel
theorem dX9_may_28 : decode cX9_may 28 = .ok (.iinc 2 1, 3) := by decide +kernel
theorem dX9_may_31 : decode cX9_may 31 = .ok (.goto (-27), 3) := by decide +kernel
theorem dX9_may_34 : decode cX9_may 34 = .ok (.iload_n 1, 1) := by decide +kernel
theorem dX9_may_35 : decode cX9_may 35 = .ok (.ireturn, 1) := by decide +kernel
theorem dX9_behindNight_0 : decode cX9_behindNight 0 = .ok (.iload_n 0, 1) := by decide +kernel
theorem dX9_behindNight_1 : decode cX9_behindNight 1 = .ok (.iload_n 1, 1) := by decide +kernel
theorem dX9_behindNight_2 : decode cX9_behindNight 2 = .ok (.if_icmp .le 9, 3) := by decide +kernel
theorem dX9_behindNight_5 : decode cX9_behindNight 5 = .ok (.iload_n 0, 1) := by decide +kernel
theorem dX9_behindNight_6 : decode cX9_behindNight 6 = .ok (.iload_n 1, 1) := by decide +kernel
theorem dX9_behindNight_7 : decode cX9_behindNight 7 = .ok (.isub, 1) := by decide +kernel
theorem dX9_behindNight_8 : decode cX9_behindNight 8 = .ok (.goto 4, 3) := by decide +kernel
theorem dX9_behindNight_11 : decode cX9_behindNight 11 = .ok (.iconst 0, 1) := by decide +kernel
theorem dX9_behindNight_12 : decode cX9_behindNight 12 = .ok (.istore_n 2, 1) := by decide +kernel
theorem dX9_behindNight_13 : decode cX9_behindNight 13 = .ok (.iload_n 2, 1) := by decide +kernel
theorem dX9_behindNight_14 : decode cX9_behindNight 14 = .ok (.iload_n 2, 1) := by decide +kernel
theorem dX9_behindNight_15 : decode cX9_behindNight 15 = .ok (.bipush 10, 2) := by decide +kernel
theorem dX9_behindNight_17 : decode cX9_behindNight 17 = .ok (.idiv, 1) := by decide +kernel
theorem dX9_behindNight_18 : decode cX9_behindNight 18 = .ok (.iadd, 1) := by decide +kernel
theorem dX9_behindNight_19 : decode cX9_behindNight 19 = .ok (.ireturn, 1) := by decide +kernel
theorem dX9_isFor_0 : decode cX9_isFor 0 = .ok (.aload_n 0, 1) := by decide +kernel
theorem dX9_isFor_1 : decode cX9_isFor 1 = .ok (.getfield 16, 3) := by decide +kernel
theorem dX9_isFor_4 : decode cX9_isFor 4 = .ok (.iconst 4, 1) := by decide +kernel
theorem dX9_isFor_5 : decode cX9_isFor 5 = .ok (.iload_n 1, 1) := by decide +kernel
theorem dX9_isFor_6 : decode cX9_isFor 6 = .ok (.imul, 1) := by decide +kernel
theorem dX9_isFor_7 : decode cX9_isFor 7 = .ok (.aload_n 0, 1) := by decide +kernel
theorem dX9_isFor_8 : decode cX9_isFor 8 = .ok (.getfield 7, 3) := by decide +kernel
theorem dX9_isFor_11 : decode cX9_isFor 11 = .ok (.iload_n 2, 1) := by decide +kernel
theorem dX9_isFor_12 : decode cX9_isFor 12 = .ok (.iaload, 1) := by decide +kernel
theorem dX9_isFor_13 : decode cX9_isFor 13 = .ok (.iadd, 1) := by decide +kernel
theorem dX9_isFor_14 : decode cX9_isFor 14 = .ok (.iaload, 1) := by decide +kernel
theorem dX9_isFor_15 : decode cX9_isFor 15 = .ok (.ifCond .le 7, 3) := by decide +kernel
theorem dX9_isFor_18 : decode cX9_isFor 18 = .ok (.iconst 1, 1) := by decide +kernel
theorem dX9_isFor_19 : decode cX9_isFor 19 = .ok (.goto 4, 3) := by decide +kernel
theorem dX9_isFor_22 : decode cX9_isFor 22 = .ok (.iconst 0, 1) := by decide +kernel
theorem dX9_isFor_23 : decode cX9_isFor 23 = .ok (.ireturn, 1) := by decide +kernel
theorem dX9_bestOwed_0 : decode cX9_bestOwed 0 = .ok (.sipush 9990, 3) := by decide +kernel
theorem dX9_bestOwed_3 : decode cX9_bestOwed 3 = .ok (.istore_n 3, 1) := by decide +kernel
theorem dX9_bestOwed_4 : decode cX9_bestOwed 4 = .ok (.iconst 0, 1) := by decide +kernel
theorem dX9_bestOwed_5 : decode cX9_bestOwed 5 = .ok (.istore 4, 2) := by decide +kernel
theorem dX9_bestOwed_7 : decode cX9_bestOwed 7 = .ok (.iload 4, 2) := by decide +kernel
theorem dX9_bestOwed_9 : decode cX9_bestOwed 9 = .ok (.bipush 6, 2) := by decide +kernel
theorem dX9_bestOwed_11 : decode cX9_bestOwed 11 = .ok (.if_icmp .ge 105, 3) := by decide +kernel
theorem dX9_bestOwed_14 : decode cX9_bestOwed 14 = .ok (.aload_n 0, 1) := by decide +kernel
theorem dX9_bestOwed_15 : decode cX9_bestOwed 15 = .ok (.getfield 46, 3) := by decide +kernel
theorem dX9_bestOwed_18 : decode cX9_bestOwed 18 = .ok (.iload_n 2, 1) := by decide +kernel
theorem dX9_bestOwed_19 : decode cX9_bestOwed 19 = .ok (.iconst 1, 1) := by decide +kernel
theorem dX9_bestOwed_20 : decode cX9_bestOwed 20 = .ok (.iload 4, 2) := by decide +kernel
theorem dX9_bestOwed_22 : decode cX9_bestOwed 22 = .ok (.ishl, 1) := by decide +kernel
theorem dX9_bestOwed_23 : decode cX9_bestOwed 23 = .ok (.iconst (-1), 1) := by decide +kernel
theorem dX9_bestOwed_24 : decode cX9_bestOwed 24 = .ok (.ixor, 1) := by decide +kernel
theorem dX9_bestOwed_25 : decode cX9_bestOwed 25 = .ok (.iand, 1) := by decide +kernel
theorem dX9_bestOwed_26 : decode cX9_bestOwed 26 = .ok (.iaload, 1) := by decide +kernel
theorem dX9_bestOwed_27 : decode cX9_bestOwed 27 = .ok (.istore 5, 2) := by decide +kernel
theorem dX9_bestOwed_29 : decode cX9_bestOwed 29 = .ok (.iload_n 2, 1) := by decide +kernel
theorem dX9_bestOwed_30 : decode cX9_bestOwed 30 = .ok (.iload 4, 2) := by decide +kernel
theorem dX9_bestOwed_32 : decode cX9_bestOwed 32 = .ok (.ishr, 1) := by decide +kernel
theorem dX9_bestOwed_33 : decode cX9_bestOwed 33 = .ok (.iconst 1, 1) := by decide +kernel
theorem dX9_bestOwed_34 : decode cX9_bestOwed 34 = .ok (.iand, 1) := by decide +kernel
theorem dX9_bestOwed_35 : decode cX9_bestOwed 35 = .ok (.iconst 1, 1) := by decide +kernel
theorem dX9_bestOwed_36 : decode cX9_bestOwed 36 = .ok (.if_icmp .ne 25, 3) := by decide +kernel
theorem dX9_bestOwed_39 : decode cX9_bestOwed 39 = .ok (.aload_n 0, 1) := by decide +kernel
theorem dX9_bestOwed_40 : decode cX9_bestOwed 40 = .ok (.iload 4, 2) := by decide +kernel
theorem dX9_bestOwed_42 : decode cX9_bestOwed 42 = .ok (.iload_n 1, 1) := by decide +kernel
theorem dX9_bestOwed_43 : decode cX9_bestOwed 43 = .ok (.invokevirtual 230, 3) := by decide +kernel
theorem dX9_bestOwed_46 : decode cX9_bestOwed 46 = .ok (.ifCond .eq 15, 3) := by decide +kernel
theorem dX9_bestOwed_49 : decode cX9_bestOwed 49 = .ok (.iload 5, 2) := by decide +kernel
theorem dX9_bestOwed_51 : decode cX9_bestOwed 51 = .ok (.sipush 9990, 3) := by decide +kernel
theorem dX9_bestOwed_54 : decode cX9_bestOwed 54 = .ok (.if_icmp .ge 7, 3) := by decide +kernel
theorem dX9_bestOwed_57 : decode cX9_bestOwed 57 = .ok (.iconst 1, 1) := by decide +kernel
theorem dX9_bestOwed_58 : decode cX9_bestOwed 58 = .ok (.goto 4, 3) := by decide +kernel
theorem dX9_bestOwed_61 : decode cX9_bestOwed 61 = .ok (.iconst 0, 1) := by decide +kernel
theorem dX9_bestOwed_62 : decode cX9_bestOwed 62 = .ok (.istore 6, 2) := by decide +kernel
theorem dX9_bestOwed_64 : decode cX9_bestOwed 64 = .ok (.iload 6, 2) := by decide +kernel
theorem dX9_bestOwed_66 : decode cX9_bestOwed 66 = .ok (.ifCond .eq 26, 3) := by decide +kernel
theorem dX9_bestOwed_69 : decode cX9_bestOwed 69 = .ok (.iload 5, 2) := by decide +kernel
theorem dX9_bestOwed_71 : decode cX9_bestOwed 71 = .ok (.aload_n 0, 1) := by decide +kernel
theorem dX9_bestOwed_72 : decode cX9_bestOwed 72 = .ok (.getfield 19, 3) := by decide +kernel
theorem dX9_bestOwed_75 : decode cX9_bestOwed 75 = .ok (.iload 4, 2) := by decide +kernel
theorem dX9_bestOwed_77 : decode cX9_bestOwed 77 = .ok (.iaload, 1) := by decide +kernel
theorem dX9_bestOwed_78 : decode cX9_bestOwed 78 = .ok (.aload_n 0, 1) := by decide +kernel
theorem dX9_bestOwed_79 : decode cX9_bestOwed 79 = .ok (.getfield 22, 3) := by decide +kernel
theorem dX9_bestOwed_82 : decode cX9_bestOwed 82 = .ok (.iload 4, 2) := by decide +kernel
theorem dX9_bestOwed_84 : decode cX9_bestOwed 84 = .ok (.iaload, 1) := by decide +kernel
theorem dX9_bestOwed_85 : decode cX9_bestOwed 85 = .ok (.imul, 1) := by decide +kernel
theorem dX9_bestOwed_86 : decode cX9_bestOwed 86 = .ok (.invokestatic 233, 3) := by decide +kernel
theorem dX9_bestOwed_89 : decode cX9_bestOwed 89 = .ok (.goto 6, 3) := by decide +kernel
theorem dX9_bestOwed_92 : decode cX9_bestOwed 92 = .ok (.sipush 9990, 3) := by decide +kernel
theorem dX9_bestOwed_95 : decode cX9_bestOwed 95 = .ok (.istore 7, 2) := by decide +kernel
theorem dX9_bestOwed_97 : decode cX9_bestOwed 97 = .ok (.iload 7, 2) := by decide +kernel
theorem dX9_bestOwed_99 : decode cX9_bestOwed 99 = .ok (.iload_n 3, 1) := by decide +kernel
theorem dX9_bestOwed_100 : decode cX9_bestOwed 100 = .ok (.if_icmp .ge 8, 3) := by decide +kernel
theorem dX9_bestOwed_103 : decode cX9_bestOwed 103 = .ok (.iload 7, 2) := by decide +kernel
theorem dX9_bestOwed_105 : decode cX9_bestOwed 105 = .ok (.goto 4, 3) := by decide +kernel
theorem dX9_bestOwed_108 : decode cX9_bestOwed 108 = .ok (.iload_n 3, 1) := by decide +kernel
theorem dX9_bestOwed_109 : decode cX9_bestOwed 109 = .ok (.istore_n 3, 1) := by decide +kernel
theorem dX9_bestOwed_110 : decode cX9_bestOwed 110 = .ok (.iinc 4 1, 3) := by decide +kernel
theorem dX9_bestOwed_113 : decode cX9_bestOwed 113 = .ok (.goto (-106), 3) := by decide +kernel
theorem dX9_bestOwed_116 : decode cX9_bestOwed 116 = .ok (.iload_n 3, 1) := by decide +kernel
theorem dX9_bestOwed_117 : decode cX9_bestOwed 117 = .ok (.ireturn, 1) := by decide +kernel
theorem dX9_fewestNights_0 : decode cX9_fewestNights 0 = .ok (.bipush (-6), 2) := by decide +kernel
theorem dX9_fewestNights_2 : decode cX9_fewestNights 2 = .ok (.istore 4, 2) := by decide +kernel
theorem dX9_fewestNights_4 : decode cX9_fewestNights 4 = .ok (.iconst 0, 1) := by decide +kernel
theorem dX9_fewestNights_5 : decode cX9_fewestNights 5 = .ok (.istore 5, 2) := by decide +kernel
theorem dX9_fewestNights_7 : decode cX9_fewestNights 7 = .ok (.iload 5, 2) := by decide +kernel
theorem dX9_fewestNights_9 : decode cX9_fewestNights 9 = .ok (.bipush 64, 2) := by decide +kernel
theorem dX9_fewestNights_11 : decode cX9_fewestNights 11 = .ok (.if_icmp .ge 123, 3) := by decide +kernel
theorem dX9_fewestNights_14 : decode cX9_fewestNights 14 = .ok (.iload 5, 2) := by decide +kernel
theorem dX9_fewestNights_16 : decode cX9_fewestNights 16 = .ok (.iload_n 2, 1) := by decide +kernel
theorem dX9_fewestNights_17 : decode cX9_fewestNights 17 = .ok (.iand, 1) := by decide +kernel
theorem dX9_fewestNights_18 : decode cX9_fewestNights 18 = .ok (.iload_n 2, 1) := by decide +kernel
theorem dX9_fewestNights_19 : decode cX9_fewestNights 19 = .ok (.if_icmp .ne 7, 3) := by decide +kernel
theorem dX9_fewestNights_22 : decode cX9_fewestNights 22 = .ok (.iconst 1, 1) := by decide +kernel
theorem dX9_fewestNights_23 : decode cX9_fewestNights 23 = .ok (.goto 4, 3) := by decide +kernel
theorem dX9_fewestNights_26 : decode cX9_fewestNights 26 = .ok (.iconst 0, 1) := by decide +kernel
theorem dX9_fewestNights_27 : decode cX9_fewestNights 27 = .ok (.istore 6, 2) := by decide +kernel
theorem dX9_fewestNights_29 : decode cX9_fewestNights 29 = .ok (.aload_n 0, 1) := by decide +kernel
theorem dX9_fewestNights_30 : decode cX9_fewestNights 30 = .ok (.getfield 46, 3) := by decide +kernel
theorem dX9_fewestNights_33 : decode cX9_fewestNights 33 = .ok (.iload 5, 2) := by decide +kernel
theorem dX9_fewestNights_35 : decode cX9_fewestNights 35 = .ok (.iload 5, 2) := by decide +kernel
theorem dX9_fewestNights_37 : decode cX9_fewestNights 37 = .ok (.iload_n 2, 1) := by decide +kernel
theorem dX9_fewestNights_38 : decode cX9_fewestNights 38 = .ok (.if_icmp .ne 7, 3) := by decide +kernel
theorem dX9_fewestNights_41 : decode cX9_fewestNights 41 = .ok (.iload_n 3, 1) := by decide +kernel
theorem dX9_fewestNights_42 : decode cX9_fewestNights 42 = .ok (.goto 6, 3) := by decide +kernel
theorem dX9_fewestNights_45 : decode cX9_fewestNights 45 = .ok (.sipush 9990, 3) := by decide +kernel
theorem dX9_fewestNights_48 : decode cX9_fewestNights 48 = .ok (.iastore, 1) := by decide +kernel
theorem dX9_fewestNights_49 : decode cX9_fewestNights 49 = .ok (.iload 6, 2) := by decide +kernel
theorem dX9_fewestNights_51 : decode cX9_fewestNights 51 = .ok (.ifCond .eq 23, 3) := by decide +kernel
theorem dX9_fewestNights_54 : decode cX9_fewestNights 54 = .ok (.iload 5, 2) := by decide +kernel
theorem dX9_fewestNights_56 : decode cX9_fewestNights 56 = .ok (.iload_n 2, 1) := by decide +kernel
theorem dX9_fewestNights_57 : decode cX9_fewestNights 57 = .ok (.if_icmp .eq 17, 3) := by decide +kernel
theorem dX9_fewestNights_60 : decode cX9_fewestNights 60 = .ok (.aload_n 0, 1) := by decide +kernel
theorem dX9_fewestNights_61 : decode cX9_fewestNights 61 = .ok (.getfield 46, 3) := by decide +kernel
theorem dX9_fewestNights_64 : decode cX9_fewestNights 64 = .ok (.iload 5, 2) := by decide +kernel
theorem dX9_fewestNights_66 : decode cX9_fewestNights 66 = .ok (.aload_n 0, 1) := by decide +kernel
theorem dX9_fewestNights_67 : decode cX9_fewestNights 67 = .ok (.iload_n 1, 1) := by decide +kernel
theorem dX9_fewestNights_68 : decode cX9_fewestNights 68 = .ok (.iload 5, 2) := by decide +kernel
theorem dX9_fewestNights_70 : decode cX9_fewestNights 70 = .ok (.invokevirtual 236, 3) := by decide +kernel
theorem dX9_fewestNights_73 : decode cX9_fewestNights 73 = .ok (.iastore, 1) := by decide +kernel
theorem dX9_fewestNights_74 : decode cX9_fewestNights 74 = .ok (.iload 6, 2) := by decide +kernel
theorem dX9_fewestNights_76 : decode cX9_fewestNights 76 = .ok (.ifCond .eq 17, 3) := by decide +kernel
theorem dX9_fewestNights_79 : decode cX9_fewestNights 79 = .ok (.aload_n 0, 1) := by decide +kernel
theorem dX9_fewestNights_80 : decode cX9_fewestNights 80 = .ok (.getfield 46, 3) := by decide +kernel
theorem dX9_fewestNights_83 : decode cX9_fewestNights 83 = .ok (.iload 5, 2) := by decide +kernel
theorem dX9_fewestNights_85 : decode cX9_fewestNights 85 = .ok (.iaload, 1) := by decide +kernel
theorem dX9_fewestNights_86 : decode cX9_fewestNights 86 = .ok (.ifCond .ne 7, 3) := by decide +kernel
theorem dX9_fewestNights_89 : decode cX9_fewestNights 89 = .ok (.iconst 1, 1) := by decide +kernel
theorem dX9_fewestNights_90 : decode cX9_fewestNights 90 = .ok (.goto 4, 3) := by decide +kernel
theorem dX9_fewestNights_93 : decode cX9_fewestNights 93 = .ok (.iconst 0, 1) := by decide +kernel
theorem dX9_fewestNights_94 : decode cX9_fewestNights 94 = .ok (.istore 7, 2) := by decide +kernel
theorem dX9_fewestNights_96 : decode cX9_fewestNights 96 = .ok (.iload 7, 2) := by decide +kernel
theorem dX9_fewestNights_98 : decode cX9_fewestNights 98 = .ok (.ifCond .eq 26, 3) := by decide +kernel
theorem dX9_fewestNights_101 : decode cX9_fewestNights 101 = .ok (.iload 4, 2) := by decide +kernel
theorem dX9_fewestNights_103 : decode cX9_fewestNights 103 = .ok (.ifCond .lt 13, 3) := by decide +kernel
theorem dX9_fewestNights_106 : decode cX9_fewestNights 106 = .ok (.iload 5, 2) := by decide +kernel
theorem dX9_fewestNights_108 : decode cX9_fewestNights 108 = .ok (.invokestatic 95, 3) := by decide +kernel
theorem dX9_fewestNights_111 : decode cX9_fewestNights 111 = .ok (.iload 4, 2) := by decide +kernel
theorem dX9_fewestNights_113 : decode cX9_fewestNights 113 = .ok (.if_icmp .ge 11, 3) := by decide +kernel
theorem dX9_fewestNights_116 : decode cX9_fewestNights 116 = .ok (.iload 5, 2) := by decide +kernel
theorem dX9_fewestNights_118 : decode cX9_fewestNights 118 = .ok (.invokestatic 95, 3) := by decide +kernel
theorem dX9_fewestNights_121 : decode cX9_fewestNights 121 = .ok (.goto 5, 3) := by decide +kernel
theorem dX9_fewestNights_124 : decode cX9_fewestNights 124 = .ok (.iload 4, 2) := by decide +kernel
theorem dX9_fewestNights_126 : decode cX9_fewestNights 126 = .ok (.istore 4, 2) := by decide +kernel
theorem dX9_fewestNights_128 : decode cX9_fewestNights 128 = .ok (.iinc 5 1, 3) := by decide +kernel
theorem dX9_fewestNights_131 : decode cX9_fewestNights 131 = .ok (.goto (-124), 3) := by decide +kernel
theorem dX9_fewestNights_134 : decode cX9_fewestNights 134 = .ok (.iload 4, 2) := by decide +kernel
theorem dX9_fewestNights_136 : decode cX9_fewestNights 136 = .ok (.ireturn, 1) := by decide +kernel
theorem dX9_firstNight_0 : decode cX9_firstNight 0 = .ok (.iconst 0, 1) := by decide +kernel
theorem dX9_firstNight_1 : decode cX9_firstNight 1 = .ok (.istore_n 3, 1) := by decide +kernel
theorem dX9_firstNight_2 : decode cX9_firstNight 2 = .ok (.iload_n 3, 1) := by decide +kernel
theorem dX9_firstNight_3 : decode cX9_firstNight 3 = .ok (.bipush 6, 2) := by decide +kernel
theorem dX9_firstNight_5 : decode cX9_firstNight 5 = .ok (.if_icmp .ge 58, 3) := by decide +kernel
theorem dX9_firstNight_8 : decode cX9_firstNight 8 = .ok (.aload_n 0, 1) := by decide +kernel
theorem dX9_firstNight_9 : decode cX9_firstNight 9 = .ok (.getfield 13, 3) := by decide +kernel
theorem dX9_firstNight_12 : decode cX9_firstNight 12 = .ok (.iload_n 1, 1) := by decide +kernel
theorem dX9_firstNight_13 : decode cX9_firstNight 13 = .ok (.iaload, 1) := by decide +kernel
theorem dX9_firstNight_14 : decode cX9_firstNight 14 = .ok (.aload_n 0, 1) := by decide +kernel
theorem dX9_firstNight_15 : decode cX9_firstNight 15 = .ok (.getfield 19, 3) := by decide +kernel
theorem dX9_firstNight_18 : decode cX9_firstNight 18 = .ok (.iload_n 3, 1) := by decide +kernel
theorem dX9_firstNight_19 : decode cX9_firstNight 19 = .ok (.iaload, 1) := by decide +kernel
theorem dX9_firstNight_20 : decode cX9_firstNight 20 = .ok (.aload_n 0, 1) := by decide +kernel
theorem dX9_firstNight_21 : decode cX9_firstNight 21 = .ok (.getfield 22, 3) := by decide +kernel
theorem dX9_firstNight_24 : decode cX9_firstNight 24 = .ok (.iload_n 3, 1) := by decide +kernel
theorem dX9_firstNight_25 : decode cX9_firstNight 25 = .ok (.iaload, 1) := by decide +kernel
theorem dX9_firstNight_26 : decode cX9_firstNight 26 = .ok (.imul, 1) := by decide +kernel
theorem dX9_firstNight_27 : decode cX9_firstNight 27 = .ok (.invokestatic 233, 3) := by decide +kernel
theorem dX9_firstNight_30 : decode cX9_firstNight 30 = .ok (.istore 4, 2) := by decide +kernel
theorem dX9_firstNight_32 : decode cX9_firstNight 32 = .ok (.aload_n 0, 1) := by decide +kernel
theorem dX9_firstNight_33 : decode cX9_firstNight 33 = .ok (.iload_n 3, 1) := by decide +kernel
theorem dX9_firstNight_34 : decode cX9_firstNight 34 = .ok (.iload_n 1, 1) := by decide +kernel
theorem dX9_firstNight_35 : decode cX9_firstNight 35 = .ok (.invokevirtual 230, 3) := by decide +kernel
theorem dX9_firstNight_38 : decode cX9_firstNight 38 = .ok (.ifCond .eq 19, 3) := by decide +kernel
theorem dX9_firstNight_41 : decode cX9_firstNight 41 = .ok (.aload_n 0, 1) := by decide +kernel
theorem dX9_firstNight_42 : decode cX9_firstNight 42 = .ok (.iload_n 1, 1) := by decide +kernel
theorem dX9_firstNight_43 : decode cX9_firstNight 43 = .ok (.iconst 1, 1) := by decide +kernel
theorem dX9_firstNight_44 : decode cX9_firstNight 44 = .ok (.iload_n 3, 1) := by decide +kernel
theorem dX9_firstNight_45 : decode cX9_firstNight 45 = .ok (.ishl, 1) := by decide +kernel
theorem dX9_firstNight_46 : decode cX9_firstNight 46 = .ok (.iload 4, 2) := by decide +kernel
theorem dX9_firstNight_48 : decode cX9_firstNight 48 = .ok (.invokevirtual 239, 3) := by decide +kernel
theorem dX9_firstNight_51 : decode cX9_firstNight 51 = .ok (.iload_n 2, 1) := by decide +kernel
theorem dX9_firstNight_52 : decode cX9_firstNight 52 = .ok (.if_icmp .ne 5, 3) := by decide +kernel
theorem dX9_firstNight_55 : decode cX9_firstNight 55 = .ok (.iload_n 3, 1) := by decide +kernel
theorem dX9_firstNight_56 : decode cX9_firstNight 56 = .ok (.ireturn, 1) := by decide +kernel
theorem dX9_firstNight_57 : decode cX9_firstNight 57 = .ok (.iinc 3 1, 3) := by decide +kernel
theorem dX9_firstNight_60 : decode cX9_firstNight 60 = .ok (.goto (-58), 3) := by decide +kernel
theorem dX9_firstNight_63 : decode cX9_firstNight 63 = .ok (.bipush (-6), 2) := by decide +kernel
theorem dX9_firstNight_65 : decode cX9_firstNight 65 = .ok (.ireturn, 1) := by decide +kernel
theorem dX9_nights_0 : decode cX9_nights 0 = .ok (.aload_n 0, 1) := by decide +kernel
theorem dX9_nights_1 : decode cX9_nights 1 = .ok (.iload_n 1, 1) := by decide +kernel
theorem dX9_nights_2 : decode cX9_nights 2 = .ok (.invokevirtual 99, 3) := by decide +kernel
theorem dX9_nights_5 : decode cX9_nights 5 = .ok (.ifCond .ne 5, 3) := by decide +kernel
theorem dX9_nights_8 : decode cX9_nights 8 = .ok (.iconst (-1), 1) := by decide +kernel
theorem dX9_nights_9 : decode cX9_nights 9 = .ok (.ireturn, 1) := by decide +kernel
theorem dX9_nights_10 : decode cX9_nights 10 = .ok (.iload_n 2, 1) := by decide +kernel
theorem dX9_nights_11 : decode cX9_nights 11 = .ok (.i2l, 1) := by decide +kernel
theorem dX9_nights_12 : decode cX9_nights 12 = .ok (.lconst 0, 1) := by decide +kernel
theorem dX9_nights_13 : decode cX9_nights 13 = .ok (.lconst 1, 1) := by decide +kernel
theorem dX9_nights_14 : decode cX9_nights 14 = .ok (.invokestatic 77, 3) := by decide +kernel
theorem dX9_nights_17 : decode cX9_nights 17 = .ok (.ifCond .ne 6, 3) := by decide +kernel
theorem dX9_nights_20 : decode cX9_nights 20 = .ok (.bipush (-2), 2) := by decide +kernel
theorem dX9_nights_22 : decode cX9_nights 22 = .ok (.ireturn, 1) := by decide +kernel
theorem dX9_nights_23 : decode cX9_nights 23 = .ok (.aload_n 0, 1) := by decide +kernel
theorem dX9_nights_24 : decode cX9_nights 24 = .ok (.iload_n 1, 1) := by decide +kernel
theorem dX9_nights_25 : decode cX9_nights 25 = .ok (.iconst 0, 1) := by decide +kernel
theorem dX9_nights_26 : decode cX9_nights 26 = .ok (.aload_n 0, 1) := by decide +kernel
theorem dX9_nights_27 : decode cX9_nights 27 = .ok (.getfield 13, 3) := by decide +kernel
theorem dX9_nights_30 : decode cX9_nights 30 = .ok (.iload_n 1, 1) := by decide +kernel
theorem dX9_nights_31 : decode cX9_nights 31 = .ok (.iaload, 1) := by decide +kernel
theorem dX9_nights_32 : decode cX9_nights 32 = .ok (.invokevirtual 239, 3) := by decide +kernel
theorem dX9_nights_35 : decode cX9_nights 35 = .ok (.istore_n 3, 1) := by decide +kernel
theorem dX9_nights_36 : decode cX9_nights 36 = .ok (.iload_n 2, 1) := by decide +kernel
theorem dX9_nights_37 : decode cX9_nights 37 = .ok (.ifCond .eq 7, 3) := by decide +kernel
theorem dX9_nights_40 : decode cX9_nights 40 = .ok (.iload_n 3, 1) := by decide +kernel
theorem dX9_nights_41 : decode cX9_nights 41 = .ok (.ifCond .gt 16, 3) := by decide +kernel
theorem dX9_nights_44 : decode cX9_nights 44 = .ok (.iload_n 2, 1) := by decide +kernel
theorem dX9_nights_45 : decode cX9_nights 45 = .ok (.ifCond .ne 7, 3) := by decide +kernel
theorem dX9_nights_48 : decode cX9_nights 48 = .ok (.iload_n 3, 1) := by decide +kernel
theorem dX9_nights_49 : decode cX9_nights 49 = .ok (.goto 14, 3) := by decide +kernel
theorem dX9_nights_52 : decode cX9_nights 52 = .ok (.bipush (-6), 2) := by decide +kernel
theorem dX9_nights_54 : decode cX9_nights 54 = .ok (.goto 9, 3) := by decide +kernel
theorem dX9_nights_57 : decode cX9_nights 57 = .ok (.aload_n 0, 1) := by decide +kernel
theorem dX9_nights_58 : decode cX9_nights 58 = .ok (.iload_n 1, 1) := by decide +kernel
theorem dX9_nights_59 : decode cX9_nights 59 = .ok (.iload_n 3, 1) := by decide +kernel
theorem dX9_nights_60 : decode cX9_nights 60 = .ok (.invokevirtual 242, 3) := by decide +kernel
theorem dX9_nights_63 : decode cX9_nights 63 = .ok (.ireturn, 1) := by decide +kernel
theorem dX9_needsOf_0 : decode cX9_needsOf 0 = .ok (.aload_n 0, 1) := by decide +kernel
theorem dX9_needsOf_1 : decode cX9_needsOf 1 = .ok (.getfield 16, 3) := by decide +kernel
theorem dX9_needsOf_4 : decode cX9_needsOf 4 = .ok (.iconst 4, 1) := by decide +kernel
theorem dX9_needsOf_5 : decode cX9_needsOf 5 = .ok (.iload_n 1, 1) := by decide +kernel
theorem dX9_needsOf_6 : decode cX9_needsOf 6 = .ok (.imul, 1) := by decide +kernel
theorem dX9_needsOf_7 : decode cX9_needsOf 7 = .ok (.iaload, 1) := by decide +kernel
theorem dX9_needsOf_8 : decode cX9_needsOf 8 = .ok (.aload_n 0, 1) := by decide +kernel
theorem dX9_needsOf_9 : decode cX9_needsOf 9 = .ok (.getfield 16, 3) := by decide +kernel
theorem dX9_needsOf_12 : decode cX9_needsOf 12 = .ok (.iconst 4, 1) := by decide +kernel
theorem dX9_needsOf_13 : decode cX9_needsOf 13 = .ok (.iload_n 1, 1) := by decide +kernel
theorem dX9_needsOf_14 : decode cX9_needsOf 14 = .ok (.imul, 1) := by decide +kernel
theorem dX9_needsOf_15 : decode cX9_needsOf 15 = .ok (.iconst 1, 1) := by decide +kernel
theorem dX9_needsOf_16 : decode cX9_needsOf 16 = .ok (.iadd, 1) := by decide +kernel
theorem dX9_needsOf_17 : decode cX9_needsOf 17 = .ok (.iaload, 1) := by decide +kernel
theorem dX9_needsOf_18 : decode cX9_needsOf 18 = .ok (.iadd, 1) := by decide +kernel
theorem dX9_needsOf_19 : decode cX9_needsOf 19 = .ok (.aload_n 0, 1) := by decide +kernel
theorem dX9_needsOf_20 : decode cX9_needsOf 20 = .ok (.getfield 16, 3) := by decide +kernel
theorem dX9_needsOf_23 : decode cX9_needsOf 23 = .ok (.iconst 4, 1) := by decide +kernel
theorem dX9_needsOf_24 : decode cX9_needsOf 24 = .ok (.iload_n 1, 1) := by decide +kernel
theorem dX9_needsOf_25 : decode cX9_needsOf 25 = .ok (.imul, 1) := by decide +kernel
theorem dX9_needsOf_26 : decode cX9_needsOf 26 = .ok (.iconst 2, 1) := by decide +kernel
theorem dX9_needsOf_27 : decode cX9_needsOf 27 = .ok (.iadd, 1) := by decide +kernel
theorem dX9_needsOf_28 : decode cX9_needsOf 28 = .ok (.iaload, 1) := by decide +kernel
theorem dX9_needsOf_29 : decode cX9_needsOf 29 = .ok (.iadd, 1) := by decide +kernel
theorem dX9_needsOf_30 : decode cX9_needsOf 30 = .ok (.aload_n 0, 1) := by decide +kernel
theorem dX9_needsOf_31 : decode cX9_needsOf 31 = .ok (.getfield 16, 3) := by decide +kernel
theorem dX9_needsOf_34 : decode cX9_needsOf 34 = .ok (.iconst 4, 1) := by decide +kernel
theorem dX9_needsOf_35 : decode cX9_needsOf 35 = .ok (.iload_n 1, 1) := by decide +kernel
theorem dX9_needsOf_36 : decode cX9_needsOf 36 = .ok (.imul, 1) := by decide +kernel
theorem dX9_needsOf_37 : decode cX9_needsOf 37 = .ok (.iconst 3, 1) := by decide +kernel
theorem dX9_needsOf_38 : decode cX9_needsOf 38 = .ok (.iadd, 1) := by decide +kernel
theorem dX9_needsOf_39 : decode cX9_needsOf 39 = .ok (.iaload, 1) := by decide +kernel
theorem dX9_needsOf_40 : decode cX9_needsOf 40 = .ok (.iadd, 1) := by decide +kernel
theorem dX9_needsOf_41 : decode cX9_needsOf 41 = .ok (.ireturn, 1) := by decide +kernel
theorem dX9_barsOf_0 : decode cX9_barsOf 0 = .ok (.iconst 0, 1) := by decide +kernel
theorem dX9_barsOf_1 : decode cX9_barsOf 1 = .ok (.istore_n 2, 1) := by decide +kernel
theorem dX9_barsOf_2 : decode cX9_barsOf 2 = .ok (.iconst 0, 1) := by decide +kernel
theorem dX9_barsOf_3 : decode cX9_barsOf 3 = .ok (.istore_n 3, 1) := by decide +kernel
theorem dX9_barsOf_4 : decode cX9_barsOf 4 = .ok (.iload_n 3, 1) := by decide +kernel
theorem dX9_barsOf_5 : decode cX9_barsOf 5 = .ok (.bipush 6, 2) := by decide +kernel
theorem dX9_barsOf_7 : decode cX9_barsOf 7 = .ok (.if_icmp .ge 31, 3) := by decide +kernel
theorem dX9_barsOf_10 : decode cX9_barsOf 10 = .ok (.iload_n 2, 1) := by decide +kernel
theorem dX9_barsOf_11 : decode cX9_barsOf 11 = .ok (.iload_n 1, 1) := by decide +kernel
theorem dX9_barsOf_12 : decode cX9_barsOf 12 = .ok (.iload_n 3, 1) := by decide +kernel
theorem dX9_barsOf_13 : decode cX9_barsOf 13 = .ok (.ishr, 1) := by decide +kernel
theorem dX9_barsOf_14 : decode cX9_barsOf 14 = .ok (.iconst 1, 1) := by decide +kernel
theorem dX9_barsOf_15 : decode cX9_barsOf 15 = .ok (.iand, 1) := by decide +kernel
theorem dX9_barsOf_16 : decode cX9_barsOf 16 = .ok (.iconst 1, 1) := by decide +kernel
theorem dX9_barsOf_17 : decode cX9_barsOf 17 = .ok (.if_icmp .ne 12, 3) := by decide +kernel
theorem dX9_barsOf_20 : decode cX9_barsOf 20 = .ok (.aload_n 0, 1) := by decide +kernel
theorem dX9_barsOf_21 : decode cX9_barsOf 21 = .ok (.getfield 19, 3) := by decide +kernel
theorem dX9_barsOf_24 : decode cX9_barsOf 24 = .ok (.iload_n 3, 1) := by decide +kernel
theorem dX9_barsOf_25 : decode cX9_barsOf 25 = .ok (.iaload, 1) := by decide +kernel
theorem dX9_barsOf_26 : decode cX9_barsOf 26 = .ok (.goto 4, 3) := by decide +kernel
theorem dX9_barsOf_29 : decode cX9_barsOf 29 = .ok (.iconst 0, 1) := by decide +kernel
theorem dX9_barsOf_30 : decode cX9_barsOf 30 = .ok (.iadd, 1) := by decide +kernel
theorem dX9_barsOf_31 : decode cX9_barsOf 31 = .ok (.istore_n 2, 1) := by decide +kernel
theorem dX9_barsOf_32 : decode cX9_barsOf 32 = .ok (.iinc 3 1, 3) := by decide +kernel
theorem dX9_barsOf_35 : decode cX9_barsOf 35 = .ok (.goto (-31), 3) := by decide +kernel
theorem dX9_barsOf_38 : decode cX9_barsOf 38 = .ok (.iload_n 2, 1) := by decide +kernel
theorem dX9_barsOf_39 : decode cX9_barsOf 39 = .ok (.ireturn, 1) := by decide +kernel
theorem dX9_paysOf_0 : decode cX9_paysOf 0 = .ok (.iconst 0, 1) := by decide +kernel
theorem dX9_paysOf_1 : decode cX9_paysOf 1 = .ok (.istore_n 2, 1) := by decide +kernel
theorem dX9_paysOf_2 : decode cX9_paysOf 2 = .ok (.iconst 0, 1) := by decide +kernel
theorem dX9_paysOf_3 : decode cX9_paysOf 3 = .ok (.istore_n 3, 1) := by decide +kernel
theorem dX9_paysOf_4 : decode cX9_paysOf 4 = .ok (.iload_n 3, 1) := by decide +kernel
theorem dX9_paysOf_5 : decode cX9_paysOf 5 = .ok (.bipush 6, 2) := by decide +kernel
theorem dX9_paysOf_7 : decode cX9_paysOf 7 = .ok (.if_icmp .ge 44, 3) := by decide +kernel
theorem dX9_paysOf_10 : decode cX9_paysOf 10 = .ok (.iload_n 2, 1) := by decide +kernel
theorem dX9_paysOf_11 : decode cX9_paysOf 11 = .ok (.iload_n 1, 1) := by decide +kernel
theorem dX9_paysOf_12 : decode cX9_paysOf 12 = .ok (.iload_n 3, 1) := by decide +kernel
theorem dX9_paysOf_13 : decode cX9_paysOf 13 = .ok (.ishr, 1) := by decide +kernel
theorem dX9_paysOf_14 : decode cX9_paysOf 14 = .ok (.iconst 1, 1) := by decide +kernel
theorem dX9_paysOf_15 : decode cX9_paysOf 15 = .ok (.iand, 1) := by decide +kernel
theorem dX9_paysOf_16 : decode cX9_paysOf 16 = .ok (.iconst 1, 1) := by decide +kernel
theorem dX9_paysOf_17 : decode cX9_paysOf 17 = .ok (.if_icmp .ne 25, 3) := by decide +kernel
theorem dX9_paysOf_20 : decode cX9_paysOf 20 = .ok (.aload_n 0, 1) := by decide +kernel
theorem dX9_paysOf_21 : decode cX9_paysOf 21 = .ok (.getfield 19, 3) := by decide +kernel
theorem dX9_paysOf_24 : decode cX9_paysOf 24 = .ok (.iload_n 3, 1) := by decide +kernel
theorem dX9_paysOf_25 : decode cX9_paysOf 25 = .ok (.iaload, 1) := by decide +kernel
theorem dX9_paysOf_26 : decode cX9_paysOf 26 = .ok (.aload_n 0, 1) := by decide +kernel
theorem dX9_paysOf_27 : decode cX9_paysOf 27 = .ok (.getfield 22, 3) := by decide +kernel
theorem dX9_paysOf_30 : decode cX9_paysOf 30 = .ok (.iload_n 3, 1) := by decide +kernel
theorem dX9_paysOf_31 : decode cX9_paysOf 31 = .ok (.iaload, 1) := by decide +kernel
theorem dX9_paysOf_32 : decode cX9_paysOf 32 = .ok (.imul, 1) := by decide +kernel
theorem dX9_paysOf_33 : decode cX9_paysOf 33 = .ok (.aload_n 0, 1) := by decide +kernel
theorem dX9_paysOf_34 : decode cX9_paysOf 34 = .ok (.iload_n 3, 1) := by decide +kernel
theorem dX9_paysOf_35 : decode cX9_paysOf 35 = .ok (.invokevirtual 245, 3) := by decide +kernel
theorem dX9_paysOf_38 : decode cX9_paysOf 38 = .ok (.imul, 1) := by decide +kernel
theorem dX9_paysOf_39 : decode cX9_paysOf 39 = .ok (.goto 4, 3) := by decide +kernel
theorem dX9_paysOf_42 : decode cX9_paysOf 42 = .ok (.iconst 0, 1) := by decide +kernel
theorem dX9_paysOf_43 : decode cX9_paysOf 43 = .ok (.iadd, 1) := by decide +kernel
theorem dX9_paysOf_44 : decode cX9_paysOf 44 = .ok (.istore_n 2, 1) := by decide +kernel
theorem dX9_paysOf_45 : decode cX9_paysOf 45 = .ok (.iinc 3 1, 3) := by decide +kernel
theorem dX9_paysOf_48 : decode cX9_paysOf 48 = .ok (.goto (-44), 3) := by decide +kernel
theorem dX9_paysOf_51 : decode cX9_paysOf 51 = .ok (.iload_n 2, 1) := by decide +kernel
theorem dX9_paysOf_52 : decode cX9_paysOf 52 = .ok (.ireturn, 1) := by decide +kernel
theorem dX9_programme_0 : decode cX9_programme 0 = .ok (.iload_n 1, 1) := by decide +kernel
theorem dX9_programme_1 : decode cX9_programme 1 = .ok (.i2l, 1) := by decide +kernel
theorem dX9_programme_2 : decode cX9_programme 2 = .ok (.lconst 0, 1) := by decide +kernel
theorem dX9_programme_3 : decode cX9_programme 3 = .ok (.ldc2_w 248, 3) := by decide +kernel
theorem dX9_programme_6 : decode cX9_programme 6 = .ok (.invokestatic 77, 3) := by decide +kernel
theorem dX9_programme_9 : decode cX9_programme 9 = .ok (.ifCond .eq 13, 3) := by decide +kernel
theorem dX9_programme_12 : decode cX9_programme 12 = .ok (.iload_n 2, 1) := by decide +kernel
theorem dX9_programme_13 : decode cX9_programme 13 = .ok (.i2l, 1) := by decide +kernel
theorem dX9_programme_14 : decode cX9_programme 14 = .ok (.lconst 0, 1) := by decide +kernel
theorem dX9_programme_15 : decode cX9_programme 15 = .ok (.lconst 1, 1) := by decide +kernel
theorem dX9_programme_16 : decode cX9_programme 16 = .ok (.invokestatic 77, 3) := by decide +kernel
theorem dX9_programme_19 : decode cX9_programme 19 = .ok (.ifCond .ne 6, 3) := by decide +kernel
theorem dX9_programme_22 : decode cX9_programme 22 = .ok (.bipush (-2), 2) := by decide +kernel
theorem dX9_programme_24 : decode cX9_programme 24 = .ok (.ireturn, 1) := by decide +kernel
theorem dX9_programme_25 : decode cX9_programme 25 = .ok (.iconst 0, 1) := by decide +kernel
theorem dX9_programme_26 : decode cX9_programme 26 = .ok (.istore_n 3, 1) := by decide +kernel
theorem dX9_programme_27 : decode cX9_programme 27 = .ok (.iconst 1, 1) := by decide +kernel
theorem dX9_programme_28 : decode cX9_programme 28 = .ok (.istore 4, 2) := by decide +kernel
theorem dX9_programme_30 : decode cX9_programme 30 = .ok (.iload 4, 2) := by decide +kernel
theorem dX9_programme_32 : decode cX9_programme 32 = .ok (.bipush 64, 2) := by decide +kernel
theorem dX9_programme_34 : decode cX9_programme 34 = .ok (.if_icmp .ge 40, 3) := by decide +kernel
theorem dX9_programme_37 : decode cX9_programme 37 = .ok (.aload_n 0, 1) := by decide +kernel
theorem dX9_programme_38 : decode cX9_programme 38 = .ok (.iload 4, 2) := by decide +kernel
theorem dX9_programme_40 : decode cX9_programme 40 = .ok (.invokevirtual 250, 3) := by decide +kernel
theorem dX9_programme_43 : decode cX9_programme 43 = .ok (.iload_n 1, 1) := by decide +kernel
theorem dX9_programme_44 : decode cX9_programme 44 = .ok (.if_icmp .gt 22, 3) := by decide +kernel
theorem dX9_programme_47 : decode cX9_programme 47 = .ok (.aload_n 0, 1) := by decide +kernel
theorem dX9_programme_48 : decode cX9_programme 48 = .ok (.iload 4, 2) := by decide +kernel
theorem dX9_programme_50 : decode cX9_programme 50 = .ok (.invokevirtual 253, 3) := by decide +kernel
theorem dX9_programme_53 : decode cX9_programme 53 = .ok (.aload_n 0, 1) := by decide +kernel
theorem dX9_programme_54 : decode cX9_programme 54 = .ok (.iload_n 3, 1) := by decide +kernel
theorem dX9_programme_55 : decode cX9_programme 55 = .ok (.invokevirtual 253, 3) := by decide +kernel
theorem dX9_programme_58 : decode cX9_programme 58 = .ok (.if_icmp .le 8, 3) := by decide +kernel
theorem dX9_programme_61 : decode cX9_programme 61 = .ok (.iload 4, 2) := by decide +kernel
theorem dX9_programme_63 : decode cX9_programme 63 = .ok (.goto 4, 3) := by decide +kernel
theorem dX9_programme_66 : decode cX9_programme 66 = .ok (.iload_n 3, 1) := by decide +kernel
theorem dX9_programme_67 : decode cX9_programme 67 = .ok (.istore_n 3, 1) := by decide +kernel
theorem dX9_programme_68 : decode cX9_programme 68 = .ok (.iinc 4 1, 3) := by decide +kernel
theorem dX9_programme_71 : decode cX9_programme 71 = .ok (.goto (-41), 3) := by decide +kernel
theorem dX9_programme_74 : decode cX9_programme 74 = .ok (.iload_n 2, 1) := by decide +kernel
theorem dX9_programme_75 : decode cX9_programme 75 = .ok (.ifCond .ne 11, 3) := by decide +kernel
theorem dX9_programme_78 : decode cX9_programme 78 = .ok (.aload_n 0, 1) := by decide +kernel
theorem dX9_programme_79 : decode cX9_programme 79 = .ok (.iload_n 3, 1) := by decide +kernel
theorem dX9_programme_80 : decode cX9_programme 80 = .ok (.invokevirtual 253, 3) := by decide +kernel
theorem dX9_programme_83 : decode cX9_programme 83 = .ok (.goto 4, 3) := by decide +kernel
theorem dX9_programme_86 : decode cX9_programme 86 = .ok (.iload_n 3, 1) := by decide +kernel
theorem dX9_programme_87 : decode cX9_programme 87 = .ok (.ireturn, 1) := by decide +kernel
theorem dX9_ruined_0 : decode cX9_ruined 0 = .ok (.iconst 0, 1) := by decide +kernel
theorem dX9_ruined_1 : decode cX9_ruined 1 = .ok (.istore_n 3, 1) := by decide +kernel
theorem dX9_ruined_2 : decode cX9_ruined 2 = .ok (.iload_n 2, 1) := by decide +kernel
theorem dX9_ruined_3 : decode cX9_ruined 3 = .ok (.istore 4, 2) := by decide +kernel
theorem dX9_ruined_5 : decode cX9_ruined 5 = .ok (.iconst 0, 1) := by decide +kernel
theorem dX9_ruined_6 : decode cX9_ruined 6 = .ok (.istore 5, 2) := by decide +kernel
theorem dX9_ruined_8 : decode cX9_ruined 8 = .ok (.iload 5, 2) := by decide +kernel
theorem dX9_ruined_10 : decode cX9_ruined 10 = .ok (.bipush 8, 2) := by decide +kernel
theorem dX9_ruined_12 : decode cX9_ruined 12 = .ok (.if_icmp .ge 44, 3) := by decide +kernel
theorem dX9_ruined_15 : decode cX9_ruined 15 = .ok (.iload 4, 2) := by decide +kernel
theorem dX9_ruined_17 : decode cX9_ruined 17 = .ok (.ifCond .le 39, 3) := by decide +kernel
theorem dX9_ruined_20 : decode cX9_ruined 20 = .ok (.aload_n 0, 1) := by decide +kernel
theorem dX9_ruined_21 : decode cX9_ruined 21 = .ok (.iload 5, 2) := by decide +kernel
theorem dX9_ruined_23 : decode cX9_ruined 23 = .ok (.iload_n 1, 1) := by decide +kernel
theorem dX9_ruined_24 : decode cX9_ruined 24 = .ok (.invokevirtual 146, 3) := by decide +kernel
theorem dX9_ruined_27 : decode cX9_ruined 27 = .ok (.ifCond .eq 23, 3) := by decide +kernel
theorem dX9_ruined_30 : decode cX9_ruined 30 = .ok (.aload_n 0, 1) := by decide +kernel
theorem dX9_ruined_31 : decode cX9_ruined 31 = .ok (.getfield 13, 3) := by decide +kernel
theorem dX9_ruined_34 : decode cX9_ruined 34 = .ok (.iload 5, 2) := by decide +kernel
theorem dX9_ruined_36 : decode cX9_ruined 36 = .ok (.iaload, 1) := by decide +kernel
theorem dX9_ruined_37 : decode cX9_ruined 37 = .ok (.ifCond .ne 13, 3) := by decide +kernel
theorem dX9_ruined_40 : decode cX9_ruined 40 = .ok (.iload_n 3, 1) := by decide +kernel
theorem dX9_ruined_41 : decode cX9_ruined 41 = .ok (.iconst 1, 1) := by decide +kernel
theorem dX9_ruined_42 : decode cX9_ruined 42 = .ok (.iload 5, 2) := by decide +kernel
theorem dX9_ruined_44 : decode cX9_ruined 44 = .ok (.ishl, 1) := by decide +kernel
theorem dX9_ruined_45 : decode cX9_ruined 45 = .ok (.ior, 1) := by decide +kernel
theorem dX9_ruined_46 : decode cX9_ruined 46 = .ok (.istore_n 3, 1) := by decide +kernel
theorem dX9_ruined_47 : decode cX9_ruined 47 = .ok (.iinc 4 (-1), 3) := by decide +kernel
theorem dX9_ruined_50 : decode cX9_ruined 50 = .ok (.iinc 5 1, 3) := by decide +kernel
theorem dX9_ruined_53 : decode cX9_ruined 53 = .ok (.goto (-45), 3) := by decide +kernel
theorem dX9_ruined_56 : decode cX9_ruined 56 = .ok (.iload 4, 2) := by decide +kernel
theorem dX9_ruined_58 : decode cX9_ruined 58 = .ok (.ifCond .le 8, 3) := by decide +kernel
theorem dX9_ruined_61 : decode cX9_ruined 61 = .ok (.bipush (-6), 2) := by decide +kernel
theorem dX9_ruined_63 : decode cX9_ruined 63 = .ok (.goto 4, 3) := by decide +kernel
theorem dX9_ruined_66 : decode cX9_ruined 66 = .ok (.iload_n 3, 1) := by decide +kernel
theorem dX9_ruined_67 : decode cX9_ruined 67 = .ok (.ireturn, 1) := by decide +kernel
theorem dX9_ruin_0 : decode cX9_ruin 0 = .ok (.iload_n 1, 1) := by decide +kernel
theorem dX9_ruin_1 : decode cX9_ruin 1 = .ok (.i2l, 1) := by decide +kernel
theorem dX9_ruin_2 : decode cX9_ruin 2 = .ok (.lconst 0, 1) := by decide +kernel
theorem dX9_ruin_3 : decode cX9_ruin 3 = .ok (.ldc2_w 105, 3) := by decide +kernel
theorem dX9_ruin_6 : decode cX9_ruin 6 = .ok (.invokestatic 77, 3) := by decide +kernel
theorem dX9_ruin_9 : decode cX9_ruin 9 = .ok (.ifCond .ne 5, 3) := by decide +kernel
theorem dX9_ruin_12 : decode cX9_ruin 12 = .ok (.iconst (-1), 1) := by decide +kernel
theorem dX9_ruin_13 : decode cX9_ruin 13 = .ok (.ireturn, 1) := by decide +kernel
theorem dX9_ruin_14 : decode cX9_ruin 14 = .ok (.iload_n 2, 1) := by decide +kernel
theorem dX9_ruin_15 : decode cX9_ruin 15 = .ok (.i2l, 1) := by decide +kernel
theorem dX9_ruin_16 : decode cX9_ruin 16 = .ok (.lconst 0, 1) := by decide +kernel
theorem dX9_ruin_17 : decode cX9_ruin 17 = .ok (.lconst 1, 1) := by decide +kernel
theorem dX9_ruin_18 : decode cX9_ruin 18 = .ok (.invokestatic 77, 3) := by decide +kernel
theorem dX9_ruin_21 : decode cX9_ruin 21 = .ok (.ifCond .ne 6, 3) := by decide +kernel
theorem dX9_ruin_24 : decode cX9_ruin 24 = .ok (.bipush (-2), 2) := by decide +kernel
theorem dX9_ruin_26 : decode cX9_ruin 26 = .ok (.ireturn, 1) := by decide +kernel
theorem dX9_ruin_27 : decode cX9_ruin 27 = .ok (.iconst 0, 1) := by decide +kernel
theorem dX9_ruin_28 : decode cX9_ruin 28 = .ok (.istore_n 3, 1) := by decide +kernel
theorem dX9_ruin_29 : decode cX9_ruin 29 = .ok (.iconst 0, 1) := by decide +kernel
theorem dX9_ruin_30 : decode cX9_ruin 30 = .ok (.istore 4, 2) := by decide +kernel
theorem dX9_ruin_32 : decode cX9_ruin 32 = .ok (.iload 4, 2) := by decide +kernel
theorem dX9_ruin_34 : decode cX9_ruin 34 = .ok (.iconst 4, 1) := by decide +kernel
theorem dX9_ruin_35 : decode cX9_ruin 35 = .ok (.if_icmp .ge 49, 3) := by decide +kernel
theorem dX9_ruin_38 : decode cX9_ruin 38 = .ok (.aload_n 0, 1) := by decide +kernel
theorem dX9_ruin_39 : decode cX9_ruin 39 = .ok (.iload 4, 2) := by decide +kernel
theorem dX9_ruin_41 : decode cX9_ruin 41 = .ok (.aload_n 0, 1) := by decide +kernel
theorem dX9_ruin_42 : decode cX9_ruin 42 = .ok (.getfield 16, 3) := by decide +kernel
theorem dX9_ruin_45 : decode cX9_ruin 45 = .ok (.iconst 4, 1) := by decide +kernel
theorem dX9_ruin_46 : decode cX9_ruin 46 = .ok (.iload_n 1, 1) := by decide +kernel
theorem dX9_ruin_47 : decode cX9_ruin 47 = .ok (.imul, 1) := by decide +kernel
theorem dX9_ruin_48 : decode cX9_ruin 48 = .ok (.iload 4, 2) := by decide +kernel
theorem dX9_ruin_50 : decode cX9_ruin 50 = .ok (.iadd, 1) := by decide +kernel
theorem dX9_ruin_51 : decode cX9_ruin 51 = .ok (.iaload, 1) := by decide +kernel
theorem dX9_ruin_52 : decode cX9_ruin 52 = .ok (.aload_n 0, 1) := by decide +kernel
theorem dX9_ruin_53 : decode cX9_ruin 53 = .ok (.iload 4, 2) := by decide +kernel
theorem dX9_ruin_55 : decode cX9_ruin 55 = .ok (.iconst 1, 1) := by decide +kernel
theorem dX9_ruin_56 : decode cX9_ruin 56 = .ok (.invokevirtual 150, 3) := by decide +kernel
theorem dX9_ruin_59 : decode cX9_ruin 59 = .ok (.isub, 1) := by decide +kernel
theorem dX9_ruin_60 : decode cX9_ruin 60 = .ok (.invokevirtual 256, 3) := by decide +kernel
theorem dX9_ruin_63 : decode cX9_ruin 63 = .ok (.istore 5, 2) := by decide +kernel
theorem dX9_ruin_65 : decode cX9_ruin 65 = .ok (.iload 5, 2) := by decide +kernel
theorem dX9_ruin_67 : decode cX9_ruin 67 = .ok (.ifCond .ge 6, 3) := by decide +kernel
theorem dX9_ruin_70 : decode cX9_ruin 70 = .ok (.bipush (-6), 2) := by decide +kernel
theorem dX9_ruin_72 : decode cX9_ruin 72 = .ok (.ireturn, 1) := by decide +kernel
theorem dX9_ruin_73 : decode cX9_ruin 73 = .ok (.iload_n 3, 1) := by decide +kernel
theorem dX9_ruin_74 : decode cX9_ruin 74 = .ok (.iload 5, 2) := by decide +kernel
theorem dX9_ruin_76 : decode cX9_ruin 76 = .ok (.ior, 1) := by decide +kernel
theorem dX9_ruin_77 : decode cX9_ruin 77 = .ok (.istore_n 3, 1) := by decide +kernel
theorem dX9_ruin_78 : decode cX9_ruin 78 = .ok (.iinc 4 1, 3) := by decide +kernel
theorem dX9_ruin_81 : decode cX9_ruin 81 = .ok (.goto (-49), 3) := by decide +kernel
theorem dX9_ruin_84 : decode cX9_ruin 84 = .ok (.iload_n 2, 1) := by decide +kernel
theorem dX9_ruin_85 : decode cX9_ruin 85 = .ok (.ifCond .ne 10, 3) := by decide +kernel
theorem dX9_ruin_88 : decode cX9_ruin 88 = .ok (.iload_n 3, 1) := by decide +kernel
theorem dX9_ruin_89 : decode cX9_ruin 89 = .ok (.invokestatic 95, 3) := by decide +kernel
theorem dX9_ruin_92 : decode cX9_ruin 92 = .ok (.goto 4, 3) := by decide +kernel
theorem dX9_ruin_95 : decode cX9_ruin 95 = .ok (.iload_n 3, 1) := by decide +kernel
theorem dX9_ruin_96 : decode cX9_ruin 96 = .ok (.ireturn, 1) := by decide +kernel
theorem dX9_ahead_0 : decode cX9_ahead 0 = .ok (.iconst 0, 1) := by decide +kernel
theorem dX9_ahead_1 : decode cX9_ahead 1 = .ok (.istore_n 2, 1) := by decide +kernel
theorem dX9_ahead_2 : decode cX9_ahead 2 = .ok (.iconst 0, 1) := by decide +kernel
theorem dX9_ahead_3 : decode cX9_ahead 3 = .ok (.istore_n 3, 1) := by decide +kernel
theorem dX9_ahead_4 : decode cX9_ahead 4 = .ok (.iload_n 3, 1) := by decide +kernel
theorem dX9_ahead_5 : decode cX9_ahead 5 = .ok (.bipush 6, 2) := by decide +kernel
theorem dX9_ahead_7 : decode cX9_ahead 7 = .ok (.if_icmp .ge 52, 3) := by decide +kernel
theorem dX9_ahead_10 : decode cX9_ahead 10 = .ok (.iload_n 2, 1) := by decide +kernel
theorem dX9_ahead_11 : decode cX9_ahead 11 = .ok (.aload_n 0, 1) := by decide +kernel
theorem dX9_ahead_12 : decode cX9_ahead 12 = .ok (.getfield 49, 3) := by decide +kernel
theorem dX9_ahead_15 : decode cX9_ahead 15 = .ok (.iload_n 3, 1) := by decide +kernel
theorem dX9_ahead_16 : decode cX9_ahead 16 = .ok (.iaload, 1) := by decide +kernel
theorem dX9_ahead_17 : decode cX9_ahead 17 = .ok (.aload_n 0, 1) := by decide +kernel
theorem dX9_ahead_18 : decode cX9_ahead 18 = .ok (.getfield 49, 3) := by decide +kernel
theorem dX9_ahead_21 : decode cX9_ahead 21 = .ok (.iload_n 1, 1) := by decide +kernel
theorem dX9_ahead_22 : decode cX9_ahead 22 = .ok (.iaload, 1) := by decide +kernel
theorem dX9_ahead_23 : decode cX9_ahead 23 = .ok (.if_icmp .gt 23, 3) := by decide +kernel
theorem dX9_ahead_26 : decode cX9_ahead 26 = .ok (.aload_n 0, 1) := by decide +kernel
theorem dX9_ahead_27 : decode cX9_ahead 27 = .ok (.getfield 49, 3) := by decide +kernel
theorem dX9_ahead_30 : decode cX9_ahead 30 = .ok (.iload_n 3, 1) := by decide +kernel
theorem dX9_ahead_31 : decode cX9_ahead 31 = .ok (.iaload, 1) := by decide +kernel
theorem dX9_ahead_32 : decode cX9_ahead 32 = .ok (.aload_n 0, 1) := by decide +kernel
theorem dX9_ahead_33 : decode cX9_ahead 33 = .ok (.getfield 49, 3) := by decide +kernel
theorem dX9_ahead_36 : decode cX9_ahead 36 = .ok (.iload_n 1, 1) := by decide +kernel
theorem dX9_ahead_37 : decode cX9_ahead 37 = .ok (.iaload, 1) := by decide +kernel
theorem dX9_ahead_38 : decode cX9_ahead 38 = .ok (.if_icmp .ne 12, 3) := by decide +kernel
theorem dX9_ahead_41 : decode cX9_ahead 41 = .ok (.iload_n 3, 1) := by decide +kernel
theorem dX9_ahead_42 : decode cX9_ahead 42 = .ok (.iload_n 1, 1) := by decide +kernel
theorem dX9_ahead_43 : decode cX9_ahead 43 = .ok (.if_icmp .ge 7, 3) := by decide +kernel
theorem dX9_ahead_46 : decode cX9_ahead 46 = .ok (.iconst 1, 1) := by decide +kernel
theorem dX9_ahead_47 : decode cX9_ahead 47 = .ok (.goto 4, 3) := by decide +kernel
theorem dX9_ahead_50 : decode cX9_ahead 50 = .ok (.iconst 0, 1) := by decide +kernel
theorem dX9_ahead_51 : decode cX9_ahead 51 = .ok (.iadd, 1) := by decide +kernel
theorem dX9_ahead_52 : decode cX9_ahead 52 = .ok (.istore_n 2, 1) := by decide +kernel
theorem dX9_ahead_53 : decode cX9_ahead 53 = .ok (.iinc 3 1, 3) := by decide +kernel
theorem dX9_ahead_56 : decode cX9_ahead 56 = .ok (.goto (-52), 3) := by decide +kernel
theorem dX9_ahead_59 : decode cX9_ahead 59 = .ok (.iload_n 2, 1) := by decide +kernel
theorem dX9_ahead_60 : decode cX9_ahead 60 = .ok (.ireturn, 1) := by decide +kernel
theorem dX9_seats_0 : decode cX9_seats 0 = .ok (.iload_n 1, 1) := by decide +kernel
theorem dX9_seats_1 : decode cX9_seats 1 = .ok (.i2l, 1) := by decide +kernel
theorem dX9_seats_2 : decode cX9_seats 2 = .ok (.lconst 0, 1) := by decide +kernel
theorem dX9_seats_3 : decode cX9_seats 3 = .ok (.ldc2_w 259, 3) := by decide +kernel
theorem dX9_seats_6 : decode cX9_seats 6 = .ok (.invokestatic 77, 3) := by decide +kernel
theorem dX9_seats_9 : decode cX9_seats 9 = .ok (.ifCond .eq 25, 3) := by decide +kernel
theorem dX9_seats_12 : decode cX9_seats 12 = .ok (.iload_n 2, 1) := by decide +kernel
theorem dX9_seats_13 : decode cX9_seats 13 = .ok (.i2l, 1) := by decide +kernel
theorem dX9_seats_14 : decode cX9_seats 14 = .ok (.lconst 0, 1) := by decide +kernel
theorem dX9_seats_15 : decode cX9_seats 15 = .ok (.ldc2_w 261, 3) := by decide +kernel
theorem dX9_seats_18 : decode cX9_seats 18 = .ok (.invokestatic 77, 3) := by decide +kernel
theorem dX9_seats_21 : decode cX9_seats 21 = .ok (.ifCond .eq 13, 3) := by decide +kernel
theorem dX9_seats_24 : decode cX9_seats 24 = .ok (.iload_n 3, 1) := by decide +kernel
theorem dX9_seats_25 : decode cX9_seats 25 = .ok (.i2l, 1) := by decide +kernel
theorem dX9_seats_26 : decode cX9_seats 26 = .ok (.lconst 0, 1) := by decide +kernel
theorem dX9_seats_27 : decode cX9_seats 27 = .ok (.lconst 1, 1) := by decide +kernel
theorem dX9_seats_28 : decode cX9_seats 28 = .ok (.invokestatic 77, 3) := by decide +kernel
theorem dX9_seats_31 : decode cX9_seats 31 = .ok (.ifCond .ne 6, 3) := by decide +kernel
theorem dX9_seats_34 : decode cX9_seats 34 = .ok (.bipush (-2), 2) := by decide +kernel
theorem dX9_seats_36 : decode cX9_seats 36 = .ok (.ireturn, 1) := by decide +kernel
theorem dX9_seats_37 : decode cX9_seats 37 = .ok (.iload_n 2, 1) := by decide +kernel
theorem dX9_seats_38 : decode cX9_seats 38 = .ok (.istore 4, 2) := by decide +kernel
theorem dX9_seats_40 : decode cX9_seats 40 = .ok (.iconst 5, 1) := by decide +kernel
theorem dX9_seats_41 : decode cX9_seats 41 = .ok (.istore 5, 2) := by decide +kernel
theorem dX9_seats_43 : decode cX9_seats 43 = .ok (.iload 5, 2) := by decide +kernel
theorem dX9_seats_45 : decode cX9_seats 45 = .ok (.ifCond .lt 28, 3) := by decide +kernel
theorem dX9_seats_48 : decode cX9_seats 48 = .ok (.aload_n 0, 1) := by decide +kernel
theorem dX9_seats_49 : decode cX9_seats 49 = .ok (.getfield 49, 3) := by decide +kernel
theorem dX9_seats_52 : decode cX9_seats 52 = .ok (.iload 5, 2) := by decide +kernel
theorem dX9_seats_54 : decode cX9_seats 54 = .ok (.iload 4, 2) := by decide +kernel
theorem dX9_seats_56 : decode cX9_seats 56 = .ok (.bipush 10, 2) := by decide +kernel
theorem dX9_seats_58 : decode cX9_seats 58 = .ok (.irem, 1) := by decide +kernel
theorem dX9_seats_59 : decode cX9_seats 59 = .ok (.iastore, 1) := by decide +kernel
theorem dX9_seats_60 : decode cX9_seats 60 = .ok (.iload 4, 2) := by decide +kernel
theorem dX9_seats_62 : decode cX9_seats 62 = .ok (.bipush 10, 2) := by decide +kernel
theorem dX9_seats_64 : decode cX9_seats 64 = .ok (.idiv, 1) := by decide +kernel
theorem dX9_seats_65 : decode cX9_seats 65 = .ok (.istore 4, 2) := by decide +kernel
theorem dX9_seats_67 : decode cX9_seats 67 = .ok (.iinc 5 (-1), 3) := by decide +kernel
theorem dX9_seats_70 : decode cX9_seats 70 = .ok (.goto (-27), 3) := by decide +kernel
theorem dX9_seats_73 : decode cX9_seats 73 = .ok (.iconst 0, 1) := by decide +kernel
theorem dX9_seats_74 : decode cX9_seats 74 = .ok (.istore 5, 2) := by decide +kernel
theorem dX9_seats_76 : decode cX9_seats 76 = .ok (.iconst 0, 1) := by decide +kernel
theorem dX9_seats_77 : decode cX9_seats 77 = .ok (.istore 6, 2) := by decide +kernel
theorem dX9_seats_79 : decode cX9_seats 79 = .ok (.iconst 0, 1) := by decide +kernel
theorem dX9_seats_80 : decode cX9_seats 80 = .ok (.istore 7, 2) := by decide +kernel
theorem dX9_seats_82 : decode cX9_seats 82 = .ok (.iload 7, 2) := by decide +kernel
theorem dX9_seats_84 : decode cX9_seats 84 = .ok (.bipush 6, 2) := by decide +kernel
theorem dX9_seats_86 : decode cX9_seats 86 = .ok (.if_icmp .ge 56, 3) := by decide +kernel
theorem dX9_seats_89 : decode cX9_seats 89 = .ok (.iload 5, 2) := by decide +kernel
theorem dX9_seats_91 : decode cX9_seats 91 = .ok (.aload_n 0, 1) := by decide +kernel
theorem dX9_seats_92 : decode cX9_seats 92 = .ok (.iload 7, 2) := by decide +kernel
theorem dX9_seats_94 : decode cX9_seats 94 = .ok (.invokevirtual 263, 3) := by decide +kernel
theorem dX9_seats_97 : decode cX9_seats 97 = .ok (.iload_n 1, 1) := by decide +kernel
theorem dX9_seats_98 : decode cX9_seats 98 = .ok (.if_icmp .ge 10, 3) := by decide +kernel
theorem dX9_seats_101 : decode cX9_seats 101 = .ok (.iconst 1, 1) := by decide +kernel
theorem dX9_seats_102 : decode cX9_seats 102 = .ok (.iload 7, 2) := by decide +kernel
theorem dX9_seats_104 : decode cX9_seats 104 = .ok (.ishl, 1) := by decide +kernel
theorem dX9_seats_105 : decode cX9_seats 105 = .ok (.goto 4, 3) := by decide +kernel
theorem dX9_seats_108 : decode cX9_seats 108 = .ok (.iconst 0, 1) := by decide +kernel
theorem dX9_seats_109 : decode cX9_seats 109 = .ok (.ior, 1) := by decide +kernel
theorem dX9_seats_110 : decode cX9_seats 110 = .ok (.istore 5, 2) := by decide +kernel
theorem dX9_seats_112 : decode cX9_seats 112 = .ok (.aload_n 0, 1) := by decide +kernel
theorem dX9_seats_113 : decode cX9_seats 113 = .ok (.iload 7, 2) := by decide +kernel
theorem dX9_seats_115 : decode cX9_seats 115 = .ok (.invokevirtual 263, 3) := by decide +kernel
theorem dX9_seats_118 : decode cX9_seats 118 = .ok (.iload_n 1, 1) := by decide +kernel
theorem dX9_seats_119 : decode cX9_seats 119 = .ok (.if_icmp .ne 13, 3) := by decide +kernel
theorem dX9_seats_122 : decode cX9_seats 122 = .ok (.aload_n 0, 1) := by decide +kernel
theorem dX9_seats_123 : decode cX9_seats 123 = .ok (.getfield 49, 3) := by decide +kernel
theorem dX9_seats_126 : decode cX9_seats 126 = .ok (.iload 7, 2) := by decide +kernel
theorem dX9_seats_128 : decode cX9_seats 128 = .ok (.iaload, 1) := by decide +kernel
theorem dX9_seats_129 : decode cX9_seats 129 = .ok (.goto 5, 3) := by decide +kernel
theorem dX9_seats_132 : decode cX9_seats 132 = .ok (.iload 6, 2) := by decide +kernel
theorem dX9_seats_134 : decode cX9_seats 134 = .ok (.istore 6, 2) := by decide +kernel
theorem dX9_seats_136 : decode cX9_seats 136 = .ok (.iinc 7 1, 3) := by decide +kernel
theorem dX9_seats_139 : decode cX9_seats 139 = .ok (.goto (-57), 3) := by decide +kernel
theorem dX9_seats_142 : decode cX9_seats 142 = .ok (.iload_n 3, 1) := by decide +kernel
theorem dX9_seats_143 : decode cX9_seats 143 = .ok (.ifCond .ne 8, 3) := by decide +kernel
theorem dX9_seats_146 : decode cX9_seats 146 = .ok (.iload 5, 2) := by decide +kernel
theorem dX9_seats_148 : decode cX9_seats 148 = .ok (.goto 5, 3) := by decide +kernel
theorem dX9_seats_151 : decode cX9_seats 151 = .ok (.iload 6, 2) := by decide +kernel
theorem dX9_seats_153 : decode cX9_seats 153 = .ok (.ireturn, 1) := by decide +kernel
theorem dX9_areRanks_0 : decode cX9_areRanks 0 = .ok (.iload_n 2, 1) := by decide +kernel
theorem dX9_areRanks_1 : decode cX9_areRanks 1 = .ok (.istore_n 3, 1) := by decide +kernel
theorem dX9_areRanks_2 : decode cX9_areRanks 2 = .ok (.iconst 0, 1) := by decide +kernel
theorem dX9_areRanks_3 : decode cX9_areRanks 3 = .ok (.istore 4, 2) := by decide +kernel
theorem dX9_areRanks_5 : decode cX9_areRanks 5 = .ok (.iconst 3, 1) := by decide +kernel
theorem dX9_areRanks_6 : decode cX9_areRanks 6 = .ok (.istore 5, 2) := by decide +kernel
theorem dX9_areRanks_8 : decode cX9_areRanks 8 = .ok (.iload 5, 2) := by decide +kernel
theorem dX9_areRanks_10 : decode cX9_areRanks 10 = .ok (.ifCond .lt 52, 3) := by decide +kernel
theorem dX9_areRanks_13 : decode cX9_areRanks 13 = .ok (.aload_n 0, 1) := by decide +kernel
theorem dX9_areRanks_14 : decode cX9_areRanks 14 = .ok (.getfield 52, 3) := by decide +kernel
theorem dX9_areRanks_17 : decode cX9_areRanks 17 = .ok (.iconst 4, 1) := by decide +kernel
theorem dX9_areRanks_18 : decode cX9_areRanks 18 = .ok (.iload_n 1, 1) := by decide +kernel
theorem dX9_areRanks_19 : decode cX9_areRanks 19 = .ok (.imul, 1) := by decide +kernel
theorem dX9_areRanks_20 : decode cX9_areRanks 20 = .ok (.iload 5, 2) := by decide +kernel
theorem dX9_areRanks_22 : decode cX9_areRanks 22 = .ok (.iadd, 1) := by decide +kernel
theorem dX9_areRanks_23 : decode cX9_areRanks 23 = .ok (.iload_n 3, 1) := by decide +kernel
theorem dX9_areRanks_24 : decode cX9_areRanks 24 = .ok (.bipush 10, 2) := by decide +kernel
theorem dX9_areRanks_26 : decode cX9_areRanks 26 = .ok (.irem, 1) := by decide +kernel
theorem dX9_areRanks_27 : decode cX9_areRanks 27 = .ok (.iastore, 1) := by decide +kernel
theorem dX9_areRanks_28 : decode cX9_areRanks 28 = .ok (.iload 4, 2) := by decide +kernel
theorem dX9_areRanks_30 : decode cX9_areRanks 30 = .ok (.iload_n 3, 1) := by decide +kernel
theorem dX9_areRanks_31 : decode cX9_areRanks 31 = .ok (.bipush 10, 2) := by decide +kernel
theorem dX9_areRanks_33 : decode cX9_areRanks 33 = .ok (.irem, 1) := by decide +kernel
theorem dX9_areRanks_34 : decode cX9_areRanks 34 = .ok (.iconst 4, 1) := by decide +kernel
theorem dX9_areRanks_35 : decode cX9_areRanks 35 = .ok (.if_icmp .ge 12, 3) := by decide +kernel
theorem dX9_areRanks_38 : decode cX9_areRanks 38 = .ok (.iconst 1, 1) := by decide +kernel
theorem dX9_areRanks_39 : decode cX9_areRanks 39 = .ok (.iload_n 3, 1) := by decide +kernel
theorem dX9_areRanks_40 : decode cX9_areRanks 40 = .ok (.bipush 10, 2) := by decide +kernel
theorem dX9_areRanks_42 : decode cX9_areRanks 42 = .ok (.irem, 1) := by decide +kernel
theorem dX9_areRanks_43 : decode cX9_areRanks 43 = .ok (.ishl, 1) := by decide +kernel
theorem dX9_areRanks_44 : decode cX9_areRanks 44 = .ok (.goto 4, 3) := by decide +kernel
theorem dX9_areRanks_47 : decode cX9_areRanks 47 = .ok (.iconst 0, 1) := by decide +kernel
theorem dX9_areRanks_48 : decode cX9_areRanks 48 = .ok (.ior, 1) := by decide +kernel
theorem dX9_areRanks_49 : decode cX9_areRanks 49 = .ok (.istore 4, 2) := by decide +kernel
theorem dX9_areRanks_51 : decode cX9_areRanks 51 = .ok (.iload_n 3, 1) := by decide +kernel
theorem dX9_areRanks_52 : decode cX9_areRanks 52 = .ok (.bipush 10, 2) := by decide +kernel
theorem dX9_areRanks_54 : decode cX9_areRanks 54 = .ok (.idiv, 1) := by decide +kernel
theorem dX9_areRanks_55 : decode cX9_areRanks 55 = .ok (.istore_n 3, 1) := by decide +kernel
theorem dX9_areRanks_56 : decode cX9_areRanks 56 = .ok (.iinc 5 (-1), 3) := by decide +kernel
theorem dX9_areRanks_59 : decode cX9_areRanks 59 = .ok (.goto (-51), 3) := by decide +kernel
theorem dX9_areRanks_62 : decode cX9_areRanks 62 = .ok (.iload_n 2, 1) := by decide +kernel
theorem dX9_areRanks_63 : decode cX9_areRanks 63 = .ok (.i2l, 1) := by decide +kernel
theorem dX9_areRanks_64 : decode cX9_areRanks 64 = .ok (.lconst 0, 1) := by decide +kernel
theorem dX9_areRanks_65 : decode cX9_areRanks 65 = .ok (.ldc2_w 266, 3) := by decide +kernel
theorem dX9_areRanks_68 : decode cX9_areRanks 68 = .ok (.invokestatic 77, 3) := by decide +kernel
theorem dX9_areRanks_71 : decode cX9_areRanks 71 = .ok (.ifCond .eq 14, 3) := by decide +kernel
theorem dX9_areRanks_74 : decode cX9_areRanks 74 = .ok (.iload 4, 2) := by decide +kernel
theorem dX9_areRanks_76 : decode cX9_areRanks 76 = .ok (.bipush 15, 2) := by decide +kernel
theorem dX9_areRanks_78 : decode cX9_areRanks 78 = .ok (.if_icmp .ne 7, 3) := by decide +kernel
theorem dX9_areRanks_81 : decode cX9_areRanks 81 = .ok (.iconst 1, 1) := by decide +kernel
theorem dX9_areRanks_82 : decode cX9_areRanks 82 = .ok (.goto 4, 3) := by decide +kernel
theorem dX9_areRanks_85 : decode cX9_areRanks 85 = .ok (.iconst 0, 1) := by decide +kernel
theorem dX9_areRanks_86 : decode cX9_areRanks 86 = .ok (.ireturn, 1) := by decide +kernel
theorem dX9_pointsTo_0 : decode cX9_pointsTo 0 = .ok (.bipush (-6), 2) := by decide +kernel
theorem dX9_pointsTo_2 : decode cX9_pointsTo 2 = .ok (.istore_n 3, 1) := by decide +kernel
theorem dX9_pointsTo_3 : decode cX9_pointsTo 3 = .ok (.iconst 3, 1) := by decide +kernel
theorem dX9_pointsTo_4 : decode cX9_pointsTo 4 = .ok (.istore 4, 2) := by decide +kernel
theorem dX9_pointsTo_6 : decode cX9_pointsTo 6 = .ok (.iload 4, 2) := by decide +kernel
theorem dX9_pointsTo_8 : decode cX9_pointsTo 8 = .ok (.ifCond .lt 44, 3) := by decide +kernel
theorem dX9_pointsTo_11 : decode cX9_pointsTo 11 = .ok (.iload_n 2, 1) := by decide +kernel
theorem dX9_pointsTo_12 : decode cX9_pointsTo 12 = .ok (.aload_n 0, 1) := by decide +kernel
theorem dX9_pointsTo_13 : decode cX9_pointsTo 13 = .ok (.getfield 52, 3) := by decide +kernel
theorem dX9_pointsTo_16 : decode cX9_pointsTo 16 = .ok (.iconst 4, 1) := by decide +kernel
theorem dX9_pointsTo_17 : decode cX9_pointsTo 17 = .ok (.iload_n 1, 1) := by decide +kernel
theorem dX9_pointsTo_18 : decode cX9_pointsTo 18 = .ok (.imul, 1) := by decide +kernel
theorem dX9_pointsTo_19 : decode cX9_pointsTo 19 = .ok (.iload 4, 2) := by decide +kernel
theorem dX9_pointsTo_21 : decode cX9_pointsTo 21 = .ok (.iadd, 1) := by decide +kernel
theorem dX9_pointsTo_22 : decode cX9_pointsTo 22 = .ok (.iaload, 1) := by decide +kernel
theorem dX9_pointsTo_23 : decode cX9_pointsTo 23 = .ok (.ishr, 1) := by decide +kernel
theorem dX9_pointsTo_24 : decode cX9_pointsTo 24 = .ok (.iconst 1, 1) := by decide +kernel
theorem dX9_pointsTo_25 : decode cX9_pointsTo 25 = .ok (.iand, 1) := by decide +kernel
theorem dX9_pointsTo_26 : decode cX9_pointsTo 26 = .ok (.iconst 1, 1) := by decide +kernel
theorem dX9_pointsTo_27 : decode cX9_pointsTo 27 = .ok (.if_icmp .ne 17, 3) := by decide +kernel
theorem dX9_pointsTo_30 : decode cX9_pointsTo 30 = .ok (.aload_n 0, 1) := by decide +kernel
theorem dX9_pointsTo_31 : decode cX9_pointsTo 31 = .ok (.getfield 52, 3) := by decide +kernel
theorem dX9_pointsTo_34 : decode cX9_pointsTo 34 = .ok (.iconst 4, 1) := by decide +kernel
theorem dX9_pointsTo_35 : decode cX9_pointsTo 35 = .ok (.iload_n 1, 1) := by decide +kernel
theorem dX9_pointsTo_36 : decode cX9_pointsTo 36 = .ok (.imul, 1) := by decide +kernel
theorem dX9_pointsTo_37 : decode cX9_pointsTo 37 = .ok (.iload 4, 2) := by decide +kernel
theorem dX9_pointsTo_39 : decode cX9_pointsTo 39 = .ok (.iadd, 1) := by decide +kernel
theorem dX9_pointsTo_40 : decode cX9_pointsTo 40 = .ok (.iaload, 1) := by decide +kernel
theorem dX9_pointsTo_41 : decode cX9_pointsTo 41 = .ok (.goto 4, 3) := by decide +kernel
theorem dX9_pointsTo_44 : decode cX9_pointsTo 44 = .ok (.iload_n 3, 1) := by decide +kernel
theorem dX9_pointsTo_45 : decode cX9_pointsTo 45 = .ok (.istore_n 3, 1) := by decide +kernel
theorem dX9_pointsTo_46 : decode cX9_pointsTo 46 = .ok (.iinc 4 (-1), 3) := by decide +kernel
theorem dX9_pointsTo_49 : decode cX9_pointsTo 49 = .ok (.goto (-43), 3) := by decide +kernel
theorem dX9_pointsTo_52 : decode cX9_pointsTo 52 = .ok (.iload_n 3, 1) := by decide +kernel
theorem dX9_pointsTo_53 : decode cX9_pointsTo 53 = .ok (.ireturn, 1) := by decide +kernel
theorem dX9_ringed_0 : decode cX9_ringed 0 = .ok (.iconst 0, 1) := by decide +kernel
theorem dX9_ringed_1 : decode cX9_ringed 1 = .ok (.istore_n 2, 1) := by decide +kernel
theorem dX9_ringed_2 : decode cX9_ringed 2 = .ok (.iconst 0, 1) := by decide +kernel
theorem dX9_ringed_3 : decode cX9_ringed 3 = .ok (.istore_n 3, 1) := by decide +kernel
theorem dX9_ringed_4 : decode cX9_ringed 4 = .ok (.iload_n 3, 1) := by decide +kernel
theorem dX9_ringed_5 : decode cX9_ringed 5 = .ok (.iconst 4, 1) := by decide +kernel
theorem dX9_ringed_6 : decode cX9_ringed 6 = .ok (.if_icmp .ge 81, 3) := by decide +kernel
theorem dX9_ringed_9 : decode cX9_ringed 9 = .ok (.iload_n 3, 1) := by decide +kernel
theorem dX9_ringed_10 : decode cX9_ringed 10 = .ok (.istore 4, 2) := by decide +kernel
theorem dX9_ringed_12 : decode cX9_ringed 12 = .ok (.iconst 0, 1) := by decide +kernel
theorem dX9_ringed_13 : decode cX9_ringed 13 = .ok (.istore 5, 2) := by decide +kernel
theorem dX9_ringed_15 : decode cX9_ringed 15 = .ok (.iconst 0, 1) := by decide +kernel
theorem dX9_ringed_16 : decode cX9_ringed 16 = .ok (.istore 6, 2) := by decide +kernel
theorem dX9_ringed_18 : decode cX9_ringed 18 = .ok (.iload 6, 2) := by decide +kernel
theorem dX9_ringed_20 : decode cX9_ringed 20 = .ok (.iconst 4, 1) := by decide +kernel
theorem dX9_ringed_21 : decode cX9_ringed 21 = .ok (.if_icmp .ge 45, 3) := by decide +kernel
theorem dX9_ringed_24 : decode cX9_ringed 24 = .ok (.iload_n 1, 1) := by decide +kernel
theorem dX9_ringed_25 : decode cX9_ringed 25 = .ok (.iload_n 3, 1) := by decide +kernel
theorem dX9_ringed_26 : decode cX9_ringed 26 = .ok (.ishr, 1) := by decide +kernel
theorem dX9_ringed_27 : decode cX9_ringed 27 = .ok (.iconst 1, 1) := by decide +kernel
theorem dX9_ringed_28 : decode cX9_ringed 28 = .ok (.iand, 1) := by decide +kernel
theorem dX9_ringed_29 : decode cX9_ringed 29 = .ok (.iconst 1, 1) := by decide +kernel
theorem dX9_ringed_30 : decode cX9_ringed 30 = .ok (.if_icmp .ne 36, 3) := by decide +kernel
theorem dX9_ringed_33 : decode cX9_ringed 33 = .ok (.aload_n 0, 1) := by decide +kernel
theorem dX9_ringed_34 : decode cX9_ringed 34 = .ok (.iload 4, 2) := by decide +kernel
theorem dX9_ringed_36 : decode cX9_ringed 36 = .ok (.iload_n 1, 1) := by decide +kernel
theorem dX9_ringed_37 : decode cX9_ringed 37 = .ok (.invokevirtual 268, 3) := by decide +kernel
theorem dX9_ringed_40 : decode cX9_ringed 40 = .ok (.istore 4, 2) := by decide +kernel
theorem dX9_ringed_42 : decode cX9_ringed 42 = .ok (.iload 5, 2) := by decide +kernel
theorem dX9_ringed_44 : decode cX9_ringed 44 = .ok (.ifCond .ne 9, 3) := by decide +kernel
theorem dX9_ringed_47 : decode cX9_ringed 47 = .ok (.iload 4, 2) := by decide +kernel
theorem dX9_ringed_49 : decode cX9_ringed 49 = .ok (.iload_n 3, 1) := by decide +kernel
theorem dX9_ringed_50 : decode cX9_ringed 50 = .ok (.if_icmp .ne 7, 3) := by decide +kernel
theorem dX9_ringed_53 : decode cX9_ringed 53 = .ok (.iconst 1, 1) := by decide +kernel
theorem dX9_ringed_54 : decode cX9_ringed 54 = .ok (.goto 4, 3) := by decide +kernel
theorem dX9_ringed_57 : decode cX9_ringed 57 = .ok (.iconst 0, 1) := by decide +kernel
theorem dX9_ringed_58 : decode cX9_ringed 58 = .ok (.istore 5, 2) := by decide +kernel
theorem dX9_ringed_60 : decode cX9_ringed 60 = .ok (.iinc 6 1, 3) := by decide +kernel
theorem dX9_ringed_63 : decode cX9_ringed 63 = .ok (.goto (-45), 3) := by decide +kernel
theorem dX9_ringed_66 : decode cX9_ringed 66 = .ok (.iload_n 2, 1) := by decide +kernel
theorem dX9_ringed_67 : decode cX9_ringed 67 = .ok (.iload 5, 2) := by decide +kernel
theorem dX9_ringed_69 : decode cX9_ringed 69 = .ok (.ifCond .eq 9, 3) := by decide +kernel
theorem dX9_ringed_72 : decode cX9_ringed 72 = .ok (.iconst 1, 1) := by decide +kernel
theorem dX9_ringed_73 : decode cX9_ringed 73 = .ok (.iload_n 3, 1) := by decide +kernel
theorem dX9_ringed_74 : decode cX9_ringed 74 = .ok (.ishl, 1) := by decide +kernel
theorem dX9_ringed_75 : decode cX9_ringed 75 = .ok (.goto 4, 3) := by decide +kernel
theorem dX9_ringed_78 : decode cX9_ringed 78 = .ok (.iconst 0, 1) := by decide +kernel
theorem dX9_ringed_79 : decode cX9_ringed 79 = .ok (.ior, 1) := by decide +kernel
theorem dX9_ringed_80 : decode cX9_ringed 80 = .ok (.istore_n 2, 1) := by decide +kernel
theorem dX9_ringed_81 : decode cX9_ringed 81 = .ok (.iinc 3 1, 3) := by decide +kernel
theorem dX9_ringed_84 : decode cX9_ringed 84 = .ok (.goto (-80), 3) := by decide +kernel
theorem dX9_ringed_87 : decode cX9_ringed 87 = .ok (.iload_n 2, 1) := by decide +kernel
theorem dX9_ringed_88 : decode cX9_ringed 88 = .ok (.ireturn, 1) := by decide +kernel
theorem dX9_deal_0 : decode cX9_deal 0 = .ok (.bipush 15, 2) := by decide +kernel
theorem dX9_deal_2 : decode cX9_deal 2 = .ok (.istore_n 1, 1) := by decide +kernel
theorem dX9_deal_3 : decode cX9_deal 3 = .ok (.iload_n 1, 1) := by decide +kernel
theorem dX9_deal_4 : decode cX9_deal 4 = .ok (.ifCond .eq 61, 3) := by decide +kernel
theorem dX9_deal_7 : decode cX9_deal 7 = .ok (.aload_n 0, 1) := by decide +kernel
theorem dX9_deal_8 : decode cX9_deal 8 = .ok (.iload_n 1, 1) := by decide +kernel
theorem dX9_deal_9 : decode cX9_deal 9 = .ok (.invokevirtual 271, 3) := by decide +kernel
theorem dX9_deal_12 : decode cX9_deal 12 = .ok (.istore_n 2, 1) := by decide +kernel
theorem dX9_deal_13 : decode cX9_deal 13 = .ok (.iconst 0, 1) := by decide +kernel
theorem dX9_deal_14 : decode cX9_deal 14 = .ok (.istore_n 3, 1) := by decide +kernel
theorem dX9_deal_15 : decode cX9_deal 15 = .ok (.iload_n 3, 1) := by decide +kernel
theorem dX9_deal_16 : decode cX9_deal 16 = .ok (.iconst 4, 1) := by decide +kernel
theorem dX9_deal_17 : decode cX9_deal 17 = .ok (.if_icmp .ge 39, 3) := by decide +kernel
theorem dX9_deal_20 : decode cX9_deal 20 = .ok (.aload_n 0, 1) := by decide +kernel
theorem dX9_deal_21 : decode cX9_deal 21 = .ok (.getfield 55, 3) := by decide +kernel
theorem dX9_deal_24 : decode cX9_deal 24 = .ok (.iload_n 3, 1) := by decide +kernel
theorem dX9_deal_25 : decode cX9_deal 25 = .ok (.iload_n 2, 1) := by decide +kernel
theorem dX9_deal_26 : decode cX9_deal 26 = .ok (.iload_n 3, 1) := by decide +kernel
theorem dX9_deal_27 : decode cX9_deal 27 = .ok (.ishr, 1) := by decide +kernel
theorem dX9_deal_28 : decode cX9_deal 28 = .ok (.iconst 1, 1) := by decide +kernel
theorem dX9_deal_29 : decode cX9_deal 29 = .ok (.iand, 1) := by decide +kernel
theorem dX9_deal_30 : decode cX9_deal 30 = .ok (.iconst 1, 1) := by decide +kernel
theorem dX9_deal_31 : decode cX9_deal 31 = .ok (.if_icmp .ne 12, 3) := by decide +kernel
theorem dX9_deal_34 : decode cX9_deal 34 = .ok (.aload_n 0, 1) := by decide +kernel
theorem dX9_deal_35 : decode cX9_deal 35 = .ok (.iload_n 3, 1) := by decide +kernel
theorem dX9_deal_36 : decode cX9_deal 36 = .ok (.iload_n 1, 1) := by decide +kernel
theorem dX9_deal_37 : decode cX9_deal 37 = .ok (.invokevirtual 268, 3) := by decide +kernel
theorem dX9_deal_40 : decode cX9_deal 40 = .ok (.goto 9, 3) := by decide +kernel
theorem dX9_deal_43 : decode cX9_deal 43 = .ok (.aload_n 0, 1) := by decide +kernel
theorem dX9_deal_44 : decode cX9_deal 44 = .ok (.getfield 55, 3) := by decide +kernel
theorem dX9_deal_47 : decode cX9_deal 47 = .ok (.iload_n 3, 1) := by decide +kernel
theorem dX9_deal_48 : decode cX9_deal 48 = .ok (.iaload, 1) := by decide +kernel
theorem dX9_deal_49 : decode cX9_deal 49 = .ok (.iastore, 1) := by decide +kernel
theorem dX9_deal_50 : decode cX9_deal 50 = .ok (.iinc 3 1, 3) := by decide +kernel
theorem dX9_deal_53 : decode cX9_deal 53 = .ok (.goto (-38), 3) := by decide +kernel
theorem dX9_deal_56 : decode cX9_deal 56 = .ok (.iload_n 1, 1) := by decide +kernel
theorem dX9_deal_57 : decode cX9_deal 57 = .ok (.iload_n 2, 1) := by decide +kernel
theorem dX9_deal_58 : decode cX9_deal 58 = .ok (.iconst (-1), 1) := by decide +kernel
theorem dX9_deal_59 : decode cX9_deal 59 = .ok (.ixor, 1) := by decide +kernel
theorem dX9_deal_60 : decode cX9_deal 60 = .ok (.iand, 1) := by decide +kernel
theorem dX9_deal_61 : decode cX9_deal 61 = .ok (.istore_n 1, 1) := by decide +kernel
theorem dX9_deal_62 : decode cX9_deal 62 = .ok (.goto (-59), 3) := by decide +kernel
theorem dX9_deal_65 : decode cX9_deal 65 = .ok (.return_, 1) := by decide +kernel
theorem dX9_rings_0 : decode cX9_rings 0 = .ok (.aload_n 0, 1) := by decide +kernel
theorem dX9_rings_1 : decode cX9_rings 1 = .ok (.iconst 0, 1) := by decide +kernel
theorem dX9_rings_2 : decode cX9_rings 2 = .ok (.iload_n 1, 1) := by decide +kernel
theorem dX9_rings_3 : decode cX9_rings 3 = .ok (.invokevirtual 274, 3) := by decide +kernel
theorem dX9_rings_6 : decode cX9_rings 6 = .ok (.ifCond .eq 35, 3) := by decide +kernel
theorem dX9_rings_9 : decode cX9_rings 9 = .ok (.aload_n 0, 1) := by decide +kernel
theorem dX9_rings_10 : decode cX9_rings 10 = .ok (.iconst 1, 1) := by decide +kernel
theorem dX9_rings_11 : decode cX9_rings 11 = .ok (.iload_n 2, 1) := by decide +kernel
theorem dX9_rings_12 : decode cX9_rings 12 = .ok (.invokevirtual 274, 3) := by decide +kernel
theorem dX9_rings_15 : decode cX9_rings 15 = .ok (.ifCond .eq 26, 3) := by decide +kernel
theorem dX9_rings_18 : decode cX9_rings 18 = .ok (.aload_n 0, 1) := by decide +kernel
theorem dX9_rings_19 : decode cX9_rings 19 = .ok (.iconst 2, 1) := by decide +kernel
theorem dX9_rings_20 : decode cX9_rings 20 = .ok (.iload_n 3, 1) := by decide +kernel
theorem dX9_rings_21 : decode cX9_rings 21 = .ok (.invokevirtual 274, 3) := by decide +kernel
theorem dX9_rings_24 : decode cX9_rings 24 = .ok (.ifCond .eq 17, 3) := by decide +kernel
theorem dX9_rings_27 : decode cX9_rings 27 = .ok (.aload_n 0, 1) := by decide +kernel
theorem dX9_rings_28 : decode cX9_rings 28 = .ok (.iconst 3, 1) := by decide +kernel
theorem dX9_rings_29 : decode cX9_rings 29 = .ok (.iload 4, 2) := by decide +kernel
theorem dX9_rings_31 : decode cX9_rings 31 = .ok (.invokevirtual 274, 3) := by decide +kernel
theorem dX9_rings_34 : decode cX9_rings 34 = .ok (.ifCond .eq 7, 3) := by decide +kernel
theorem dX9_rings_37 : decode cX9_rings 37 = .ok (.iconst 1, 1) := by decide +kernel
theorem dX9_rings_38 : decode cX9_rings 38 = .ok (.goto 4, 3) := by decide +kernel
theorem dX9_rings_41 : decode cX9_rings 41 = .ok (.iconst 0, 1) := by decide +kernel
theorem dX9_rings_42 : decode cX9_rings 42 = .ok (.istore 6, 2) := by decide +kernel
theorem dX9_rings_44 : decode cX9_rings 44 = .ok (.iload 6, 2) := by decide +kernel
theorem dX9_rings_46 : decode cX9_rings 46 = .ok (.ifCond .eq 14, 3) := by decide +kernel
theorem dX9_rings_49 : decode cX9_rings 49 = .ok (.iload 5, 2) := by decide +kernel
theorem dX9_rings_51 : decode cX9_rings 51 = .ok (.i2l, 1) := by decide +kernel
theorem dX9_rings_52 : decode cX9_rings 52 = .ok (.lconst 0, 1) := by decide +kernel
theorem dX9_rings_53 : decode cX9_rings 53 = .ok (.lconst 1, 1) := by decide +kernel
theorem dX9_rings_54 : decode cX9_rings 54 = .ok (.invokestatic 77, 3) := by decide +kernel
theorem dX9_rings_57 : decode cX9_rings 57 = .ok (.ifCond .ne 6, 3) := by decide +kernel
theorem dX9_rings_60 : decode cX9_rings 60 = .ok (.bipush (-2), 2) := by decide +kernel
theorem dX9_rings_62 : decode cX9_rings 62 = .ok (.ireturn, 1) := by decide +kernel
theorem dX9_rings_63 : decode cX9_rings 63 = .ok (.aload_n 0, 1) := by decide +kernel
theorem dX9_rings_64 : decode cX9_rings 64 = .ok (.invokevirtual 277, 3) := by decide +kernel
theorem dX9_rings_67 : decode cX9_rings 67 = .ok (.iconst 0, 1) := by decide +kernel
theorem dX9_rings_68 : decode cX9_rings 68 = .ok (.istore 7, 2) := by decide +kernel
theorem dX9_rings_70 : decode cX9_rings 70 = .ok (.iconst 0, 1) := by decide +kernel
theorem dX9_rings_71 : decode cX9_rings 71 = .ok (.istore 8, 2) := by decide +kernel
theorem dX9_rings_73 : decode cX9_rings 73 = .ok (.iconst 0, 1) := by decide +kernel
theorem dX9_rings_74 : decode cX9_rings 74 = .ok (.istore 9, 2) := by decide +kernel
theorem dX9_rings_76 : decode cX9_rings 76 = .ok (.iload 9, 2) := by decide +kernel
theorem dX9_rings_78 : decode cX9_rings 78 = .ok (.iconst 4, 1) := by decide +kernel
theorem dX9_rings_79 : decode cX9_rings 79 = .ok (.if_icmp .ge 46, 3) := by decide +kernel
theorem dX9_rings_82 : decode cX9_rings 82 = .ok (.iload 7, 2) := by decide +kernel
theorem dX9_rings_84 : decode cX9_rings 84 = .ok (.aload_n 0, 1) := by decide +kernel
theorem dX9_rings_85 : decode cX9_rings 85 = .ok (.getfield 55, 3) := by decide +kernel
theorem dX9_rings_88 : decode cX9_rings 88 = .ok (.iload 9, 2) := by decide +kernel
theorem dX9_rings_90 : decode cX9_rings 90 = .ok (.iaload, 1) := by decide +kernel
theorem dX9_rings_91 : decode cX9_rings 91 = .ok (.iload 9, 2) := by decide +kernel
theorem dX9_rings_93 : decode cX9_rings 93 = .ok (.if_icmp .ne 7, 3) := by decide +kernel
theorem dX9_rings_96 : decode cX9_rings 96 = .ok (.iconst 1, 1) := by decide +kernel
theorem dX9_rings_97 : decode cX9_rings 97 = .ok (.goto 4, 3) := by decide +kernel
theorem dX9_rings_100 : decode cX9_rings 100 = .ok (.iconst 0, 1) := by decide +kernel
theorem dX9_rings_101 : decode cX9_rings 101 = .ok (.iadd, 1) := by decide +kernel
theorem dX9_rings_102 : decode cX9_rings 102 = .ok (.istore 7, 2) := by decide +kernel
theorem dX9_rings_104 : decode cX9_rings 104 = .ok (.bipush 10, 2) := by decide +kernel
theorem dX9_rings_106 : decode cX9_rings 106 = .ok (.iload 8, 2) := by decide +kernel
theorem dX9_rings_108 : decode cX9_rings 108 = .ok (.imul, 1) := by decide +kernel
theorem dX9_rings_109 : decode cX9_rings 109 = .ok (.aload_n 0, 1) := by decide +kernel
theorem dX9_rings_110 : decode cX9_rings 110 = .ok (.getfield 55, 3) := by decide +kernel
theorem dX9_rings_113 : decode cX9_rings 113 = .ok (.iload 9, 2) := by decide +kernel
theorem dX9_rings_115 : decode cX9_rings 115 = .ok (.iaload, 1) := by decide +kernel
theorem dX9_rings_116 : decode cX9_rings 116 = .ok (.iadd, 1) := by decide +kernel
theorem dX9_rings_117 : decode cX9_rings 117 = .ok (.istore 8, 2) := by decide +kernel
theorem dX9_rings_119 : decode cX9_rings 119 = .ok (.iinc 9 1, 3) := by decide +kernel
theorem dX9_rings_122 : decode cX9_rings 122 = .ok (.goto (-46), 3) := by decide +kernel
theorem dX9_rings_125 : decode cX9_rings 125 = .ok (.iload 5, 2) := by decide +kernel
theorem dX9_rings_127 : decode cX9_rings 127 = .ok (.ifCond .ne 8, 3) := by decide +kernel
theorem dX9_rings_130 : decode cX9_rings 130 = .ok (.iload 8, 2) := by decide +kernel
theorem dX9_rings_132 : decode cX9_rings 132 = .ok (.goto 5, 3) := by decide +kernel
theorem dX9_rings_135 : decode cX9_rings 135 = .ok (.iload 7, 2) := by decide +kernel
theorem dX9_rings_137 : decode cX9_rings 137 = .ok (.ireturn, 1) := by decide +kernel
theorem dX9_seen_0 : decode cX9_seen 0 = .ok (.iload_n 1, 1) := by decide +kernel
theorem dX9_seen_1 : decode cX9_seen 1 = .ok (.i2l, 1) := by decide +kernel
theorem dX9_seen_2 : decode cX9_seen 2 = .ok (.lconst 1, 1) := by decide +kernel
theorem dX9_seen_3 : decode cX9_seen 3 = .ok (.ldc2_w 112, 3) := by decide +kernel
theorem dX9_seen_6 : decode cX9_seen 6 = .ok (.invokestatic 77, 3) := by decide +kernel
theorem dX9_seen_9 : decode cX9_seen 9 = .ok (.ifCond .eq 15, 3) := by decide +kernel
theorem dX9_seen_12 : decode cX9_seen 12 = .ok (.iload_n 2, 1) := by decide +kernel
theorem dX9_seen_13 : decode cX9_seen 13 = .ok (.i2l, 1) := by decide +kernel
theorem dX9_seen_14 : decode cX9_seen 14 = .ok (.lconst 0, 1) := by decide +kernel
theorem dX9_seen_15 : decode cX9_seen 15 = .ok (.ldc2_w 280, 3) := by decide +kernel
theorem dX9_seen_18 : decode cX9_seen 18 = .ok (.invokestatic 77, 3) := by decide +kernel
theorem dX9_seen_21 : decode cX9_seen 21 = .ok (.ifCond .ne 6, 3) := by decide +kernel
theorem dX9_seen_24 : decode cX9_seen 24 = .ok (.bipush (-2), 2) := by decide +kernel
theorem dX9_seen_26 : decode cX9_seen 26 = .ok (.ireturn, 1) := by decide +kernel
theorem dX9_seen_27 : decode cX9_seen 27 = .ok (.aload_n 0, 1) := by decide +kernel
theorem dX9_seen_28 : decode cX9_seen 28 = .ok (.getfield 282, 3) := by decide +kernel
theorem dX9_seen_31 : decode cX9_seen 31 = .ok (.bipush 8, 2) := by decide +kernel
theorem dX9_seen_33 : decode cX9_seen 33 = .ok (.if_icmp .ne 6, 3) := by decide +kernel
theorem dX9_seen_36 : decode cX9_seen 36 = .ok (.bipush (-4), 2) := by decide +kernel
theorem dX9_seen_38 : decode cX9_seen 38 = .ok (.ireturn, 1) := by decide +kernel
theorem dX9_seen_39 : decode cX9_seen 39 = .ok (.aload_n 0, 1) := by decide +kernel
theorem dX9_seen_40 : decode cX9_seen 40 = .ok (.getfield 25, 3) := by decide +kernel
theorem dX9_seen_43 : decode cX9_seen 43 = .ok (.aload_n 0, 1) := by decide +kernel
theorem dX9_seen_44 : decode cX9_seen 44 = .ok (.getfield 282, 3) := by decide +kernel
theorem dX9_seen_47 : decode cX9_seen 47 = .ok (.iload_n 1, 1) := by decide +kernel
theorem dX9_seen_48 : decode cX9_seen 48 = .ok (.iastore, 1) := by decide +kernel
theorem dX9_seen_49 : decode cX9_seen 49 = .ok (.aload_n 0, 1) := by decide +kernel
theorem dX9_seen_50 : decode cX9_seen 50 = .ok (.getfield 28, 3) := by decide +kernel
theorem dX9_seen_53 : decode cX9_seen 53 = .ok (.aload_n 0, 1) := by decide +kernel
theorem dX9_seen_54 : decode cX9_seen 54 = .ok (.getfield 282, 3) := by decide +kernel
theorem dX9_seen_57 : decode cX9_seen 57 = .ok (.iload_n 2, 1) := by decide +kernel
theorem dX9_seen_58 : decode cX9_seen 58 = .ok (.iastore, 1) := by decide +kernel
theorem dX9_seen_59 : decode cX9_seen 59 = .ok (.aload_n 0, 1) := by decide +kernel
theorem dX9_seen_60 : decode cX9_seen 60 = .ok (.dup, 1) := by decide +kernel
theorem dX9_seen_61 : decode cX9_seen 61 = .ok (.getfield 282, 3) := by decide +kernel
theorem dX9_seen_64 : decode cX9_seen 64 = .ok (.iconst 1, 1) := by decide +kernel
theorem dX9_seen_65 : decode cX9_seen 65 = .ok (.iadd, 1) := by decide +kernel
theorem dX9_seen_66 : decode cX9_seen 66 = .ok (.putfield 282, 3) := by decide +kernel
theorem dX9_seen_69 : decode cX9_seen 69 = .ok (.aload_n 0, 1) := by decide +kernel
theorem dX9_seen_70 : decode cX9_seen 70 = .ok (.getfield 282, 3) := by decide +kernel
theorem dX9_seen_73 : decode cX9_seen 73 = .ok (.ireturn, 1) := by decide +kernel
theorem dX9_forget_0 : decode cX9_forget 0 = .ok (.aload_n 0, 1) := by decide +kernel
theorem dX9_forget_1 : decode cX9_forget 1 = .ok (.getfield 282, 3) := by decide +kernel
theorem dX9_forget_4 : decode cX9_forget 4 = .ok (.istore_n 1, 1) := by decide +kernel
theorem dX9_forget_5 : decode cX9_forget 5 = .ok (.aload_n 0, 1) := by decide +kernel
theorem dX9_forget_6 : decode cX9_forget 6 = .ok (.iconst 0, 1) := by decide +kernel
theorem dX9_forget_7 : decode cX9_forget 7 = .ok (.putfield 282, 3) := by decide +kernel
theorem dX9_forget_10 : decode cX9_forget 10 = .ok (.iload_n 1, 1) := by decide +kernel
theorem dX9_forget_11 : decode cX9_forget 11 = .ok (.ireturn, 1) := by decide +kernel
theorem dX9_together_0 : decode cX9_together 0 = .ok (.iload_n 0, 1) := by decide +kernel
theorem dX9_together_1 : decode cX9_together 1 = .ok (.bipush 10, 2) := by decide +kernel
theorem dX9_together_3 : decode cX9_together 3 = .ok (.idiv, 1) := by decide +kernel
theorem dX9_together_4 : decode cX9_together 4 = .ok (.istore_n 2, 1) := by decide +kernel
theorem dX9_together_5 : decode cX9_together 5 = .ok (.iload_n 0, 1) := by decide +kernel
theorem dX9_together_6 : decode cX9_together 6 = .ok (.bipush 10, 2) := by decide +kernel
theorem dX9_together_8 : decode cX9_together 8 = .ok (.irem, 1) := by decide +kernel
theorem dX9_together_9 : decode cX9_together 9 = .ok (.istore_n 3, 1) := by decide +kernel
theorem dX9_together_10 : decode cX9_together 10 = .ok (.iload_n 2, 1) := by decide +kernel
theorem dX9_together_11 : decode cX9_together 11 = .ok (.iload_n 1, 1) := by decide +kernel
theorem dX9_together_12 : decode cX9_together 12 = .ok (.if_icmp .ge 7, 3) := by decide +kernel
theorem dX9_together_15 : decode cX9_together 15 = .ok (.iload_n 2, 1) := by decide +kernel
theorem dX9_together_16 : decode cX9_together 16 = .ok (.goto 4, 3) := by decide +kernel
theorem dX9_together_19 : decode cX9_together 19 = .ok (.iload_n 1, 1) := by decide +kernel
theorem dX9_together_20 : decode cX9_together 20 = .ok (.iload_n 3, 1) := by decide +kernel
theorem dX9_together_21 : decode cX9_together 21 = .ok (.iload_n 1, 1) := by decide +kernel
theorem dX9_together_22 : decode cX9_together 22 = .ok (.if_icmp .ge 7, 3) := by decide +kernel
theorem dX9_together_25 : decode cX9_together 25 = .ok (.iload_n 3, 1) := by decide +kernel
theorem dX9_together_26 : decode cX9_together 26 = .ok (.goto 4, 3) := by decide +kernel
theorem dX9_together_29 : decode cX9_together 29 = .ok (.iload_n 1, 1) := by decide +kernel
theorem dX9_together_30 : decode cX9_together 30 = .ok (.iadd, 1) := by decide +kernel
theorem dX9_together_31 : decode cX9_together 31 = .ok (.ireturn, 1) := by decide +kernel
theorem dX9_fits_0 : decode cX9_fits 0 = .ok (.iconst 1, 1) := by decide +kernel
theorem dX9_fits_1 : decode cX9_fits 1 = .ok (.istore_n 2, 1) := by decide +kernel
theorem dX9_fits_2 : decode cX9_fits 2 = .ok (.iconst 0, 1) := by decide +kernel
theorem dX9_fits_3 : decode cX9_fits 3 = .ok (.istore_n 3, 1) := by decide +kernel
theorem dX9_fits_4 : decode cX9_fits 4 = .ok (.iload_n 3, 1) := by decide +kernel
theorem dX9_fits_5 : decode cX9_fits 5 = .ok (.aload_n 0, 1) := by decide +kernel
theorem dX9_fits_6 : decode cX9_fits 6 = .ok (.getfield 282, 3) := by decide +kernel
theorem dX9_fits_9 : decode cX9_fits 9 = .ok (.if_icmp .ge 38, 3) := by decide +kernel
theorem dX9_fits_12 : decode cX9_fits 12 = .ok (.iload_n 2, 1) := by decide +kernel
theorem dX9_fits_13 : decode cX9_fits 13 = .ok (.ifCond .eq 26, 3) := by decide +kernel
theorem dX9_fits_16 : decode cX9_fits 16 = .ok (.iload_n 1, 1) := by decide +kernel
theorem dX9_fits_17 : decode cX9_fits 17 = .ok (.aload_n 0, 1) := by decide +kernel
theorem dX9_fits_18 : decode cX9_fits 18 = .ok (.getfield 25, 3) := by decide +kernel
theorem dX9_fits_21 : decode cX9_fits 21 = .ok (.iload_n 3, 1) := by decide +kernel
theorem dX9_fits_22 : decode cX9_fits 22 = .ok (.iaload, 1) := by decide +kernel
theorem dX9_fits_23 : decode cX9_fits 23 = .ok (.invokestatic 285, 3) := by decide +kernel
theorem dX9_fits_26 : decode cX9_fits 26 = .ok (.aload_n 0, 1) := by decide +kernel
theorem dX9_fits_27 : decode cX9_fits 27 = .ok (.getfield 28, 3) := by decide +kernel
theorem dX9_fits_30 : decode cX9_fits 30 = .ok (.iload_n 3, 1) := by decide +kernel
theorem dX9_fits_31 : decode cX9_fits 31 = .ok (.iaload, 1) := by decide +kernel
theorem dX9_fits_32 : decode cX9_fits 32 = .ok (.if_icmp .ne 7, 3) := by decide +kernel
theorem dX9_fits_35 : decode cX9_fits 35 = .ok (.iconst 1, 1) := by decide +kernel
theorem dX9_fits_36 : decode cX9_fits 36 = .ok (.goto 4, 3) := by decide +kernel
theorem dX9_fits_39 : decode cX9_fits 39 = .ok (.iconst 0, 1) := by decide +kernel
theorem dX9_fits_40 : decode cX9_fits 40 = .ok (.istore_n 2, 1) := by decide +kernel
theorem dX9_fits_41 : decode cX9_fits 41 = .ok (.iinc 3 1, 3) := by decide +kernel
theorem dX9_fits_44 : decode cX9_fits 44 = .ok (.goto (-40), 3) := by decide +kernel
theorem dX9_fits_47 : decode cX9_fits 47 = .ok (.iload_n 2, 1) := by decide +kernel
theorem dX9_fits_48 : decode cX9_fits 48 = .ok (.ireturn, 1) := by decide +kernel
theorem dX9_holds_0 : decode cX9_holds 0 = .ok (.iconst 0, 1) := by decide +kernel
theorem dX9_holds_1 : decode cX9_holds 1 = .ok (.istore_n 2, 1) := by decide +kernel
theorem dX9_holds_2 : decode cX9_holds 2 = .ok (.iconst 0, 1) := by decide +kernel
theorem dX9_holds_3 : decode cX9_holds 3 = .ok (.istore_n 3, 1) := by decide +kernel
theorem dX9_holds_4 : decode cX9_holds 4 = .ok (.iload_n 3, 1) := by decide +kernel
theorem dX9_holds_5 : decode cX9_holds 5 = .ok (.bipush 100, 2) := by decide +kernel
theorem dX9_holds_7 : decode cX9_holds 7 = .ok (.if_icmp .ge 27, 3) := by decide +kernel
theorem dX9_holds_10 : decode cX9_holds 10 = .ok (.aload_n 0, 1) := by decide +kernel
theorem dX9_holds_11 : decode cX9_holds 11 = .ok (.iload_n 3, 1) := by decide +kernel
theorem dX9_holds_12 : decode cX9_holds 12 = .ok (.invokevirtual 288, 3) := by decide +kernel
theorem dX9_holds_15 : decode cX9_holds 15 = .ok (.ifCond .eq 13, 3) := by decide +kernel
theorem dX9_holds_18 : decode cX9_holds 18 = .ok (.iload_n 2, 1) := by decide +kernel
theorem dX9_holds_19 : decode cX9_holds 19 = .ok (.iload_n 1, 1) := by decide +kernel
theorem dX9_holds_20 : decode cX9_holds 20 = .ok (.if_icmp .ne 5, 3) := by decide +kernel
theorem dX9_holds_23 : decode cX9_holds 23 = .ok (.iload_n 3, 1) := by decide +kernel
theorem dX9_holds_24 : decode cX9_holds 24 = .ok (.ireturn, 1) := by decide +kernel
theorem dX9_holds_25 : decode cX9_holds 25 = .ok (.iinc 2 1, 3) := by decide +kernel
theorem dX9_holds_28 : decode cX9_holds 28 = .ok (.iinc 3 1, 3) := by decide +kernel
theorem dX9_holds_31 : decode cX9_holds 31 = .ok (.goto (-27), 3) := by decide +kernel
theorem dX9_holds_34 : decode cX9_holds 34 = .ok (.iload_n 1, 1) := by decide +kernel
theorem dX9_holds_35 : decode cX9_holds 35 = .ok (.iconst (-1), 1) := by decide +kernel
theorem dX9_holds_36 : decode cX9_holds 36 = .ok (.if_icmp .ne 7, 3) := by decide +kernel
theorem dX9_holds_39 : decode cX9_holds 39 = .ok (.iload_n 2, 1) := by decide +kernel
theorem dX9_holds_40 : decode cX9_holds 40 = .ok (.goto 5, 3) := by decide +kernel
theorem dX9_holds_43 : decode cX9_holds 43 = .ok (.bipush (-6), 2) := by decide +kernel
theorem dX9_holds_45 : decode cX9_holds 45 = .ok (.ireturn, 1) := by decide +kernel
theorem dX9_mostLeft_0 : decode cX9_mostLeft 0 = .ok (.iconst 0, 1) := by decide +kernel
theorem dX9_mostLeft_1 : decode cX9_mostLeft 1 = .ok (.istore_n 2, 1) := by decide +kernel
theorem dX9_mostLeft_2 : decode cX9_mostLeft 2 = .ok (.iconst 0, 1) := by decide +kernel
theorem dX9_mostLeft_3 : decode cX9_mostLeft 3 = .ok (.istore_n 3, 1) := by decide +kernel
theorem dX9_mostLeft_4 : decode cX9_mostLeft 4 = .ok (.iload_n 3, 1) := by decide +kernel
theorem dX9_mostLeft_5 : decode cX9_mostLeft 5 = .ok (.bipush 19, 2) := by decide +kernel
theorem dX9_mostLeft_7 : decode cX9_mostLeft 7 = .ok (.if_icmp .ge 16, 3) := by decide +kernel
theorem dX9_mostLeft_10 : decode cX9_mostLeft 10 = .ok (.aload_n 0, 1) := by decide +kernel
theorem dX9_mostLeft_11 : decode cX9_mostLeft 11 = .ok (.getfield 58, 3) := by decide +kernel
theorem dX9_mostLeft_14 : decode cX9_mostLeft 14 = .ok (.iload_n 3, 1) := by decide +kernel
theorem dX9_mostLeft_15 : decode cX9_mostLeft 15 = .ok (.iconst 0, 1) := by decide +kernel
theorem dX9_mostLeft_16 : decode cX9_mostLeft 16 = .ok (.iastore, 1) := by decide +kernel
theorem dX9_mostLeft_17 : decode cX9_mostLeft 17 = .ok (.iinc 3 1, 3) := by decide +kernel
theorem dX9_mostLeft_20 : decode cX9_mostLeft 20 = .ok (.goto (-16), 3) := by decide +kernel
theorem dX9_mostLeft_23 : decode cX9_mostLeft 23 = .ok (.iconst 0, 1) := by decide +kernel
theorem dX9_mostLeft_24 : decode cX9_mostLeft 24 = .ok (.istore_n 3, 1) := by decide +kernel
theorem dX9_mostLeft_25 : decode cX9_mostLeft 25 = .ok (.iload_n 3, 1) := by decide +kernel
theorem dX9_mostLeft_26 : decode cX9_mostLeft 26 = .ok (.bipush 100, 2) := by decide +kernel
theorem dX9_mostLeft_28 : decode cX9_mostLeft 28 = .ok (.if_icmp .ge 58, 3) := by decide +kernel
theorem dX9_mostLeft_31 : decode cX9_mostLeft 31 = .ok (.aload_n 0, 1) := by decide +kernel
theorem dX9_mostLeft_32 : decode cX9_mostLeft 32 = .ok (.iload_n 3, 1) := by decide +kernel
theorem dX9_mostLeft_33 : decode cX9_mostLeft 33 = .ok (.invokevirtual 288, 3) := by decide +kernel
theorem dX9_mostLeft_36 : decode cX9_mostLeft 36 = .ok (.ifCond .eq 44, 3) := by decide +kernel
theorem dX9_mostLeft_39 : decode cX9_mostLeft 39 = .ok (.iload_n 3, 1) := by decide +kernel
theorem dX9_mostLeft_40 : decode cX9_mostLeft 40 = .ok (.iload_n 1, 1) := by decide +kernel
theorem dX9_mostLeft_41 : decode cX9_mostLeft 41 = .ok (.invokestatic 285, 3) := by decide +kernel
theorem dX9_mostLeft_44 : decode cX9_mostLeft 44 = .ok (.istore 4, 2) := by decide +kernel
theorem dX9_mostLeft_46 : decode cX9_mostLeft 46 = .ok (.aload_n 0, 1) := by decide +kernel
theorem dX9_mostLeft_47 : decode cX9_mostLeft 47 = .ok (.getfield 58, 3) := by decide +kernel
theorem dX9_mostLeft_50 : decode cX9_mostLeft 50 = .ok (.iload 4, 2) := by decide +kernel
theorem dX9_mostLeft_52 : decode cX9_mostLeft 52 = .ok (.dup2, 1) := by decide +kernel
theorem dX9_mostLeft_53 : decode cX9_mostLeft 53 = .ok (.iaload, 1) := by decide +kernel
theorem dX9_mostLeft_54 : decode cX9_mostLeft 54 = .ok (.iconst 1, 1) := by decide +kernel
theorem dX9_mostLeft_55 : decode cX9_mostLeft 55 = .ok (.iadd, 1) := by decide +kernel
theorem dX9_mostLeft_56 : decode cX9_mostLeft 56 = .ok (.iastore, 1) := by decide +kernel
theorem dX9_mostLeft_57 : decode cX9_mostLeft 57 = .ok (.aload_n 0, 1) := by decide +kernel
theorem dX9_mostLeft_58 : decode cX9_mostLeft 58 = .ok (.getfield 58, 3) := by decide +kernel
theorem dX9_mostLeft_61 : decode cX9_mostLeft 61 = .ok (.iload 4, 2) := by decide +kernel
theorem dX9_mostLeft_63 : decode cX9_mostLeft 63 = .ok (.iaload, 1) := by decide +kernel
theorem dX9_mostLeft_64 : decode cX9_mostLeft 64 = .ok (.iload_n 2, 1) := by decide +kernel
theorem dX9_mostLeft_65 : decode cX9_mostLeft 65 = .ok (.if_icmp .le 13, 3) := by decide +kernel
theorem dX9_mostLeft_68 : decode cX9_mostLeft 68 = .ok (.aload_n 0, 1) := by decide +kernel
theorem dX9_mostLeft_69 : decode cX9_mostLeft 69 = .ok (.getfield 58, 3) := by decide +kernel
theorem dX9_mostLeft_72 : decode cX9_mostLeft 72 = .ok (.iload 4, 2) := by decide +kernel
theorem dX9_mostLeft_74 : decode cX9_mostLeft 74 = .ok (.iaload, 1) := by decide +kernel
theorem dX9_mostLeft_75 : decode cX9_mostLeft 75 = .ok (.goto 4, 3) := by decide +kernel
theorem dX9_mostLeft_78 : decode cX9_mostLeft 78 = .ok (.iload_n 2, 1) := by decide +kernel
theorem dX9_mostLeft_79 : decode cX9_mostLeft 79 = .ok (.istore_n 2, 1) := by decide +kernel
theorem dX9_mostLeft_80 : decode cX9_mostLeft 80 = .ok (.iinc 3 1, 3) := by decide +kernel
theorem dX9_mostLeft_83 : decode cX9_mostLeft 83 = .ok (.goto (-58), 3) := by decide +kernel
theorem dX9_mostLeft_86 : decode cX9_mostLeft 86 = .ok (.iload_n 2, 1) := by decide +kernel
theorem dX9_mostLeft_87 : decode cX9_mostLeft 87 = .ok (.ireturn, 1) := by decide +kernel
theorem dX9_ask_0 : decode cX9_ask 0 = .ok (.iload_n 1, 1) := by decide +kernel
theorem dX9_ask_1 : decode cX9_ask 1 = .ok (.i2l, 1) := by decide +kernel
theorem dX9_ask_2 : decode cX9_ask 2 = .ok (.lconst 0, 1) := by decide +kernel
theorem dX9_ask_3 : decode cX9_ask 3 = .ok (.lconst 1, 1) := by decide +kernel
theorem dX9_ask_4 : decode cX9_ask 4 = .ok (.invokestatic 77, 3) := by decide +kernel
theorem dX9_ask_7 : decode cX9_ask 7 = .ok (.ifCond .ne 6, 3) := by decide +kernel
theorem dX9_ask_10 : decode cX9_ask 10 = .ok (.bipush (-2), 2) := by decide +kernel
theorem dX9_ask_12 : decode cX9_ask 12 = .ok (.ireturn, 1) := by decide +kernel
theorem dX9_ask_13 : decode cX9_ask 13 = .ok (.iconst 1, 1) := by decide +kernel
theorem dX9_ask_14 : decode cX9_ask 14 = .ok (.istore_n 2, 1) := by decide +kernel
theorem dX9_ask_15 : decode cX9_ask 15 = .ok (.aload_n 0, 1) := by decide +kernel
theorem dX9_ask_16 : decode cX9_ask 16 = .ok (.iconst 1, 1) := by decide +kernel
theorem dX9_ask_17 : decode cX9_ask 17 = .ok (.invokevirtual 291, 3) := by decide +kernel
theorem dX9_ask_20 : decode cX9_ask 20 = .ok (.istore_n 3, 1) := by decide +kernel
theorem dX9_ask_21 : decode cX9_ask 21 = .ok (.iconst 2, 1) := by decide +kernel
theorem dX9_ask_22 : decode cX9_ask 22 = .ok (.istore 4, 2) := by decide +kernel
theorem dX9_ask_24 : decode cX9_ask 24 = .ok (.iload 4, 2) := by decide +kernel
theorem dX9_ask_26 : decode cX9_ask 26 = .ok (.bipush 9, 2) := by decide +kernel
theorem dX9_ask_28 : decode cX9_ask 28 = .ok (.if_icmp .gt 43, 3) := by decide +kernel
theorem dX9_ask_31 : decode cX9_ask 31 = .ok (.aload_n 0, 1) := by decide +kernel
theorem dX9_ask_32 : decode cX9_ask 32 = .ok (.iload 4, 2) := by decide +kernel
theorem dX9_ask_34 : decode cX9_ask 34 = .ok (.invokevirtual 291, 3) := by decide +kernel
theorem dX9_ask_37 : decode cX9_ask 37 = .ok (.istore 5, 2) := by decide +kernel
theorem dX9_ask_39 : decode cX9_ask 39 = .ok (.iload 5, 2) := by decide +kernel
theorem dX9_ask_41 : decode cX9_ask 41 = .ok (.iload_n 3, 1) := by decide +kernel
theorem dX9_ask_42 : decode cX9_ask 42 = .ok (.if_icmp .ge 8, 3) := by decide +kernel
theorem dX9_ask_45 : decode cX9_ask 45 = .ok (.iload 4, 2) := by decide +kernel
theorem dX9_ask_47 : decode cX9_ask 47 = .ok (.goto 4, 3) := by decide +kernel
theorem dX9_ask_50 : decode cX9_ask 50 = .ok (.iload_n 2, 1) := by decide +kernel
theorem dX9_ask_51 : decode cX9_ask 51 = .ok (.istore_n 2, 1) := by decide +kernel
theorem dX9_ask_52 : decode cX9_ask 52 = .ok (.iload 5, 2) := by decide +kernel
theorem dX9_ask_54 : decode cX9_ask 54 = .ok (.iload_n 3, 1) := by decide +kernel
theorem dX9_ask_55 : decode cX9_ask 55 = .ok (.if_icmp .ge 8, 3) := by decide +kernel
theorem dX9_ask_58 : decode cX9_ask 58 = .ok (.iload 5, 2) := by decide +kernel
theorem dX9_ask_60 : decode cX9_ask 60 = .ok (.goto 4, 3) := by decide +kernel
theorem dX9_ask_63 : decode cX9_ask 63 = .ok (.iload_n 3, 1) := by decide +kernel
theorem dX9_ask_64 : decode cX9_ask 64 = .ok (.istore_n 3, 1) := by decide +kernel
theorem dX9_ask_65 : decode cX9_ask 65 = .ok (.iinc 4 1, 3) := by decide +kernel
theorem dX9_ask_68 : decode cX9_ask 68 = .ok (.goto (-44), 3) := by decide +kernel
theorem dX9_ask_71 : decode cX9_ask 71 = .ok (.iload_n 3, 1) := by decide +kernel
theorem dX9_ask_72 : decode cX9_ask 72 = .ok (.ifCond .ne 8, 3) := by decide +kernel
theorem dX9_ask_75 : decode cX9_ask 75 = .ok (.bipush (-6), 2) := by decide +kernel
theorem dX9_ask_77 : decode cX9_ask 77 = .ok (.goto 12, 3) := by decide +kernel
theorem dX9_ask_80 : decode cX9_ask 80 = .ok (.iload_n 1, 1) := by decide +kernel
theorem dX9_ask_81 : decode cX9_ask 81 = .ok (.ifCond .ne 7, 3) := by decide +kernel
theorem dX9_ask_84 : decode cX9_ask 84 = .ok (.iload_n 2, 1) := by decide +kernel
theorem dX9_ask_85 : decode cX9_ask 85 = .ok (.goto 4, 3) := by decide +kernel
theorem dX9_ask_88 : decode cX9_ask 88 = .ok (.iload_n 3, 1) := by decide +kernel
theorem dX9_ask_89 : decode cX9_ask 89 = .ok (.ireturn, 1) := by decide +kernel
theorem dX9_size_0 : decode cX9_size 0 = .ok (.lload_n 0, 1) := by decide +kernel
theorem dX9_size_1 : decode cX9_size 1 = .ok (.lconst 0, 1) := by decide +kernel
theorem dX9_size_2 : decode cX9_size 2 = .ok (.lcmp, 1) := by decide +kernel
theorem dX9_size_3 : decode cX9_size 3 = .ok (.ifCond .ge 8, 3) := by decide +kernel
theorem dX9_size_6 : decode cX9_size 6 = .ok (.lload_n 0, 1) := by decide +kernel
theorem dX9_size_7 : decode cX9_size 7 = .ok (.lneg, 1) := by decide +kernel
theorem dX9_size_8 : decode cX9_size 8 = .ok (.goto 4, 3) := by decide +kernel
theorem dX9_size_11 : decode cX9_size 11 = .ok (.lload_n 0, 1) := by decide +kernel
theorem dX9_size_12 : decode cX9_size 12 = .ok (.lreturn, 1) := by decide +kernel
theorem dX9_lowest_0 : decode cX9_lowest 0 = .ok (.lload_n 2, 1) := by decide +kernel
theorem dX9_lowest_1 : decode cX9_lowest 1 = .ok (.lstore 5, 2) := by decide +kernel
theorem dX9_lowest_3 : decode cX9_lowest 3 = .ok (.lload_n 0, 1) := by decide +kernel
theorem dX9_lowest_4 : decode cX9_lowest 4 = .ok (.invokestatic 294, 3) := by decide +kernel
theorem dX9_lowest_7 : decode cX9_lowest 7 = .ok (.lstore 7, 2) := by decide +kernel
theorem dX9_lowest_9 : decode cX9_lowest 9 = .ok (.lload 7, 2) := by decide +kernel
theorem dX9_lowest_11 : decode cX9_lowest 11 = .ok (.lconst 0, 1) := by decide +kernel
theorem dX9_lowest_12 : decode cX9_lowest 12 = .ok (.lcmp, 1) := by decide +kernel
theorem dX9_lowest_13 : decode cX9_lowest 13 = .ok (.ifCond .eq 21, 3) := by decide +kernel
theorem dX9_lowest_16 : decode cX9_lowest 16 = .ok (.lload 5, 2) := by decide +kernel
theorem dX9_lowest_18 : decode cX9_lowest 18 = .ok (.lload 7, 2) := by decide +kernel
theorem dX9_lowest_20 : decode cX9_lowest 20 = .ok (.lrem, 1) := by decide +kernel
theorem dX9_lowest_21 : decode cX9_lowest 21 = .ok (.lstore 9, 2) := by decide +kernel
theorem dX9_lowest_23 : decode cX9_lowest 23 = .ok (.lload 7, 2) := by decide +kernel
theorem dX9_lowest_25 : decode cX9_lowest 25 = .ok (.lstore 5, 2) := by decide +kernel
theorem dX9_lowest_27 : decode cX9_lowest 27 = .ok (.lload 9, 2) := by decide +kernel
theorem dX9_lowest_29 : decode cX9_lowest 29 = .ok (.lstore 7, 2) := by decide +kernel
theorem dX9_lowest_31 : decode cX9_lowest 31 = .ok (.goto (-22), 3) := by decide +kernel
theorem dX9_lowest_34 : decode cX9_lowest 34 = .ok (.iload 4, 2) := by decide +kernel
theorem dX9_lowest_36 : decode cX9_lowest 36 = .ok (.ifCond .ne 10, 3) := by decide +kernel
theorem dX9_lowest_39 : decode cX9_lowest 39 = .ok (.lload_n 0, 1) := by decide +kernel
theorem dX9_lowest_40 : decode cX9_lowest 40 = .ok (.lload 5, 2) := by decide +kernel
theorem dX9_lowest_42 : decode cX9_lowest 42 = .ok (.ldiv, 1) := by decide +kernel
theorem dX9_lowest_43 : decode cX9_lowest 43 = .ok (.goto 7, 3) := by decide +kernel
theorem dX9_lowest_46 : decode cX9_lowest 46 = .ok (.lload_n 2, 1) := by decide +kernel
theorem dX9_lowest_47 : decode cX9_lowest 47 = .ok (.lload 5, 2) := by decide +kernel
theorem dX9_lowest_49 : decode cX9_lowest 49 = .ok (.ldiv, 1) := by decide +kernel
theorem dX9_lowest_50 : decode cX9_lowest 50 = .ok (.lreturn, 1) := by decide +kernel
theorem dX9_sung_0 : decode cX9_sung 0 = .ok (.iload_n 1, 1) := by decide +kernel
theorem dX9_sung_1 : decode cX9_sung 1 = .ok (.ifCond .ne 14, 3) := by decide +kernel
theorem dX9_sung_4 : decode cX9_sung 4 = .ok (.ldc2_w 298, 3) := by decide +kernel
theorem dX9_sung_7 : decode cX9_sung 7 = .ok (.aload_n 0, 1) := by decide +kernel
theorem dX9_sung_8 : decode cX9_sung 8 = .ok (.getfield 61, 3) := by decide +kernel
theorem dX9_sung_11 : decode cX9_sung 11 = .ok (.iconst 0, 1) := by decide +kernel
theorem dX9_sung_12 : decode cX9_sung 12 = .ok (.laload, 1) := by decide +kernel
theorem dX9_sung_13 : decode cX9_sung 13 = .ok (.lmul, 1) := by decide +kernel
theorem dX9_sung_14 : decode cX9_sung 14 = .ok (.lreturn, 1) := by decide +kernel
theorem dX9_sung_15 : decode cX9_sung 15 = .ok (.iload_n 2, 1) := by decide +kernel
theorem dX9_sung_16 : decode cX9_sung 16 = .ok (.i2l, 1) := by decide +kernel
theorem dX9_sung_17 : decode cX9_sung 17 = .ok (.aload_n 0, 1) := by decide +kernel
theorem dX9_sung_18 : decode cX9_sung 18 = .ok (.getfield 61, 3) := by decide +kernel
theorem dX9_sung_21 : decode cX9_sung 21 = .ok (.iload_n 1, 1) := by decide +kernel
theorem dX9_sung_22 : decode cX9_sung 22 = .ok (.iconst 1, 1) := by decide +kernel
theorem dX9_sung_23 : decode cX9_sung 23 = .ok (.isub, 1) := by decide +kernel
theorem dX9_sung_24 : decode cX9_sung 24 = .ok (.laload, 1) := by decide +kernel
theorem dX9_sung_25 : decode cX9_sung 25 = .ok (.lmul, 1) := by decide +kernel
theorem dX9_sung_26 : decode cX9_sung 26 = .ok (.ldc2_w 298, 3) := by decide +kernel
theorem dX9_sung_29 : decode cX9_sung 29 = .ok (.iload_n 2, 1) := by decide +kernel
theorem dX9_sung_30 : decode cX9_sung 30 = .ok (.i2l, 1) := by decide +kernel
theorem dX9_sung_31 : decode cX9_sung 31 = .ok (.lsub, 1) := by decide +kernel
theorem dX9_sung_32 : decode cX9_sung 32 = .ok (.aload_n 0, 1) := by decide +kernel
theorem dX9_sung_33 : decode cX9_sung 33 = .ok (.getfield 61, 3) := by decide +kernel
theorem dX9_sung_36 : decode cX9_sung 36 = .ok (.iload_n 1, 1) := by decide +kernel
theorem dX9_sung_37 : decode cX9_sung 37 = .ok (.bipush 9, 2) := by decide +kernel
theorem dX9_sung_39 : decode cX9_sung 39 = .ok (.if_icmp .ge 9, 3) := by decide +kernel
theorem dX9_sung_42 : decode cX9_sung 42 = .ok (.iload_n 1, 1) := by decide +kernel
theorem dX9_sung_43 : decode cX9_sung 43 = .ok (.iconst 1, 1) := by decide +kernel
theorem dX9_sung_44 : decode cX9_sung 44 = .ok (.iadd, 1) := by decide +kernel
theorem dX9_sung_45 : decode cX9_sung 45 = .ok (.goto 5, 3) := by decide +kernel
theorem dX9_sung_48 : decode cX9_sung 48 = .ok (.bipush 9, 2) := by decide +kernel
theorem dX9_sung_50 : decode cX9_sung 50 = .ok (.laload, 1) := by decide +kernel
theorem dX9_sung_51 : decode cX9_sung 51 = .ok (.lmul, 1) := by decide +kernel
theorem dX9_sung_52 : decode cX9_sung 52 = .ok (.ladd, 1) := by decide +kernel
theorem dX9_sung_53 : decode cX9_sung 53 = .ok (.lreturn, 1) := by decide +kernel
theorem dX9_fugueGood_0 : decode cX9_fugueGood 0 = .ok (.iload_n 1, 1) := by decide +kernel
theorem dX9_fugueGood_1 : decode cX9_fugueGood 1 = .ok (.i2l, 1) := by decide +kernel
theorem dX9_fugueGood_2 : decode cX9_fugueGood 2 = .ok (.lconst 0, 1) := by decide +kernel
theorem dX9_fugueGood_3 : decode cX9_fugueGood 3 = .ok (.ldc2_w 112, 3) := by decide +kernel
theorem dX9_fugueGood_6 : decode cX9_fugueGood 6 = .ok (.invokestatic 77, 3) := by decide +kernel
theorem dX9_fugueGood_9 : decode cX9_fugueGood 9 = .ok (.ifCond .eq 57, 3) := by decide +kernel
theorem dX9_fugueGood_12 : decode cX9_fugueGood 12 = .ok (.iload_n 2, 1) := by decide +kernel
theorem dX9_fugueGood_13 : decode cX9_fugueGood 13 = .ok (.i2l, 1) := by decide +kernel
theorem dX9_fugueGood_14 : decode cX9_fugueGood 14 = .ok (.lconst 0, 1) := by decide +kernel
theorem dX9_fugueGood_15 : decode cX9_fugueGood 15 = .ok (.ldc2_w 300, 3) := by decide +kernel
theorem dX9_fugueGood_18 : decode cX9_fugueGood 18 = .ok (.invokestatic 77, 3) := by decide +kernel
theorem dX9_fugueGood_21 : decode cX9_fugueGood 21 = .ok (.ifCond .eq 45, 3) := by decide +kernel
theorem dX9_fugueGood_24 : decode cX9_fugueGood 24 = .ok (.iload_n 3, 1) := by decide +kernel
theorem dX9_fugueGood_25 : decode cX9_fugueGood 25 = .ok (.i2l, 1) := by decide +kernel
theorem dX9_fugueGood_26 : decode cX9_fugueGood 26 = .ok (.lconst 0, 1) := by decide +kernel
theorem dX9_fugueGood_27 : decode cX9_fugueGood 27 = .ok (.ldc2_w 298, 3) := by decide +kernel
theorem dX9_fugueGood_30 : decode cX9_fugueGood 30 = .ok (.invokestatic 77, 3) := by decide +kernel
theorem dX9_fugueGood_33 : decode cX9_fugueGood 33 = .ok (.ifCond .eq 33, 3) := by decide +kernel
theorem dX9_fugueGood_36 : decode cX9_fugueGood 36 = .ok (.iload 4, 2) := by decide +kernel
theorem dX9_fugueGood_38 : decode cX9_fugueGood 38 = .ok (.i2l, 1) := by decide +kernel
theorem dX9_fugueGood_39 : decode cX9_fugueGood 39 = .ok (.lconst 0, 1) := by decide +kernel
theorem dX9_fugueGood_40 : decode cX9_fugueGood 40 = .ok (.ldc2_w 112, 3) := by decide +kernel
theorem dX9_fugueGood_43 : decode cX9_fugueGood 43 = .ok (.invokestatic 77, 3) := by decide +kernel
theorem dX9_fugueGood_46 : decode cX9_fugueGood 46 = .ok (.ifCond .eq 20, 3) := by decide +kernel
theorem dX9_fugueGood_49 : decode cX9_fugueGood 49 = .ok (.iload 5, 2) := by decide +kernel
theorem dX9_fugueGood_51 : decode cX9_fugueGood 51 = .ok (.i2l, 1) := by decide +kernel
theorem dX9_fugueGood_52 : decode cX9_fugueGood 52 = .ok (.lconst 0, 1) := by decide +kernel
theorem dX9_fugueGood_53 : decode cX9_fugueGood 53 = .ok (.ldc2_w 112, 3) := by decide +kernel
theorem dX9_fugueGood_56 : decode cX9_fugueGood 56 = .ok (.invokestatic 77, 3) := by decide +kernel
theorem dX9_fugueGood_59 : decode cX9_fugueGood 59 = .ok (.ifCond .eq 7, 3) := by decide +kernel
theorem dX9_fugueGood_62 : decode cX9_fugueGood 62 = .ok (.iconst 1, 1) := by decide +kernel
theorem dX9_fugueGood_63 : decode cX9_fugueGood 63 = .ok (.goto 4, 3) := by decide +kernel
theorem dX9_fugueGood_66 : decode cX9_fugueGood 66 = .ok (.iconst 0, 1) := by decide +kernel
theorem dX9_fugueGood_67 : decode cX9_fugueGood 67 = .ok (.ireturn, 1) := by decide +kernel
theorem dX9_fugue_0 : decode cX9_fugue 0 = .ok (.aload_n 0, 1) := by decide +kernel
theorem dX9_fugue_1 : decode cX9_fugue 1 = .ok (.iload_n 1, 1) := by decide +kernel
theorem dX9_fugue_2 : decode cX9_fugue 2 = .ok (.iload_n 2, 1) := by decide +kernel
theorem dX9_fugue_3 : decode cX9_fugue 3 = .ok (.iload_n 3, 1) := by decide +kernel
theorem dX9_fugue_4 : decode cX9_fugue 4 = .ok (.iload 4, 2) := by decide +kernel
theorem dX9_fugue_6 : decode cX9_fugue 6 = .ok (.iload 5, 2) := by decide +kernel
theorem dX9_fugue_8 : decode cX9_fugue 8 = .ok (.invokevirtual 302, 3) := by decide +kernel
theorem dX9_fugue_11 : decode cX9_fugue 11 = .ok (.ifCond .eq 25, 3) := by decide +kernel
theorem dX9_fugue_14 : decode cX9_fugue 14 = .ok (.iload 6, 2) := by decide +kernel
theorem dX9_fugue_16 : decode cX9_fugue 16 = .ok (.i2l, 1) := by decide +kernel
theorem dX9_fugue_17 : decode cX9_fugue 17 = .ok (.lconst 0, 1) := by decide +kernel
theorem dX9_fugue_18 : decode cX9_fugue 18 = .ok (.lconst 1, 1) := by decide +kernel
theorem dX9_fugue_19 : decode cX9_fugue 19 = .ok (.invokestatic 77, 3) := by decide +kernel
theorem dX9_fugue_22 : decode cX9_fugue 22 = .ok (.ifCond .eq 14, 3) := by decide +kernel
theorem dX9_fugue_25 : decode cX9_fugue 25 = .ok (.iload 7, 2) := by decide +kernel
theorem dX9_fugue_27 : decode cX9_fugue 27 = .ok (.i2l, 1) := by decide +kernel
theorem dX9_fugue_28 : decode cX9_fugue 28 = .ok (.lconst 0, 1) := by decide +kernel
theorem dX9_fugue_29 : decode cX9_fugue 29 = .ok (.lconst 1, 1) := by decide +kernel
theorem dX9_fugue_30 : decode cX9_fugue 30 = .ok (.invokestatic 77, 3) := by decide +kernel
theorem dX9_fugue_33 : decode cX9_fugue 33 = .ok (.ifCond .ne 7, 3) := by decide +kernel
theorem dX9_fugue_36 : decode cX9_fugue 36 = .ok (.ldc2_w 306, 3) := by decide +kernel
theorem dX9_fugue_39 : decode cX9_fugue 39 = .ok (.lreturn, 1) := by decide +kernel
theorem dX9_fugue_40 : decode cX9_fugue 40 = .ok (.iconst 0, 1) := by decide +kernel
theorem dX9_fugue_41 : decode cX9_fugue 41 = .ok (.istore 8, 2) := by decide +kernel
theorem dX9_fugue_43 : decode cX9_fugue 43 = .ok (.iload 8, 2) := by decide +kernel
theorem dX9_fugue_45 : decode cX9_fugue 45 = .ok (.bipush 9, 2) := by decide +kernel
theorem dX9_fugue_47 : decode cX9_fugue 47 = .ok (.if_icmp .gt 23, 3) := by decide +kernel
theorem dX9_fugue_50 : decode cX9_fugue 50 = .ok (.aload_n 0, 1) := by decide +kernel
theorem dX9_fugue_51 : decode cX9_fugue 51 = .ok (.getfield 61, 3) := by decide +kernel
theorem dX9_fugue_54 : decode cX9_fugue 54 = .ok (.iload 8, 2) := by decide +kernel
theorem dX9_fugue_56 : decode cX9_fugue 56 = .ok (.iload 5, 2) := by decide +kernel
theorem dX9_fugue_58 : decode cX9_fugue 58 = .ok (.ineg, 1) := by decide +kernel
theorem dX9_fugue_59 : decode cX9_fugue 59 = .ok (.iload 8, 2) := by decide +kernel
theorem dX9_fugue_61 : decode cX9_fugue 61 = .ok (.imul, 1) := by decide +kernel
theorem dX9_fugue_62 : decode cX9_fugue 62 = .ok (.i2l, 1) := by decide +kernel
theorem dX9_fugue_63 : decode cX9_fugue 63 = .ok (.lastore, 1) := by decide +kernel
theorem dX9_fugue_64 : decode cX9_fugue 64 = .ok (.iinc 8 1, 3) := by decide +kernel
theorem dX9_fugue_67 : decode cX9_fugue 67 = .ok (.goto (-24), 3) := by decide +kernel
theorem dX9_fugue_70 : decode cX9_fugue 70 = .ok (.lconst 1, 1) := by decide +kernel
theorem dX9_fugue_71 : decode cX9_fugue 71 = .ok (.lstore 8, 2) := by decide +kernel
theorem dX9_fugue_73 : decode cX9_fugue 73 = .ok (.iconst 0, 1) := by decide +kernel
theorem dX9_fugue_74 : decode cX9_fugue 74 = .ok (.istore 10, 2) := by decide +kernel
theorem dX9_fugue_76 : decode cX9_fugue 76 = .ok (.iconst 0, 1) := by decide +kernel
theorem dX9_fugue_77 : decode cX9_fugue 77 = .ok (.istore 11, 2) := by decide +kernel
theorem dX9_fugue_79 : decode cX9_fugue 79 = .ok (.iload 11, 2) := by decide +kernel
theorem dX9_fugue_81 : decode cX9_fugue 81 = .ok (.iload_n 2, 1) := by decide +kernel
theorem dX9_fugue_82 : decode cX9_fugue 82 = .ok (.if_icmp .ge 150, 3) := by decide +kernel
theorem dX9_fugue_85 : decode cX9_fugue 85 = .ok (.lload 8, 2) := by decide +kernel
theorem dX9_fugue_87 : decode cX9_fugue 87 = .ok (.ldc2_w 298, 3) := by decide +kernel
theorem dX9_fugue_90 : decode cX9_fugue 90 = .ok (.lmul, 1) := by decide +kernel
theorem dX9_fugue_91 : decode cX9_fugue 91 = .ok (.lstore 8, 2) := by decide +kernel
theorem dX9_fugue_93 : decode cX9_fugue 93 = .ok (.iconst 0, 1) := by decide +kernel
theorem dX9_fugue_94 : decode cX9_fugue 94 = .ok (.istore 12, 2) := by decide +kernel
theorem dX9_fugue_96 : decode cX9_fugue 96 = .ok (.iload 12, 2) := by decide +kernel
theorem dX9_fugue_98 : decode cX9_fugue 98 = .ok (.bipush 9, 2) := by decide +kernel
theorem dX9_fugue_100 : decode cX9_fugue 100 = .ok (.if_icmp .gt 96, 3) := by decide +kernel
theorem dX9_fugue_103 : decode cX9_fugue 103 = .ok (.aload_n 0, 1) := by decide +kernel
theorem dX9_fugue_104 : decode cX9_fugue 104 = .ok (.iload 12, 2) := by decide +kernel
theorem dX9_fugue_106 : decode cX9_fugue 106 = .ok (.iload_n 3, 1) := by decide +kernel
theorem dX9_fugue_107 : decode cX9_fugue 107 = .ok (.invokevirtual 308, 3) := by decide +kernel
theorem dX9_fugue_110 : decode cX9_fugue 110 = .ok (.lstore 13, 2) := by decide +kernel
theorem dX9_fugue_112 : decode cX9_fugue 112 = .ok (.iload 12, 2) := by decide +kernel
theorem dX9_fugue_114 : decode cX9_fugue 114 = .ok (.bipush 9, 2) := by decide +kernel
theorem dX9_fugue_116 : decode cX9_fugue 116 = .ok (.if_icmp .ge 22, 3) := by decide +kernel
theorem dX9_fugue_119 : decode cX9_fugue 119 = .ok (.iload 4, 2) := by decide +kernel
theorem dX9_fugue_121 : decode cX9_fugue 121 = .ok (.i2l, 1) := by decide +kernel
theorem dX9_fugue_122 : decode cX9_fugue 122 = .ok (.lload 8, 2) := by decide +kernel
theorem dX9_fugue_124 : decode cX9_fugue 124 = .ok (.lmul, 1) := by decide +kernel
theorem dX9_fugue_125 : decode cX9_fugue 125 = .ok (.aload_n 0, 1) := by decide +kernel
theorem dX9_fugue_126 : decode cX9_fugue 126 = .ok (.iload 12, 2) := by decide +kernel
theorem dX9_fugue_128 : decode cX9_fugue 128 = .ok (.iconst 1, 1) := by decide +kernel
theorem dX9_fugue_129 : decode cX9_fugue 129 = .ok (.iadd, 1) := by decide +kernel
theorem dX9_fugue_130 : decode cX9_fugue 130 = .ok (.iload_n 3, 1) := by decide +kernel
theorem dX9_fugue_131 : decode cX9_fugue 131 = .ok (.invokevirtual 308, 3) := by decide +kernel
theorem dX9_fugue_134 : decode cX9_fugue 134 = .ok (.ladd, 1) := by decide +kernel
theorem dX9_fugue_135 : decode cX9_fugue 135 = .ok (.goto 5, 3) := by decide +kernel
theorem dX9_fugue_138 : decode cX9_fugue 138 = .ok (.lload 13, 2) := by decide +kernel
theorem dX9_fugue_140 : decode cX9_fugue 140 = .ok (.lstore 15, 2) := by decide +kernel
theorem dX9_fugue_142 : decode cX9_fugue 142 = .ok (.iload 12, 2) := by decide +kernel
theorem dX9_fugue_144 : decode cX9_fugue 144 = .ok (.iload_n 1, 1) := by decide +kernel
theorem dX9_fugue_145 : decode cX9_fugue 145 = .ok (.if_icmp .ne 19, 3) := by decide +kernel
theorem dX9_fugue_148 : decode cX9_fugue 148 = .ok (.lload 15, 2) := by decide +kernel
theorem dX9_fugue_150 : decode cX9_fugue 150 = .ok (.lload 13, 2) := by decide +kernel
theorem dX9_fugue_152 : decode cX9_fugue 152 = .ok (.lcmp, 1) := by decide +kernel
theorem dX9_fugue_153 : decode cX9_fugue 153 = .ok (.ifCond .le 7, 3) := by decide +kernel
theorem dX9_fugue_156 : decode cX9_fugue 156 = .ok (.iconst 1, 1) := by decide +kernel
theorem dX9_fugue_157 : decode cX9_fugue 157 = .ok (.goto 9, 3) := by decide +kernel
theorem dX9_fugue_160 : decode cX9_fugue 160 = .ok (.iconst 0, 1) := by decide +kernel
theorem dX9_fugue_161 : decode cX9_fugue 161 = .ok (.goto 5, 3) := by decide +kernel
theorem dX9_fugue_164 : decode cX9_fugue 164 = .ok (.iload 10, 2) := by decide +kernel
theorem dX9_fugue_166 : decode cX9_fugue 166 = .ok (.istore 10, 2) := by decide +kernel
theorem dX9_fugue_168 : decode cX9_fugue 168 = .ok (.aload_n 0, 1) := by decide +kernel
theorem dX9_fugue_169 : decode cX9_fugue 169 = .ok (.getfield 65, 3) := by decide +kernel
theorem dX9_fugue_172 : decode cX9_fugue 172 = .ok (.iload 12, 2) := by decide +kernel
theorem dX9_fugue_174 : decode cX9_fugue 174 = .ok (.lload 15, 2) := by decide +kernel
theorem dX9_fugue_176 : decode cX9_fugue 176 = .ok (.lload 13, 2) := by decide +kernel
theorem dX9_fugue_178 : decode cX9_fugue 178 = .ok (.lcmp, 1) := by decide +kernel
theorem dX9_fugue_179 : decode cX9_fugue 179 = .ok (.ifCond .le 8, 3) := by decide +kernel
theorem dX9_fugue_182 : decode cX9_fugue 182 = .ok (.lload 15, 2) := by decide +kernel
theorem dX9_fugue_184 : decode cX9_fugue 184 = .ok (.goto 5, 3) := by decide +kernel
theorem dX9_fugue_187 : decode cX9_fugue 187 = .ok (.lload 13, 2) := by decide +kernel
theorem dX9_fugue_189 : decode cX9_fugue 189 = .ok (.lastore, 1) := by decide +kernel
theorem dX9_fugue_190 : decode cX9_fugue 190 = .ok (.iinc 12 1, 3) := by decide +kernel
theorem dX9_fugue_193 : decode cX9_fugue 193 = .ok (.goto (-97), 3) := by decide +kernel
theorem dX9_fugue_196 : decode cX9_fugue 196 = .ok (.iconst 0, 1) := by decide +kernel
theorem dX9_fugue_197 : decode cX9_fugue 197 = .ok (.istore 12, 2) := by decide +kernel
theorem dX9_fugue_199 : decode cX9_fugue 199 = .ok (.iload 12, 2) := by decide +kernel
theorem dX9_fugue_201 : decode cX9_fugue 201 = .ok (.bipush 9, 2) := by decide +kernel
theorem dX9_fugue_203 : decode cX9_fugue 203 = .ok (.if_icmp .gt 23, 3) := by decide +kernel
theorem dX9_fugue_206 : decode cX9_fugue 206 = .ok (.aload_n 0, 1) := by decide +kernel
theorem dX9_fugue_207 : decode cX9_fugue 207 = .ok (.getfield 61, 3) := by decide +kernel
theorem dX9_fugue_210 : decode cX9_fugue 210 = .ok (.iload 12, 2) := by decide +kernel
theorem dX9_fugue_212 : decode cX9_fugue 212 = .ok (.aload_n 0, 1) := by decide +kernel
theorem dX9_fugue_213 : decode cX9_fugue 213 = .ok (.getfield 65, 3) := by decide +kernel
theorem dX9_fugue_216 : decode cX9_fugue 216 = .ok (.iload 12, 2) := by decide +kernel
theorem dX9_fugue_218 : decode cX9_fugue 218 = .ok (.laload, 1) := by decide +kernel
theorem dX9_fugue_219 : decode cX9_fugue 219 = .ok (.lastore, 1) := by decide +kernel
theorem dX9_fugue_220 : decode cX9_fugue 220 = .ok (.iinc 12 1, 3) := by decide +kernel
theorem dX9_fugue_223 : decode cX9_fugue 223 = .ok (.goto (-24), 3) := by decide +kernel
theorem dX9_fugue_226 : decode cX9_fugue 226 = .ok (.iinc 11 1, 3) := by decide +kernel
theorem dX9_fugue_229 : decode cX9_fugue 229 = .ok (.goto (-150), 3) := by decide +kernel
theorem dX9_fugue_232 : decode cX9_fugue 232 = .ok (.iload 6, 2) := by decide +kernel
theorem dX9_fugue_234 : decode cX9_fugue 234 = .ok (.iconst 1, 1) := by decide +kernel
theorem dX9_fugue_235 : decode cX9_fugue 235 = .ok (.if_icmp .ne 16, 3) := by decide +kernel
theorem dX9_fugue_238 : decode cX9_fugue 238 = .ok (.iload 10, 2) := by decide +kernel
theorem dX9_fugue_240 : decode cX9_fugue 240 = .ok (.ifCond .eq 7, 3) := by decide +kernel
theorem dX9_fugue_243 : decode cX9_fugue 243 = .ok (.lconst 1, 1) := by decide +kernel
theorem dX9_fugue_244 : decode cX9_fugue 244 = .ok (.goto 20, 3) := by decide +kernel
theorem dX9_fugue_247 : decode cX9_fugue 247 = .ok (.lconst 0, 1) := by decide +kernel
theorem dX9_fugue_248 : decode cX9_fugue 248 = .ok (.goto 16, 3) := by decide +kernel
theorem dX9_fugue_251 : decode cX9_fugue 251 = .ok (.aload_n 0, 1) := by decide +kernel
theorem dX9_fugue_252 : decode cX9_fugue 252 = .ok (.getfield 61, 3) := by decide +kernel
theorem dX9_fugue_255 : decode cX9_fugue 255 = .ok (.iload_n 1, 1) := by decide +kernel
theorem dX9_fugue_256 : decode cX9_fugue 256 = .ok (.laload, 1) := by decide +kernel
theorem dX9_fugue_257 : decode cX9_fugue 257 = .ok (.lload 8, 2) := by decide +kernel
theorem dX9_fugue_259 : decode cX9_fugue 259 = .ok (.iload 7, 2) := by decide +kernel
theorem dX9_fugue_261 : decode cX9_fugue 261 = .ok (.invokestatic 312, 3) := by decide +kernel
theorem dX9_fugue_264 : decode cX9_fugue 264 = .ok (.lreturn, 1) := by decide +kernel
theorem dX9_actBy_0 : decode cX9_actBy 0 = .ok (.iload_n 0, 1) := by decide +kernel
theorem dX9_actBy_1 : decode cX9_actBy 1 = .ok (.iconst 3, 1) := by decide +kernel
theorem dX9_actBy_2 : decode cX9_actBy 2 = .ok (.if_icmp .ge 7, 3) := by decide +kernel
theorem dX9_actBy_5 : decode cX9_actBy 5 = .ok (.iconst 0, 1) := by decide +kernel
theorem dX9_actBy_6 : decode cX9_actBy 6 = .ok (.goto 33, 3) := by decide +kernel
theorem dX9_actBy_9 : decode cX9_actBy 9 = .ok (.iload_n 0, 1) := by decide +kernel
theorem dX9_actBy_10 : decode cX9_actBy 10 = .ok (.iconst 3, 1) := by decide +kernel
theorem dX9_actBy_11 : decode cX9_actBy 11 = .ok (.if_icmp .ne 7, 3) := by decide +kernel
theorem dX9_actBy_14 : decode cX9_actBy 14 = .ok (.iconst 5, 1) := by decide +kernel
theorem dX9_actBy_15 : decode cX9_actBy 15 = .ok (.goto 24, 3) := by decide +kernel
theorem dX9_actBy_18 : decode cX9_actBy 18 = .ok (.iload_n 0, 1) := by decide +kernel
theorem dX9_actBy_19 : decode cX9_actBy 19 = .ok (.bipush 6, 2) := by decide +kernel
theorem dX9_actBy_21 : decode cX9_actBy 21 = .ok (.if_icmp .ge 7, 3) := by decide +kernel
theorem dX9_actBy_24 : decode cX9_actBy 24 = .ok (.iconst 1, 1) := by decide +kernel
theorem dX9_actBy_25 : decode cX9_actBy 25 = .ok (.goto 14, 3) := by decide +kernel
theorem dX9_actBy_28 : decode cX9_actBy 28 = .ok (.iload_n 0, 1) := by decide +kernel
theorem dX9_actBy_29 : decode cX9_actBy 29 = .ok (.bipush 6, 2) := by decide +kernel
theorem dX9_actBy_31 : decode cX9_actBy 31 = .ok (.if_icmp .ne 7, 3) := by decide +kernel
theorem dX9_actBy_34 : decode cX9_actBy 34 = .ok (.iconst 2, 1) := by decide +kernel
theorem dX9_actBy_35 : decode cX9_actBy 35 = .ok (.goto 4, 3) := by decide +kernel
theorem dX9_actBy_38 : decode cX9_actBy 38 = .ok (.iconst 3, 1) := by decide +kernel
theorem dX9_actBy_39 : decode cX9_actBy 39 = .ok (.ireturn, 1) := by decide +kernel
theorem dX9_year_0 : decode cX9_year 0 = .ok (.iload_n 1, 1) := by decide +kernel
theorem dX9_year_1 : decode cX9_year 1 = .ok (.i2l, 1) := by decide +kernel
theorem dX9_year_2 : decode cX9_year 2 = .ok (.lconst 0, 1) := by decide +kernel
theorem dX9_year_3 : decode cX9_year 3 = .ok (.ldc2_w 316, 3) := by decide +kernel
theorem dX9_year_6 : decode cX9_year 6 = .ok (.invokestatic 77, 3) := by decide +kernel
theorem dX9_year_9 : decode cX9_year 9 = .ok (.ifCond .eq 27, 3) := by decide +kernel
theorem dX9_year_12 : decode cX9_year 12 = .ok (.iload_n 2, 1) := by decide +kernel
theorem dX9_year_13 : decode cX9_year 13 = .ok (.i2l, 1) := by decide +kernel
theorem dX9_year_14 : decode cX9_year 14 = .ok (.lconst 1, 1) := by decide +kernel
theorem dX9_year_15 : decode cX9_year 15 = .ok (.ldc2_w 248, 3) := by decide +kernel
theorem dX9_year_18 : decode cX9_year 18 = .ok (.invokestatic 77, 3) := by decide +kernel
theorem dX9_year_21 : decode cX9_year 21 = .ok (.ifCond .eq 15, 3) := by decide +kernel
theorem dX9_year_24 : decode cX9_year 24 = .ok (.iload_n 3, 1) := by decide +kernel
theorem dX9_year_25 : decode cX9_year 25 = .ok (.i2l, 1) := by decide +kernel
theorem dX9_year_26 : decode cX9_year 26 = .ok (.lconst 0, 1) := by decide +kernel
theorem dX9_year_27 : decode cX9_year 27 = .ok (.ldc2_w 219, 3) := by decide +kernel
theorem dX9_year_30 : decode cX9_year 30 = .ok (.invokestatic 77, 3) := by decide +kernel
theorem dX9_year_33 : decode cX9_year 33 = .ok (.ifCond .ne 6, 3) := by decide +kernel
theorem dX9_year_36 : decode cX9_year 36 = .ok (.bipush (-2), 2) := by decide +kernel
theorem dX9_year_38 : decode cX9_year 38 = .ok (.ireturn, 1) := by decide +kernel
theorem dX9_year_39 : decode cX9_year 39 = .ok (.aload_n 0, 1) := by decide +kernel
theorem dX9_year_40 : decode cX9_year 40 = .ok (.invokevirtual 210, 3) := by decide +kernel
theorem dX9_year_43 : decode cX9_year 43 = .ok (.aload_n 0, 1) := by decide +kernel
theorem dX9_year_44 : decode cX9_year 44 = .ok (.iconst 0, 1) := by decide +kernel
theorem dX9_year_45 : decode cX9_year 45 = .ok (.putfield 163, 3) := by decide +kernel
theorem dX9_year_48 : decode cX9_year 48 = .ok (.aload_n 0, 1) := by decide +kernel
theorem dX9_year_49 : decode cX9_year 49 = .ok (.iconst 0, 1) := by decide +kernel
theorem dX9_year_50 : decode cX9_year 50 = .ok (.putfield 166, 3) := by decide +kernel
theorem dX9_year_53 : decode cX9_year 53 = .ok (.iload_n 1, 1) := by decide +kernel
theorem dX9_year_54 : decode cX9_year 54 = .ok (.istore 4, 2) := by decide +kernel
theorem dX9_year_56 : decode cX9_year 56 = .ok (.iconst 0, 1) := by decide +kernel
theorem dX9_year_57 : decode cX9_year 57 = .ok (.istore 5, 2) := by decide +kernel
theorem dX9_year_59 : decode cX9_year 59 = .ok (.iload 5, 2) := by decide +kernel
theorem dX9_year_61 : decode cX9_year 61 = .ok (.iload_n 2, 1) := by decide +kernel
theorem dX9_year_62 : decode cX9_year 62 = .ok (.if_icmp .ge 112, 3) := by decide +kernel
theorem dX9_year_65 : decode cX9_year 65 = .ok (.ldc2_w 318, 3) := by decide +kernel
theorem dX9_year_68 : decode cX9_year 68 = .ok (.iload 4, 2) := by decide +kernel
theorem dX9_year_70 : decode cX9_year 70 = .ok (.i2l, 1) := by decide +kernel
theorem dX9_year_71 : decode cX9_year 71 = .ok (.lmul, 1) := by decide +kernel
theorem dX9_year_72 : decode cX9_year 72 = .ok (.ldc2_w 320, 3) := by decide +kernel
theorem dX9_year_75 : decode cX9_year 75 = .ok (.ladd, 1) := by decide +kernel
theorem dX9_year_76 : decode cX9_year 76 = .ok (.ldc2_w 322, 3) := by decide +kernel
theorem dX9_year_79 : decode cX9_year 79 = .ok (.lrem, 1) := by decide +kernel
theorem dX9_year_80 : decode cX9_year 80 = .ok (.l2i, 1) := by decide +kernel
theorem dX9_year_81 : decode cX9_year 81 = .ok (.istore 4, 2) := by decide +kernel
theorem dX9_year_83 : decode cX9_year 83 = .ok (.iload 4, 2) := by decide +kernel
theorem dX9_year_85 : decode cX9_year 85 = .ok (.bipush 8, 2) := by decide +kernel
theorem dX9_year_87 : decode cX9_year 87 = .ok (.irem, 1) := by decide +kernel
theorem dX9_year_88 : decode cX9_year 88 = .ok (.invokestatic 324, 3) := by decide +kernel
theorem dX9_year_91 : decode cX9_year 91 = .ok (.istore 6, 2) := by decide +kernel
theorem dX9_year_93 : decode cX9_year 93 = .ok (.iload 4, 2) := by decide +kernel
theorem dX9_year_95 : decode cX9_year 95 = .ok (.bipush 8, 2) := by decide +kernel
theorem dX9_year_97 : decode cX9_year 97 = .ok (.idiv, 1) := by decide +kernel
theorem dX9_year_98 : decode cX9_year 98 = .ok (.iload 6, 2) := by decide +kernel
theorem dX9_year_100 : decode cX9_year 100 = .ok (.ifCond .ne 8, 3) := by decide +kernel
theorem dX9_year_103 : decode cX9_year 103 = .ok (.bipush 6, 2) := by decide +kernel
theorem dX9_year_105 : decode cX9_year 105 = .ok (.goto 5, 3) := by decide +kernel
theorem dX9_year_108 : decode cX9_year 108 = .ok (.bipush 8, 2) := by decide +kernel
theorem dX9_year_110 : decode cX9_year 110 = .ok (.irem, 1) := by decide +kernel
theorem dX9_year_111 : decode cX9_year 111 = .ok (.istore 7, 2) := by decide +kernel
theorem dX9_year_113 : decode cX9_year 113 = .ok (.iload 6, 2) := by decide +kernel
theorem dX9_year_115 : decode cX9_year 115 = .ok (.iconst 1, 1) := by decide +kernel
theorem dX9_year_116 : decode cX9_year 116 = .ok (.if_icmp .ne 19, 3) := by decide +kernel
theorem dX9_year_119 : decode cX9_year 119 = .ok (.bipush 10, 2) := by decide +kernel
theorem dX9_year_121 : decode cX9_year 121 = .ok (.iconst 1, 1) := by decide +kernel
theorem dX9_year_122 : decode cX9_year 122 = .ok (.iload 4, 2) := by decide +kernel
theorem dX9_year_124 : decode cX9_year 124 = .ok (.bipush 64, 2) := by decide +kernel
theorem dX9_year_126 : decode cX9_year 126 = .ok (.idiv, 1) := by decide +kernel
theorem dX9_year_127 : decode cX9_year 127 = .ok (.bipush 9, 2) := by decide +kernel
theorem dX9_year_129 : decode cX9_year 129 = .ok (.irem, 1) := by decide +kernel
theorem dX9_year_130 : decode cX9_year 130 = .ok (.iadd, 1) := by decide +kernel
theorem dX9_year_131 : decode cX9_year 131 = .ok (.imul, 1) := by decide +kernel
theorem dX9_year_132 : decode cX9_year 132 = .ok (.goto 11, 3) := by decide +kernel
theorem dX9_year_135 : decode cX9_year 135 = .ok (.iload 4, 2) := by decide +kernel
theorem dX9_year_137 : decode cX9_year 137 = .ok (.bipush 64, 2) := by decide +kernel
theorem dX9_year_139 : decode cX9_year 139 = .ok (.idiv, 1) := by decide +kernel
theorem dX9_year_140 : decode cX9_year 140 = .ok (.bipush 8, 2) := by decide +kernel
theorem dX9_year_142 : decode cX9_year 142 = .ok (.irem, 1) := by decide +kernel
theorem dX9_year_143 : decode cX9_year 143 = .ok (.istore 8, 2) := by decide +kernel
theorem dX9_year_145 : decode cX9_year 145 = .ok (.aload_n 0, 1) := by decide +kernel
theorem dX9_year_146 : decode cX9_year 146 = .ok (.iload 6, 2) := by decide +kernel
theorem dX9_year_148 : decode cX9_year 148 = .ok (.iload 7, 2) := by decide +kernel
theorem dX9_year_150 : decode cX9_year 150 = .ok (.iload 8, 2) := by decide +kernel
theorem dX9_year_152 : decode cX9_year 152 = .ok (.invokevirtual 192, 3) := by decide +kernel
theorem dX9_year_155 : decode cX9_year 155 = .ok (.ifCond .ne 13, 3) := by decide +kernel
theorem dX9_year_158 : decode cX9_year 158 = .ok (.aload_n 0, 1) := by decide +kernel
theorem dX9_year_159 : decode cX9_year 159 = .ok (.iload 6, 2) := by decide +kernel
theorem dX9_year_161 : decode cX9_year 161 = .ok (.iload 7, 2) := by decide +kernel
theorem dX9_year_163 : decode cX9_year 163 = .ok (.iload 8, 2) := by decide +kernel
theorem dX9_year_165 : decode cX9_year 165 = .ok (.invokevirtual 203, 3) := by decide +kernel
theorem dX9_year_168 : decode cX9_year 168 = .ok (.iinc 5 1, 3) := by decide +kernel
theorem dX9_year_171 : decode cX9_year 171 = .ok (.goto (-112), 3) := by decide +kernel
theorem dX9_year_174 : decode cX9_year 174 = .ok (.iload_n 3, 1) := by decide +kernel
theorem dX9_year_175 : decode cX9_year 175 = .ok (.ifCond .ne 10, 3) := by decide +kernel
theorem dX9_year_178 : decode cX9_year 178 = .ok (.aload_n 0, 1) := by decide +kernel
theorem dX9_year_179 : decode cX9_year 179 = .ok (.invokevirtual 227, 3) := by decide +kernel
theorem dX9_year_182 : decode cX9_year 182 = .ok (.goto 29, 3) := by decide +kernel
theorem dX9_year_185 : decode cX9_year 185 = .ok (.iload_n 3, 1) := by decide +kernel
theorem dX9_year_186 : decode cX9_year 186 = .ok (.iconst 1, 1) := by decide +kernel
theorem dX9_year_187 : decode cX9_year 187 = .ok (.if_icmp .ne 20, 3) := by decide +kernel
theorem dX9_year_190 : decode cX9_year 190 = .ok (.aload_n 0, 1) := by decide +kernel
theorem dX9_year_191 : decode cX9_year 191 = .ok (.getfield 81, 3) := by decide +kernel
theorem dX9_year_194 : decode cX9_year 194 = .ok (.aload_n 0, 1) := by decide +kernel
theorem dX9_year_195 : decode cX9_year 195 = .ok (.invokevirtual 199, 3) := by decide +kernel
theorem dX9_year_198 : decode cX9_year 198 = .ok (.iconst (-1), 1) := by decide +kernel
theorem dX9_year_199 : decode cX9_year 199 = .ok (.ixor, 1) := by decide +kernel
theorem dX9_year_200 : decode cX9_year 200 = .ok (.iand, 1) := by decide +kernel
theorem dX9_year_201 : decode cX9_year 201 = .ok (.invokestatic 95, 3) := by decide +kernel
theorem dX9_year_204 : decode cX9_year 204 = .ok (.goto 7, 3) := by decide +kernel
theorem dX9_year_207 : decode cX9_year 207 = .ok (.aload_n 0, 1) := by decide +kernel
theorem dX9_year_208 : decode cX9_year 208 = .ok (.getfield 163, 3) := by decide +kernel
theorem dX9_year_211 : decode cX9_year 211 = .ok (.istore 5, 2) := by decide +kernel
theorem dX9_year_213 : decode cX9_year 213 = .ok (.aload_n 0, 1) := by decide +kernel
theorem dX9_year_214 : decode cX9_year 214 = .ok (.iload 5, 2) := by decide +kernel
theorem dX9_year_216 : decode cX9_year 216 = .ok (.invokevirtual 224, 3) := by decide +kernel
theorem dX9_year_219 : decode cX9_year 219 = .ok (.ireturn, 1) := by decide +kernel
theorem dX9_pass_0 : decode cX9_pass 0 = .ok (.aload_n 0, 1) := by decide +kernel
theorem dX9_pass_1 : decode cX9_pass 1 = .ok (.getfield 327, 3) := by decide +kernel
theorem dX9_pass_4 : decode cX9_pass 4 = .ok (.ifCond .eq 7, 3) := by decide +kernel
theorem dX9_pass_7 : decode cX9_pass 7 = .ok (.iload_n 1, 1) := by decide +kernel
theorem dX9_pass_8 : decode cX9_pass 8 = .ok (.goto 12, 3) := by decide +kernel
theorem dX9_pass_11 : decode cX9_pass 11 = .ok (.aload_n 0, 1) := by decide +kernel
theorem dX9_pass_12 : decode cX9_pass 12 = .ok (.getfield 68, 3) := by decide +kernel
theorem dX9_pass_15 : decode cX9_pass 15 = .ok (.aload_n 0, 1) := by decide +kernel
theorem dX9_pass_16 : decode cX9_pass 16 = .ok (.getfield 331, 3) := by decide +kernel
theorem dX9_pass_19 : decode cX9_pass 19 = .ok (.iaload, 1) := by decide +kernel
theorem dX9_pass_20 : decode cX9_pass 20 = .ok (.istore_n 2, 1) := by decide +kernel
theorem dX9_pass_21 : decode cX9_pass 21 = .ok (.aload_n 0, 1) := by decide +kernel
theorem dX9_pass_22 : decode cX9_pass 22 = .ok (.getfield 68, 3) := by decide +kernel
theorem dX9_pass_25 : decode cX9_pass 25 = .ok (.aload_n 0, 1) := by decide +kernel
theorem dX9_pass_26 : decode cX9_pass 26 = .ok (.getfield 331, 3) := by decide +kernel
theorem dX9_pass_29 : decode cX9_pass 29 = .ok (.iload_n 2, 1) := by decide +kernel
theorem dX9_pass_30 : decode cX9_pass 30 = .ok (.iastore, 1) := by decide +kernel
theorem dX9_pass_31 : decode cX9_pass 31 = .ok (.aload_n 0, 1) := by decide +kernel
theorem dX9_pass_32 : decode cX9_pass 32 = .ok (.dup, 1) := by decide +kernel
theorem dX9_pass_33 : decode cX9_pass 33 = .ok (.getfield 331, 3) := by decide +kernel
theorem dX9_pass_36 : decode cX9_pass 36 = .ok (.iconst 1, 1) := by decide +kernel
theorem dX9_pass_37 : decode cX9_pass 37 = .ok (.iadd, 1) := by decide +kernel
theorem dX9_pass_38 : decode cX9_pass 38 = .ok (.putfield 331, 3) := by decide +kernel
theorem dX9_pass_41 : decode cX9_pass 41 = .ok (.iload_n 2, 1) := by decide +kernel
theorem dX9_pass_42 : decode cX9_pass 42 = .ok (.ireturn, 1) := by decide +kernel
theorem dX9_passRow_0 : decode cX9_passRow 0 = .ok (.iconst 0, 1) := by decide +kernel
theorem dX9_passRow_1 : decode cX9_passRow 1 = .ok (.istore_n 3, 1) := by decide +kernel
theorem dX9_passRow_2 : decode cX9_passRow 2 = .ok (.iload_n 3, 1) := by decide +kernel
theorem dX9_passRow_3 : decode cX9_passRow 3 = .ok (.iload_n 2, 1) := by decide +kernel
theorem dX9_passRow_4 : decode cX9_passRow 4 = .ok (.if_icmp .ge 19, 3) := by decide +kernel
theorem dX9_passRow_7 : decode cX9_passRow 7 = .ok (.aload_n 1, 1) := by decide +kernel
theorem dX9_passRow_8 : decode cX9_passRow 8 = .ok (.iload_n 3, 1) := by decide +kernel
theorem dX9_passRow_9 : decode cX9_passRow 9 = .ok (.aload_n 0, 1) := by decide +kernel
theorem dX9_passRow_10 : decode cX9_passRow 10 = .ok (.aload_n 1, 1) := by decide +kernel
theorem dX9_passRow_11 : decode cX9_passRow 11 = .ok (.iload_n 3, 1) := by decide +kernel
theorem dX9_passRow_12 : decode cX9_passRow 12 = .ok (.iaload, 1) := by decide +kernel
theorem dX9_passRow_13 : decode cX9_passRow 13 = .ok (.invokevirtual 334, 3) := by decide +kernel
theorem dX9_passRow_16 : decode cX9_passRow 16 = .ok (.iastore, 1) := by decide +kernel
theorem dX9_passRow_17 : decode cX9_passRow 17 = .ok (.iinc 3 1, 3) := by decide +kernel
theorem dX9_passRow_20 : decode cX9_passRow 20 = .ok (.goto (-18), 3) := by decide +kernel
theorem dX9_passRow_23 : decode cX9_passRow 23 = .ok (.return_, 1) := by decide +kernel
theorem dX9_passAll_0 : decode cX9_passAll 0 = .ok (.aload_n 0, 1) := by decide +kernel
theorem dX9_passAll_1 : decode cX9_passAll 1 = .ok (.aload_n 0, 1) := by decide +kernel
theorem dX9_passAll_2 : decode cX9_passAll 2 = .ok (.aload_n 0, 1) := by decide +kernel
theorem dX9_passAll_3 : decode cX9_passAll 3 = .ok (.getfield 81, 3) := by decide +kernel
theorem dX9_passAll_6 : decode cX9_passAll 6 = .ok (.invokevirtual 334, 3) := by decide +kernel
theorem dX9_passAll_9 : decode cX9_passAll 9 = .ok (.putfield 81, 3) := by decide +kernel
theorem dX9_passAll_12 : decode cX9_passAll 12 = .ok (.aload_n 0, 1) := by decide +kernel
theorem dX9_passAll_13 : decode cX9_passAll 13 = .ok (.aload_n 0, 1) := by decide +kernel
theorem dX9_passAll_14 : decode cX9_passAll 14 = .ok (.aload_n 0, 1) := by decide +kernel
theorem dX9_passAll_15 : decode cX9_passAll 15 = .ok (.getfield 89, 3) := by decide +kernel
theorem dX9_passAll_18 : decode cX9_passAll 18 = .ok (.invokevirtual 334, 3) := by decide +kernel
theorem dX9_passAll_21 : decode cX9_passAll 21 = .ok (.putfield 89, 3) := by decide +kernel
theorem dX9_passAll_24 : decode cX9_passAll 24 = .ok (.aload_n 0, 1) := by decide +kernel
theorem dX9_passAll_25 : decode cX9_passAll 25 = .ok (.aload_n 0, 1) := by decide +kernel
theorem dX9_passAll_26 : decode cX9_passAll 26 = .ok (.aload_n 0, 1) := by decide +kernel
theorem dX9_passAll_27 : decode cX9_passAll 27 = .ok (.getfield 92, 3) := by decide +kernel
theorem dX9_passAll_30 : decode cX9_passAll 30 = .ok (.invokevirtual 334, 3) := by decide +kernel
theorem dX9_passAll_33 : decode cX9_passAll 33 = .ok (.putfield 92, 3) := by decide +kernel
theorem dX9_passAll_36 : decode cX9_passAll 36 = .ok (.aload_n 0, 1) := by decide +kernel
theorem dX9_passAll_37 : decode cX9_passAll 37 = .ok (.aload_n 0, 1) := by decide +kernel
theorem dX9_passAll_38 : decode cX9_passAll 38 = .ok (.aload_n 0, 1) := by decide +kernel
theorem dX9_passAll_39 : decode cX9_passAll 39 = .ok (.getfield 154, 3) := by decide +kernel
theorem dX9_passAll_42 : decode cX9_passAll 42 = .ok (.invokevirtual 334, 3) := by decide +kernel
theorem dX9_passAll_45 : decode cX9_passAll 45 = .ok (.putfield 154, 3) := by decide +kernel
theorem dX9_passAll_48 : decode cX9_passAll 48 = .ok (.aload_n 0, 1) := by decide +kernel
theorem dX9_passAll_49 : decode cX9_passAll 49 = .ok (.aload_n 0, 1) := by decide +kernel
theorem dX9_passAll_50 : decode cX9_passAll 50 = .ok (.aload_n 0, 1) := by decide +kernel
theorem dX9_passAll_51 : decode cX9_passAll 51 = .ok (.getfield 282, 3) := by decide +kernel
theorem dX9_passAll_54 : decode cX9_passAll 54 = .ok (.invokevirtual 334, 3) := by decide +kernel
theorem dX9_passAll_57 : decode cX9_passAll 57 = .ok (.putfield 282, 3) := by decide +kernel
theorem dX9_passAll_60 : decode cX9_passAll 60 = .ok (.aload_n 0, 1) := by decide +kernel
theorem dX9_passAll_61 : decode cX9_passAll 61 = .ok (.aload_n 0, 1) := by decide +kernel
theorem dX9_passAll_62 : decode cX9_passAll 62 = .ok (.getfield 7, 3) := by decide +kernel
theorem dX9_passAll_65 : decode cX9_passAll 65 = .ok (.bipush 8, 2) := by decide +kernel
theorem dX9_passAll_67 : decode cX9_passAll 67 = .ok (.invokevirtual 337, 3) := by decide +kernel
theorem dX9_passAll_70 : decode cX9_passAll 70 = .ok (.aload_n 0, 1) := by decide +kernel
theorem dX9_passAll_71 : decode cX9_passAll 71 = .ok (.aload_n 0, 1) := by decide +kernel
theorem dX9_passAll_72 : decode cX9_passAll 72 = .ok (.getfield 13, 3) := by decide +kernel
theorem dX9_passAll_75 : decode cX9_passAll 75 = .ok (.bipush 8, 2) := by decide +kernel
theorem dX9_passAll_77 : decode cX9_passAll 77 = .ok (.invokevirtual 337, 3) := by decide +kernel
theorem dX9_passAll_80 : decode cX9_passAll 80 = .ok (.aload_n 0, 1) := by decide +kernel
theorem dX9_passAll_81 : decode cX9_passAll 81 = .ok (.aload_n 0, 1) := by decide +kernel
theorem dX9_passAll_82 : decode cX9_passAll 82 = .ok (.getfield 16, 3) := by decide +kernel
theorem dX9_passAll_85 : decode cX9_passAll 85 = .ok (.bipush 24, 2) := by decide +kernel
theorem dX9_passAll_87 : decode cX9_passAll 87 = .ok (.invokevirtual 337, 3) := by decide +kernel
theorem dX9_passAll_90 : decode cX9_passAll 90 = .ok (.aload_n 0, 1) := by decide +kernel
theorem dX9_passAll_91 : decode cX9_passAll 91 = .ok (.aload_n 0, 1) := by decide +kernel
theorem dX9_passAll_92 : decode cX9_passAll 92 = .ok (.getfield 19, 3) := by decide +kernel
theorem dX9_passAll_95 : decode cX9_passAll 95 = .ok (.bipush 6, 2) := by decide +kernel
theorem dX9_passAll_97 : decode cX9_passAll 97 = .ok (.invokevirtual 337, 3) := by decide +kernel
theorem dX9_passAll_100 : decode cX9_passAll 100 = .ok (.aload_n 0, 1) := by decide +kernel
theorem dX9_passAll_101 : decode cX9_passAll 101 = .ok (.aload_n 0, 1) := by decide +kernel
theorem dX9_passAll_102 : decode cX9_passAll 102 = .ok (.getfield 22, 3) := by decide +kernel
theorem dX9_passAll_105 : decode cX9_passAll 105 = .ok (.bipush 6, 2) := by decide +kernel
theorem dX9_passAll_107 : decode cX9_passAll 107 = .ok (.invokevirtual 337, 3) := by decide +kernel
theorem dX9_passAll_110 : decode cX9_passAll 110 = .ok (.aload_n 0, 1) := by decide +kernel
theorem dX9_passAll_111 : decode cX9_passAll 111 = .ok (.aload_n 0, 1) := by decide +kernel
theorem dX9_passAll_112 : decode cX9_passAll 112 = .ok (.getfield 25, 3) := by decide +kernel
theorem dX9_passAll_115 : decode cX9_passAll 115 = .ok (.bipush 8, 2) := by decide +kernel
theorem dX9_passAll_117 : decode cX9_passAll 117 = .ok (.invokevirtual 337, 3) := by decide +kernel
theorem dX9_passAll_120 : decode cX9_passAll 120 = .ok (.aload_n 0, 1) := by decide +kernel
theorem dX9_passAll_121 : decode cX9_passAll 121 = .ok (.aload_n 0, 1) := by decide +kernel
theorem dX9_passAll_122 : decode cX9_passAll 122 = .ok (.getfield 28, 3) := by decide +kernel
theorem dX9_passAll_125 : decode cX9_passAll 125 = .ok (.bipush 8, 2) := by decide +kernel
theorem dX9_passAll_127 : decode cX9_passAll 127 = .ok (.invokevirtual 337, 3) := by decide +kernel
theorem dX9_passAll_130 : decode cX9_passAll 130 = .ok (.return_, 1) := by decide +kernel
theorem dX9_image_0 : decode cX9_image 0 = .ok (.iload_n 1, 1) := by decide +kernel
theorem dX9_image_1 : decode cX9_image 1 = .ok (.i2l, 1) := by decide +kernel
theorem dX9_image_2 : decode cX9_image 2 = .ok (.lconst 0, 1) := by decide +kernel
theorem dX9_image_3 : decode cX9_image 3 = .ok (.lconst 1, 1) := by decide +kernel
theorem dX9_image_4 : decode cX9_image 4 = .ok (.invokestatic 77, 3) := by decide +kernel
theorem dX9_image_7 : decode cX9_image 7 = .ok (.ifCond .ne 6, 3) := by decide +kernel
theorem dX9_image_10 : decode cX9_image 10 = .ok (.bipush (-2), 2) := by decide +kernel
theorem dX9_image_12 : decode cX9_image 12 = .ok (.ireturn, 1) := by decide +kernel
theorem dX9_image_13 : decode cX9_image 13 = .ok (.aload_n 0, 1) := by decide +kernel
theorem dX9_image_14 : decode cX9_image 14 = .ok (.bipush 90, 2) := by decide +kernel
theorem dX9_image_16 : decode cX9_image 16 = .ok (.iload_n 1, 1) := by decide +kernel
theorem dX9_image_17 : decode cX9_image 17 = .ok (.imul, 1) := by decide +kernel
theorem dX9_image_18 : decode cX9_image 18 = .ok (.putfield 331, 3) := by decide +kernel
theorem dX9_image_21 : decode cX9_image 21 = .ok (.aload_n 0, 1) := by decide +kernel
theorem dX9_image_22 : decode cX9_image 22 = .ok (.iconst 1, 1) := by decide +kernel
theorem dX9_image_23 : decode cX9_image 23 = .ok (.putfield 327, 3) := by decide +kernel
theorem dX9_image_26 : decode cX9_image 26 = .ok (.aload_n 0, 1) := by decide +kernel
theorem dX9_image_27 : decode cX9_image 27 = .ok (.invokevirtual 341, 3) := by decide +kernel
theorem dX9_image_30 : decode cX9_image 30 = .ok (.aload_n 0, 1) := by decide +kernel
theorem dX9_image_31 : decode cX9_image 31 = .ok (.getfield 71, 3) := by decide +kernel
theorem dX9_image_34 : decode cX9_image 34 = .ok (.iload_n 1, 1) := by decide +kernel
theorem dX9_image_35 : decode cX9_image 35 = .ok (.iconst 1, 1) := by decide +kernel
theorem dX9_image_36 : decode cX9_image 36 = .ok (.bastore, 1) := by decide +kernel
theorem dX9_image_37 : decode cX9_image 37 = .ok (.iconst 1, 1) := by decide +kernel
theorem dX9_image_38 : decode cX9_image 38 = .ok (.ireturn, 1) := by decide +kernel
theorem dX9_restore_0 : decode cX9_restore 0 = .ok (.iload_n 1, 1) := by decide +kernel
theorem dX9_restore_1 : decode cX9_restore 1 = .ok (.i2l, 1) := by decide +kernel
theorem dX9_restore_2 : decode cX9_restore 2 = .ok (.lconst 0, 1) := by decide +kernel
theorem dX9_restore_3 : decode cX9_restore 3 = .ok (.lconst 1, 1) := by decide +kernel
theorem dX9_restore_4 : decode cX9_restore 4 = .ok (.invokestatic 77, 3) := by decide +kernel
theorem dX9_restore_7 : decode cX9_restore 7 = .ok (.ifCond .ne 6, 3) := by decide +kernel
theorem dX9_restore_10 : decode cX9_restore 10 = .ok (.bipush (-2), 2) := by decide +kernel
theorem dX9_restore_12 : decode cX9_restore 12 = .ok (.ireturn, 1) := by decide +kernel
theorem dX9_restore_13 : decode cX9_restore 13 = .ok (.aload_n 0, 1) := by decide +kernel
theorem dX9_restore_14 : decode cX9_restore 14 = .ok (.getfield 71, 3) := by decide +kernel
theorem dX9_restore_17 : decode cX9_restore 17 = .ok (.iload_n 1, 1) := by decide +kernel
theorem dX9_restore_18 : decode cX9_restore 18 = .ok (.baload, 1) := by decide +kernel
theorem dX9_restore_19 : decode cX9_restore 19 = .ok (.ifCond .ne 6, 3) := by decide +kernel
theorem dX9_restore_22 : decode cX9_restore 22 = .ok (.bipush (-3), 2) := by decide +kernel
theorem dX9_restore_24 : decode cX9_restore 24 = .ok (.ireturn, 1) := by decide +kernel
theorem dX9_restore_25 : decode cX9_restore 25 = .ok (.aload_n 0, 1) := by decide +kernel
theorem dX9_restore_26 : decode cX9_restore 26 = .ok (.bipush 90, 2) := by decide +kernel
theorem dX9_restore_28 : decode cX9_restore 28 = .ok (.iload_n 1, 1) := by decide +kernel
theorem dX9_restore_29 : decode cX9_restore 29 = .ok (.imul, 1) := by decide +kernel
theorem dX9_restore_30 : decode cX9_restore 30 = .ok (.putfield 331, 3) := by decide +kernel
theorem dX9_restore_33 : decode cX9_restore 33 = .ok (.aload_n 0, 1) := by decide +kernel
theorem dX9_restore_34 : decode cX9_restore 34 = .ok (.iconst 0, 1) := by decide +kernel
theorem dX9_restore_35 : decode cX9_restore 35 = .ok (.putfield 327, 3) := by decide +kernel
theorem dX9_restore_38 : decode cX9_restore 38 = .ok (.aload_n 0, 1) := by decide +kernel
theorem dX9_restore_39 : decode cX9_restore 39 = .ok (.invokevirtual 341, 3) := by decide +kernel
theorem dX9_restore_42 : decode cX9_restore 42 = .ok (.iconst 1, 1) := by decide +kernel
theorem dX9_restore_43 : decode cX9_restore 43 = .ok (.ireturn, 1) := by decide +kernel
theorem dX9_toldOfSinger_0 : decode cX9_toldOfSinger 0 = .ok (.aload_n 0, 1) := by decide +kernel
theorem dX9_toldOfSinger_1 : decode cX9_toldOfSinger 1 = .ok (.iload_n 1, 1) := by decide +kernel
theorem dX9_toldOfSinger_2 : decode cX9_toldOfSinger 2 = .ok (.invokevirtual 99, 3) := by decide +kernel
theorem dX9_toldOfSinger_5 : decode cX9_toldOfSinger 5 = .ok (.ifCond .ne 6, 3) := by decide +kernel
theorem dX9_toldOfSinger_8 : decode cX9_toldOfSinger 8 = .ok (.bipush (-2), 2) := by decide +kernel
theorem dX9_toldOfSinger_10 : decode cX9_toldOfSinger 10 = .ok (.ireturn, 1) := by decide +kernel
theorem dX9_toldOfSinger_11 : decode cX9_toldOfSinger 11 = .ok (.iload_n 2, 1) := by decide +kernel
theorem dX9_toldOfSinger_12 : decode cX9_toldOfSinger 12 = .ok (.ifCond .ne 12, 3) := by decide +kernel
theorem dX9_toldOfSinger_15 : decode cX9_toldOfSinger 15 = .ok (.aload_n 0, 1) := by decide +kernel
theorem dX9_toldOfSinger_16 : decode cX9_toldOfSinger 16 = .ok (.getfield 7, 3) := by decide +kernel
theorem dX9_toldOfSinger_19 : decode cX9_toldOfSinger 19 = .ok (.iload_n 1, 1) := by decide +kernel
theorem dX9_toldOfSinger_20 : decode cX9_toldOfSinger 20 = .ok (.iaload, 1) := by decide +kernel
theorem dX9_toldOfSinger_21 : decode cX9_toldOfSinger 21 = .ok (.goto 51, 3) := by decide +kernel
theorem dX9_toldOfSinger_24 : decode cX9_toldOfSinger 24 = .ok (.iload_n 2, 1) := by decide +kernel
theorem dX9_toldOfSinger_25 : decode cX9_toldOfSinger 25 = .ok (.iconst 1, 1) := by decide +kernel
theorem dX9_toldOfSinger_26 : decode cX9_toldOfSinger 26 = .ok (.if_icmp .ne 12, 3) := by decide +kernel
theorem dX9_toldOfSinger_29 : decode cX9_toldOfSinger 29 = .ok (.aload_n 0, 1) := by decide +kernel
theorem dX9_toldOfSinger_30 : decode cX9_toldOfSinger 30 = .ok (.getfield 13, 3) := by decide +kernel
theorem dX9_toldOfSinger_33 : decode cX9_toldOfSinger 33 = .ok (.iload_n 1, 1) := by decide +kernel
theorem dX9_toldOfSinger_34 : decode cX9_toldOfSinger 34 = .ok (.iaload, 1) := by decide +kernel
theorem dX9_toldOfSinger_35 : decode cX9_toldOfSinger 35 = .ok (.goto 37, 3) := by decide +kernel
theorem dX9_toldOfSinger_38 : decode cX9_toldOfSinger 38 = .ok (.iload_n 2, 1) := by decide +kernel
theorem dX9_toldOfSinger_39 : decode cX9_toldOfSinger 39 = .ok (.iconst 2, 1) := by decide +kernel
theorem dX9_toldOfSinger_40 : decode cX9_toldOfSinger 40 = .ok (.if_icmp .ne 14, 3) := by decide +kernel
theorem dX9_toldOfSinger_43 : decode cX9_toldOfSinger 43 = .ok (.aload_n 0, 1) := by decide +kernel
theorem dX9_toldOfSinger_44 : decode cX9_toldOfSinger 44 = .ok (.getfield 89, 3) := by decide +kernel
theorem dX9_toldOfSinger_47 : decode cX9_toldOfSinger 47 = .ok (.iload_n 1, 1) := by decide +kernel
theorem dX9_toldOfSinger_48 : decode cX9_toldOfSinger 48 = .ok (.ishr, 1) := by decide +kernel
theorem dX9_toldOfSinger_49 : decode cX9_toldOfSinger 49 = .ok (.iconst 1, 1) := by decide +kernel
theorem dX9_toldOfSinger_50 : decode cX9_toldOfSinger 50 = .ok (.iand, 1) := by decide +kernel
theorem dX9_toldOfSinger_51 : decode cX9_toldOfSinger 51 = .ok (.goto 21, 3) := by decide +kernel
theorem dX9_toldOfSinger_54 : decode cX9_toldOfSinger 54 = .ok (.iload_n 2, 1) := by decide +kernel
theorem dX9_toldOfSinger_55 : decode cX9_toldOfSinger 55 = .ok (.iconst 3, 1) := by decide +kernel
theorem dX9_toldOfSinger_56 : decode cX9_toldOfSinger 56 = .ok (.if_icmp .ne 14, 3) := by decide +kernel
theorem dX9_toldOfSinger_59 : decode cX9_toldOfSinger 59 = .ok (.aload_n 0, 1) := by decide +kernel
theorem dX9_toldOfSinger_60 : decode cX9_toldOfSinger 60 = .ok (.getfield 92, 3) := by decide +kernel
theorem dX9_toldOfSinger_63 : decode cX9_toldOfSinger 63 = .ok (.iload_n 1, 1) := by decide +kernel
theorem dX9_toldOfSinger_64 : decode cX9_toldOfSinger 64 = .ok (.ishr, 1) := by decide +kernel
theorem dX9_toldOfSinger_65 : decode cX9_toldOfSinger 65 = .ok (.iconst 1, 1) := by decide +kernel
theorem dX9_toldOfSinger_66 : decode cX9_toldOfSinger 66 = .ok (.iand, 1) := by decide +kernel
theorem dX9_toldOfSinger_67 : decode cX9_toldOfSinger 67 = .ok (.goto 5, 3) := by decide +kernel
theorem dX9_toldOfSinger_70 : decode cX9_toldOfSinger 70 = .ok (.bipush (-2), 2) := by decide +kernel
theorem dX9_toldOfSinger_72 : decode cX9_toldOfSinger 72 = .ok (.ireturn, 1) := by decide +kernel
theorem dX9_toldOfPiece_0 : decode cX9_toldOfPiece 0 = .ok (.iload_n 2, 1) := by decide +kernel
theorem dX9_toldOfPiece_1 : decode cX9_toldOfPiece 1 = .ok (.iconst 4, 1) := by decide +kernel
theorem dX9_toldOfPiece_2 : decode cX9_toldOfPiece 2 = .ok (.if_icmp .ge 16, 3) := by decide +kernel
theorem dX9_toldOfPiece_5 : decode cX9_toldOfPiece 5 = .ok (.aload_n 0, 1) := by decide +kernel
theorem dX9_toldOfPiece_6 : decode cX9_toldOfPiece 6 = .ok (.getfield 16, 3) := by decide +kernel
theorem dX9_toldOfPiece_9 : decode cX9_toldOfPiece 9 = .ok (.iconst 4, 1) := by decide +kernel
theorem dX9_toldOfPiece_10 : decode cX9_toldOfPiece 10 = .ok (.iload_n 1, 1) := by decide +kernel
theorem dX9_toldOfPiece_11 : decode cX9_toldOfPiece 11 = .ok (.imul, 1) := by decide +kernel
theorem dX9_toldOfPiece_12 : decode cX9_toldOfPiece 12 = .ok (.iload_n 2, 1) := by decide +kernel
theorem dX9_toldOfPiece_13 : decode cX9_toldOfPiece 13 = .ok (.iadd, 1) := by decide +kernel
theorem dX9_toldOfPiece_14 : decode cX9_toldOfPiece 14 = .ok (.iaload, 1) := by decide +kernel
theorem dX9_toldOfPiece_15 : decode cX9_toldOfPiece 15 = .ok (.goto 33, 3) := by decide +kernel
theorem dX9_toldOfPiece_18 : decode cX9_toldOfPiece 18 = .ok (.iload_n 2, 1) := by decide +kernel
theorem dX9_toldOfPiece_19 : decode cX9_toldOfPiece 19 = .ok (.iconst 4, 1) := by decide +kernel
theorem dX9_toldOfPiece_20 : decode cX9_toldOfPiece 20 = .ok (.if_icmp .ne 12, 3) := by decide +kernel
theorem dX9_toldOfPiece_23 : decode cX9_toldOfPiece 23 = .ok (.aload_n 0, 1) := by decide +kernel
theorem dX9_toldOfPiece_24 : decode cX9_toldOfPiece 24 = .ok (.getfield 19, 3) := by decide +kernel
theorem dX9_toldOfPiece_27 : decode cX9_toldOfPiece 27 = .ok (.iload_n 1, 1) := by decide +kernel
theorem dX9_toldOfPiece_28 : decode cX9_toldOfPiece 28 = .ok (.iaload, 1) := by decide +kernel
theorem dX9_toldOfPiece_29 : decode cX9_toldOfPiece 29 = .ok (.goto 19, 3) := by decide +kernel
theorem dX9_toldOfPiece_32 : decode cX9_toldOfPiece 32 = .ok (.iload_n 2, 1) := by decide +kernel
theorem dX9_toldOfPiece_33 : decode cX9_toldOfPiece 33 = .ok (.iconst 5, 1) := by decide +kernel
theorem dX9_toldOfPiece_34 : decode cX9_toldOfPiece 34 = .ok (.if_icmp .ne 12, 3) := by decide +kernel
theorem dX9_toldOfPiece_37 : decode cX9_toldOfPiece 37 = .ok (.aload_n 0, 1) := by decide +kernel
theorem dX9_toldOfPiece_38 : decode cX9_toldOfPiece 38 = .ok (.getfield 22, 3) := by decide +kernel
theorem dX9_toldOfPiece_41 : decode cX9_toldOfPiece 41 = .ok (.iload_n 1, 1) := by decide +kernel
theorem dX9_toldOfPiece_42 : decode cX9_toldOfPiece 42 = .ok (.iaload, 1) := by decide +kernel
theorem dX9_toldOfPiece_43 : decode cX9_toldOfPiece 43 = .ok (.goto 5, 3) := by decide +kernel
theorem dX9_toldOfPiece_46 : decode cX9_toldOfPiece 46 = .ok (.bipush (-2), 2) := by decide +kernel
theorem dX9_toldOfPiece_48 : decode cX9_toldOfPiece 48 = .ok (.ireturn, 1) := by decide +kernel
theorem dX9_told_0 : decode cX9_told 0 = .ok (.iload_n 1, 1) := by decide +kernel
theorem dX9_told_1 : decode cX9_told 1 = .ok (.i2l, 1) := by decide +kernel
theorem dX9_told_2 : decode cX9_told 2 = .ok (.ldc2_w 344, 3) := by decide +kernel
theorem dX9_told_5 : decode cX9_told 5 = .ok (.ldc2_w 346, 3) := by decide +kernel
theorem dX9_told_8 : decode cX9_told 8 = .ok (.invokestatic 77, 3) := by decide +kernel
theorem dX9_told_11 : decode cX9_told 11 = .ok (.ifCond .eq 19, 3) := by decide +kernel
theorem dX9_told_14 : decode cX9_told 14 = .ok (.aload_n 0, 1) := by decide +kernel
theorem dX9_told_15 : decode cX9_told 15 = .ok (.iload_n 1, 1) := by decide +kernel
theorem dX9_told_16 : decode cX9_told 16 = .ok (.bipush 100, 2) := by decide +kernel
theorem dX9_told_18 : decode cX9_told 18 = .ok (.isub, 1) := by decide +kernel
theorem dX9_told_19 : decode cX9_told 19 = .ok (.bipush 10, 2) := by decide +kernel
theorem dX9_told_21 : decode cX9_told 21 = .ok (.idiv, 1) := by decide +kernel
theorem dX9_told_22 : decode cX9_told 22 = .ok (.iload_n 1, 1) := by decide +kernel
theorem dX9_told_23 : decode cX9_told 23 = .ok (.bipush 10, 2) := by decide +kernel
theorem dX9_told_25 : decode cX9_told 25 = .ok (.irem, 1) := by decide +kernel
theorem dX9_told_26 : decode cX9_told 26 = .ok (.invokevirtual 348, 3) := by decide +kernel
theorem dX9_told_29 : decode cX9_told 29 = .ok (.ireturn, 1) := by decide +kernel
theorem dX9_told_30 : decode cX9_told 30 = .ok (.iload_n 1, 1) := by decide +kernel
theorem dX9_told_31 : decode cX9_told 31 = .ok (.i2l, 1) := by decide +kernel
theorem dX9_told_32 : decode cX9_told 32 = .ok (.ldc2_w 298, 3) := by decide +kernel
theorem dX9_told_35 : decode cX9_told 35 = .ok (.ldc2_w 351, 3) := by decide +kernel
theorem dX9_told_38 : decode cX9_told 38 = .ok (.invokestatic 77, 3) := by decide +kernel
theorem dX9_told_41 : decode cX9_told 41 = .ok (.ifCond .eq 18, 3) := by decide +kernel
theorem dX9_told_44 : decode cX9_told 44 = .ok (.aload_n 0, 1) := by decide +kernel
theorem dX9_told_45 : decode cX9_told 45 = .ok (.iload_n 1, 1) := by decide +kernel
theorem dX9_told_46 : decode cX9_told 46 = .ok (.bipush 10, 2) := by decide +kernel
theorem dX9_told_48 : decode cX9_told 48 = .ok (.idiv, 1) := by decide +kernel
theorem dX9_told_49 : decode cX9_told 49 = .ok (.iconst 1, 1) := by decide +kernel
theorem dX9_told_50 : decode cX9_told 50 = .ok (.isub, 1) := by decide +kernel
theorem dX9_told_51 : decode cX9_told 51 = .ok (.iload_n 1, 1) := by decide +kernel
theorem dX9_told_52 : decode cX9_told 52 = .ok (.bipush 10, 2) := by decide +kernel
theorem dX9_told_54 : decode cX9_told 54 = .ok (.irem, 1) := by decide +kernel
theorem dX9_told_55 : decode cX9_told 55 = .ok (.invokevirtual 353, 3) := by decide +kernel
theorem dX9_told_58 : decode cX9_told 58 = .ok (.ireturn, 1) := by decide +kernel
theorem dX9_told_59 : decode cX9_told 59 = .ok (.iload_n 1, 1) := by decide +kernel
theorem dX9_told_60 : decode cX9_told 60 = .ok (.tableswitch 52 0 3 #[32, 37, 42, 47], 32) := by decide +kernel
theorem dX9_told_92 : decode cX9_told 92 = .ok (.aload_n 0, 1) := by decide +kernel
theorem dX9_told_93 : decode cX9_told 93 = .ok (.getfield 118, 3) := by decide +kernel
theorem dX9_told_96 : decode cX9_told 96 = .ok (.ireturn, 1) := by decide +kernel
theorem dX9_told_97 : decode cX9_told 97 = .ok (.aload_n 0, 1) := by decide +kernel
theorem dX9_told_98 : decode cX9_told 98 = .ok (.getfield 81, 3) := by decide +kernel
theorem dX9_told_101 : decode cX9_told 101 = .ok (.ireturn, 1) := by decide +kernel
theorem dX9_told_102 : decode cX9_told 102 = .ok (.aload_n 0, 1) := by decide +kernel
theorem dX9_told_103 : decode cX9_told 103 = .ok (.getfield 154, 3) := by decide +kernel
theorem dX9_told_106 : decode cX9_told 106 = .ok (.ireturn, 1) := by decide +kernel
theorem dX9_told_107 : decode cX9_told 107 = .ok (.aload_n 0, 1) := by decide +kernel
theorem dX9_told_108 : decode cX9_told 108 = .ok (.getfield 282, 3) := by decide +kernel
theorem dX9_told_111 : decode cX9_told 111 = .ok (.ireturn, 1) := by decide +kernel
theorem dX9_told_112 : decode cX9_told 112 = .ok (.bipush (-2), 2) := by decide +kernel
theorem dX9_told_114 : decode cX9_told 114 = .ok (.ireturn, 1) := by decide +kernel
end
