section
-- ===== PART A: goes FIRST, ahead of the names: the tables' words, and 'selects' of the private methods out of them =====
/-- a private method of a class that the tables say can be made, by its rows of tables_1 -/
def lw_okq (q : MethodName × Nat) : Prop := (q.1.cls ≠ "java/lang/invoke/MethodHandle" ∧ q.1.cls ≠ "java/lang/invoke/VarHandle") ∧ Cond.instantiable q.1.cls q.2 ∈ tables_1 ∧ Cond.privateMethod q.1 ∈ tables_1 ∧ Cond.instanceMethod q.1 ∈ tables_1
theorem lw_p0 : lw_okq (⟨"DebtChoir$Pad", "faultIn", "(I)I"⟩, 2) := ⟨⟨by decide +kernel, by decide +kernel⟩, List.mem_of_getElem? (i := 93) (by decide +kernel), List.mem_of_getElem? (i := 329) (by decide +kernel), List.mem_of_getElem? (i := 330) (by decide +kernel)⟩
theorem lw_p1 : lw_okq (⟨"DebtChoir$Trial", "act", "(III)I"⟩, 7) := ⟨⟨by decide +kernel, by decide +kernel⟩, List.mem_of_getElem? (i := 108) (by decide +kernel), List.mem_of_getElem? (i := 374) (by decide +kernel), List.mem_of_getElem? (i := 375) (by decide +kernel)⟩
theorem lw_p2 : lw_okq (⟨"DebtChoir$Choir", "owe", "(II)V"⟩, 10) := ⟨⟨by decide +kernel, by decide +kernel⟩, List.mem_of_getElem? (i := 23) (by decide +kernel), List.mem_of_getElem? (i := 392) (by decide +kernel), List.mem_of_getElem? (i := 393) (by decide +kernel)⟩
theorem lw_p3 : lw_okq (⟨"DebtChoir$Choir", "withBreath", "(I)I"⟩, 10) := ⟨⟨by decide +kernel, by decide +kernel⟩, List.mem_of_getElem? (i := 23) (by decide +kernel), List.mem_of_getElem? (i := 409) (by decide +kernel), List.mem_of_getElem? (i := 410) (by decide +kernel)⟩
theorem lw_p4 : lw_okq (⟨"DebtChoir$Choir", "deepestOf", "(I)I"⟩, 10) := ⟨⟨by decide +kernel, by decide +kernel⟩, List.mem_of_getElem? (i := 23) (by decide +kernel), List.mem_of_getElem? (i := 419) (by decide +kernel), List.mem_of_getElem? (i := 420) (by decide +kernel)⟩
theorem lw_p5 : lw_okq (⟨"DebtChoir$Choir", "singOff", "(II)V"⟩, 10) := ⟨⟨by decide +kernel, by decide +kernel⟩, List.mem_of_getElem? (i := 23) (by decide +kernel), List.mem_of_getElem? (i := 432) (by decide +kernel), List.mem_of_getElem? (i := 433) (by decide +kernel)⟩
theorem lw_p6 : lw_okq (⟨"DebtChoir$Trial", "noteFreed", "(I)V"⟩, 7) := ⟨⟨by decide +kernel, by decide +kernel⟩, List.mem_of_getElem? (i := 108) (by decide +kernel), List.mem_of_getElem? (i := 452) (by decide +kernel), List.mem_of_getElem? (i := 453) (by decide +kernel)⟩
theorem lw_p7 : lw_okq (⟨"DebtChoir$Nights", "takePays", "(LDebtChoir$Choir;I)V"⟩, 4) := ⟨⟨by decide +kernel, by decide +kernel⟩, List.mem_of_getElem? (i := 145) (by decide +kernel), List.mem_of_getElem? (i := 502) (by decide +kernel), List.mem_of_getElem? (i := 503) (by decide +kernel)⟩
theorem lw_p8 : lw_okq (⟨"DebtChoir$Nights", "fewestFrom", "(II)I"⟩, 4) := ⟨⟨by decide +kernel, by decide +kernel⟩, List.mem_of_getElem? (i := 145) (by decide +kernel), List.mem_of_getElem? (i := 508) (by decide +kernel), List.mem_of_getElem? (i := 509) (by decide +kernel)⟩
theorem lw_p9 : lw_okq (⟨"DebtChoir$Nights", "afterPiece", "(II)I"⟩, 4) := ⟨⟨by decide +kernel, by decide +kernel⟩, List.mem_of_getElem? (i := 145) (by decide +kernel), List.mem_of_getElem? (i := 512) (by decide +kernel), List.mem_of_getElem? (i := 513) (by decide +kernel)⟩
theorem lw_p10 : lw_okq (⟨"DebtChoir$Nights", "leastLeft", "(II)I"⟩, 4) := ⟨⟨by decide +kernel, by decide +kernel⟩, List.mem_of_getElem? (i := 145) (by decide +kernel), List.mem_of_getElem? (i := 520) (by decide +kernel), List.mem_of_getElem? (i := 521) (by decide +kernel)⟩
theorem lw_p11 : lw_okq (⟨"DebtChoir$Rings", "bestLeft", "(I)I"⟩, 4) := ⟨⟨by decide +kernel, by decide +kernel⟩, List.mem_of_getElem? (i := 166) (by decide +kernel), List.mem_of_getElem? (i := 571) (by decide +kernel), List.mem_of_getElem? (i := 572) (by decide +kernel)⟩
theorem lw_p12 : lw_okq (⟨"DebtChoir$Rings", "isInRing", "(I)Z"⟩, 4) := ⟨⟨by decide +kernel, by decide +kernel⟩, List.mem_of_getElem? (i := 166) (by decide +kernel), List.mem_of_getElem? (i := 577) (by decide +kernel), List.mem_of_getElem? (i := 578) (by decide +kernel)⟩
theorem lw_p13 : lw_okq (⟨"DebtChoir$Sights", "fitsAll", "(I)Z"⟩, 6) := ⟨⟨by decide +kernel, by decide +kernel⟩, List.mem_of_getElem? (i := 66) (by decide +kernel), List.mem_of_getElem? (i := 611) (by decide +kernel), List.mem_of_getElem? (i := 612) (by decide +kernel)⟩
theorem lw_p14 : lw_okq (⟨"DebtChoir", "tellPiece", "(II)I"⟩, 9) := ⟨⟨by decide +kernel, by decide +kernel⟩, List.mem_of_getElem? (i := 15) (by decide +kernel), List.mem_of_getElem? (i := 691) (by decide +kernel), List.mem_of_getElem? (i := 692) (by decide +kernel)⟩
theorem lw_p15 : lw_okq (⟨"DebtChoir", "tellSinger", "(II)I"⟩, 9) := ⟨⟨by decide +kernel, by decide +kernel⟩, List.mem_of_getElem? (i := 15) (by decide +kernel), List.mem_of_getElem? (i := 696) (by decide +kernel), List.mem_of_getElem? (i := 697) (by decide +kernel)⟩
def lw_privs_1 : List (MethodName × Nat) := [(⟨"DebtChoir$Pad", "faultIn", "(I)I"⟩, 2), (⟨"DebtChoir$Trial", "act", "(III)I"⟩, 7), (⟨"DebtChoir$Choir", "owe", "(II)V"⟩, 10), (⟨"DebtChoir$Choir", "withBreath", "(I)I"⟩, 10), (⟨"DebtChoir$Choir", "deepestOf", "(I)I"⟩, 10), (⟨"DebtChoir$Choir", "singOff", "(II)V"⟩, 10), (⟨"DebtChoir$Trial", "noteFreed", "(I)V"⟩, 7), (⟨"DebtChoir$Nights", "takePays", "(LDebtChoir$Choir;I)V"⟩, 4), (⟨"DebtChoir$Nights", "fewestFrom", "(II)I"⟩, 4), (⟨"DebtChoir$Nights", "afterPiece", "(II)I"⟩, 4), (⟨"DebtChoir$Nights", "leastLeft", "(II)I"⟩, 4), (⟨"DebtChoir$Rings", "bestLeft", "(I)I"⟩, 4), (⟨"DebtChoir$Rings", "isInRing", "(I)Z"⟩, 4), (⟨"DebtChoir$Sights", "fitsAll", "(I)Z"⟩, 6), (⟨"DebtChoir", "tellPiece", "(II)I"⟩, 9), (⟨"DebtChoir", "tellSinger", "(II)I"⟩, 9)]
theorem lw_r1 : ∀ q ∈ lw_privs_1, lw_okq q := List.forall_mem_cons.mpr ⟨lw_p0, List.forall_mem_cons.mpr ⟨lw_p1, List.forall_mem_cons.mpr ⟨lw_p2, List.forall_mem_cons.mpr ⟨lw_p3, List.forall_mem_cons.mpr ⟨lw_p4, List.forall_mem_cons.mpr ⟨lw_p5, List.forall_mem_cons.mpr ⟨lw_p6, List.forall_mem_cons.mpr ⟨lw_p7, List.forall_mem_cons.mpr ⟨lw_p8, List.forall_mem_cons.mpr ⟨lw_p9, List.forall_mem_cons.mpr ⟨lw_p10, List.forall_mem_cons.mpr ⟨lw_p11, List.forall_mem_cons.mpr ⟨lw_p12, List.forall_mem_cons.mpr ⟨lw_p13, List.forall_mem_cons.mpr ⟨lw_p14, List.forall_mem_cons.mpr ⟨lw_p15, fun _ h => absurd h List.not_mem_nil⟩⟩⟩⟩⟩⟩⟩⟩⟩⟩⟩⟩⟩⟩⟩⟩
theorem lw_p16 : lw_okq (⟨"DebtChoirModel", "isSinger", "(I)Z"⟩, 36) := ⟨⟨by decide +kernel, by decide +kernel⟩, List.mem_of_getElem? (i := 701) (by decide +kernel), List.mem_of_getElem? (i := 834) (by decide +kernel), List.mem_of_getElem? (i := 835) (by decide +kernel)⟩
theorem lw_p17 : lw_okq (⟨"DebtChoirModel", "readOn", "(II)I"⟩, 36) := ⟨⟨by decide +kernel, by decide +kernel⟩, List.mem_of_getElem? (i := 701) (by decide +kernel), List.mem_of_getElem? (i := 863) (by decide +kernel), List.mem_of_getElem? (i := 864) (by decide +kernel)⟩
theorem lw_p18 : lw_okq (⟨"DebtChoirModel", "begin", "(I)I"⟩, 36) := ⟨⟨by decide +kernel, by decide +kernel⟩, List.mem_of_getElem? (i := 701) (by decide +kernel), List.mem_of_getElem? (i := 867) (by decide +kernel), List.mem_of_getElem? (i := 868) (by decide +kernel)⟩
theorem lw_p19 : lw_okq (⟨"DebtChoirModel", "close", "(II)I"⟩, 36) := ⟨⟨by decide +kernel, by decide +kernel⟩, List.mem_of_getElem? (i := 701) (by decide +kernel), List.mem_of_getElem? (i := 875) (by decide +kernel), List.mem_of_getElem? (i := 876) (by decide +kernel)⟩
theorem lw_p20 : lw_okq (⟨"DebtChoirModel", "refusal", "()I"⟩, 36) := ⟨⟨by decide +kernel, by decide +kernel⟩, List.mem_of_getElem? (i := 701) (by decide +kernel), List.mem_of_getElem? (i := 886) (by decide +kernel), List.mem_of_getElem? (i := 887) (by decide +kernel)⟩
theorem lw_p21 : lw_okq (⟨"DebtChoirModel", "keepNow", "()V"⟩, 36) := ⟨⟨by decide +kernel, by decide +kernel⟩, List.mem_of_getElem? (i := 701) (by decide +kernel), List.mem_of_getElem? (i := 890) (by decide +kernel), List.mem_of_getElem? (i := 891) (by decide +kernel)⟩
theorem lw_p22 : lw_okq (⟨"DebtChoirModel", "goEvenings", "()V"⟩, 36) := ⟨⟨by decide +kernel, by decide +kernel⟩, List.mem_of_getElem? (i := 701) (by decide +kernel), List.mem_of_getElem? (i := 895) (by decide +kernel), List.mem_of_getElem? (i := 896) (by decide +kernel)⟩
theorem lw_p23 : lw_okq (⟨"DebtChoirModel", "whyNot", "(III)I"⟩, 36) := ⟨⟨by decide +kernel, by decide +kernel⟩, List.mem_of_getElem? (i := 701) (by decide +kernel), List.mem_of_getElem? (i := 899) (by decide +kernel), List.mem_of_getElem? (i := 900) (by decide +kernel)⟩
theorem lw_p24 : lw_okq (⟨"DebtChoirModel", "canBeSung", "(I)Z"⟩, 36) := ⟨⟨by decide +kernel, by decide +kernel⟩, List.mem_of_getElem? (i := 701) (by decide +kernel), List.mem_of_getElem? (i := 903) (by decide +kernel), List.mem_of_getElem? (i := 904) (by decide +kernel)⟩
theorem lw_p25 : lw_okq (⟨"DebtChoirModel", "ready", "(IZ)I"⟩, 36) := ⟨⟨by decide +kernel, by decide +kernel⟩, List.mem_of_getElem? (i := 701) (by decide +kernel), List.mem_of_getElem? (i := 907) (by decide +kernel), List.mem_of_getElem? (i := 908) (by decide +kernel)⟩
theorem lw_p26 : lw_okq (⟨"DebtChoirModel", "mayHere", "(II)Z"⟩, 36) := ⟨⟨by decide +kernel, by decide +kernel⟩, List.mem_of_getElem? (i := 701) (by decide +kernel), List.mem_of_getElem? (i := 911) (by decide +kernel), List.mem_of_getElem? (i := 912) (by decide +kernel)⟩
theorem lw_p27 : lw_okq (⟨"DebtChoirModel", "whyNotTake", "(II)I"⟩, 36) := ⟨⟨by decide +kernel, by decide +kernel⟩, List.mem_of_getElem? (i := 701) (by decide +kernel), List.mem_of_getElem? (i := 915) (by decide +kernel), List.mem_of_getElem? (i := 916) (by decide +kernel)⟩
theorem lw_p28 : lw_okq (⟨"DebtChoirModel", "goOne", "(I)V"⟩, 36) := ⟨⟨by decide +kernel, by decide +kernel⟩, List.mem_of_getElem? (i := 701) (by decide +kernel), List.mem_of_getElem? (i := 919) (by decide +kernel), List.mem_of_getElem? (i := 920) (by decide +kernel)⟩
theorem lw_p29 : lw_okq (⟨"DebtChoirModel", "owing", "()I"⟩, 36) := ⟨⟨by decide +kernel, by decide +kernel⟩, List.mem_of_getElem? (i := 701) (by decide +kernel), List.mem_of_getElem? (i := 923) (by decide +kernel), List.mem_of_getElem? (i := 924) (by decide +kernel)⟩
theorem lw_p30 : lw_okq (⟨"DebtChoirModel", "happen", "(III)V"⟩, 36) := ⟨⟨by decide +kernel, by decide +kernel⟩, List.mem_of_getElem? (i := 701) (by decide +kernel), List.mem_of_getElem? (i := 927) (by decide +kernel), List.mem_of_getElem? (i := 928) (by decide +kernel)⟩
theorem lw_p31 : lw_okq (⟨"DebtChoirModel", "singPiece", "(I)V"⟩, 36) := ⟨⟨by decide +kernel, by decide +kernel⟩, List.mem_of_getElem? (i := 701) (by decide +kernel), List.mem_of_getElem? (i := 931) (by decide +kernel), List.mem_of_getElem? (i := 932) (by decide +kernel)⟩
def lw_privs_2 : List (MethodName × Nat) := [(⟨"DebtChoirModel", "isSinger", "(I)Z"⟩, 36), (⟨"DebtChoirModel", "readOn", "(II)I"⟩, 36), (⟨"DebtChoirModel", "begin", "(I)I"⟩, 36), (⟨"DebtChoirModel", "close", "(II)I"⟩, 36), (⟨"DebtChoirModel", "refusal", "()I"⟩, 36), (⟨"DebtChoirModel", "keepNow", "()V"⟩, 36), (⟨"DebtChoirModel", "goEvenings", "()V"⟩, 36), (⟨"DebtChoirModel", "whyNot", "(III)I"⟩, 36), (⟨"DebtChoirModel", "canBeSung", "(I)Z"⟩, 36), (⟨"DebtChoirModel", "ready", "(IZ)I"⟩, 36), (⟨"DebtChoirModel", "mayHere", "(II)Z"⟩, 36), (⟨"DebtChoirModel", "whyNotTake", "(II)I"⟩, 36), (⟨"DebtChoirModel", "goOne", "(I)V"⟩, 36), (⟨"DebtChoirModel", "owing", "()I"⟩, 36), (⟨"DebtChoirModel", "happen", "(III)V"⟩, 36), (⟨"DebtChoirModel", "singPiece", "(I)V"⟩, 36)]
theorem lw_r2 : ∀ q ∈ lw_privs_2, lw_okq q := List.forall_mem_cons.mpr ⟨lw_p16, List.forall_mem_cons.mpr ⟨lw_p17, List.forall_mem_cons.mpr ⟨lw_p18, List.forall_mem_cons.mpr ⟨lw_p19, List.forall_mem_cons.mpr ⟨lw_p20, List.forall_mem_cons.mpr ⟨lw_p21, List.forall_mem_cons.mpr ⟨lw_p22, List.forall_mem_cons.mpr ⟨lw_p23, List.forall_mem_cons.mpr ⟨lw_p24, List.forall_mem_cons.mpr ⟨lw_p25, List.forall_mem_cons.mpr ⟨lw_p26, List.forall_mem_cons.mpr ⟨lw_p27, List.forall_mem_cons.mpr ⟨lw_p28, List.forall_mem_cons.mpr ⟨lw_p29, List.forall_mem_cons.mpr ⟨lw_p30, List.forall_mem_cons.mpr ⟨lw_p31, fun _ h => absurd h List.not_mem_nil⟩⟩⟩⟩⟩⟩⟩⟩⟩⟩⟩⟩⟩⟩⟩⟩
theorem lw_p32 : lw_okq (⟨"DebtChoirModel", "singOne", "(II)V"⟩, 36) := ⟨⟨by decide +kernel, by decide +kernel⟩, List.mem_of_getElem? (i := 701) (by decide +kernel), List.mem_of_getElem? (i := 935) (by decide +kernel), List.mem_of_getElem? (i := 936) (by decide +kernel)⟩
theorem lw_p33 : lw_okq (⟨"DebtChoirModel", "endEvening", "()V"⟩, 36) := ⟨⟨by decide +kernel, by decide +kernel⟩, List.mem_of_getElem? (i := 701) (by decide +kernel), List.mem_of_getElem? (i := 939) (by decide +kernel), List.mem_of_getElem? (i := 940) (by decide +kernel)⟩
theorem lw_p34 : lw_okq (⟨"DebtChoirModel", "back", "(I)I"⟩, 36) := ⟨⟨by decide +kernel, by decide +kernel⟩, List.mem_of_getElem? (i := 701) (by decide +kernel), List.mem_of_getElem? (i := 946) (by decide +kernel), List.mem_of_getElem? (i := 947) (by decide +kernel)⟩
theorem lw_p35 : lw_okq (⟨"DebtChoirModel", "allDebts", "()I"⟩, 36) := ⟨⟨by decide +kernel, by decide +kernel⟩, List.mem_of_getElem? (i := 701) (by decide +kernel), List.mem_of_getElem? (i := 958) (by decide +kernel), List.mem_of_getElem? (i := 959) (by decide +kernel)⟩
theorem lw_p36 : lw_okq (⟨"DebtChoirModel", "fewestNights", "(III)I"⟩, 36) := ⟨⟨by decide +kernel, by decide +kernel⟩, List.mem_of_getElem? (i := 701) (by decide +kernel), List.mem_of_getElem? (i := 978) (by decide +kernel), List.mem_of_getElem? (i := 979) (by decide +kernel)⟩
theorem lw_p37 : lw_okq (⟨"DebtChoirModel", "bestOwed", "(II)I"⟩, 36) := ⟨⟨by decide +kernel, by decide +kernel⟩, List.mem_of_getElem? (i := 701) (by decide +kernel), List.mem_of_getElem? (i := 982) (by decide +kernel), List.mem_of_getElem? (i := 983) (by decide +kernel)⟩
theorem lw_p38 : lw_okq (⟨"DebtChoirModel", "isFor", "(II)Z"⟩, 36) := ⟨⟨by decide +kernel, by decide +kernel⟩, List.mem_of_getElem? (i := 701) (by decide +kernel), List.mem_of_getElem? (i := 986) (by decide +kernel), List.mem_of_getElem? (i := 987) (by decide +kernel)⟩
theorem lw_p39 : lw_okq (⟨"DebtChoirModel", "firstNight", "(II)I"⟩, 36) := ⟨⟨by decide +kernel, by decide +kernel⟩, List.mem_of_getElem? (i := 701) (by decide +kernel), List.mem_of_getElem? (i := 993) (by decide +kernel), List.mem_of_getElem? (i := 994) (by decide +kernel)⟩
theorem lw_p40 : lw_okq (⟨"DebtChoirModel", "barsOf", "(I)I"⟩, 36) := ⟨⟨by decide +kernel, by decide +kernel⟩, List.mem_of_getElem? (i := 701) (by decide +kernel), List.mem_of_getElem? (i := 1002) (by decide +kernel), List.mem_of_getElem? (i := 1003) (by decide +kernel)⟩
theorem lw_p41 : lw_okq (⟨"DebtChoirModel", "paysOf", "(I)I"⟩, 36) := ⟨⟨by decide +kernel, by decide +kernel⟩, List.mem_of_getElem? (i := 701) (by decide +kernel), List.mem_of_getElem? (i := 1006) (by decide +kernel), List.mem_of_getElem? (i := 1007) (by decide +kernel)⟩
theorem lw_p42 : lw_okq (⟨"DebtChoirModel", "needsOf", "(I)I"⟩, 36) := ⟨⟨by decide +kernel, by decide +kernel⟩, List.mem_of_getElem? (i := 701) (by decide +kernel), List.mem_of_getElem? (i := 1010) (by decide +kernel), List.mem_of_getElem? (i := 1011) (by decide +kernel)⟩
theorem lw_p43 : lw_okq (⟨"DebtChoirModel", "ruined", "(II)I"⟩, 36) := ⟨⟨by decide +kernel, by decide +kernel⟩, List.mem_of_getElem? (i := 701) (by decide +kernel), List.mem_of_getElem? (i := 1018) (by decide +kernel), List.mem_of_getElem? (i := 1019) (by decide +kernel)⟩
theorem lw_p44 : lw_okq (⟨"DebtChoirModel", "ahead", "(I)I"⟩, 36) := ⟨⟨by decide +kernel, by decide +kernel⟩, List.mem_of_getElem? (i := 701) (by decide +kernel), List.mem_of_getElem? (i := 1028) (by decide +kernel), List.mem_of_getElem? (i := 1029) (by decide +kernel)⟩
theorem lw_p45 : lw_okq (⟨"DebtChoirModel", "areRanks", "(II)Z"⟩, 36) := ⟨⟨by decide +kernel, by decide +kernel⟩, List.mem_of_getElem? (i := 701) (by decide +kernel), List.mem_of_getElem? (i := 1036) (by decide +kernel), List.mem_of_getElem? (i := 1037) (by decide +kernel)⟩
theorem lw_p46 : lw_okq (⟨"DebtChoirModel", "deal", "()V"⟩, 36) := ⟨⟨by decide +kernel, by decide +kernel⟩, List.mem_of_getElem? (i := 701) (by decide +kernel), List.mem_of_getElem? (i := 1041) (by decide +kernel), List.mem_of_getElem? (i := 1042) (by decide +kernel)⟩
theorem lw_p47 : lw_okq (⟨"DebtChoirModel", "ringed", "(I)I"⟩, 36) := ⟨⟨by decide +kernel, by decide +kernel⟩, List.mem_of_getElem? (i := 701) (by decide +kernel), List.mem_of_getElem? (i := 1045) (by decide +kernel), List.mem_of_getElem? (i := 1046) (by decide +kernel)⟩
def lw_privs_3 : List (MethodName × Nat) := [(⟨"DebtChoirModel", "singOne", "(II)V"⟩, 36), (⟨"DebtChoirModel", "endEvening", "()V"⟩, 36), (⟨"DebtChoirModel", "back", "(I)I"⟩, 36), (⟨"DebtChoirModel", "allDebts", "()I"⟩, 36), (⟨"DebtChoirModel", "fewestNights", "(III)I"⟩, 36), (⟨"DebtChoirModel", "bestOwed", "(II)I"⟩, 36), (⟨"DebtChoirModel", "isFor", "(II)Z"⟩, 36), (⟨"DebtChoirModel", "firstNight", "(II)I"⟩, 36), (⟨"DebtChoirModel", "barsOf", "(I)I"⟩, 36), (⟨"DebtChoirModel", "paysOf", "(I)I"⟩, 36), (⟨"DebtChoirModel", "needsOf", "(I)I"⟩, 36), (⟨"DebtChoirModel", "ruined", "(II)I"⟩, 36), (⟨"DebtChoirModel", "ahead", "(I)I"⟩, 36), (⟨"DebtChoirModel", "areRanks", "(II)Z"⟩, 36), (⟨"DebtChoirModel", "deal", "()V"⟩, 36), (⟨"DebtChoirModel", "ringed", "(I)I"⟩, 36)]
theorem lw_r3 : ∀ q ∈ lw_privs_3, lw_okq q := List.forall_mem_cons.mpr ⟨lw_p32, List.forall_mem_cons.mpr ⟨lw_p33, List.forall_mem_cons.mpr ⟨lw_p34, List.forall_mem_cons.mpr ⟨lw_p35, List.forall_mem_cons.mpr ⟨lw_p36, List.forall_mem_cons.mpr ⟨lw_p37, List.forall_mem_cons.mpr ⟨lw_p38, List.forall_mem_cons.mpr ⟨lw_p39, List.forall_mem_cons.mpr ⟨lw_p40, List.forall_mem_cons.mpr ⟨lw_p41, List.forall_mem_cons.mpr ⟨lw_p42, List.forall_mem_cons.mpr ⟨lw_p43, List.forall_mem_cons.mpr ⟨lw_p44, List.forall_mem_cons.mpr ⟨lw_p45, List.forall_mem_cons.mpr ⟨lw_p46, List.forall_mem_cons.mpr ⟨lw_p47, fun _ h => absurd h List.not_mem_nil⟩⟩⟩⟩⟩⟩⟩⟩⟩⟩⟩⟩⟩⟩⟩⟩
theorem lw_p48 : lw_okq (⟨"DebtChoirModel", "pointsTo", "(II)I"⟩, 36) := ⟨⟨by decide +kernel, by decide +kernel⟩, List.mem_of_getElem? (i := 701) (by decide +kernel), List.mem_of_getElem? (i := 1049) (by decide +kernel), List.mem_of_getElem? (i := 1050) (by decide +kernel)⟩
theorem lw_p49 : lw_okq (⟨"DebtChoirModel", "fits", "(I)Z"⟩, 36) := ⟨⟨by decide +kernel, by decide +kernel⟩, List.mem_of_getElem? (i := 701) (by decide +kernel), List.mem_of_getElem? (i := 1066) (by decide +kernel), List.mem_of_getElem? (i := 1067) (by decide +kernel)⟩
theorem lw_p50 : lw_okq (⟨"DebtChoirModel", "mostLeft", "(I)I"⟩, 36) := ⟨⟨by decide +kernel, by decide +kernel⟩, List.mem_of_getElem? (i := 701) (by decide +kernel), List.mem_of_getElem? (i := 1077) (by decide +kernel), List.mem_of_getElem? (i := 1078) (by decide +kernel)⟩
theorem lw_p51 : lw_okq (⟨"DebtChoirModel", "fugueGood", "(IIIII)Z"⟩, 36) := ⟨⟨by decide +kernel, by decide +kernel⟩, List.mem_of_getElem? (i := 701) (by decide +kernel), List.mem_of_getElem? (i := 1085) (by decide +kernel), List.mem_of_getElem? (i := 1086) (by decide +kernel)⟩
theorem lw_p52 : lw_okq (⟨"DebtChoirModel", "sung", "(II)J"⟩, 36) := ⟨⟨by decide +kernel, by decide +kernel⟩, List.mem_of_getElem? (i := 701) (by decide +kernel), List.mem_of_getElem? (i := 1092) (by decide +kernel), List.mem_of_getElem? (i := 1093) (by decide +kernel)⟩
theorem lw_p53 : lw_okq (⟨"DebtChoirModel", "passAll", "()V"⟩, 36) := ⟨⟨by decide +kernel, by decide +kernel⟩, List.mem_of_getElem? (i := 701) (by decide +kernel), List.mem_of_getElem? (i := 1117) (by decide +kernel), List.mem_of_getElem? (i := 1118) (by decide +kernel)⟩
theorem lw_p54 : lw_okq (⟨"DebtChoirModel", "pass", "(I)I"⟩, 36) := ⟨⟨by decide +kernel, by decide +kernel⟩, List.mem_of_getElem? (i := 701) (by decide +kernel), List.mem_of_getElem? (i := 1121) (by decide +kernel), List.mem_of_getElem? (i := 1122) (by decide +kernel)⟩
theorem lw_p55 : lw_okq (⟨"DebtChoirModel", "passRow", "([II)V"⟩, 36) := ⟨⟨by decide +kernel, by decide +kernel⟩, List.mem_of_getElem? (i := 701) (by decide +kernel), List.mem_of_getElem? (i := 1125) (by decide +kernel), List.mem_of_getElem? (i := 1126) (by decide +kernel)⟩
theorem lw_p56 : lw_okq (⟨"DebtChoirModel", "toldOfPiece", "(II)I"⟩, 36) := ⟨⟨by decide +kernel, by decide +kernel⟩, List.mem_of_getElem? (i := 701) (by decide +kernel), List.mem_of_getElem? (i := 1139) (by decide +kernel), List.mem_of_getElem? (i := 1140) (by decide +kernel)⟩
theorem lw_p57 : lw_okq (⟨"DebtChoirModel", "toldOfSinger", "(II)I"⟩, 36) := ⟨⟨by decide +kernel, by decide +kernel⟩, List.mem_of_getElem? (i := 701) (by decide +kernel), List.mem_of_getElem? (i := 1144) (by decide +kernel), List.mem_of_getElem? (i := 1145) (by decide +kernel)⟩
def lw_privs_4 : List (MethodName × Nat) := [(⟨"DebtChoirModel", "pointsTo", "(II)I"⟩, 36), (⟨"DebtChoirModel", "fits", "(I)Z"⟩, 36), (⟨"DebtChoirModel", "mostLeft", "(I)I"⟩, 36), (⟨"DebtChoirModel", "fugueGood", "(IIIII)Z"⟩, 36), (⟨"DebtChoirModel", "sung", "(II)J"⟩, 36), (⟨"DebtChoirModel", "passAll", "()V"⟩, 36), (⟨"DebtChoirModel", "pass", "(I)I"⟩, 36), (⟨"DebtChoirModel", "passRow", "([II)V"⟩, 36), (⟨"DebtChoirModel", "toldOfPiece", "(II)I"⟩, 36), (⟨"DebtChoirModel", "toldOfSinger", "(II)I"⟩, 36)]
theorem lw_r4 : ∀ q ∈ lw_privs_4, lw_okq q := List.forall_mem_cons.mpr ⟨lw_p48, List.forall_mem_cons.mpr ⟨lw_p49, List.forall_mem_cons.mpr ⟨lw_p50, List.forall_mem_cons.mpr ⟨lw_p51, List.forall_mem_cons.mpr ⟨lw_p52, List.forall_mem_cons.mpr ⟨lw_p53, List.forall_mem_cons.mpr ⟨lw_p54, List.forall_mem_cons.mpr ⟨lw_p55, List.forall_mem_cons.mpr ⟨lw_p56, List.forall_mem_cons.mpr ⟨lw_p57, fun _ h => absurd h List.not_mem_nil⟩⟩⟩⟩⟩⟩⟩⟩⟩⟩
def lw_privs : List (MethodName × Nat) := lw_privs_1 ++ (lw_privs_2 ++ (lw_privs_3 ++ (lw_privs_4)))
def lw_tbl : List Cond := k2_sels lw_privs ++ tables_1
theorem lw_privs_ok : ∀ q ∈ lw_privs, lw_okq q := by
  show ∀ q ∈ lw_privs_1 ++ (lw_privs_2 ++ (lw_privs_3 ++ (lw_privs_4))), lw_okq q
  exact List.forall_mem_append.mpr ⟨lw_r1, List.forall_mem_append.mpr ⟨lw_r2, List.forall_mem_append.mpr ⟨lw_r3, lw_r4⟩⟩⟩
end
section
def RX0 : String := "DebtChoir$Choir"
def TX0 : u_T := fun k => match k with
  | 0 => ("DebtChoir$Choir", "there", "I", false)
  | 1 => ("DebtChoir$Choir", "hoarse", "I", false)
  | 2 => ("DebtChoir$Choir", "sang", "I", false)
  | 3 => ("DebtChoir$Choir", "evenings", "I", false)
  | 4 => ("DebtChoir$Choir", "sungOff", "I", false)
  | 5 => ("DebtChoir$Choir", "voices", "[I", true)
  | 6 => ("DebtChoir$Choir", "debts", "[I", true)
  | 7 => ("DebtChoir$Choir", "needs", "[I", true)
  | 8 => ("DebtChoir$Choir", "bars", "[I", true)
  | _ => ("DebtChoir$Choir", "pays", "[I", true)
def tyX0 : Nat → FieldType := fun k => match k with
  | 0 => .int
  | 1 => .int
  | 2 => .int
  | 3 => .int
  | 4 => .int
  | 5 => .array .int
  | 6 => .array .int
  | 7 => .array .int
  | 8 => .array .int
  | _ => .array .int
abbrev wsX00 : List Cond := u_ws RX0 TX0 10
theorem nmX0 : ∀ a, a < 10 → ∀ b, b < 10 → a ≠ b → (TX0 a).2.1 ≠ (TX0 b).2.1 := by decide +kernel
theorem tyX0_ok : ∀ k, k < 10 → parseFieldDescriptor (TX0 k).2.2.1 = some (tyX0 k) := by decide +kernel
abbrev cX0_init : ByteArray := prog_2_method_1_code
def yX0_init : MethodName := ⟨RX0, "<init>", "()V"⟩
abbrev cX0_copyFrom : ByteArray := prog_2_method_2_code
def yX0_copyFrom : MethodName := ⟨RX0, "copyFrom", "(LDebtChoir$Choir;)V"⟩
abbrev cX0_has : ByteArray := prog_2_method_3_code
def yX0_has : MethodName := ⟨RX0, "has", "(I)Z"⟩
abbrev cX0_come : ByteArray := prog_2_method_4_code
def yX0_come : MethodName := ⟨RX0, "come", "(III)V"⟩
abbrev cX0_go : ByteArray := prog_2_method_5_code
def yX0_go : MethodName := ⟨RX0, "go", "(I)V"⟩
abbrev cX0_voiceOf : ByteArray := prog_2_method_6_code
def yX0_voiceOf : MethodName := ⟨RX0, "voiceOf", "(I)I"⟩
abbrev cX0_debtOf : ByteArray := prog_2_method_7_code
def yX0_debtOf : MethodName := ⟨RX0, "debtOf", "(I)I"⟩
abbrev cX0_owe : ByteArray := prog_2_method_8_code
def yX0_owe : MethodName := ⟨RX0, "owe", "(II)V"⟩
abbrev cX0_allDebts : ByteArray := prog_2_method_9_code
def yX0_allDebts : MethodName := ⟨RX0, "allDebts", "()I"⟩
abbrev cX0_freeSingers : ByteArray := prog_2_method_10_code
def yX0_freeSingers : MethodName := ⟨RX0, "freeSingers", "()I"⟩
abbrev cX0_write : ByteArray := prog_2_method_11_code
def yX0_write : MethodName := ⟨RX0, "write", "(IIII)V"⟩
abbrev cX0_needOf : ByteArray := prog_2_method_12_code
def yX0_needOf : MethodName := ⟨RX0, "needOf", "(II)I"⟩
abbrev cX0_barsOf : ByteArray := prog_2_method_13_code
def yX0_barsOf : MethodName := ⟨RX0, "barsOf", "(I)I"⟩
abbrev cX0_payOf : ByteArray := prog_2_method_14_code
def yX0_payOf : MethodName := ⟨RX0, "payOf", "(I)I"⟩
abbrev cX0_worthOf : ByteArray := prog_2_method_15_code
def yX0_worthOf : MethodName := ⟨RX0, "worthOf", "(I)I"⟩
abbrev cX0_barsOfSet : ByteArray := prog_2_method_16_code
def yX0_barsOfSet : MethodName := ⟨RX0, "barsOfSet", "(I)I"⟩
abbrev cX0_payOfSet : ByteArray := prog_2_method_17_code
def yX0_payOfSet : MethodName := ⟨RX0, "payOfSet", "(I)I"⟩
abbrev cX0_withBreath : ByteArray := prog_2_method_18_code
def yX0_withBreath : MethodName := ⟨RX0, "withBreath", "(I)I"⟩
abbrev cX0_readyIn : ByteArray := prog_2_method_19_code
def yX0_readyIn : MethodName := ⟨RX0, "readyIn", "(I)I"⟩
abbrev cX0_leastFree : ByteArray := prog_2_method_20_code
def yX0_leastFree : MethodName := ⟨RX0, "leastFree", "(II)I"⟩
abbrev cX0_canBeSung : ByteArray := prog_2_method_21_code
def yX0_canBeSung : MethodName := ⟨RX0, "canBeSung", "(I)Z"⟩
abbrev cX0_deepestOf : ByteArray := prog_2_method_22_code
def yX0_deepestOf : MethodName := ⟨RX0, "deepestOf", "(I)I"⟩
abbrev cX0_sing : ByteArray := prog_2_method_23_code
def yX0_sing : MethodName := ⟨RX0, "sing", "(I)I"⟩
abbrev cX0_singOff : ByteArray := prog_2_method_24_code
def yX0_singOff : MethodName := ⟨RX0, "singOff", "(II)V"⟩
abbrev cX0_borrow : ByteArray := prog_2_method_25_code
def yX0_borrow : MethodName := ⟨RX0, "borrow", "(II)I"⟩
abbrev cX0_turnHoarse : ByteArray := prog_2_method_26_code
def yX0_turnHoarse : MethodName := ⟨RX0, "turnHoarse", "(I)I"⟩
abbrev cX0_takeOver : ByteArray := prog_2_method_27_code
def yX0_takeOver : MethodName := ⟨RX0, "takeOver", "(II)I"⟩
abbrev cX0_letGo : ByteArray := prog_2_method_28_code
def yX0_letGo : MethodName := ⟨RX0, "letGo", "(I)I"⟩
abbrev cX0_endEvening : ByteArray := prog_2_method_29_code
def yX0_endEvening : MethodName := ⟨RX0, "endEvening", "()I"⟩
def RX1 : String := "DebtChoir$Fugue"
def TX1 : u_T := fun k => match k with
  | 0 => ("DebtChoir$Fugue", "unit", "J", false)
  | 1 => ("DebtChoir$Fugue", "borrowing", "I", false)
  | 2 => ("DebtChoir$Fugue", "best", "[J", true)
  | _ => ("DebtChoir$Fugue", "sung", "[J", true)
def tyX1 : Nat → FieldType := fun k => match k with
  | 0 => .long
  | 1 => .int
  | 2 => .array .long
  | _ => .array .long
abbrev wsX10 : List Cond := u_ws RX1 TX1 4
theorem nmX1 : ∀ a, a < 4 → ∀ b, b < 4 → a ≠ b → (TX1 a).2.1 ≠ (TX1 b).2.1 := by decide +kernel
theorem tyX1_ok : ∀ k, k < 4 → parseFieldDescriptor (TX1 k).2.2.1 = some (tyX1 k) := by decide +kernel
abbrev cX1_init : ByteArray := prog_3_method_1_code
def yX1_init : MethodName := ⟨RX1, "<init>", "()V"⟩
abbrev cX1_start : ByteArray := prog_3_method_2_code
def yX1_start : MethodName := ⟨RX1, "start", "(I)V"⟩
abbrev cX1_evening : ByteArray := prog_3_method_3_code
def yX1_evening : MethodName := ⟨RX1, "evening", "(II)V"⟩
abbrev cX1_bestOf : ByteArray := prog_3_method_4_code
def yX1_bestOf : MethodName := ⟨RX1, "bestOf", "(I)J"⟩
def RX2 : String := "DebtChoir$Image"
def TX2 : u_T := fun k => match k with
  | 0 => ("DebtChoir$Image", "choir", "LDebtChoir$Choir;", true)
  | 1 => ("DebtChoir$Image", "sights", "LDebtChoir$Sights;", true)
  | _ => ("DebtChoir$Image", "kept", "Z", false)
def tyX2 : Nat → FieldType := fun k => match k with
  | 0 => .object "DebtChoir$Choir"
  | 1 => .object "DebtChoir$Sights"
  | _ => .boolean
abbrev wsX20 : List Cond := u_ws RX2 TX2 3
theorem nmX2 : ∀ a, a < 3 → ∀ b, b < 3 → a ≠ b → (TX2 a).2.1 ≠ (TX2 b).2.1 := by decide +kernel
theorem tyX2_ok : ∀ k, k < 3 → parseFieldDescriptor (TX2 k).2.2.1 = some (tyX2 k) := by decide +kernel
abbrev cX2_init : ByteArray := prog_4_method_1_code
def yX2_init : MethodName := ⟨RX2, "<init>", "()V"⟩
def RX3 : String := "DebtChoir$Nights"
def TX3 : u_T := fun k => match k with
  | 0 => ("DebtChoir$Nights", "fewest", "I", false)
  | 1 => ("DebtChoir$Nights", "firstPiece", "I", false)
  | 2 => ("DebtChoir$Nights", "pays", "[I", true)
  | _ => ("DebtChoir$Nights", "left", "[I", true)
def tyX3 : Nat → FieldType := fun k => match k with
  | 0 => .int
  | 1 => .int
  | 2 => .array .int
  | _ => .array .int
abbrev wsX30 : List Cond := u_ws RX3 TX3 4
theorem nmX3 : ∀ a, a < 4 → ∀ b, b < 4 → a ≠ b → (TX3 a).2.1 ≠ (TX3 b).2.1 := by decide +kernel
theorem tyX3_ok : ∀ k, k < 4 → parseFieldDescriptor (TX3 k).2.2.1 = some (tyX3 k) := by decide +kernel
abbrev cX3_init : ByteArray := prog_5_method_1_code
def yX3_init : MethodName := ⟨RX3, "<init>", "()V"⟩
abbrev cX3_find : ByteArray := prog_5_method_2_code
def yX3_find : MethodName := ⟨RX3, "find", "(LDebtChoir$Choir;I)V"⟩
abbrev cX3_takePays : ByteArray := prog_5_method_3_code
def yX3_takePays : MethodName := ⟨RX3, "takePays", "(LDebtChoir$Choir;I)V"⟩
abbrev cX3_fewestFrom : ByteArray := prog_5_method_4_code
def yX3_fewestFrom : MethodName := ⟨RX3, "fewestFrom", "(II)I"⟩
abbrev cX3_leastLeft : ByteArray := prog_5_method_5_code
def yX3_leastLeft : MethodName := ⟨RX3, "leastLeft", "(II)I"⟩
abbrev cX3_afterPiece : ByteArray := prog_5_method_6_code
def yX3_afterPiece : MethodName := ⟨RX3, "afterPiece", "(II)I"⟩
def RX4 : String := "DebtChoir$Pad"
def TX4 : u_T := fun k => match k with
  | 0 => ("DebtChoir$Pad", "count", "I", false)
  | _ => ("DebtChoir$Pad", "signs", "[I", true)
def tyX4 : Nat → FieldType := fun k => match k with
  | 0 => .int
  | _ => .array .int
abbrev wsX40 : List Cond := u_ws RX4 TX4 2
theorem nmX4 : ∀ a, a < 2 → ∀ b, b < 2 → a ≠ b → (TX4 a).2.1 ≠ (TX4 b).2.1 := by decide +kernel
theorem tyX4_ok : ∀ k, k < 2 → parseFieldDescriptor (TX4 k).2.2.1 = some (tyX4 k) := by decide +kernel
abbrev cX4_init : ByteArray := prog_6_method_1_code
def yX4_init : MethodName := ⟨RX4, "<init>", "()V"⟩
abbrev cX4_add : ByteArray := prog_6_method_2_code
def yX4_add : MethodName := ⟨RX4, "add", "(I)Z"⟩
abbrev cX4_signAt : ByteArray := prog_6_method_3_code
def yX4_signAt : MethodName := ⟨RX4, "signAt", "(I)I"⟩
abbrev cX4_isPiece : ByteArray := prog_6_method_4_code
def yX4_isPiece : MethodName := ⟨RX4, "isPiece", "(I)Z"⟩
abbrev cX4_isLetter : ByteArray := prog_6_method_5_code
def yX4_isLetter : MethodName := ⟨RX4, "isLetter", "(I)Z"⟩
abbrev cX4_lengthOf : ByteArray := prog_6_method_6_code
def yX4_lengthOf : MethodName := ⟨RX4, "lengthOf", "(II)I"⟩
abbrev cX4_isMark : ByteArray := prog_6_method_7_code
def yX4_isMark : MethodName := ⟨RX4, "isMark", "(I)Z"⟩
abbrev cX4_faultIn : ByteArray := prog_6_method_8_code
def yX4_faultIn : MethodName := ⟨RX4, "faultIn", "(I)I"⟩
abbrev cX4_faultPlace : ByteArray := prog_6_method_9_code
def yX4_faultPlace : MethodName := ⟨RX4, "faultPlace", "()I"⟩
def RX5 : String := "DebtChoir$Rings"
def TX5 : u_T := fun k => match k with
  | 0 => ("DebtChoir$Rings", "ranks", "[I", true)
  | 1 => ("DebtChoir$Rings", "parts", "[I", true)
  | 2 => ("DebtChoir$Rings", "points", "[I", true)
  | _ => ("DebtChoir$Rings", "left", "I", false)
def tyX5 : Nat → FieldType := fun k => match k with
  | 0 => .array .int
  | 1 => .array .int
  | 2 => .array .int
  | _ => .int
abbrev wsX50 : List Cond := u_ws RX5 TX5 4
theorem nmX5 : ∀ a, a < 4 → ∀ b, b < 4 → a ≠ b → (TX5 a).2.1 ≠ (TX5 b).2.1 := by decide +kernel
theorem tyX5_ok : ∀ k, k < 4 → parseFieldDescriptor (TX5 k).2.2.1 = some (tyX5 k) := by decide +kernel
abbrev cX5_init : ByteArray := prog_7_method_1_code
def yX5_init : MethodName := ⟨RX5, "<init>", "()V"⟩
abbrev cX5_start : ByteArray := prog_7_method_2_code
def yX5_start : MethodName := ⟨RX5, "start", "(IIII)V"⟩
abbrev cX5_swap : ByteArray := prog_7_method_3_code
def yX5_swap : MethodName := ⟨RX5, "swap", "()V"⟩
abbrev cX5_bestLeft : ByteArray := prog_7_method_4_code
def yX5_bestLeft : MethodName := ⟨RX5, "bestLeft", "(I)I"⟩
abbrev cX5_isInRing : ByteArray := prog_7_method_5_code
def yX5_isInRing : MethodName := ⟨RX5, "isInRing", "(I)Z"⟩
abbrev cX5_partsAsDigits : ByteArray := prog_7_method_6_code
def yX5_partsAsDigits : MethodName := ⟨RX5, "partsAsDigits", "()I"⟩
abbrev cX5_countOwn : ByteArray := prog_7_method_7_code
def yX5_countOwn : MethodName := ⟨RX5, "countOwn", "()I"⟩
def RX6 : String := "DebtChoir$Sights"
def TX6 : u_T := fun k => match k with
  | 0 => ("DebtChoir$Sights", "count", "I", false)
  | 1 => ("DebtChoir$Sights", "found", "I", false)
  | 2 => ("DebtChoir$Sights", "pays", "[I", true)
  | 3 => ("DebtChoir$Sights", "sums", "[I", true)
  | 4 => ("DebtChoir$Sights", "rows", "[I", true)
  | _ => ("DebtChoir$Sights", "tally", "[I", true)
def tyX6 : Nat → FieldType := fun k => match k with
  | 0 => .int
  | 1 => .int
  | 2 => .array .int
  | 3 => .array .int
  | 4 => .array .int
  | _ => .array .int
abbrev wsX60 : List Cond := u_ws RX6 TX6 6
theorem nmX6 : ∀ a, a < 6 → ∀ b, b < 6 → a ≠ b → (TX6 a).2.1 ≠ (TX6 b).2.1 := by decide +kernel
theorem tyX6_ok : ∀ k, k < 6 → parseFieldDescriptor (TX6 k).2.2.1 = some (tyX6 k) := by decide +kernel
abbrev cX6_init : ByteArray := prog_8_method_1_code
def yX6_init : MethodName := ⟨RX6, "<init>", "()V"⟩
abbrev cX6_copyFrom : ByteArray := prog_8_method_2_code
def yX6_copyFrom : MethodName := ⟨RX6, "copyFrom", "(LDebtChoir$Sights;)V"⟩
abbrev cX6_add : ByteArray := prog_8_method_3_code
def yX6_add : MethodName := ⟨RX6, "add", "(II)Z"⟩
abbrev cX6_sumOf : ByteArray := prog_8_method_4_code
def yX6_sumOf : MethodName := ⟨RX6, "sumOf", "(II)I"⟩
abbrev cX6_fitsAll : ByteArray := prog_8_method_5_code
def yX6_fitsAll : MethodName := ⟨RX6, "fitsAll", "(I)Z"⟩
abbrev cX6_findRows : ByteArray := prog_8_method_6_code
def yX6_findRows : MethodName := ⟨RX6, "findRows", "()V"⟩
abbrev cX6_rowAt : ByteArray := prog_8_method_7_code
def yX6_rowAt : MethodName := ⟨RX6, "rowAt", "(I)I"⟩
abbrev cX6_mostLeft : ByteArray := prog_8_method_8_code
def yX6_mostLeft : MethodName := ⟨RX6, "mostLeft", "(I)I"⟩
def RX7 : String := "DebtChoir$Trial"
def TX7 : u_T := fun k => match k with
  | 0 => ("DebtChoir$Trial", "choir", "LDebtChoir$Choir;", true)
  | 1 => ("DebtChoir$Trial", "acts", "I", false)
  | 2 => ("DebtChoir$Trial", "badAct", "I", false)
  | 3 => ("DebtChoir$Trial", "why", "I", false)
  | 4 => ("DebtChoir$Trial", "piecesSung", "I", false)
  | 5 => ("DebtChoir$Trial", "freeingAct", "I", false)
  | _ => ("DebtChoir$Trial", "firstFreed", "I", false)
def tyX7 : Nat → FieldType := fun k => match k with
  | 0 => .object "DebtChoir$Choir"
  | 1 => .int
  | 2 => .int
  | 3 => .int
  | 4 => .int
  | 5 => .int
  | _ => .int
abbrev wsX70 : List Cond := u_ws RX7 TX7 7
theorem nmX7 : ∀ a, a < 7 → ∀ b, b < 7 → a ≠ b → (TX7 a).2.1 ≠ (TX7 b).2.1 := by decide +kernel
theorem tyX7_ok : ∀ k, k < 7 → parseFieldDescriptor (TX7 k).2.2.1 = some (tyX7 k) := by decide +kernel
abbrev cX7_init : ByteArray := prog_9_method_1_code
def yX7_init : MethodName := ⟨RX7, "<init>", "()V"⟩
abbrev cX7_start : ByteArray := prog_9_method_2_code
def yX7_start : MethodName := ⟨RX7, "start", "(LDebtChoir$Choir;)V"⟩
abbrev cX7_play : ByteArray := prog_9_method_3_code
def yX7_play : MethodName := ⟨RX7, "play", "(LDebtChoir$Pad;LDebtChoir$Choir;)I"⟩
abbrev cX7_noteFreed : ByteArray := prog_9_method_4_code
def yX7_noteFreed : MethodName := ⟨RX7, "noteFreed", "(I)V"⟩
abbrev cX7_act : ByteArray := prog_9_method_5_code
def yX7_act : MethodName := ⟨RX7, "act", "(III)I"⟩
abbrev cX7_draw : ByteArray := prog_9_method_6_code
def yX7_draw : MethodName := ⟨RX7, "draw", "(I)V"⟩
def RX8 : String := "DebtChoir"
def TX8 : u_T := fun k => match k with
  | 0 => ("DebtChoir", "choir", "LDebtChoir$Choir;", true)
  | 1 => ("DebtChoir", "sights", "LDebtChoir$Sights;", true)
  | 2 => ("DebtChoir", "pad", "LDebtChoir$Pad;", true)
  | 3 => ("DebtChoir", "trial", "LDebtChoir$Trial;", true)
  | 4 => ("DebtChoir", "row", "LDebtChoir$Nights;", true)
  | 5 => ("DebtChoir", "circle", "LDebtChoir$Rings;", true)
  | 6 => ("DebtChoir", "borrower", "LDebtChoir$Fugue;", true)
  | 7 => ("DebtChoir", "firstImage", "LDebtChoir$Image;", true)
  | _ => ("DebtChoir", "secondImage", "LDebtChoir$Image;", true)
def tyX8 : Nat → FieldType := fun k => match k with
  | 0 => .object "DebtChoir$Choir"
  | 1 => .object "DebtChoir$Sights"
  | 2 => .object "DebtChoir$Pad"
  | 3 => .object "DebtChoir$Trial"
  | 4 => .object "DebtChoir$Nights"
  | 5 => .object "DebtChoir$Rings"
  | 6 => .object "DebtChoir$Fugue"
  | 7 => .object "DebtChoir$Image"
  | _ => .object "DebtChoir$Image"
abbrev wsX80 : List Cond := u_ws RX8 TX8 9
theorem nmX8 : ∀ a, a < 9 → ∀ b, b < 9 → a ≠ b → (TX8 a).2.1 ≠ (TX8 b).2.1 := by decide +kernel
theorem tyX8_ok : ∀ k, k < 9 → parseFieldDescriptor (TX8 k).2.2.1 = some (tyX8 k) := by decide +kernel
abbrev cX8_init : ByteArray := prog_1_method_1_code
def yX8_init : MethodName := ⟨RX8, "<init>", "()V"⟩
abbrev cX8_singer : ByteArray := prog_1_method_2_code
def yX8_singer : MethodName := ⟨RX8, "singer", "(III)I"⟩
abbrev cX8_leave : ByteArray := prog_1_method_3_code
def yX8_leave : MethodName := ⟨RX8, "leave", "(I)I"⟩
abbrev cX8_piece : ByteArray := prog_1_method_4_code
def yX8_piece : MethodName := ⟨RX8, "piece", "(IIII)I"⟩
abbrev cX8_say : ByteArray := prog_1_method_5_code
def yX8_say : MethodName := ⟨RX8, "say", "(I)I"⟩
abbrev cX8_wipe : ByteArray := prog_1_method_6_code
def yX8_wipe : MethodName := ⟨RX8, "wipe", "()I"⟩
abbrev cX8_fault : ByteArray := prog_1_method_7_code
def yX8_fault : MethodName := ⟨RX8, "fault", "()I"⟩
abbrev cX8_judge : ByteArray := prog_1_method_8_code
def yX8_judge : MethodName := ⟨RX8, "judge", "(I)I"⟩
abbrev cX8_behind : ByteArray := prog_1_method_9_code
def yX8_behind : MethodName := ⟨RX8, "behind", "(II)I"⟩
abbrev cX8_owed : ByteArray := prog_1_method_10_code
def yX8_owed : MethodName := ⟨RX8, "owed", "(I)I"⟩
abbrev cX8_freed : ByteArray := prog_1_method_11_code
def yX8_freed : MethodName := ⟨RX8, "freed", "(I)I"⟩
abbrev cX8_done : ByteArray := prog_1_method_12_code
def yX8_done : MethodName := ⟨RX8, "done", "()I"⟩
abbrev cX8_may : ByteArray := prog_1_method_13_code
def yX8_may : MethodName := ⟨RX8, "may", "()I"⟩
abbrev cX8_nights : ByteArray := prog_1_method_14_code
def yX8_nights : MethodName := ⟨RX8, "nights", "(II)I"⟩
abbrev cX8_programme : ByteArray := prog_1_method_15_code
def yX8_programme : MethodName := ⟨RX8, "programme", "(II)I"⟩
abbrev cX8_ruin : ByteArray := prog_1_method_16_code
def yX8_ruin : MethodName := ⟨RX8, "ruin", "(II)I"⟩
abbrev cX8_seats : ByteArray := prog_1_method_17_code
def yX8_seats : MethodName := ⟨RX8, "seats", "(III)I"⟩
abbrev cX8_rings : ByteArray := prog_1_method_18_code
def yX8_rings : MethodName := ⟨RX8, "rings", "(IIIII)I"⟩
abbrev cX8_seen : ByteArray := prog_1_method_19_code
def yX8_seen : MethodName := ⟨RX8, "seen", "(II)I"⟩
abbrev cX8_forget : ByteArray := prog_1_method_20_code
def yX8_forget : MethodName := ⟨RX8, "forget", "()I"⟩
abbrev cX8_holds : ByteArray := prog_1_method_21_code
def yX8_holds : MethodName := ⟨RX8, "holds", "(I)I"⟩
abbrev cX8_ask : ByteArray := prog_1_method_22_code
def yX8_ask : MethodName := ⟨RX8, "ask", "(I)I"⟩
abbrev cX8_fugue : ByteArray := prog_1_method_23_code
def yX8_fugue : MethodName := ⟨RX8, "fugue", "(IIIIIII)J"⟩
abbrev cX8_year : ByteArray := prog_1_method_24_code
def yX8_year : MethodName := ⟨RX8, "year", "(III)I"⟩
abbrev cX8_image : ByteArray := prog_1_method_25_code
def yX8_image : MethodName := ⟨RX8, "image", "(I)I"⟩
abbrev cX8_restore : ByteArray := prog_1_method_26_code
def yX8_restore : MethodName := ⟨RX8, "restore", "(I)I"⟩
abbrev cX8_told : ByteArray := prog_1_method_27_code
def yX8_told : MethodName := ⟨RX8, "told", "(I)I"⟩
abbrev cX8_tellSinger : ByteArray := prog_1_method_28_code
def yX8_tellSinger : MethodName := ⟨RX8, "tellSinger", "(II)I"⟩
abbrev cX8_tellPiece : ByteArray := prog_1_method_29_code
def yX8_tellPiece : MethodName := ⟨RX8, "tellPiece", "(II)I"⟩
abbrev cX8_placeOfBid : ByteArray := prog_1_method_30_code
def yX8_placeOfBid : MethodName := ⟨RX8, "placeOfBid", "(II)I"⟩
abbrev cX8_areNeeds : ByteArray := prog_1_method_31_code
def yX8_areNeeds : MethodName := ⟨RX8, "areNeeds", "(I)Z"⟩
abbrev cX8_areRanks : ByteArray := prog_1_method_32_code
def yX8_areRanks : MethodName := ⟨RX8, "areRanks", "(I)Z"⟩
abbrev cX8_digitOf : ByteArray := prog_1_method_33_code
def yX8_digitOf : MethodName := ⟨RX8, "digitOf", "(II)I"⟩
abbrev cX8_within : ByteArray := prog_1_method_34_code
def yX8_within : MethodName := ⟨RX8, "within", "(III)Z"⟩
abbrev cX8_bit : ByteArray := prog_1_method_35_code
def yX8_bit : MethodName := ⟨RX8, "bit", "(II)I"⟩
abbrev cX8_commonDivisor : ByteArray := prog_1_method_36_code
def yX8_commonDivisor : MethodName := ⟨RX8, "commonDivisor", "(JJ)J"⟩
def RX9 : String := "DebtChoirModel"
def TX9 : u_T := fun k => match k with
  | 0 => ("DebtChoirModel", "there", "I", false)
  | 1 => ("DebtChoirModel", "hoarse", "I", false)
  | 2 => ("DebtChoirModel", "sang", "I", false)
  | 3 => ("DebtChoirModel", "evenings", "I", false)
  | 4 => ("DebtChoirModel", "voice", "[I", true)
  | 5 => ("DebtChoirModel", "debt", "[I", true)
  | 6 => ("DebtChoirModel", "need", "[I", true)
  | 7 => ("DebtChoirModel", "bars", "[I", true)
  | 8 => ("DebtChoirModel", "pay", "[I", true)
  | 9 => ("DebtChoirModel", "sightPay", "[I", true)
  | 10 => ("DebtChoirModel", "sightSum", "[I", true)
  | 11 => ("DebtChoirModel", "sights", "I", false)
  | 12 => ("DebtChoirModel", "pad", "[I", true)
  | 13 => ("DebtChoirModel", "padMany", "I", false)
  | 14 => ("DebtChoirModel", "act", "[I", true)
  | 15 => ("DebtChoirModel", "who", "[I", true)
  | 16 => ("DebtChoirModel", "much", "[I", true)
  | 17 => ("DebtChoirModel", "acts", "I", false)
  | 18 => ("DebtChoirModel", "sungOff", "I", false)
  | 19 => ("DebtChoirModel", "sungMany", "I", false)
  | 20 => ("DebtChoirModel", "had", "[I", true)
  | 21 => ("DebtChoirModel", "badAct", "I", false)
  | 22 => ("DebtChoirModel", "badWhy", "I", false)
  | 23 => ("DebtChoirModel", "freedAct", "I", false)
  | 24 => ("DebtChoirModel", "freedWho", "I", false)
  | 25 => ("DebtChoirModel", "leastOwed", "[I", true)
  | 26 => ("DebtChoirModel", "bid", "[I", true)
  | 27 => ("DebtChoirModel", "likes", "[I", true)
  | 28 => ("DebtChoirModel", "gets", "[I", true)
  | 29 => ("DebtChoirModel", "bySum", "[I", true)
  | 30 => ("DebtChoirModel", "worth", "[J", true)
  | 31 => ("DebtChoirModel", "worthThen", "[J", true)
  | 32 => ("DebtChoirModel", "kept", "[I", true)
  | 33 => ("DebtChoirModel", "isKept", "[Z", true)
  | 34 => ("DebtChoirModel", "keptAt", "I", false)
  | _ => ("DebtChoirModel", "isWriting", "Z", false)
def tyX9 : Nat → FieldType := fun k => match k with
  | 0 => .int
  | 1 => .int
  | 2 => .int
  | 3 => .int
  | 4 => .array .int
  | 5 => .array .int
  | 6 => .array .int
  | 7 => .array .int
  | 8 => .array .int
  | 9 => .array .int
  | 10 => .array .int
  | 11 => .int
  | 12 => .array .int
  | 13 => .int
  | 14 => .array .int
  | 15 => .array .int
  | 16 => .array .int
  | 17 => .int
  | 18 => .int
  | 19 => .int
  | 20 => .array .int
  | 21 => .int
  | 22 => .int
  | 23 => .int
  | 24 => .int
  | 25 => .array .int
  | 26 => .array .int
  | 27 => .array .int
  | 28 => .array .int
  | 29 => .array .int
  | 30 => .array .long
  | 31 => .array .long
  | 32 => .array .int
  | 33 => .array .boolean
  | 34 => .int
  | _ => .boolean
abbrev wsX90 : List Cond := u_ws RX9 TX9 36
theorem nmX9 : ∀ a, a < 36 → ∀ b, b < 36 → a ≠ b → (TX9 a).2.1 ≠ (TX9 b).2.1 := by decide +kernel
theorem tyX9_ok : ∀ k, k < 36 → parseFieldDescriptor (TX9 k).2.2.1 = some (tyX9 k) := by decide +kernel
abbrev cX9_init : ByteArray := prog_11_method_1_code
def yX9_init : MethodName := ⟨RX9, "<init>", "()V"⟩
abbrev cX9_in : ByteArray := prog_11_method_3_code
def yX9_in : MethodName := ⟨RX9, "in", "(JJJ)Z"⟩
abbrev cX9_bitsOf : ByteArray := prog_11_method_4_code
def yX9_bitsOf : MethodName := ⟨RX9, "bitsOf", "(I)I"⟩
abbrev cX9_isSinger : ByteArray := prog_11_method_5_code
def yX9_isSinger : MethodName := ⟨RX9, "isSinger", "(I)Z"⟩
abbrev cX9_singer : ByteArray := prog_11_method_6_code
def yX9_singer : MethodName := ⟨RX9, "singer", "(III)I"⟩
abbrev cX9_leave : ByteArray := prog_11_method_7_code
def yX9_leave : MethodName := ⟨RX9, "leave", "(I)I"⟩
abbrev cX9_areNeeds : ByteArray := prog_11_method_8_code
def yX9_areNeeds : MethodName := ⟨RX9, "areNeeds", "(I)Z"⟩
abbrev cX9_piece : ByteArray := prog_11_method_9_code
def yX9_piece : MethodName := ⟨RX9, "piece", "(IIII)I"⟩
abbrev cX9_say : ByteArray := prog_11_method_10_code
def yX9_say : MethodName := ⟨RX9, "say", "(I)I"⟩
abbrev cX9_wipe : ByteArray := prog_11_method_11_code
def yX9_wipe : MethodName := ⟨RX9, "wipe", "()I"⟩
abbrev cX9_close : ByteArray := prog_11_method_12_code
def yX9_close : MethodName := ⟨RX9, "close", "(II)I"⟩
abbrev cX9_begin : ByteArray := prog_11_method_13_code
def yX9_begin : MethodName := ⟨RX9, "begin", "(I)I"⟩
abbrev cX9_readOn : ByteArray := prog_11_method_14_code
def yX9_readOn : MethodName := ⟨RX9, "readOn", "(II)I"⟩
abbrev cX9_fault : ByteArray := prog_11_method_15_code
def yX9_fault : MethodName := ⟨RX9, "fault", "()I"⟩
abbrev cX9_mayHere : ByteArray := prog_11_method_16_code
def yX9_mayHere : MethodName := ⟨RX9, "mayHere", "(II)Z"⟩
abbrev cX9_ready : ByteArray := prog_11_method_17_code
def yX9_ready : MethodName := ⟨RX9, "ready", "(IZ)I"⟩
abbrev cX9_canBeSung : ByteArray := prog_11_method_18_code
def yX9_canBeSung : MethodName := ⟨RX9, "canBeSung", "(I)Z"⟩
abbrev cX9_whyNotTake : ByteArray := prog_11_method_19_code
def yX9_whyNotTake : MethodName := ⟨RX9, "whyNotTake", "(II)I"⟩
abbrev cX9_whyNot : ByteArray := prog_11_method_20_code
def yX9_whyNot : MethodName := ⟨RX9, "whyNot", "(III)I"⟩
abbrev cX9_singOne : ByteArray := prog_11_method_21_code
def yX9_singOne : MethodName := ⟨RX9, "singOne", "(II)V"⟩
abbrev cX9_singPiece : ByteArray := prog_11_method_22_code
def yX9_singPiece : MethodName := ⟨RX9, "singPiece", "(I)V"⟩
abbrev cX9_endEvening : ByteArray := prog_11_method_23_code
def yX9_endEvening : MethodName := ⟨RX9, "endEvening", "()V"⟩
abbrev cX9_happen : ByteArray := prog_11_method_24_code
def yX9_happen : MethodName := ⟨RX9, "happen", "(III)V"⟩
abbrev cX9_keepNow : ByteArray := prog_11_method_25_code
def yX9_keepNow : MethodName := ⟨RX9, "keepNow", "()V"⟩
abbrev cX9_back : ByteArray := prog_11_method_26_code
def yX9_back : MethodName := ⟨RX9, "back", "(I)I"⟩
abbrev cX9_owing : ByteArray := prog_11_method_27_code
def yX9_owing : MethodName := ⟨RX9, "owing", "()I"⟩
abbrev cX9_leastOf : ByteArray := prog_11_method_28_code
def yX9_leastOf : MethodName := ⟨RX9, "leastOf", "(I)I"⟩
abbrev cX9_goEvenings : ByteArray := prog_11_method_29_code
def yX9_goEvenings : MethodName := ⟨RX9, "goEvenings", "()V"⟩
abbrev cX9_goOne : ByteArray := prog_11_method_30_code
def yX9_goOne : MethodName := ⟨RX9, "goOne", "(I)V"⟩
abbrev cX9_refusal : ByteArray := prog_11_method_31_code
def yX9_refusal : MethodName := ⟨RX9, "refusal", "()I"⟩
abbrev cX9_judge : ByteArray := prog_11_method_32_code
def yX9_judge : MethodName := ⟨RX9, "judge", "(I)I"⟩
abbrev cX9_behind : ByteArray := prog_11_method_33_code
def yX9_behind : MethodName := ⟨RX9, "behind", "(II)I"⟩
abbrev cX9_allDebts : ByteArray := prog_11_method_34_code
def yX9_allDebts : MethodName := ⟨RX9, "allDebts", "()I"⟩
abbrev cX9_owed : ByteArray := prog_11_method_35_code
def yX9_owed : MethodName := ⟨RX9, "owed", "(I)I"⟩
abbrev cX9_freed : ByteArray := prog_11_method_36_code
def yX9_freed : MethodName := ⟨RX9, "freed", "(I)I"⟩
abbrev cX9_done : ByteArray := prog_11_method_37_code
def yX9_done : MethodName := ⟨RX9, "done", "()I"⟩
abbrev cX9_may : ByteArray := prog_11_method_38_code
def yX9_may : MethodName := ⟨RX9, "may", "()I"⟩
abbrev cX9_behindNight : ByteArray := prog_11_method_39_code
def yX9_behindNight : MethodName := ⟨RX9, "behindNight", "(II)I"⟩
abbrev cX9_isFor : ByteArray := prog_11_method_40_code
def yX9_isFor : MethodName := ⟨RX9, "isFor", "(II)Z"⟩
abbrev cX9_bestOwed : ByteArray := prog_11_method_41_code
def yX9_bestOwed : MethodName := ⟨RX9, "bestOwed", "(II)I"⟩
abbrev cX9_fewestNights : ByteArray := prog_11_method_42_code
def yX9_fewestNights : MethodName := ⟨RX9, "fewestNights", "(III)I"⟩
abbrev cX9_firstNight : ByteArray := prog_11_method_43_code
def yX9_firstNight : MethodName := ⟨RX9, "firstNight", "(II)I"⟩
abbrev cX9_nights : ByteArray := prog_11_method_44_code
def yX9_nights : MethodName := ⟨RX9, "nights", "(II)I"⟩
abbrev cX9_needsOf : ByteArray := prog_11_method_45_code
def yX9_needsOf : MethodName := ⟨RX9, "needsOf", "(I)I"⟩
abbrev cX9_barsOf : ByteArray := prog_11_method_46_code
def yX9_barsOf : MethodName := ⟨RX9, "barsOf", "(I)I"⟩
abbrev cX9_paysOf : ByteArray := prog_11_method_47_code
def yX9_paysOf : MethodName := ⟨RX9, "paysOf", "(I)I"⟩
abbrev cX9_programme : ByteArray := prog_11_method_48_code
def yX9_programme : MethodName := ⟨RX9, "programme", "(II)I"⟩
abbrev cX9_ruined : ByteArray := prog_11_method_49_code
def yX9_ruined : MethodName := ⟨RX9, "ruined", "(II)I"⟩
abbrev cX9_ruin : ByteArray := prog_11_method_50_code
def yX9_ruin : MethodName := ⟨RX9, "ruin", "(II)I"⟩
abbrev cX9_ahead : ByteArray := prog_11_method_51_code
def yX9_ahead : MethodName := ⟨RX9, "ahead", "(I)I"⟩
abbrev cX9_seats : ByteArray := prog_11_method_52_code
def yX9_seats : MethodName := ⟨RX9, "seats", "(III)I"⟩
abbrev cX9_areRanks : ByteArray := prog_11_method_53_code
def yX9_areRanks : MethodName := ⟨RX9, "areRanks", "(II)Z"⟩
abbrev cX9_pointsTo : ByteArray := prog_11_method_54_code
def yX9_pointsTo : MethodName := ⟨RX9, "pointsTo", "(II)I"⟩
abbrev cX9_ringed : ByteArray := prog_11_method_55_code
def yX9_ringed : MethodName := ⟨RX9, "ringed", "(I)I"⟩
abbrev cX9_deal : ByteArray := prog_11_method_56_code
def yX9_deal : MethodName := ⟨RX9, "deal", "()V"⟩
abbrev cX9_rings : ByteArray := prog_11_method_57_code
def yX9_rings : MethodName := ⟨RX9, "rings", "(IIIII)I"⟩
abbrev cX9_seen : ByteArray := prog_11_method_58_code
def yX9_seen : MethodName := ⟨RX9, "seen", "(II)I"⟩
abbrev cX9_forget : ByteArray := prog_11_method_59_code
def yX9_forget : MethodName := ⟨RX9, "forget", "()I"⟩
abbrev cX9_together : ByteArray := prog_11_method_60_code
def yX9_together : MethodName := ⟨RX9, "together", "(II)I"⟩
abbrev cX9_fits : ByteArray := prog_11_method_61_code
def yX9_fits : MethodName := ⟨RX9, "fits", "(I)Z"⟩
abbrev cX9_holds : ByteArray := prog_11_method_62_code
def yX9_holds : MethodName := ⟨RX9, "holds", "(I)I"⟩
abbrev cX9_mostLeft : ByteArray := prog_11_method_63_code
def yX9_mostLeft : MethodName := ⟨RX9, "mostLeft", "(I)I"⟩
abbrev cX9_ask : ByteArray := prog_11_method_64_code
def yX9_ask : MethodName := ⟨RX9, "ask", "(I)I"⟩
abbrev cX9_size : ByteArray := prog_11_method_65_code
def yX9_size : MethodName := ⟨RX9, "size", "(J)J"⟩
abbrev cX9_lowest : ByteArray := prog_11_method_66_code
def yX9_lowest : MethodName := ⟨RX9, "lowest", "(JJI)J"⟩
abbrev cX9_sung : ByteArray := prog_11_method_67_code
def yX9_sung : MethodName := ⟨RX9, "sung", "(II)J"⟩
abbrev cX9_fugueGood : ByteArray := prog_11_method_68_code
def yX9_fugueGood : MethodName := ⟨RX9, "fugueGood", "(IIIII)Z"⟩
abbrev cX9_fugue : ByteArray := prog_11_method_69_code
def yX9_fugue : MethodName := ⟨RX9, "fugue", "(IIIIIII)J"⟩
abbrev cX9_actBy : ByteArray := prog_11_method_70_code
def yX9_actBy : MethodName := ⟨RX9, "actBy", "(I)I"⟩
abbrev cX9_year : ByteArray := prog_11_method_71_code
def yX9_year : MethodName := ⟨RX9, "year", "(III)I"⟩
abbrev cX9_pass : ByteArray := prog_11_method_72_code
def yX9_pass : MethodName := ⟨RX9, "pass", "(I)I"⟩
abbrev cX9_passRow : ByteArray := prog_11_method_73_code
def yX9_passRow : MethodName := ⟨RX9, "passRow", "([II)V"⟩
abbrev cX9_passAll : ByteArray := prog_11_method_74_code
def yX9_passAll : MethodName := ⟨RX9, "passAll", "()V"⟩
abbrev cX9_image : ByteArray := prog_11_method_75_code
def yX9_image : MethodName := ⟨RX9, "image", "(I)I"⟩
abbrev cX9_restore : ByteArray := prog_11_method_76_code
def yX9_restore : MethodName := ⟨RX9, "restore", "(I)I"⟩
abbrev cX9_toldOfSinger : ByteArray := prog_11_method_77_code
def yX9_toldOfSinger : MethodName := ⟨RX9, "toldOfSinger", "(II)I"⟩
abbrev cX9_toldOfPiece : ByteArray := prog_11_method_78_code
def yX9_toldOfPiece : MethodName := ⟨RX9, "toldOfPiece", "(II)I"⟩
abbrev cX9_told : ByteArray := prog_11_method_79_code
def yX9_told : MethodName := ⟨RX9, "told", "(I)I"⟩
def RJ6 : String := "java/lang/Integer"
def TJ6 : u_T := fun k => match k with
  | _ => ("", "", "", false)
def tyJ6 : Nat → FieldType := fun k => match k with
  | _ => .int
abbrev cJ6_numberOfTrailingZeros_0f7a4 : ByteArray := prog_12_method_48_code
def yJ6_numberOfTrailingZeros_0f7a4 : MethodName := ⟨RJ6, "numberOfTrailingZeros", "(I)I"⟩
abbrev cJ6_bitCount_0f7a4 : ByteArray := prog_12_method_49_code
def yJ6_bitCount_0f7a4 : MethodName := ⟨RJ6, "bitCount", "(I)I"⟩
def RJ9 : String := "java/lang/Math"
def TJ9 : u_T := fun k => match k with
  | _ => ("", "", "", false)
def tyJ9 : Nat → FieldType := fun k => match k with
  | _ => .int
abbrev cJ9_abs_067f4 : ByteArray := prog_13_method_61_code
def yJ9_abs_067f4 : MethodName := ⟨RJ9, "abs", "(J)J"⟩
abbrev cJ9_max_7cf53 : ByteArray := prog_13_method_65_code
def yJ9_max_7cf53 : MethodName := ⟨RJ9, "max", "(II)I"⟩
abbrev cJ9_max_f86c9 : ByteArray := prog_13_method_66_code
def yJ9_max_f86c9 : MethodName := ⟨RJ9, "max", "(JJ)J"⟩
abbrev cJ9_min_7cf53 : ByteArray := prog_13_method_69_code
def yJ9_min_7cf53 : MethodName := ⟨RJ9, "min", "(II)I"⟩
def RJ10 : String := "java/lang/System"
def TJ10 : u_T := fun k => match k with
  | _ => ("", "", "", false)
def tyJ10 : Nat → FieldType := fun k => match k with
  | _ => .int
def RL : String := "DebtChoirLaw"
abbrev cL_law : ByteArray := code
def yL_law : MethodName := ⟨RL, "law", "([I)Z"⟩
end
section
/-- the classes whose objects the world holds -/
abbrev dc_cl : List vw_C := [(RX0, TX0, 10), (RX1, TX1, 4), (RX2, TX2, 3), (RX3, TX3, 4), (RX4, TX4, 2), (RX5, TX5, 4), (RX6, TX6, 6), (RX7, TX7, 7), (RX8, TX8, 9), (RX9, TX9, 36)]
/-- the cells: objects (class, kinds of fields: 0 int, 1 long, 2 boolean, 3 + a cell), arrays (0 int, 1 long, 2 boolean; length) -/
def dc_lay : List ((Nat × List Nat) ⊕ (Nat × Nat)) := [.inl (8, [4, 10, 15, 17, 24, 27, 31, 34, 46]), .inl (0, [0, 0, 0, 0, 0, 5, 6, 7, 8, 9]), .inr (0, 8), .inr (0, 8), .inr (0, 24), .inr (0, 6), .inr (0, 6), .inl (6, [0, 0, 11, 12, 13, 14]), .inr (0, 8), .inr (0, 8), .inr (0, 100), .inr (0, 19), .inl (4, [0, 16]), .inr (0, 60), .inl (7, [18, 0, 0, 0, 0, 0, 0]), .inl (0, [0, 0, 0, 0, 0, 19, 20, 21, 22, 23]), .inr (0, 8), .inr (0, 8), .inr (0, 24), .inr (0, 6), .inr (0, 6), .inl (3, [0, 0, 25, 26]), .inr (0, 6), .inr (0, 64), .inl (5, [28, 29, 30, 0]), .inr (0, 4), .inr (0, 4), .inr (0, 4), .inl (1, [1, 0, 32, 33]), .inr (1, 10), .inr (1, 10), .inl (2, [35, 41, 2]), .inl (0, [0, 0, 0, 0, 0, 36, 37, 38, 39, 40]), .inr (0, 8), .inr (0, 8), .inr (0, 24), .inr (0, 6), .inr (0, 6), .inl (6, [0, 0, 42, 43, 44, 45]), .inr (0, 8), .inr (0, 8), .inr (0, 100), .inr (0, 19), .inl (2, [47, 53, 2]), .inl (0, [0, 0, 0, 0, 0, 48, 49, 50, 51, 52]), .inr (0, 8), .inr (0, 8), .inr (0, 24), .inr (0, 6), .inr (0, 6), .inl (6, [0, 0, 54, 55, 56, 57]), .inr (0, 8), .inr (0, 8), .inr (0, 100), .inr (0, 19), .inl (9, [0, 0, 0, 0, 59, 60, 61, 62, 63, 64, 65, 0, 66, 0, 67, 68, 69, 0, 0, 0, 70, 0, 0, 0, 0, 71, 72, 73, 74, 75, 76, 77, 78, 79, 0, 2]), .inr (0, 8), .inr (0, 8), .inr (0, 24), .inr (0, 6), .inr (0, 6), .inr (0, 8), .inr (0, 8), .inr (0, 60), .inr (0, 60), .inr (0, 60), .inr (0, 60), .inr (0, 11), .inr (0, 64), .inr (0, 6), .inr (0, 16), .inr (0, 4), .inr (0, 19), .inr (1, 10), .inr (1, 10), .inr (0, 180), .inr (2, 2)]
/-- the words of the tables that every warm state keeps -/
def dc_tb : List Cond := lw_tbl.filter goodWord
/-- the links to a nest mate's private methods -/
def dc_nest : List (String × Nat × MethodName × String) := [("DebtChoir$Choir", 49, ⟨"DebtChoir", "within", "(III)Z"⟩, "DebtChoir"), ("DebtChoir$Choir", 65, ⟨"DebtChoir", "digitOf", "(II)I"⟩, "DebtChoir"), ("DebtChoir$Pad", 19, ⟨"DebtChoir", "within", "(III)Z"⟩, "DebtChoir"), ("DebtChoir$Choir", 75, ⟨"DebtChoir", "bit", "(II)I"⟩, "DebtChoir"), ("DebtChoir$Nights", 62, ⟨"DebtChoir", "within", "(III)Z"⟩, "DebtChoir"), ("DebtChoir$Nights", 59, ⟨"DebtChoir", "bit", "(II)I"⟩, "DebtChoir"), ("DebtChoir$Rings", 37, ⟨"DebtChoir", "digitOf", "(II)I"⟩, "DebtChoir"), ("DebtChoir$Rings", 29, ⟨"DebtChoir", "bit", "(II)I"⟩, "DebtChoir"), ("DebtChoir$Rings", 40, ⟨"DebtChoir", "within", "(III)Z"⟩, "DebtChoir"), ("DebtChoir$Sights", 34, ⟨"DebtChoir", "within", "(III)Z"⟩, "DebtChoir"), ("DebtChoir$Fugue", 36, ⟨"DebtChoir", "within", "(III)Z"⟩, "DebtChoir")]
end
section
/-! the numbers of the heap: int places and long places of each cell; the cells' shapes never change behind the constructors -/
abbrev dc_HP : Type := (Nat → Nat → Int32) × (Nat → Nat → Int64)
def dc_wI (σ : dc_HP) (k j : Nat) (v : Int32) : dc_HP := (fun a b => if a = k ∧ b = j then v else σ.1 a b, σ.2)
def dc_wL (σ : dc_HP) (k j : Nat) (v : Int64) : dc_HP := (σ.1, fun a b => if a = k ∧ b = j then v else σ.2 a b)
def dc_cp (σ : dc_HP) (src dst n : Nat) : dc_HP := (fun a b => if a = dst ∧ b < n then σ.1 src b else σ.1 a b, σ.2)
abbrev dc_L : Type := (Nat × List Nat) ⊕ (Nat × Nat)
def dc_ty : Nat → FieldType := fun t => match t with
  | 0 => .int
  | 1 => .long
  | _ => .boolean
def dc_cv (ad : Nat → Nat) (v : Value) : Value := match v with
  | .ref a => .ref (ad a)
  | w => w
def dc_val (σ : dc_HP) (k j kd : Nat) : Value := match kd with
  | 0 => .int (σ.1 k j)
  | 1 => .long (σ.2 k j)
  | 2 => .int (σ.1 k j)
  | r + 3 => .ref r
def dc_arr (σ : dc_HP) (k t : Nat) : (Nat → Int32) ⊕ (Nat → Int64) ⊕ (Nat → UInt32) ⊕ (Nat → UInt64) ⊕ (Nat → Option Nat) := match t with
  | 1 => .inr (.inl (σ.2 k))
  | _ => .inl (σ.1 k)
def dc_ent (cA : Nat → ClassId) (ad : Nat → Nat) (σ : dc_HP) (k : Nat) (L : dc_L) : va_E := match L with
  | .inl (ci, ks) => .inr (ci, ks.mapIdx (fun j kd => dc_cv ad (dc_val σ k j kd)))
  | .inr (t, n) => .inl (cA t, n, dc_arr σ k t)
def dc_ws (cA : Nat → ClassId) (ad : Nat → Nat) (σ : dc_HP) : va_W := dc_lay.mapIdx (fun k L => (ad k, dc_ent cA ad σ k L))
def dc_tys (cA : Nat → ClassId) : List (ClassId × FieldType) := [(cA 0, .int), (cA 1, .long), (cA 2, .boolean)]
/-- the cells' addresses: apart, and of a kind -/
def dc_ap (ad : Nat → Nat) (A : Nat → Prop) : Prop := (∀ i j : Nat, i < dc_lay.length → j < dc_lay.length → ad i = ad j → i = j) ∧ ∀ k : Nat, k < dc_lay.length → A (ad k)
theorem dc_ws_get {cA : Nat → ClassId} {ad : Nat → Nat} {σ : dc_HP} {k : Nat} {L : dc_L} (h : dc_lay[k]? = some L) : (dc_ws cA ad σ)[k]? = some (ad k, dc_ent cA ad σ k L) := by
  simp [dc_ws, List.getElem?_mapIdx, h]
theorem dc_ws_inv {cA : Nat → ClassId} {ad : Nat → Nat} {σ : dc_HP} {k : Nat} {q : Nat × va_E} (h : (dc_ws cA ad σ)[k]? = some q) : ∃ L, dc_lay[k]? = some L ∧ q = (ad k, dc_ent cA ad σ k L) := by
  simp only [dc_ws, List.getElem?_mapIdx, Option.map_eq_some_iff] at h
  obtain ⟨L, h1, h2⟩ := h
  exact ⟨L, h1, h2.symm⟩
theorem dc_D {cA : Nat → ClassId} {ad : Nat → Nat} {A : Nat → Prop} (h : dc_ap ad A) (σ : dc_HP) : va_D A (dc_ws cA ad σ) := by
  refine ⟨fun i j p q hp hq e => ?_, fun k q hq => ?_⟩
  · obtain ⟨L, h1, rfl⟩ := dc_ws_inv hp
    obtain ⟨L', h2, rfl⟩ := dc_ws_inv hq
    exact h.1 i j (List.getElem?_eq_some_iff.mp h1).1 (List.getElem?_eq_some_iff.mp h2).1 e
  · obtain ⟨L, h1, rfl⟩ := dc_ws_inv hq
    exact h.2 k (List.getElem?_eq_some_iff.mp h1).1
theorem dc_ent_eq {cA : Nat → ClassId} {ad : Nat → Nat} {σ τ : dc_HP} {k : Nat} (h : ∀ b, σ.1 k b = τ.1 k b ∧ σ.2 k b = τ.2 k b) (L : dc_L) : dc_ent cA ad σ k L = dc_ent cA ad τ k L := by
  have h1 : σ.1 k = τ.1 k := funext fun b => (h b).1
  have h2 : σ.2 k = τ.2 k := funext fun b => (h b).2
  have hv : ∀ j kd, dc_val σ k j kd = dc_val τ k j kd := by
    intro j kd
    match kd with
    | 0 => simp [dc_val, h1]
    | 1 => simp [dc_val, h2]
    | 2 => simp [dc_val, h1]
    | r + 3 => rfl
  have ha : ∀ t, dc_arr σ k t = dc_arr τ k t := by
    intro t
    match t with
    | 0 => simp [dc_arr, h1]
    | 1 => simp [dc_arr, h2]
    | r + 2 => simp [dc_arr, h1]
  cases L with
  | inl o => obtain ⟨ci, ks⟩ := o; simp [dc_ent, hv]
  | inr o => obtain ⟨t, n⟩ := o; simp [dc_ent, ha]
theorem dc_ws_upd {cA : Nat → ClassId} {ad : Nat → Nat} {σ τ : dc_HP} {k : Nat} {L : dc_L} {E : va_E} (hk : dc_lay[k]? = some L) (h : ∀ i, i ≠ k → ∀ b, σ.1 i b = τ.1 i b ∧ σ.2 i b = τ.2 i b) (hE : dc_ent cA ad τ k L = E) : (dc_ws cA ad σ).set k (ad k, E) = dc_ws cA ad τ := by
  have hlt : k < dc_lay.length := (List.getElem?_eq_some_iff.mp hk).1
  refine List.ext_getElem? fun i => ?_
  rw [List.getElem?_set]
  by_cases e : k = i
  · subst e
    have hl : k < (dc_ws cA ad σ).length := by simp [dc_ws]; exact hlt
    rw [if_pos rfl, if_pos hl, dc_ws_get hk, hE]
  · rw [if_neg e]
    simp only [dc_ws, List.getElem?_mapIdx]
    cases hx : dc_lay[i]? with
    | none => rfl
    | some L' =>
      simp only [Option.map_some]
      rw [dc_ent_eq (h i (fun q => e q.symm)) L']

theorem dc_val_wI {σ : dc_HP} {k j i kd : Nat} {v : Int32} (h : i ≠ j) : dc_val (dc_wI σ k j v) k i kd = dc_val σ k i kd := by
  match kd with
  | 0 => simp [dc_val, dc_wI, h]
  | 1 => rfl
  | 2 => simp [dc_val, dc_wI, h]
  | r + 3 => rfl
theorem dc_val_wL {σ : dc_HP} {k j i kd : Nat} {v : Int64} (h : i ≠ j) : dc_val (dc_wL σ k j v) k i kd = dc_val σ k i kd := by
  match kd with
  | 0 => rfl
  | 1 => simp [dc_val, dc_wL, h]
  | 2 => rfl
  | r + 3 => rfl
theorem dc_map_set {f g : Nat → Nat → Value} {ks : List Nat} {j kd : Nat} {w : Value} (hj : ks[j]? = some kd) (hw : f j kd = w) (hn : ∀ i x, i ≠ j → f i x = g i x) : ks.mapIdx f = (ks.mapIdx g).set j w := by
  refine List.ext_getElem? fun i => ?_
  rw [List.getElem?_set, List.getElem?_mapIdx, List.getElem?_mapIdx]
  by_cases e : j = i
  · subst e
    have hl : j < (ks.mapIdx g).length := by simp; exact (List.getElem?_eq_some_iff.mp hj).1
    rw [if_pos rfl, if_pos hl, hj]
    simp [hw]
  · rw [if_neg e]
    cases hx : ks[i]? with
    | none => rfl
    | some x => simp [hn i x (fun q => e q.symm)]
theorem dc_set_I {cA : Nat → ClassId} {ad : Nat → Nat} {σ : dc_HP} {k j ci kd : Nat} {ks : List Nat} (hk : dc_lay[k]? = some (.inl (ci, ks))) (hj : ks[j]? = some kd) (h0 : kd = 0 ∨ kd = 2) (v : Int32) : (dc_ws cA ad σ).set k (ad k, .inr (ci, (ks.mapIdx (fun j kd => dc_cv ad (dc_val σ k j kd))).set j (.int v))) = dc_ws cA ad (dc_wI σ k j v) := by
  refine dc_ws_upd hk (fun i hi b => ⟨by simp [dc_wI, hi], rfl⟩) ?_
  have h := dc_map_set (f := fun j kd => dc_cv ad (dc_val (dc_wI σ k j v) k j kd)) (g := fun j kd => dc_cv ad (dc_val σ k j kd)) (w := .int v) hj (by rcases h0 with rfl | rfl <;> simp [dc_val, dc_wI, dc_cv])
  refine congrArg (fun x => (Sum.inr (ci, x) : va_E)) (dc_map_set hj ?_ (fun i x hi => by rw [dc_val_wI hi]))
  rcases h0 with rfl | rfl <;> simp [dc_val, dc_wI, dc_cv]
theorem dc_set_L {cA : Nat → ClassId} {ad : Nat → Nat} {σ : dc_HP} {k j ci : Nat} {ks : List Nat} (hk : dc_lay[k]? = some (.inl (ci, ks))) (hj : ks[j]? = some 1) (v : Int64) : (dc_ws cA ad σ).set k (ad k, .inr (ci, (ks.mapIdx (fun j kd => dc_cv ad (dc_val σ k j kd))).set j (.long v))) = dc_ws cA ad (dc_wL σ k j v) := by
  refine dc_ws_upd hk (fun i hi b => ⟨rfl, by simp [dc_wL, hi]⟩) ?_
  refine congrArg (fun x => (Sum.inr (ci, x) : va_E)) (dc_map_set hj ?_ (fun i x hi => by rw [dc_val_wL hi]))
  simp [dc_val, dc_wL, dc_cv]
theorem dc_put_I {cA : Nat → ClassId} {ad : Nat → Nat} {σ : dc_HP} {k j n : Nat} {t : Nat} (hk : dc_lay[k]? = some (.inr (t, n))) (ht : t ≠ 1) (v : Int32) : (dc_ws cA ad σ).set k (ad k, .inl (cA t, n, .inl (upd (σ.1 k) j v))) = dc_ws cA ad (dc_wI σ k j v) := by
  refine dc_ws_upd hk (fun i hi b => ⟨by simp [dc_wI, hi], rfl⟩) ?_
  have e : (dc_wI σ k j v).1 k = upd (σ.1 k) j v := by
    funext b
    simp [dc_wI, upd]
  show (Sum.inl (cA t, n, dc_arr (dc_wI σ k j v) k t) : va_E) = _
  have : dc_arr (dc_wI σ k j v) k t = .inl ((dc_wI σ k j v).1 k) := by
    match t, ht with
    | 0, _ => rfl
    | 1, h => exact absurd rfl h
    | r + 2, _ => rfl
  rw [this, e]
theorem dc_put_L {cA : Nat → ClassId} {ad : Nat → Nat} {σ : dc_HP} {k j n : Nat} (hk : dc_lay[k]? = some (.inr (1, n))) (v : Int64) : (dc_ws cA ad σ).set k (ad k, .inl (cA 1, n, .inr (.inl (vp_updL (σ.2 k) j v)))) = dc_ws cA ad (dc_wL σ k j v) := by
  refine dc_ws_upd hk (fun i hi b => ⟨rfl, by simp [dc_wL, hi]⟩) ?_
  have e : (dc_wL σ k j v).2 k = vp_updL (σ.2 k) j v := by
    funext b
    simp [dc_wL, vp_updL]
  show (Sum.inl (cA 1, n, Sum.inr (Sum.inl ((dc_wL σ k j v).2 k))) : va_E) = _
  rw [e]
theorem dc_put_C {cA : Nat → ClassId} {ad : Nat → Nat} {σ : dc_HP} {k0 k m n : Nat} (hk : dc_lay[k]? = some (.inr (0, n))) : (dc_ws cA ad σ).set k (ad k, .inl (cA 0, n, .inl (va_cpy (σ.1 k0) (σ.1 k) 0 0 m))) = dc_ws cA ad (dc_cp σ k0 k m) := by
  refine dc_ws_upd hk (fun i hi b => ⟨by simp [dc_cp, hi], rfl⟩) ?_
  have e : (dc_cp σ k0 k m).1 k = va_cpy (σ.1 k0) (σ.1 k) 0 0 m := by
    funext b
    simp [dc_cp, va_cpy]
  show (Sum.inl (cA 0, n, Sum.inl ((dc_cp σ k0 k m).1 k)) : va_E) = _
  rw [e]
/-! locals -/
def dc_LH (ad : Nat → Nat) (la : Array Slot) (nL : Nat) (ls : List (Option Value)) : Prop := la.size = nL ∧ lv_wf la ∧ ∀ (i : Nat) (v : Value), ls[i]? = some (some v) → la[i]? = some (Slot.val (dc_cv ad v))
def dc_loc (ad : Nat → Nat) (ls : List (Option Value)) : List (Nat × Value) := (List.range ls.length).filterMap (fun i => match ls[i]? with
  | some (some v) => some (i, dc_cv ad v)
  | _ => none)
theorem dc_loc_mem {ad : Nat → Nat} {ls : List (Option Value)} {q : Nat × Value} : q ∈ dc_loc ad ls ↔ ∃ v, ls[q.1]? = some (some v) ∧ q.2 = dc_cv ad v := by
  simp only [dc_loc, List.mem_filterMap, List.mem_range]
  constructor
  · rintro ⟨i, hi, h⟩
    split at h
    next v hv => cases h; exact ⟨v, hv, rfl⟩
    next => cases h
  · rintro ⟨v, h1, h2⟩
    refine ⟨q.1, (List.getElem?_eq_some_iff.mp h1).1, ?_⟩
    rw [h1]
    exact congrArg some (Prod.ext rfl h2.symm)
theorem dc_LH.has {ad : Nat → Nat} {la : Array Slot} {nL : Nat} {ls : List (Option Value)} (h : dc_LH ad la nL ls) : lv_has la nL (dc_loc ad ls) := by
  refine ⟨h.1, h.2.1, fun q hq => ?_⟩
  obtain ⟨v, h1, h2⟩ := dc_loc_mem.mp hq
  rw [h2]
  exact h.2.2 _ _ h1
theorem dc_cv_cat (ad : Nat → Nat) (v : Value) : (dc_cv ad v).category = v.category := by cases v <;> rfl
/-- a value of one word into a local: a long just below it is lost -/
def dc_st1 : List (Option Value) → Nat → Value → List (Option Value)
  | [], _, _ => []
  | _ :: r, 0, v => some v :: r
  | a :: r, 1, v => (match a with
    | some (.long _) => none
    | some (.double _) => none
    | x => x) :: dc_st1 r 0 v
  | a :: r, i + 2, v => a :: dc_st1 r (i + 1) v
/-- a long into two locals -/
def dc_st2 (ls : List (Option Value)) (i : Nat) (v : Value) : List (Option Value) := (dc_st1 ls i v).set (i + 1) none
theorem dc_st1_get : ∀ (ls : List (Option Value)) (i : Nat) (v : Value) (j : Nat) (w : Value), (dc_st1 ls i v)[j]? = some (some w) → (j = i ∧ w = v) ∨ (j ≠ i ∧ ls[j]? = some (some w) ∧ ¬ (j + 1 = i ∧ w.category = 2)) := by
  intro ls
  induction ls with
  | nil => intro i v j w h; simp [dc_st1] at h
  | cons a r ih =>
    intro i v j w h
    match i, j with
    | 0, 0 => simp [dc_st1] at h; exact Or.inl ⟨rfl, h.symm⟩
    | 0, j + 1 => exact Or.inr ⟨by omega, by simpa [dc_st1] using h, by omega⟩
    | 1, 0 =>
      right
      refine ⟨by omega, ?_, ?_⟩
      · revert h
        simp only [dc_st1]
        split <;> simp
      · rintro ⟨-, hc⟩
        revert h
        simp only [dc_st1]
        split
        · simp
        · simp
        · next x h1 h2 =>
          intro h
          simp at h
          subst h
          cases w with
          | long y => exact h1 y rfl
          | double y => exact h2 y rfl
          | _ => simp [Value.category] at hc
    | 1, j + 1 =>
      have h' : (dc_st1 r 0 v)[j]? = some (some w) := by simpa [dc_st1] using h
      rcases ih 0 v j w h' with ⟨h1, h2⟩ | ⟨h1, h2, h3⟩
      · exact Or.inl ⟨by omega, h2⟩
      · exact Or.inr ⟨by omega, by simpa using h2, by omega⟩
    | i + 2, 0 => exact Or.inr ⟨by omega, by simpa [dc_st1] using h, by omega⟩
    | i + 2, j + 1 =>
      have h' : (dc_st1 r (i + 1) v)[j]? = some (some w) := by simpa [dc_st1] using h
      rcases ih (i + 1) v j w h' with ⟨h1, h2⟩ | ⟨h1, h2, h3⟩
      · exact Or.inl ⟨by omega, h2⟩
      · exact Or.inr ⟨by omega, by simpa using h2, fun q => h3 ⟨by omega, q.2⟩⟩
theorem dc_st2_get : ∀ (ls : List (Option Value)) (i : Nat) (v : Value) (j : Nat) (w : Value), (dc_st2 ls i v)[j]? = some (some w) → (j = i ∧ w = v) ∨ (j ≠ i ∧ j ≠ i + 1 ∧ ls[j]? = some (some w) ∧ ¬ (j + 1 = i ∧ w.category = 2)) := by
  intro ls i v j w h
  unfold dc_st2 at h
  rw [List.getElem?_set] at h
  by_cases e : i + 1 = j
  · rw [if_pos e] at h
    split at h <;> cases h
  · rw [if_neg e] at h
    rcases dc_st1_get ls i v j w h with h1 | ⟨h1, h2, h3⟩
    · exact Or.inl h1
    · exact Or.inr ⟨h1, fun q => e q.symm, h2, h3⟩
theorem dc_LH.st1 {ad : Nat → Nat} {la : Array Slot} {nL i : Nat} {ls : List (Option Value)} {v : Value} (h : lv_has la nL ((i, dc_cv ad v) :: (dc_loc ad ls).filter (fun q => !(q.1 == i) && !(q.1 + 1 == i && q.2.category == 2)))) : dc_LH ad la nL (dc_st1 ls i v) := by
  refine ⟨h.1, h.2.1, fun j w hw => ?_⟩
  rcases dc_st1_get ls i v j w hw with ⟨rfl, rfl⟩ | ⟨h1, h2, h3⟩
  · exact h.2.2 (j, dc_cv ad w) List.mem_cons_self
  · refine h.2.2 (j, dc_cv ad w) (List.mem_cons_of_mem _ (List.mem_filter.mpr ⟨dc_loc_mem.mpr ⟨w, h2, rfl⟩, ?_⟩))
    simp only [dc_cv_cat]
    by_cases e : j + 1 = i
    · have h4 : ¬ w.category = 2 := fun q => h3 ⟨e, q⟩
      simp [h1, h4]
    · simp [h1, e]
theorem dc_LH.st2 {ad : Nat → Nat} {la : Array Slot} {nL i : Nat} {ls : List (Option Value)} {v : Value} (h : lv_has la nL ((i, dc_cv ad v) :: (dc_loc ad ls).filter (fun q => !(q.1 == i) && (!(q.1 == i + 1) && !(q.1 + 1 == i && q.2.category == 2))))) : dc_LH ad la nL (dc_st2 ls i v) := by
  refine ⟨h.1, h.2.1, fun j w hw => ?_⟩
  rcases dc_st2_get ls i v j w hw with ⟨rfl, rfl⟩ | ⟨h1, h0, h2, h3⟩
  · exact h.2.2 (j, dc_cv ad w) List.mem_cons_self
  · refine h.2.2 (j, dc_cv ad w) (List.mem_cons_of_mem _ (List.mem_filter.mpr ⟨dc_loc_mem.mpr ⟨w, h2, rfl⟩, ?_⟩))
    simp only [dc_cv_cat]
    by_cases e : j + 1 = i
    · have h4 : ¬ w.category = 2 := fun q => h3 ⟨e, q⟩
      simp [h1, h0, h4]
    · simp [h1, h0, e]
def dc_ini : List Value → List (Option Value)
  | [] => []
  | v :: vs => if v.category = 2 then some v :: none :: dc_ini vs else some v :: dc_ini vs
theorem dc_ini_get (ad : Nat → Nat) : ∀ (vs : List Value) (i0 i : Nat) (v : Value), (dc_ini vs)[i]? = some (some v) → (i0 + i, dc_cv ad v) ∈ lv_args i0 (vs.map (dc_cv ad)) := by
  intro vs
  induction vs with
  | nil => intro i0 i v h; simp [dc_ini] at h
  | cons a r ih =>
    intro i0 i v h
    simp only [List.map_cons, lv_args, dc_cv_cat]
    by_cases hc : a.category = 2
    · simp only [dc_ini, hc, if_true] at h ⊢
      match i with
      | 0 => simp at h; subst h; exact List.mem_cons_self
      | 1 => simp at h
      | i + 2 =>
        have := ih (i0 + 2) i v (by simpa using h)
        rw [show i0 + 2 + i = i0 + (i + 2) by omega] at this
        exact List.mem_cons_of_mem _ this
    · simp only [dc_ini, hc, if_false] at h ⊢
      match i with
      | 0 => simp at h; subst h; exact List.mem_cons_self
      | i + 1 =>
        have := ih (i0 + 1) i v (by simpa using h)
        rw [show i0 + 1 + i = i0 + (i + 1) by omega] at this
        exact List.mem_cons_of_mem _ this
/-- the locals with which a method begins -/
def dc_pad (nL : Nat) (vs : List Value) : List (Option Value) := dc_ini vs ++ List.replicate (nL - (dc_ini vs).length) none
theorem dc_pad_get {nL : Nat} {vs : List Value} {i : Nat} {v : Value} (h : (dc_pad nL vs)[i]? = some (some v)) : (dc_ini vs)[i]? = some (some v) := by
  unfold dc_pad at h
  rw [List.getElem?_append] at h
  split at h
  · exact h
  · have := List.eq_of_mem_replicate (List.mem_of_getElem? h)
    cases this
end
section
/-! the judgement: a state of the machine over the world, and what a method has at hand -/
abbrev dc_KX : Type := Program × Launch × Env × Room × State × MethodId × Array Value × List Frame × Method × Code × Nat × Nat × (State → Prop) × va_G × (Nat → ClassId) × (Nat → Nat) × (Nat → Prop) × Heap
def dc_X (κ : dc_KX) (pc : Nat) (ls : List (Option Value)) (st : List Value) (σ : dc_HP) : Prop := match κ with
  | (p, l, e, R, s, m, args, below, meth, c, cells, slots, Z, D, cA, ad, A, H0) => ∀ (H : Heap) (locs : List Loc) (la : Array Slot), va_P D dc_cl (dc_ws cA ad σ) H → va_S A H0 H locs → dc_LH ad la c.maxLocals ls → W p l e R s m args below meth c H locs cells slots Z (F0 m pc la (st.map (dc_cv ad)))
def dc_NW (U : State) : Prop := ∀ q ∈ dc_nest, va_Nw (.methodLinkNest q.1 q.2.1 q.2.2.1 q.2.2.2) U
def dc_Cx (κ : dc_KX) (own : String) (b : ByteArray) (nL fr lo : Nat) : Prop := match κ with
  | (p, l, e, R, s, m, args, below, meth, c, cells, slots, Z, D, cA, ad, A, H0) => p.tables.exec = Jvm.exec ∧ c.code = b ∧ c.maxLocals = nL ∧ s.vm.findClass own = some m.cls ∧ (∀ w ∈ dc_tb, w.before args s = true) ∧ dc_NW s ∧ va_K D dc_cl (dc_tys cA) s ∧ dc_ap ad A ∧ (fr ≤ R.frames ∧ lo ≤ R.locals ∧ cells ≤ R.cells ∧ slots ≤ R.slots)
abbrev dc_M : Type := String × ByteArray × MethodName × Nat × Option FieldType × Nat × Nat
def dc_rm (M : dc_M) : Room := { frames := M.2.2.2.2.2.1, cells := 0, slots := 0, locals := M.2.2.2.2.2.2 }
def dc_wsM (M : dc_M) : List Cond := .code M.2.2.1 M.2.1 M.2.2.2.1 M.2.2.2.2.1 :: dc_tb
def dc_Pc (D : va_G) (cA : Nat → ClassId) (ad : Nat → Nat) (σ : dc_HP) (av : List Value) : Array Value → State → Prop := va_Pc (av.map (dc_cv ad)) (fun U => va_P D dc_cl (dc_ws cA ad σ) U.heap ∧ va_K D dc_cl (dc_tys cA) U ∧ dc_NW U)
def dc_Qc (D : va_G) (cA : Nat → ClassId) (ad : Nat → Nat) (A : Nat → Prop) (Q : Option Value → dc_HP → Prop) : Array Value → State → Outcome → State → Prop := fun _ st o t => (∃ (r : Option Value) (σ' : dc_HP), o = .returned (r.map (dc_cv ad)) ∧ Q r σ' ∧ va_P D dc_cl (dc_ws cA ad σ') t.heap) ∧ va_F A st t
def dc_Ok (κ : dc_KX) (M : dc_M) (Q : Option Value → dc_HP → Prop) : Prop := dc_Cx κ M.1 M.2.1 M.2.2.2.1 M.2.2.2.2.2.1 M.2.2.2.2.2.2 ∧ match κ with
  | (p, l, e, R, s, m, args, below, meth, c, cells, slots, Z, D, cA, ad, A, H0) => meth.sig.returnType = M.2.2.2.2.1 ∧ meth.locks = false ∧ cells = 0 ∧ slots = 0 ∧ Z = MQ below (dc_Qc D cA ad A Q) args s 0 0 A ∧ H0 = s.heap
/-- a method begun over the world σ with the arguments av comes to its end, and Q holds there -/
def dc_G (M : dc_M) (av : List Value) (σ : dc_HP) (Q : Option Value → dc_HP → Prop) : Prop := ∀ κ, dc_Ok κ M Q → dc_X κ 0 (dc_pad M.2.2.2.1 av) [] σ
def dc_qi (q : Int32 → dc_HP → Prop) : Option Value → dc_HP → Prop := fun r σ' => ∃ x, r = some (.int x) ∧ q x σ'
def dc_ql (q : Int64 → dc_HP → Prop) : Option Value → dc_HP → Prop := fun r σ' => ∃ x, r = some (.long x) ∧ q x σ'
def dc_qv (q : dc_HP → Prop) : Option Value → dc_HP → Prop := fun r σ' => r = none ∧ q σ'
theorem dc_G.mono {M : dc_M} {av : List Value} {σ : dc_HP} {Q Q' : Option Value → dc_HP → Prop} (h : dc_G M av σ Q) (hq : ∀ r τ, Q r τ → Q' r τ) : dc_G M av σ Q' := by
  rintro ⟨p, l, e, R, s, m, args, below, meth, c, cells, slots, Z, D, cA, ad, A, H0⟩ ⟨⟨c1, c2, c3, c4, c5, c6, c7, c8, c9⟩, h1, h2, h3, h4, h5, h6⟩ H locs la hP hS hL
  subst h5
  have h9 := h (p, l, e, R, s, m, args, below, meth, c, cells, slots, MQ below (dc_Qc D cA ad A Q) args s 0 0 A, D, cA, ad, A, H0) ⟨⟨c1, c2, c3, c4, c5, c6, c7, c8, c9⟩, h1, h2, h3, h4, rfl, h6⟩ H locs la hP hS hL
  intro T hT X
  obtain ⟨t, a, o, b1, b2, ⟨⟨r, σ', c1, c2, c3⟩, c4⟩, b4⟩ := h9 T hT X
  exact ⟨t, a, o, b1, b2, ⟨⟨r, σ', c1, hq r σ' c2, c3⟩, c4⟩, b4⟩
theorem dc_tb_good : ∀ w ∈ dc_tb, (w.onTables && w.keeps) = true ∨ ∃ ty, w = .arrayClass ty := fun w h => good_of_word (List.mem_filter.mp h).2
theorem dc_goodIn (M : dc_M) (hc : Cond.code M.2.2.1 M.2.1 M.2.2.2.1 M.2.2.2.2.1 ∈ dc_tb) : GoodIn dc_tb (dc_wsM M) := by
  intro w hw
  rcases List.mem_cons.mp hw with rfl | h
  · exact ⟨hc, dc_tb_good _ hc⟩
  · exact ⟨h, dc_tb_good _ h⟩
theorem dc_met {M : dc_M} {av : List Value} {σ : dc_HP} {Q : Option Value → dc_HP → Prop} (h : dc_G M av σ Q) (hy : plainName M.2.2.1.cls = true) (hown : M.2.2.1.cls = M.1) (hlen : (lg_sl (av.map (dc_cv (fun q => q)))).length ≤ M.2.2.2.1) (l : Launch) {D : va_G} {cA : Nat → ClassId} {ad : Nat → Nat} {A : Nat → Prop} (hap : dc_ap ad A) :
    Met l M.2.2.1 (dc_wsM M) (dc_rm M) (dc_Pc D cA ad σ av) (dc_Qc D cA ad A Q) 0 0 A := by
  refine Met.ofW (cc := M.2.1) (maxL := M.2.2.2.1) (ret := M.2.2.2.2.1) hy rfl ?_
  intro p e s m args below meth c s₁ B hml hv
  obtain ⟨rfl, hP, hK, hN⟩ := hv
  have hts := atoms_spec (ws := dc_wsM M) B.pre
  have hfc : s.vm.findClass M.1 = some m.cls := by rw [← hown]; exact findClass_of_methodNamed B.named
  have key := h (p, l, e, dc_rm M, s, m, (av.map (dc_cv ad)).toArray, below, meth, c, 0, 0, MQ below (dc_Qc D cA ad A Q) (av.map (dc_cv ad)).toArray s 0 0 A, D, cA, ad, A, s.heap)
    ⟨⟨B.exec, B.bytes, hml, hfc, fun w hw => hts w (List.mem_cons_of_mem _ hw), hN, hK, hap, Nat.le_refl _, Nat.le_refl _, Nat.le_refl _, Nat.le_refl _⟩, B.returns, B.notSynchronized, rfl, rfl, rfl, rfl⟩
  have hsl : ∀ (f g : Nat → Nat) (vs : List Value), (lg_sl (vs.map (dc_cv f))).length = (lg_sl (vs.map (dc_cv g))).length := by
    intro f g vs
    induction vs with
    | nil => rfl
    | cons a r ih =>
      simp only [lg_sl, List.map_cons, List.flatMap_cons, List.length_append, dc_cv_cat] at ih ⊢
      rw [ih]
      split <;> rfl
  have hle : (lg_sl (av.map (dc_cv ad))).length ≤ M.2.2.2.1 := by rw [hsl ad (fun q => q)]; exact hlen
  have hl := lv_entry (av.map (dc_cv ad)) (n := M.2.2.2.1) hle
  rw [lg_entry_eq]
  generalize (lg_sl (av.map (dc_cv ad)) ++ List.replicate (M.2.2.2.1 - (lg_sl (av.map (dc_cv ad))).length) Slot.unset).toArray = la at hl ⊢
  refine key s.heap [] la hP va_S.rf ⟨?_, hl.2.1, fun i v hv => ?_⟩
  · rw [hml]; exact hl.1
  · have h1 := dc_ini_get ad av 0 i v (dc_pad_get hv)
    rw [Nat.zero_add] at h1
    exact hl.2.2 _ h1
section DX
variable {κ : dc_KX} {own : String} {b : ByteArray} {nL fr lo pc : Nat} {ls : List (Option Value)} {st : List Value} {σ : dc_HP}
theorem dx_iconst (hC : dc_Cx κ own b nL fr lo) {n : Int} {v : Int32} (hd : decode b pc = .ok (.iconst n, 1)) (hv : Int32.ofInt n = v) (k : dc_X κ (pc + 1) ls (.int v :: st) σ) : dc_X κ pc ls st σ := by
  obtain ⟨p, l, e, R, s, m, args, below, meth, c, cells, slots, Z, D, cA, ad, A, H0⟩ := κ
  obtain ⟨hx, hb, hml, hown, hts, hnw, hK, hap, hR⟩ := hC
  intro H locs la hP hS hL
  exact lv_iconst hx hb hd hv (k H locs la hP hS hL)
theorem dx_bipush (hC : dc_Cx κ own b nL fr lo) {n : Int} {v : Int32} (hd : decode b pc = .ok (.bipush n, 2)) (hv : (Int8.ofInt n).toInt32 = v) (k : dc_X κ (pc + 2) ls (.int v :: st) σ) : dc_X κ pc ls st σ := by
  obtain ⟨p, l, e, R, s, m, args, below, meth, c, cells, slots, Z, D, cA, ad, A, H0⟩ := κ
  obtain ⟨hx, hb, hml, hown, hts, hnw, hK, hap, hR⟩ := hC
  intro H locs la hP hS hL
  exact lv_bipush hx hb hd hv (k H locs la hP hS hL)
theorem dx_sipush (hC : dc_Cx κ own b nL fr lo) {n : Int} {v : Int32} (hd : decode b pc = .ok (.sipush n, 3)) (hv : (Int16.ofInt n).toInt32 = v) (k : dc_X κ (pc + 3) ls (.int v :: st) σ) : dc_X κ pc ls st σ := by
  obtain ⟨p, l, e, R, s, m, args, below, meth, c, cells, slots, Z, D, cA, ad, A, H0⟩ := κ
  obtain ⟨hx, hb, hml, hown, hts, hnw, hK, hap, hR⟩ := hC
  intro H locs la hP hS hL
  exact lv_sipush hx hb hd hv (k H locs la hP hS hL)
theorem dx_lconst (hC : dc_Cx κ own b nL fr lo) {n : Fin 2} {v : Int64} (hd : decode b pc = .ok (.lconst n, 1)) (hv : Int64.ofNat (n : Nat) = v) (k : dc_X κ (pc + 1) ls (.long v :: st) σ) : dc_X κ pc ls st σ := by
  obtain ⟨p, l, e, R, s, m, args, below, meth, c, cells, slots, Z, D, cA, ad, A, H0⟩ := κ
  obtain ⟨hx, hb, hml, hown, hts, hnw, hK, hap, hR⟩ := hC
  intro H locs la hP hS hL
  exact lv_lconst hx hb hd hv (k H locs la hP hS hL)
theorem dx_ldc (hC : dc_Cx κ own b nL fr lo) {index : Nat} {v : Int32} (hd : decode b pc = .ok (.ldc index, 2)) (hw : Cond.constant own index v ∈ dc_tb) (k : dc_X κ (pc + 2) ls (.int v :: st) σ) : dc_X κ pc ls st σ := by
  obtain ⟨p, l, e, R, s, m, args, below, meth, c, cells, slots, Z, D, cA, ad, A, H0⟩ := κ
  obtain ⟨hx, hb, hml, hown, hts, hnw, hK, hap, hR⟩ := hC
  intro H locs la hP hS hL
  exact lv_ldc hx hb hown (hts _ hw) hd (k H locs la hP hS hL)
theorem dx_ldcw (hC : dc_Cx κ own b nL fr lo) {index : Nat} {v : Int32} (hd : decode b pc = .ok (.ldc_w index, 3)) (hw : Cond.constant own index v ∈ dc_tb) (k : dc_X κ (pc + 3) ls (.int v :: st) σ) : dc_X κ pc ls st σ := by
  obtain ⟨p, l, e, R, s, m, args, below, meth, c, cells, slots, Z, D, cA, ad, A, H0⟩ := κ
  obtain ⟨hx, hb, hml, hown, hts, hnw, hK, hap, hR⟩ := hC
  intro H locs la hP hS hL
  exact lv_ldcw hx hb hown (hts _ hw) hd (k H locs la hP hS hL)
theorem dx_ldc2 (hC : dc_Cx κ own b nL fr lo) {index : Nat} {v : Int64} (hd : decode b pc = .ok (.ldc2_w index, 3)) (hw : Cond.constantLong own index v ∈ dc_tb) (k : dc_X κ (pc + 3) ls (.long v :: st) σ) : dc_X κ pc ls st σ := by
  obtain ⟨p, l, e, R, s, m, args, below, meth, c, cells, slots, Z, D, cA, ad, A, H0⟩ := κ
  obtain ⟨hx, hb, hml, hown, hts, hnw, hK, hap, hR⟩ := hC
  intro H locs la hP hS hL
  exact lv_ldc2 hx hb hown (hts _ hw) hd (k H locs la hP hS hL)
theorem dx_iload_n (hC : dc_Cx κ own b nL fr lo) {j : Fin 4} {x : Int32} (hd : decode b pc = .ok (.iload_n j, 1)) (hl : ls[(j : Nat)]? = some (some (.int x))) (k : dc_X κ (pc + 1) ls (.int x :: st) σ) : dc_X κ pc ls st σ := by
  obtain ⟨p, l, e, R, s, m, args, below, meth, c, cells, slots, Z, D, cA, ad, A, H0⟩ := κ
  obtain ⟨hx, hb, hml, hown, hts, hnw, hK, hap, hR⟩ := hC
  intro H locs la hP hS hL
  exact lv_iload_n hx hb hd rfl (hL.2.2 _ _ hl) (k H locs la hP hS hL)
theorem dx_iload (hC : dc_Cx κ own b nL fr lo) {j : Nat} {x : Int32} (hd : decode b pc = .ok (.iload j, 2)) (hl : ls[j]? = some (some (.int x))) (k : dc_X κ (pc + 2) ls (.int x :: st) σ) : dc_X κ pc ls st σ := by
  obtain ⟨p, l, e, R, s, m, args, below, meth, c, cells, slots, Z, D, cA, ad, A, H0⟩ := κ
  obtain ⟨hx, hb, hml, hown, hts, hnw, hK, hap, hR⟩ := hC
  intro H locs la hP hS hL
  exact lv_iload hx hb hd (hL.2.2 _ _ hl) (k H locs la hP hS hL)
theorem dx_lload_n (hC : dc_Cx κ own b nL fr lo) {j : Fin 4} {x : Int64} (hd : decode b pc = .ok (.lload_n j, 1)) (hl : ls[(j : Nat)]? = some (some (.long x))) (k : dc_X κ (pc + 1) ls (.long x :: st) σ) : dc_X κ pc ls st σ := by
  obtain ⟨p, l, e, R, s, m, args, below, meth, c, cells, slots, Z, D, cA, ad, A, H0⟩ := κ
  obtain ⟨hx, hb, hml, hown, hts, hnw, hK, hap, hR⟩ := hC
  intro H locs la hP hS hL
  exact lv_lload_n hx hb hd rfl (hL.2.2 _ _ hl) (k H locs la hP hS hL)
theorem dx_lload (hC : dc_Cx κ own b nL fr lo) {j : Nat} {x : Int64} (hd : decode b pc = .ok (.lload j, 2)) (hl : ls[j]? = some (some (.long x))) (k : dc_X κ (pc + 2) ls (.long x :: st) σ) : dc_X κ pc ls st σ := by
  obtain ⟨p, l, e, R, s, m, args, below, meth, c, cells, slots, Z, D, cA, ad, A, H0⟩ := κ
  obtain ⟨hx, hb, hml, hown, hts, hnw, hK, hap, hR⟩ := hC
  intro H locs la hP hS hL
  exact lv_lload hx hb hd (hL.2.2 _ _ hl) (k H locs la hP hS hL)
theorem dx_aload_n (hC : dc_Cx κ own b nL fr lo) {j : Fin 4} {x : Nat} (hd : decode b pc = .ok (.aload_n j, 1)) (hl : ls[(j : Nat)]? = some (some (.ref x))) (k : dc_X κ (pc + 1) ls (.ref x :: st) σ) : dc_X κ pc ls st σ := by
  obtain ⟨p, l, e, R, s, m, args, below, meth, c, cells, slots, Z, D, cA, ad, A, H0⟩ := κ
  obtain ⟨hx, hb, hml, hown, hts, hnw, hK, hap, hR⟩ := hC
  intro H locs la hP hS hL
  exact lv_aload_n hx hb hd rfl (hL.2.2 _ _ hl) (k H locs la hP hS hL)
theorem dx_aload (hC : dc_Cx κ own b nL fr lo) {j : Nat} {x : Nat} (hd : decode b pc = .ok (.aload j, 2)) (hl : ls[j]? = some (some (.ref x))) (k : dc_X κ (pc + 2) ls (.ref x :: st) σ) : dc_X κ pc ls st σ := by
  obtain ⟨p, l, e, R, s, m, args, below, meth, c, cells, slots, Z, D, cA, ad, A, H0⟩ := κ
  obtain ⟨hx, hb, hml, hown, hts, hnw, hK, hap, hR⟩ := hC
  intro H locs la hP hS hL
  exact lv_aload hx hb hd (hL.2.2 _ _ hl) (k H locs la hP hS hL)
theorem dx_istore_n (hC : dc_Cx κ own b nL fr lo) {j : Fin 4} {x : Int32} {ls' : List (Option Value)} (hd : decode b pc = .ok (.istore_n j, 1)) (hn : (j : Nat) < nL) (hl : dc_st1 ls (j : Nat) (.int x) = ls') (k : dc_X κ (pc + 1) ls' st σ) : dc_X κ pc ls (.int x :: st) σ := by
  obtain ⟨p, l, e, R, s, m, args, below, meth, c, cells, slots, Z, D, cA, ad, A, H0⟩ := κ
  obtain ⟨hx, hb, hml, hown, hts, hnw, hK, hap, hR⟩ := hC
  intro H locs la hP hS hL
  subst hl
  exact lv_istore_n hx hb hd rfl hL.has (by rw [hml]; exact hn) rfl (fun la' hL' => k H locs la' hP hS (dc_LH.st1 (v := .int x) hL'))
theorem dx_istore (hC : dc_Cx κ own b nL fr lo) {j : Nat} {x : Int32} {ls' : List (Option Value)} (hd : decode b pc = .ok (.istore j, 2)) (hn : j < nL) (hl : dc_st1 ls j (.int x) = ls') (k : dc_X κ (pc + 2) ls' st σ) : dc_X κ pc ls (.int x :: st) σ := by
  obtain ⟨p, l, e, R, s, m, args, below, meth, c, cells, slots, Z, D, cA, ad, A, H0⟩ := κ
  obtain ⟨hx, hb, hml, hown, hts, hnw, hK, hap, hR⟩ := hC
  intro H locs la hP hS hL
  subst hl
  exact lv_istore hx hb hd hL.has (by rw [hml]; exact hn) rfl (fun la' hL' => k H locs la' hP hS (dc_LH.st1 (v := .int x) hL'))
theorem dx_lstore_n (hC : dc_Cx κ own b nL fr lo) {j : Fin 4} {x : Int64} {ls' : List (Option Value)} (hd : decode b pc = .ok (.lstore_n j, 1)) (hn : (j : Nat) + 1 < nL) (hl : dc_st2 ls (j : Nat) (.long x) = ls') (k : dc_X κ (pc + 1) ls' st σ) : dc_X κ pc ls (.long x :: st) σ := by
  obtain ⟨p, l, e, R, s, m, args, below, meth, c, cells, slots, Z, D, cA, ad, A, H0⟩ := κ
  obtain ⟨hx, hb, hml, hown, hts, hnw, hK, hap, hR⟩ := hC
  intro H locs la hP hS hL
  subst hl
  exact lv_lstore_n hx hb hd rfl hL.has (by rw [hml]; exact hn) rfl (fun la' hL' => k H locs la' hP hS (dc_LH.st2 (v := .long x) hL'))
theorem dx_lstore (hC : dc_Cx κ own b nL fr lo) {j : Nat} {x : Int64} {ls' : List (Option Value)} (hd : decode b pc = .ok (.lstore j, 2)) (hn : j + 1 < nL) (hl : dc_st2 ls j (.long x) = ls') (k : dc_X κ (pc + 2) ls' st σ) : dc_X κ pc ls (.long x :: st) σ := by
  obtain ⟨p, l, e, R, s, m, args, below, meth, c, cells, slots, Z, D, cA, ad, A, H0⟩ := κ
  obtain ⟨hx, hb, hml, hown, hts, hnw, hK, hap, hR⟩ := hC
  intro H locs la hP hS hL
  subst hl
  exact lv_lstore hx hb hd hL.has (by rw [hml]; exact hn) rfl (fun la' hL' => k H locs la' hP hS (dc_LH.st2 (v := .long x) hL'))
theorem dx_astore_n (hC : dc_Cx κ own b nL fr lo) {j : Fin 4} {x : Nat} {ls' : List (Option Value)} (hd : decode b pc = .ok (.astore_n j, 1)) (hn : (j : Nat) < nL) (hl : dc_st1 ls (j : Nat) (.ref x) = ls') (k : dc_X κ (pc + 1) ls' st σ) : dc_X κ pc ls (.ref x :: st) σ := by
  obtain ⟨p, l, e, R, s, m, args, below, meth, c, cells, slots, Z, D, cA, ad, A, H0⟩ := κ
  obtain ⟨hx, hb, hml, hown, hts, hnw, hK, hap, hR⟩ := hC
  intro H locs la hP hS hL
  subst hl
  exact lv_astore_n hx hb hd rfl hL.has (by rw [hml]; exact hn) rfl (fun la' hL' => k H locs la' hP hS (dc_LH.st1 (v := .ref x) hL'))
theorem dx_astore (hC : dc_Cx κ own b nL fr lo) {j : Nat} {x : Nat} {ls' : List (Option Value)} (hd : decode b pc = .ok (.astore j, 2)) (hn : j < nL) (hl : dc_st1 ls j (.ref x) = ls') (k : dc_X κ (pc + 2) ls' st σ) : dc_X κ pc ls (.ref x :: st) σ := by
  obtain ⟨p, l, e, R, s, m, args, below, meth, c, cells, slots, Z, D, cA, ad, A, H0⟩ := κ
  obtain ⟨hx, hb, hml, hown, hts, hnw, hK, hap, hR⟩ := hC
  intro H locs la hP hS hL
  subst hl
  exact lv_astore hx hb hd hL.has (by rw [hml]; exact hn) rfl (fun la' hL' => k H locs la' hP hS (dc_LH.st1 (v := .ref x) hL'))
theorem dx_iinc (hC : dc_Cx κ own b nL fr lo) {j : Nat} {n : Int} {x v : Int32} {ls' : List (Option Value)} (hd : decode b pc = .ok (.iinc j n, 3)) (hg : ls[j]? = some (some (.int x))) (hv : x + Int32.ofInt n = v) (hn : j < nL) (hl : dc_st1 ls j (.int v) = ls') (k : dc_X κ (pc + 3) ls' st σ) : dc_X κ pc ls st σ := by
  obtain ⟨p, l, e, R, s, m, args, below, meth, c, cells, slots, Z, D, cA, ad, A, H0⟩ := κ
  obtain ⟨hx, hb, hml, hown, hts, hnw, hK, hap, hR⟩ := hC
  intro H locs la hP hS hL
  subst hl
  have hm : (j, Value.int x) ∈ dc_loc ad ls := dc_loc_mem.mpr ⟨.int x, hg, rfl⟩
  obtain ⟨i0, hi0⟩ := List.getElem?_of_mem hm
  exact lv_iinc hx hb hd hL.has hi0 hv (by rw [hml]; exact hn) rfl (fun la' hL' => k H locs la' hP hS (dc_LH.st1 (v := .int v) hL'))
theorem dx_iadd (hC : dc_Cx κ own b nL fr lo) {x y : Int32} (hd : decode b pc = .ok (.iadd, 1)) (k : dc_X κ (pc + 1) ls (.int (x + y) :: st) σ) : dc_X κ pc ls (.int y :: .int x :: st) σ := by
  obtain ⟨p, l, e, R, s, m, args, below, meth, c, cells, slots, Z, D, cA, ad, A, H0⟩ := κ
  obtain ⟨hx, hb, hml, hown, hts, hnw, hK, hap, hR⟩ := hC
  intro H locs la hP hS hL
  exact lv_iadd hx hb hd (k H locs la hP hS hL)
theorem dx_isub (hC : dc_Cx κ own b nL fr lo) {x y : Int32} (hd : decode b pc = .ok (.isub, 1)) (k : dc_X κ (pc + 1) ls (.int (x - y) :: st) σ) : dc_X κ pc ls (.int y :: .int x :: st) σ := by
  obtain ⟨p, l, e, R, s, m, args, below, meth, c, cells, slots, Z, D, cA, ad, A, H0⟩ := κ
  obtain ⟨hx, hb, hml, hown, hts, hnw, hK, hap, hR⟩ := hC
  intro H locs la hP hS hL
  exact lv_isub hx hb hd (k H locs la hP hS hL)
theorem dx_imul (hC : dc_Cx κ own b nL fr lo) {x y : Int32} (hd : decode b pc = .ok (.imul, 1)) (k : dc_X κ (pc + 1) ls (.int (x * y) :: st) σ) : dc_X κ pc ls (.int y :: .int x :: st) σ := by
  obtain ⟨p, l, e, R, s, m, args, below, meth, c, cells, slots, Z, D, cA, ad, A, H0⟩ := κ
  obtain ⟨hx, hb, hml, hown, hts, hnw, hK, hap, hR⟩ := hC
  intro H locs la hP hS hL
  exact lv_imul hx hb hd (k H locs la hP hS hL)
theorem dx_iand (hC : dc_Cx κ own b nL fr lo) {x y : Int32} (hd : decode b pc = .ok (.iand, 1)) (k : dc_X κ (pc + 1) ls (.int (x &&& y) :: st) σ) : dc_X κ pc ls (.int y :: .int x :: st) σ := by
  obtain ⟨p, l, e, R, s, m, args, below, meth, c, cells, slots, Z, D, cA, ad, A, H0⟩ := κ
  obtain ⟨hx, hb, hml, hown, hts, hnw, hK, hap, hR⟩ := hC
  intro H locs la hP hS hL
  exact lv_iand hx hb hd (k H locs la hP hS hL)
theorem dx_ior (hC : dc_Cx κ own b nL fr lo) {x y : Int32} (hd : decode b pc = .ok (.ior, 1)) (k : dc_X κ (pc + 1) ls (.int (x ||| y) :: st) σ) : dc_X κ pc ls (.int y :: .int x :: st) σ := by
  obtain ⟨p, l, e, R, s, m, args, below, meth, c, cells, slots, Z, D, cA, ad, A, H0⟩ := κ
  obtain ⟨hx, hb, hml, hown, hts, hnw, hK, hap, hR⟩ := hC
  intro H locs la hP hS hL
  exact lv_ior hx hb hd (k H locs la hP hS hL)
theorem dx_ixor (hC : dc_Cx κ own b nL fr lo) {x y : Int32} (hd : decode b pc = .ok (.ixor, 1)) (k : dc_X κ (pc + 1) ls (.int (x ^^^ y) :: st) σ) : dc_X κ pc ls (.int y :: .int x :: st) σ := by
  obtain ⟨p, l, e, R, s, m, args, below, meth, c, cells, slots, Z, D, cA, ad, A, H0⟩ := κ
  obtain ⟨hx, hb, hml, hown, hts, hnw, hK, hap, hR⟩ := hC
  intro H locs la hP hS hL
  exact lv_ixor hx hb hd (k H locs la hP hS hL)
theorem dx_ishl (hC : dc_Cx κ own b nL fr lo) {x y : Int32} (hd : decode b pc = .ok (.ishl, 1)) (k : dc_X κ (pc + 1) ls (.int (x <<< (y &&& 31)) :: st) σ) : dc_X κ pc ls (.int y :: .int x :: st) σ := by
  obtain ⟨p, l, e, R, s, m, args, below, meth, c, cells, slots, Z, D, cA, ad, A, H0⟩ := κ
  obtain ⟨hx, hb, hml, hown, hts, hnw, hK, hap, hR⟩ := hC
  intro H locs la hP hS hL
  exact lv_ishl hx hb hd (k H locs la hP hS hL)
theorem dx_ishr (hC : dc_Cx κ own b nL fr lo) {x y : Int32} (hd : decode b pc = .ok (.ishr, 1)) (k : dc_X κ (pc + 1) ls (.int (x >>> (y &&& 31)) :: st) σ) : dc_X κ pc ls (.int y :: .int x :: st) σ := by
  obtain ⟨p, l, e, R, s, m, args, below, meth, c, cells, slots, Z, D, cA, ad, A, H0⟩ := κ
  obtain ⟨hx, hb, hml, hown, hts, hnw, hK, hap, hR⟩ := hC
  intro H locs la hP hS hL
  exact lv_ishr hx hb hd (k H locs la hP hS hL)
theorem dx_iushr (hC : dc_Cx κ own b nL fr lo) {x y : Int32} (hd : decode b pc = .ok (.iushr, 1)) (k : dc_X κ (pc + 1) ls (.int ((x.toUInt32 >>> (y.toUInt32 &&& Int32.toUInt32 31)).toInt32) :: st) σ) : dc_X κ pc ls (.int y :: .int x :: st) σ := by
  obtain ⟨p, l, e, R, s, m, args, below, meth, c, cells, slots, Z, D, cA, ad, A, H0⟩ := κ
  obtain ⟨hx, hb, hml, hown, hts, hnw, hK, hap, hR⟩ := hC
  intro H locs la hP hS hL
  exact lv_iushr hx hb hd rfl (k H locs la hP hS hL)
theorem dx_idiv (hC : dc_Cx κ own b nL fr lo) {x y : Int32} (hd : decode b pc = .ok (.idiv, 1)) (hne : ¬ y = 0) (k : dc_X κ (pc + 1) ls (.int (x / y) :: st) σ) : dc_X κ pc ls (.int y :: .int x :: st) σ := by
  obtain ⟨p, l, e, R, s, m, args, below, meth, c, cells, slots, Z, D, cA, ad, A, H0⟩ := κ
  obtain ⟨hx, hb, hml, hown, hts, hnw, hK, hap, hR⟩ := hC
  intro H locs la hP hS hL
  exact lv_idiv hx hb hd hne (k H locs la hP hS hL)
theorem dx_irem (hC : dc_Cx κ own b nL fr lo) {x y : Int32} (hd : decode b pc = .ok (.irem, 1)) (hne : ¬ y = 0) (k : dc_X κ (pc + 1) ls (.int (x - x / y * y) :: st) σ) : dc_X κ pc ls (.int y :: .int x :: st) σ := by
  obtain ⟨p, l, e, R, s, m, args, below, meth, c, cells, slots, Z, D, cA, ad, A, H0⟩ := κ
  obtain ⟨hx, hb, hml, hown, hts, hnw, hK, hap, hR⟩ := hC
  intro H locs la hP hS hL
  exact lv_irem hx hb hd hne (k H locs la hP hS hL)
theorem dx_ineg (hC : dc_Cx κ own b nL fr lo) {x : Int32} (hd : decode b pc = .ok (.ineg, 1)) (k : dc_X κ (pc + 1) ls (.int (-x) :: st) σ) : dc_X κ pc ls (.int x :: st) σ := by
  obtain ⟨p, l, e, R, s, m, args, below, meth, c, cells, slots, Z, D, cA, ad, A, H0⟩ := κ
  obtain ⟨hx, hb, hml, hown, hts, hnw, hK, hap, hR⟩ := hC
  intro H locs la hP hS hL
  exact lv_ineg hx hb hd (k H locs la hP hS hL)
theorem dx_ladd (hC : dc_Cx κ own b nL fr lo) {x y : Int64} (hd : decode b pc = .ok (.ladd, 1)) (k : dc_X κ (pc + 1) ls (.long (x + y) :: st) σ) : dc_X κ pc ls (.long y :: .long x :: st) σ := by
  obtain ⟨p, l, e, R, s, m, args, below, meth, c, cells, slots, Z, D, cA, ad, A, H0⟩ := κ
  obtain ⟨hx, hb, hml, hown, hts, hnw, hK, hap, hR⟩ := hC
  intro H locs la hP hS hL
  exact lv_ladd hx hb hd (k H locs la hP hS hL)
theorem dx_lsub (hC : dc_Cx κ own b nL fr lo) {x y : Int64} (hd : decode b pc = .ok (.lsub, 1)) (k : dc_X κ (pc + 1) ls (.long (x - y) :: st) σ) : dc_X κ pc ls (.long y :: .long x :: st) σ := by
  obtain ⟨p, l, e, R, s, m, args, below, meth, c, cells, slots, Z, D, cA, ad, A, H0⟩ := κ
  obtain ⟨hx, hb, hml, hown, hts, hnw, hK, hap, hR⟩ := hC
  intro H locs la hP hS hL
  exact lv_lsub hx hb hd (k H locs la hP hS hL)
theorem dx_lmul (hC : dc_Cx κ own b nL fr lo) {x y : Int64} (hd : decode b pc = .ok (.lmul, 1)) (k : dc_X κ (pc + 1) ls (.long (x * y) :: st) σ) : dc_X κ pc ls (.long y :: .long x :: st) σ := by
  obtain ⟨p, l, e, R, s, m, args, below, meth, c, cells, slots, Z, D, cA, ad, A, H0⟩ := κ
  obtain ⟨hx, hb, hml, hown, hts, hnw, hK, hap, hR⟩ := hC
  intro H locs la hP hS hL
  exact lv_lmul hx hb hd (k H locs la hP hS hL)
theorem dx_ldiv (hC : dc_Cx κ own b nL fr lo) {x y : Int64} (hd : decode b pc = .ok (.ldiv, 1)) (hne : ¬ y = 0) (k : dc_X κ (pc + 1) ls (.long (x / y) :: st) σ) : dc_X κ pc ls (.long y :: .long x :: st) σ := by
  obtain ⟨p, l, e, R, s, m, args, below, meth, c, cells, slots, Z, D, cA, ad, A, H0⟩ := κ
  obtain ⟨hx, hb, hml, hown, hts, hnw, hK, hap, hR⟩ := hC
  intro H locs la hP hS hL
  exact lv_ldiv hx hb hd hne (k H locs la hP hS hL)
theorem dx_lrem (hC : dc_Cx κ own b nL fr lo) {x y : Int64} (hd : decode b pc = .ok (.lrem, 1)) (hne : ¬ y = 0) (k : dc_X κ (pc + 1) ls (.long (x - x / y * y) :: st) σ) : dc_X κ pc ls (.long y :: .long x :: st) σ := by
  obtain ⟨p, l, e, R, s, m, args, below, meth, c, cells, slots, Z, D, cA, ad, A, H0⟩ := κ
  obtain ⟨hx, hb, hml, hown, hts, hnw, hK, hap, hR⟩ := hC
  intro H locs la hP hS hL
  exact lv_lrem hx hb hd hne (k H locs la hP hS hL)
theorem dx_lneg (hC : dc_Cx κ own b nL fr lo) {x : Int64} (hd : decode b pc = .ok (.lneg, 1)) (k : dc_X κ (pc + 1) ls (.long (-x) :: st) σ) : dc_X κ pc ls (.long x :: st) σ := by
  obtain ⟨p, l, e, R, s, m, args, below, meth, c, cells, slots, Z, D, cA, ad, A, H0⟩ := κ
  obtain ⟨hx, hb, hml, hown, hts, hnw, hK, hap, hR⟩ := hC
  intro H locs la hP hS hL
  exact lv_lneg hx hb hd (k H locs la hP hS hL)
theorem dx_lcmp (hC : dc_Cx κ own b nL fr lo) {x y : Int64} (hd : decode b pc = .ok (.lcmp, 1)) (k : dc_X κ (pc + 1) ls (.int (lg_cmp x y) :: st) σ) : dc_X κ pc ls (.long y :: .long x :: st) σ := by
  obtain ⟨p, l, e, R, s, m, args, below, meth, c, cells, slots, Z, D, cA, ad, A, H0⟩ := κ
  obtain ⟨hx, hb, hml, hown, hts, hnw, hK, hap, hR⟩ := hC
  intro H locs la hP hS hL
  exact W.lcmp hx hb hd (k H locs la hP hS hL)
theorem dx_i2l (hC : dc_Cx κ own b nL fr lo) {x : Int32} (hd : decode b pc = .ok (.i2l, 1)) (k : dc_X κ (pc + 1) ls (.long x.toInt64 :: st) σ) : dc_X κ pc ls (.int x :: st) σ := by
  obtain ⟨p, l, e, R, s, m, args, below, meth, c, cells, slots, Z, D, cA, ad, A, H0⟩ := κ
  obtain ⟨hx, hb, hml, hown, hts, hnw, hK, hap, hR⟩ := hC
  intro H locs la hP hS hL
  exact lv_i2l hx hb hd rfl (k H locs la hP hS hL)
theorem dx_l2i (hC : dc_Cx κ own b nL fr lo) {x : Int64} (hd : decode b pc = .ok (.l2i, 1)) (k : dc_X κ (pc + 1) ls (.int x.toInt32 :: st) σ) : dc_X κ pc ls (.long x :: st) σ := by
  obtain ⟨p, l, e, R, s, m, args, below, meth, c, cells, slots, Z, D, cA, ad, A, H0⟩ := κ
  obtain ⟨hx, hb, hml, hown, hts, hnw, hK, hap, hR⟩ := hC
  intro H locs la hP hS hL
  exact lv_l2i hx hb hd rfl (k H locs la hP hS hL)
theorem dx_dup (hC : dc_Cx κ own b nL fr lo) {v : Value} (hd : decode b pc = .ok (.dup, 1)) (hv : v.category = 1) (k : dc_X κ (pc + 1) ls (v :: v :: st) σ) : dc_X κ pc ls (v :: st) σ := by
  obtain ⟨p, l, e, R, s, m, args, below, meth, c, cells, slots, Z, D, cA, ad, A, H0⟩ := κ
  obtain ⟨hx, hb, hml, hown, hts, hnw, hK, hap, hR⟩ := hC
  intro H locs la hP hS hL
  exact lv_dup hx hb hd ((dc_cv_cat ad v).trans hv) (k H locs la hP hS hL)
theorem dx_pop (hC : dc_Cx κ own b nL fr lo) {v : Value} (hd : decode b pc = .ok (.pop, 1)) (hv : v.category = 1) (k : dc_X κ (pc + 1) ls st σ) : dc_X κ pc ls (v :: st) σ := by
  obtain ⟨p, l, e, R, s, m, args, below, meth, c, cells, slots, Z, D, cA, ad, A, H0⟩ := κ
  obtain ⟨hx, hb, hml, hown, hts, hnw, hK, hap, hR⟩ := hC
  intro H locs la hP hS hL
  exact lv_pop hx hb hd ((dc_cv_cat ad v).trans hv) (k H locs la hP hS hL)
theorem dx_dup2 (hC : dc_Cx κ own b nL fr lo) {v w : Value} (hd : decode b pc = .ok (.dup2, 1)) (hv : v.category = 1) (hw : w.category = 1) (k : dc_X κ (pc + 1) ls (v :: w :: v :: w :: st) σ) : dc_X κ pc ls (v :: w :: st) σ := by
  obtain ⟨p, l, e, R, s, m, args, below, meth, c, cells, slots, Z, D, cA, ad, A, H0⟩ := κ
  obtain ⟨hx, hb, hml, hown, hts, hnw, hK, hap, hR⟩ := hC
  intro H locs la hP hS hL
  exact lv_dup2_11 hx hb hd ((dc_cv_cat ad v).trans hv) ((dc_cv_cat ad w).trans hw) (k H locs la hP hS hL)
theorem dx_if_eq (hC : dc_Cx κ own b nL fr lo) {x : Int32} {off : Int} {tgt : Nat} (hd : decode b pc = .ok (.ifCond .eq off, 3)) (ht : (pc : Int) + off = (tgt : Int)) (kt : x = 0 → dc_X κ tgt ls st σ) (kf : ¬ x = 0 → dc_X κ (pc + 3) ls st σ) : dc_X κ pc ls (.int x :: st) σ := by
  obtain ⟨p, l, e, R, s, m, args, below, meth, c, cells, slots, Z, D, cA, ad, A, H0⟩ := κ
  obtain ⟨hx, hb, hml, hown, hts, hnw, hK, hap, hR⟩ := hC
  intro H locs la hP hS hL
  exact lv_if_eq hx hb hd ht (fun q => kt q H locs la hP hS hL) (fun q => kf q H locs la hP hS hL)
theorem dx_if_ne (hC : dc_Cx κ own b nL fr lo) {x : Int32} {off : Int} {tgt : Nat} (hd : decode b pc = .ok (.ifCond .ne off, 3)) (ht : (pc : Int) + off = (tgt : Int)) (kt : ¬ x = 0 → dc_X κ tgt ls st σ) (kf : x = 0 → dc_X κ (pc + 3) ls st σ) : dc_X κ pc ls (.int x :: st) σ := by
  obtain ⟨p, l, e, R, s, m, args, below, meth, c, cells, slots, Z, D, cA, ad, A, H0⟩ := κ
  obtain ⟨hx, hb, hml, hown, hts, hnw, hK, hap, hR⟩ := hC
  intro H locs la hP hS hL
  exact lv_if_ne hx hb hd ht (fun q => kt q H locs la hP hS hL) (fun q => kf q H locs la hP hS hL)
theorem dx_if_lt (hC : dc_Cx κ own b nL fr lo) {x : Int32} {off : Int} {tgt : Nat} (hd : decode b pc = .ok (.ifCond .lt off, 3)) (ht : (pc : Int) + off = (tgt : Int)) (kt : x < 0 → dc_X κ tgt ls st σ) (kf : ¬ x < 0 → dc_X κ (pc + 3) ls st σ) : dc_X κ pc ls (.int x :: st) σ := by
  obtain ⟨p, l, e, R, s, m, args, below, meth, c, cells, slots, Z, D, cA, ad, A, H0⟩ := κ
  obtain ⟨hx, hb, hml, hown, hts, hnw, hK, hap, hR⟩ := hC
  intro H locs la hP hS hL
  exact lv_if_lt hx hb hd ht (fun q => kt q H locs la hP hS hL) (fun q => kf q H locs la hP hS hL)
theorem dx_if_ge (hC : dc_Cx κ own b nL fr lo) {x : Int32} {off : Int} {tgt : Nat} (hd : decode b pc = .ok (.ifCond .ge off, 3)) (ht : (pc : Int) + off = (tgt : Int)) (kt : 0 ≤ x → dc_X κ tgt ls st σ) (kf : ¬ 0 ≤ x → dc_X κ (pc + 3) ls st σ) : dc_X κ pc ls (.int x :: st) σ := by
  obtain ⟨p, l, e, R, s, m, args, below, meth, c, cells, slots, Z, D, cA, ad, A, H0⟩ := κ
  obtain ⟨hx, hb, hml, hown, hts, hnw, hK, hap, hR⟩ := hC
  intro H locs la hP hS hL
  exact lv_if_ge hx hb hd ht (fun q => kt q H locs la hP hS hL) (fun q => kf q H locs la hP hS hL)
theorem dx_if_gt (hC : dc_Cx κ own b nL fr lo) {x : Int32} {off : Int} {tgt : Nat} (hd : decode b pc = .ok (.ifCond .gt off, 3)) (ht : (pc : Int) + off = (tgt : Int)) (kt : 0 < x → dc_X κ tgt ls st σ) (kf : ¬ 0 < x → dc_X κ (pc + 3) ls st σ) : dc_X κ pc ls (.int x :: st) σ := by
  obtain ⟨p, l, e, R, s, m, args, below, meth, c, cells, slots, Z, D, cA, ad, A, H0⟩ := κ
  obtain ⟨hx, hb, hml, hown, hts, hnw, hK, hap, hR⟩ := hC
  intro H locs la hP hS hL
  exact lv_if_gt hx hb hd ht (fun q => kt q H locs la hP hS hL) (fun q => kf q H locs la hP hS hL)
theorem dx_if_le (hC : dc_Cx κ own b nL fr lo) {x : Int32} {off : Int} {tgt : Nat} (hd : decode b pc = .ok (.ifCond .le off, 3)) (ht : (pc : Int) + off = (tgt : Int)) (kt : x ≤ 0 → dc_X κ tgt ls st σ) (kf : ¬ x ≤ 0 → dc_X κ (pc + 3) ls st σ) : dc_X κ pc ls (.int x :: st) σ := by
  obtain ⟨p, l, e, R, s, m, args, below, meth, c, cells, slots, Z, D, cA, ad, A, H0⟩ := κ
  obtain ⟨hx, hb, hml, hown, hts, hnw, hK, hap, hR⟩ := hC
  intro H locs la hP hS hL
  exact lv_if_le hx hb hd ht (fun q => kt q H locs la hP hS hL) (fun q => kf q H locs la hP hS hL)
theorem dx_icmp_eq (hC : dc_Cx κ own b nL fr lo) {x y : Int32} {off : Int} {tgt : Nat} (hd : decode b pc = .ok (.if_icmp .eq off, 3)) (ht : (pc : Int) + off = (tgt : Int)) (kt : x = y → dc_X κ tgt ls st σ) (kf : ¬ x = y → dc_X κ (pc + 3) ls st σ) : dc_X κ pc ls (.int y :: .int x :: st) σ := by
  obtain ⟨p, l, e, R, s, m, args, below, meth, c, cells, slots, Z, D, cA, ad, A, H0⟩ := κ
  obtain ⟨hx, hb, hml, hown, hts, hnw, hK, hap, hR⟩ := hC
  intro H locs la hP hS hL
  exact lv_icmp_eq hx hb hd ht (fun q => kt q H locs la hP hS hL) (fun q => kf q H locs la hP hS hL)
theorem dx_icmp_ne (hC : dc_Cx κ own b nL fr lo) {x y : Int32} {off : Int} {tgt : Nat} (hd : decode b pc = .ok (.if_icmp .ne off, 3)) (ht : (pc : Int) + off = (tgt : Int)) (kt : ¬ x = y → dc_X κ tgt ls st σ) (kf : x = y → dc_X κ (pc + 3) ls st σ) : dc_X κ pc ls (.int y :: .int x :: st) σ := by
  obtain ⟨p, l, e, R, s, m, args, below, meth, c, cells, slots, Z, D, cA, ad, A, H0⟩ := κ
  obtain ⟨hx, hb, hml, hown, hts, hnw, hK, hap, hR⟩ := hC
  intro H locs la hP hS hL
  exact lv_icmp_ne hx hb hd ht (fun q => kt q H locs la hP hS hL) (fun q => kf q H locs la hP hS hL)
theorem dx_icmp_lt (hC : dc_Cx κ own b nL fr lo) {x y : Int32} {off : Int} {tgt : Nat} (hd : decode b pc = .ok (.if_icmp .lt off, 3)) (ht : (pc : Int) + off = (tgt : Int)) (kt : x < y → dc_X κ tgt ls st σ) (kf : ¬ x < y → dc_X κ (pc + 3) ls st σ) : dc_X κ pc ls (.int y :: .int x :: st) σ := by
  obtain ⟨p, l, e, R, s, m, args, below, meth, c, cells, slots, Z, D, cA, ad, A, H0⟩ := κ
  obtain ⟨hx, hb, hml, hown, hts, hnw, hK, hap, hR⟩ := hC
  intro H locs la hP hS hL
  exact lv_icmp_lt hx hb hd ht (fun q => kt q H locs la hP hS hL) (fun q => kf q H locs la hP hS hL)
theorem dx_icmp_ge (hC : dc_Cx κ own b nL fr lo) {x y : Int32} {off : Int} {tgt : Nat} (hd : decode b pc = .ok (.if_icmp .ge off, 3)) (ht : (pc : Int) + off = (tgt : Int)) (kt : y ≤ x → dc_X κ tgt ls st σ) (kf : ¬ y ≤ x → dc_X κ (pc + 3) ls st σ) : dc_X κ pc ls (.int y :: .int x :: st) σ := by
  obtain ⟨p, l, e, R, s, m, args, below, meth, c, cells, slots, Z, D, cA, ad, A, H0⟩ := κ
  obtain ⟨hx, hb, hml, hown, hts, hnw, hK, hap, hR⟩ := hC
  intro H locs la hP hS hL
  exact lv_icmp_ge hx hb hd ht (fun q => kt q H locs la hP hS hL) (fun q => kf q H locs la hP hS hL)
theorem dx_icmp_gt (hC : dc_Cx κ own b nL fr lo) {x y : Int32} {off : Int} {tgt : Nat} (hd : decode b pc = .ok (.if_icmp .gt off, 3)) (ht : (pc : Int) + off = (tgt : Int)) (kt : y < x → dc_X κ tgt ls st σ) (kf : ¬ y < x → dc_X κ (pc + 3) ls st σ) : dc_X κ pc ls (.int y :: .int x :: st) σ := by
  obtain ⟨p, l, e, R, s, m, args, below, meth, c, cells, slots, Z, D, cA, ad, A, H0⟩ := κ
  obtain ⟨hx, hb, hml, hown, hts, hnw, hK, hap, hR⟩ := hC
  intro H locs la hP hS hL
  exact lv_icmp_gt hx hb hd ht (fun q => kt q H locs la hP hS hL) (fun q => kf q H locs la hP hS hL)
theorem dx_icmp_le (hC : dc_Cx κ own b nL fr lo) {x y : Int32} {off : Int} {tgt : Nat} (hd : decode b pc = .ok (.if_icmp .le off, 3)) (ht : (pc : Int) + off = (tgt : Int)) (kt : x ≤ y → dc_X κ tgt ls st σ) (kf : ¬ x ≤ y → dc_X κ (pc + 3) ls st σ) : dc_X κ pc ls (.int y :: .int x :: st) σ := by
  obtain ⟨p, l, e, R, s, m, args, below, meth, c, cells, slots, Z, D, cA, ad, A, H0⟩ := κ
  obtain ⟨hx, hb, hml, hown, hts, hnw, hK, hap, hR⟩ := hC
  intro H locs la hP hS hL
  exact lv_icmp_le hx hb hd ht (fun q => kt q H locs la hP hS hL) (fun q => kf q H locs la hP hS hL)
theorem dx_goto (hC : dc_Cx κ own b nL fr lo) {off : Int} {tgt : Nat} (hd : decode b pc = .ok (.goto off, 3)) (ht : (pc : Int) + off = (tgt : Int)) (k : dc_X κ tgt ls st σ) : dc_X κ pc ls st σ := by
  obtain ⟨p, l, e, R, s, m, args, below, meth, c, cells, slots, Z, D, cA, ad, A, H0⟩ := κ
  obtain ⟨hx, hb, hml, hown, hts, hnw, hK, hap, hR⟩ := hC
  intro H locs la hP hS hL
  exact lv_goto hx hb hd ht (k H locs la hP hS hL)
theorem dx_lookup (hC : dc_Cx κ own b nL fr lo) {dflt : Int} {ps : Array (Int × Int)} {len : Nat} {x : Int32} {off : Int} {tgt : Nat} (hd : decode b pc = .ok (.lookupswitch dflt ps, len)) (hp : (ps.toList.zip (ps.toList.drop 1)).all (fun (a, next) => a.1 < next.1) = true) (ho : Op.lookupswitch.offset ps.toList dflt x.toInt = off) (ht : (pc : Int) + off = (tgt : Int)) (k : dc_X κ tgt ls st σ) : dc_X κ pc ls (.int x :: st) σ := by
  obtain ⟨p, l, e, R, s, m, args, below, meth, c, cells, slots, Z, D, cA, ad, A, H0⟩ := κ
  obtain ⟨hx, hb, hml, hown, hts, hnw, hK, hap, hR⟩ := hC
  intro H locs la hP hS hL
  exact lv_lookup hx hb hd hp ho ht (k H locs la hP hS hL)
theorem dx_tableOut (hC : dc_Cx κ own b nL fr lo) {dflt lo1 hi : Int} {offs : Array Int} {len : Nat} {x : Int32} {tgt : Nat} (hd : decode b pc = .ok (.tableswitch dflt lo1 hi offs, len)) (h : x.toInt < lo1 ∨ hi < x.toInt) (ht : (pc : Int) + dflt = (tgt : Int)) (k : dc_X κ tgt ls st σ) : dc_X κ pc ls (.int x :: st) σ := by
  obtain ⟨p, l, e, R, s, m, args, below, meth, c, cells, slots, Z, D, cA, ad, A, H0⟩ := κ
  obtain ⟨hx, hb, hml, hown, hts, hnw, hK, hap, hR⟩ := hC
  intro H locs la hP hS hL
  exact lv_tableOut hx hb hd h ht (k H locs la hP hS hL)
theorem dx_tableIn (hC : dc_Cx κ own b nL fr lo) {dflt lo1 hi : Int} {offs : Array Int} {len : Nat} {x : Int32} {off : Int} {tgt : Nat} (hd : decode b pc = .ok (.tableswitch dflt lo1 hi offs, len)) (h1 : ¬ x.toInt < lo1) (h2 : ¬ hi < x.toInt) (ho : offs[(x.toInt - lo1).toNat]? = some off) (ht : (pc : Int) + off = (tgt : Int)) (k : dc_X κ tgt ls st σ) : dc_X κ pc ls (.int x :: st) σ := by
  obtain ⟨p, l, e, R, s, m, args, below, meth, c, cells, slots, Z, D, cA, ad, A, H0⟩ := κ
  obtain ⟨hx, hb, hml, hown, hts, hnw, hK, hap, hR⟩ := hC
  intro H locs la hP hS hL
  exact lv_tableIn hx hb hd h1 h2 ho ht (k H locs la hP hS hL)
/-- a field of a class, as its link has it -/
def dc_fl (own : String) (idx ci j : Nat) (q : vw_C) : Prop := dc_cl[ci]? = some q ∧ j < q.2.2 ∧ Cond.fieldLink own idx (q.2.1 j).1 (q.2.1 j).2.1 (q.2.1 j).2.2.1 ∈ dc_tb ∧ (∀ w ∈ u_ws q.1 q.2.1 q.2.2, w ∈ dc_tb) ∧ ∀ a, a < q.2.2 → ∀ b, b < q.2.2 → a ≠ b → (q.2.1 a).2.1 ≠ (q.2.1 b).2.1
theorem dx_get (hC : dc_Cx κ own b nL fr lo) {idx ci j kd q1 : Nat} {ks : List Nat} {v : Value} {q : vw_C} (hd : decode b pc = .ok (.getfield idx, 3)) (hf : dc_fl own idx ci j q) (hk : dc_lay[q1]? = some (.inl (ci, ks))) (hj : ks[j]? = some kd) (hv : dc_val σ q1 j kd = v) (k : dc_X κ (pc + 3) ls (v :: st) σ) : dc_X κ pc ls (.ref q1 :: st) σ := by
  obtain ⟨p, l, e, R, s, m, args, below, meth, c, cells, slots, Z, D, cA, ad, A, H0⟩ := κ
  obtain ⟨hx, hb, hml, hown, hts, hnw, hK, hap, hR⟩ := hC
  intro H locs la hP hS hL
  obtain ⟨f1, f2, f3, f4, -⟩ := hf
  subst hv
  exact va_get (own := own) (C := q.1) (T := q.2.1) (N := q.2.2) hx hb hts f4 hown hK hP q1 (dc_ws_get hk) f1 j f2 (hts _ f3) (fun _ h9 => h9) (v := dc_cv ad (dc_val σ q1 j kd)) (by simp [List.getElem?_mapIdx, hj]) hd (k H locs la hP hS hL)
theorem dx_putI (hC : dc_Cx κ own b nL fr lo) {idx ci j kd q1 : Nat} {ks : List Nat} {v : Int32} {q : vw_C} {tyf : Nat → FieldType} (hd : decode b pc = .ok (.putfield idx, 3)) (hf : dc_fl own idx ci j q) (hk : dc_lay[q1]? = some (.inl (ci, ks))) (hj : ks[j]? = some kd) (hty : ∀ k, k < q.2.2 → parseFieldDescriptor (q.2.1 k).2.2.1 = some (tyf k)) (hfin : (q.2.1 j).2.2.2 = false) (h0 : kd = 0 ∧ tyf j = .int ∨ kd = 2 ∧ tyf j = .boolean ∧ (v = 0 ∨ v = 1)) (k : dc_X κ (pc + 3) ls st (dc_wI σ q1 j v)) : dc_X κ pc ls (.int v :: .ref q1 :: st) σ := by
  obtain ⟨p, l, e, R, s, m, args, below, meth, c, cells, slots, Z, D, cA, ad, A, H0⟩ := κ
  obtain ⟨hx, hb, hml, hown, hts, hnw, hK, hap, hR⟩ := hC
  intro H locs la hP hS hL
  obtain ⟨f1, f2, f3, f4, f5⟩ := hf
  have h01 : kd = 0 ∨ kd = 2 := h0.elim (fun h => Or.inl h.1) (fun h => Or.inr h.1)
  have hn : narrow (tyf j) (.int v) = .int v ∧ Jvm.fits (tyf j) (.int v) = true := by
    rcases h0 with ⟨-, h⟩ | ⟨-, h, rfl | rfl⟩ <;> rw [h]
    · exact ⟨rfl, rfl⟩
    · exact ⟨by decide, by decide⟩
    · exact ⟨by decide, by decide⟩
  refine va_put (own := own) (C := q.1) (T := q.2.1) (N := q.2.2) hx hb hts f4 tyf hty f5 hown hK hP (dc_D hap σ) hS q1 (dc_ws_get hk) f1 j f2 (hts _ f3) (fun _ h9 => h9) hfin (ty := tyf j) (v := .int v) (hty j f2) hn.1 hn.2 (by simp; exact (List.getElem?_eq_some_iff.mp hj).1) hd (fun H1 locs1 hP1 hD1 hS1 => ?_)
  exact k H1 locs1 la (by rw [dc_set_I hk hj h01] at hP1; exact hP1) hS1 hL
theorem dx_putL (hC : dc_Cx κ own b nL fr lo) {idx ci j q1 : Nat} {ks : List Nat} {v : Int64} {q : vw_C} {tyf : Nat → FieldType} (hd : decode b pc = .ok (.putfield idx, 3)) (hf : dc_fl own idx ci j q) (hk : dc_lay[q1]? = some (.inl (ci, ks))) (hj : ks[j]? = some 1) (hty : ∀ k, k < q.2.2 → parseFieldDescriptor (q.2.1 k).2.2.1 = some (tyf k)) (hfin : (q.2.1 j).2.2.2 = false) (h0 : tyf j = .long) (k : dc_X κ (pc + 3) ls st (dc_wL σ q1 j v)) : dc_X κ pc ls (.long v :: .ref q1 :: st) σ := by
  obtain ⟨p, l, e, R, s, m, args, below, meth, c, cells, slots, Z, D, cA, ad, A, H0⟩ := κ
  obtain ⟨hx, hb, hml, hown, hts, hnw, hK, hap, hR⟩ := hC
  intro H locs la hP hS hL
  obtain ⟨f1, f2, f3, f4, f5⟩ := hf
  refine va_put (own := own) (C := q.1) (T := q.2.1) (N := q.2.2) hx hb hts f4 tyf hty f5 hown hK hP (dc_D hap σ) hS q1 (dc_ws_get hk) f1 j f2 (hts _ f3) (fun _ h9 => h9) hfin (ty := tyf j) (v := .long v) (hty j f2) (by rw [h0]; rfl) (by rw [h0]; rfl) (by simp; exact (List.getElem?_eq_some_iff.mp hj).1) hd (fun H1 locs1 hP1 hD1 hS1 => ?_)
  exact k H1 locs1 la (by rw [dc_set_L hk hj] at hP1; exact hP1) hS1 hL
theorem dx_iald (hC : dc_Cx κ own b nL fr lo) {q1 n : Nat} {i : Int32} (hd : decode b pc = .ok (.iaload, 1)) (hk : dc_lay[q1]? = some (.inr (0, n))) (hi : vp_in i n) (k : dc_X κ (pc + 1) ls (.int (σ.1 q1 i.toNatClampNeg) :: st) σ) : dc_X κ pc ls (.int i :: .ref q1 :: st) σ := by
  obtain ⟨p, l, e, R, s, m, args, below, meth, c, cells, slots, Z, D, cA, ad, A, H0⟩ := κ
  obtain ⟨hx, hb, hml, hown, hts, hnw, hK, hap, hR⟩ := hC
  intro H locs la hP hS hL
  exact va_iald hx hb hK hP q1 0 (dc_ws_get hk) rfl hi hd (k H locs la hP hS hL)
theorem dx_zald (hC : dc_Cx κ own b nL fr lo) {q1 n : Nat} {i : Int32} (hd : decode b pc = .ok (.baload, 1)) (hk : dc_lay[q1]? = some (.inr (2, n))) (hi : vp_in i n) (k : dc_X κ (pc + 1) ls (.int (σ.1 q1 i.toNatClampNeg) :: st) σ) : dc_X κ pc ls (.int i :: .ref q1 :: st) σ := by
  obtain ⟨p, l, e, R, s, m, args, below, meth, c, cells, slots, Z, D, cA, ad, A, H0⟩ := κ
  obtain ⟨hx, hb, hml, hown, hts, hnw, hK, hap, hR⟩ := hC
  intro H locs la hP hS hL
  exact va_zald hx hb hK hP q1 2 (dc_ws_get hk) rfl hi hd (k H locs la hP hS hL)
theorem dx_lald (hC : dc_Cx κ own b nL fr lo) {q1 n : Nat} {i : Int32} (hd : decode b pc = .ok (.laload, 1)) (hk : dc_lay[q1]? = some (.inr (1, n))) (hi : vp_in i n) (k : dc_X κ (pc + 1) ls (.long (σ.2 q1 i.toNatClampNeg) :: st) σ) : dc_X κ pc ls (.int i :: .ref q1 :: st) σ := by
  obtain ⟨p, l, e, R, s, m, args, below, meth, c, cells, slots, Z, D, cA, ad, A, H0⟩ := κ
  obtain ⟨hx, hb, hml, hown, hts, hnw, hK, hap, hR⟩ := hC
  intro H locs la hP hS hL
  exact va_lald hx hb hK hP q1 1 (dc_ws_get hk) rfl hi hd (k H locs la hP hS hL)
theorem dx_iast (hC : dc_Cx κ own b nL fr lo) {q1 n : Nat} {i v : Int32} (hd : decode b pc = .ok (.iastore, 1)) (hk : dc_lay[q1]? = some (.inr (0, n))) (hi : vp_in i n) (k : dc_X κ (pc + 1) ls st (dc_wI σ q1 i.toNatClampNeg v)) : dc_X κ pc ls (.int v :: .int i :: .ref q1 :: st) σ := by
  obtain ⟨p, l, e, R, s, m, args, below, meth, c, cells, slots, Z, D, cA, ad, A, H0⟩ := κ
  obtain ⟨hx, hb, hml, hown, hts, hnw, hK, hap, hR⟩ := hC
  intro H locs la hP hS hL
  refine va_iast hx hb hK hP (dc_D hap σ) hS q1 0 (dc_ws_get hk) rfl hi hd (fun H1 locs1 hP1 hD1 hS1 => ?_)
  exact k H1 locs1 la (by rw [dc_put_I hk (by decide)] at hP1; exact hP1) hS1 hL
theorem dx_zast (hC : dc_Cx κ own b nL fr lo) {q1 n : Nat} {i v : Int32} (hd : decode b pc = .ok (.bastore, 1)) (hk : dc_lay[q1]? = some (.inr (2, n))) (hi : vp_in i n) (hv : vp_nar .boolean v = v) (k : dc_X κ (pc + 1) ls st (dc_wI σ q1 i.toNatClampNeg v)) : dc_X κ pc ls (.int v :: .int i :: .ref q1 :: st) σ := by
  obtain ⟨p, l, e, R, s, m, args, below, meth, c, cells, slots, Z, D, cA, ad, A, H0⟩ := κ
  obtain ⟨hx, hb, hml, hown, hts, hnw, hK, hap, hR⟩ := hC
  intro H locs la hP hS hL
  refine va_zast hx hb hK hP (dc_D hap σ) hS q1 2 (dc_ws_get hk) rfl hi hd (fun H1 locs1 hP1 hD1 hS1 => ?_)
  rw [hv] at hP1
  exact k H1 locs1 la (by rw [dc_put_I hk (by decide)] at hP1; exact hP1) hS1 hL
theorem dx_last (hC : dc_Cx κ own b nL fr lo) {q1 n : Nat} {i : Int32} {v : Int64} (hd : decode b pc = .ok (.lastore, 1)) (hk : dc_lay[q1]? = some (.inr (1, n))) (hi : vp_in i n) (k : dc_X κ (pc + 1) ls st (dc_wL σ q1 i.toNatClampNeg v)) : dc_X κ pc ls (.long v :: .int i :: .ref q1 :: st) σ := by
  obtain ⟨p, l, e, R, s, m, args, below, meth, c, cells, slots, Z, D, cA, ad, A, H0⟩ := κ
  obtain ⟨hx, hb, hml, hown, hts, hnw, hK, hap, hR⟩ := hC
  intro H locs la hP hS hL
  refine va_last hx hb hK hP (dc_D hap σ) hS q1 1 (dc_ws_get hk) rfl hi hd (fun H1 locs1 hP1 hD1 hS1 => ?_)
  exact k H1 locs1 la (by rw [dc_put_L hk] at hP1; exact hP1) hS1 hL
theorem dx_alen (hC : dc_Cx κ own b nL fr lo) {q1 t n : Nat} {v : Int32} (hd : decode b pc = .ok (.arraylength, 1)) (hk : dc_lay[q1]? = some (.inr (t, n))) (ht : t < 3) (hv : Int32.ofNat n = v) (k : dc_X κ (pc + 1) ls (.int v :: st) σ) : dc_X κ pc ls (.ref q1 :: st) σ := by
  obtain ⟨p, l, e, R, s, m, args, below, meth, c, cells, slots, Z, D, cA, ad, A, H0⟩ := κ
  obtain ⟨hx, hb, hml, hown, hts, hnw, hK, hap, hR⟩ := hC
  intro H locs la hP hS hL
  have h3 : (dc_tys cA)[t]? = some (cA t, dc_ty t) := by
    match t, ht with
    | 0, _ => rfl
    | 1, _ => rfl
    | 2, _ => rfl
  exact va_alen hx hb hK hP q1 t (dc_ws_get hk) h3 hv hd (k H locs la hP hS hL)
def dc_lkCp (own : String) (idx : Nat) : Prop := Cond.methodLink own idx arraycopyName ∈ dc_tb ∧ Cond.native arraycopyName ∈ dc_tb ∧ Cond.static arraycopyName ∈ dc_tb ∧ Cond.initialized "java/lang/System" ∈ dc_tb
theorem dx_copy (hC : dc_Cx κ own b nL fr lo) {idx q0 q1 n0 n1 n : Nat} {v : Int32} (hd : decode b pc = .ok (.invokestatic idx, 3)) (hw : dc_lkCp own idx) (hk0 : dc_lay[q0]? = some (.inr (0, n0))) (hk1 : dc_lay[q1]? = some (.inr (0, n1))) (hv : v.toNatClampNeg = n) (hv0 : ¬ v < 0) (h4 : n ≤ n0) (h5 : n ≤ n1) (hf1 : 1 ≤ fr) (hl1 : (st.map fun v => v.category).sum + 40 ≤ lo) (k : dc_X κ (pc + 3) ls st (dc_cp σ q0 q1 n)) : dc_X κ pc ls (.int v :: .int 0 :: .ref q1 :: .int 0 :: .ref q0 :: st) σ := by
  obtain ⟨p, l, e, R, s, m, args, below, meth, c, cells, slots, Z, D, cA, ad, A, H0⟩ := κ
  obtain ⟨hx, hb, hml, hown, hts, hnw, hK, hap, hR⟩ := hC
  intro H locs la hP hS hL
  obtain ⟨w1, w2, w3, w4⟩ := hw
  subst hv
  have z0 : (0 : Int32).toNatClampNeg = 0 := by decide
  have hcat : ((st.map (dc_cv ad)).map fun v => v.category).sum = (st.map fun v => v.category).sum := by
    rw [List.map_map]
    exact congrArg List.sum (List.map_congr_left fun v _ => dc_cv_cat ad v)
  refine va_copyi hx hb (hL.1.symm) hown (hts _ w1) (hts _ w2) (hts _ w3) (hts _ w4) hK hP (dc_D hap σ) hS q0 q1 0 0 (dc_ws_get hk0) (dc_ws_get hk1) rfl rfl rfl (by decide) (by decide) hv0 (by rw [z0]; omega) (by rw [z0]; omega) (fun _ _ => rfl) (Nat.le_trans hf1 hR.1) ?_ hd (fun H1 locs1 hP1 hD1 hS1 => ?_)
  · rw [hcat]
    have : nativeFrameWords "java/lang/System" "arraycopy" 5 = 7 := by decide
    have := hR.2.1
    omega
  · exact k H1 locs1 la (by rw [show (0 : Int32).toNatClampNeg = 0 by decide, dc_put_C hk1] at hP1; exact hP1) hS1 hL
theorem dc_cat (ad : Nat → Nat) (st : List Value) : ((st.map (dc_cv ad)).map fun v => v.category).sum = (st.map fun v => v.category).sum := by
  rw [List.map_map]
  exact congrArg List.sum (List.map_congr_left fun v _ => dc_cv_cat ad v)
theorem dc_NW.calling {U : State} (h : dc_NW U) (g : JFrame) (mk : MethodId) (a : Array Value) : dc_NW (U.calling g mk a) := fun q hq => va_Nw.same (u := U) rfl rfl (h q hq)
theorem dc_blind {D : va_G} {cA : Nat → ClassId} {ad : Nat → Nat} {σ : dc_HP} {av : List Value} : FrameBlind (dc_Pc D cA ad σ av) := fun a U g mk q => ⟨q.1, q.2.1, va_K.moved (u := U) (U := U.calling g mk a) (Vm.Alike.refl U.vm) q.2.2.1, q.2.2.2.calling g mk a⟩
theorem dc_NW.warm {s U : State} (hW : s.WarmedH U.vm) (h : dc_NW s) : dc_NW U := fun q hq => va_Nw.warmM hW (h q hq)
/-- a method that a call reaches: its own words -/
def dc_mOk (M : dc_M) (n : Nat) : Prop := Cond.code M.2.2.1 M.2.1 M.2.2.2.1 M.2.2.2.2.1 ∈ dc_tb ∧ Cond.initialized M.2.2.1.cls ∈ dc_tb ∧ plainName M.2.2.1.cls = true ∧ M.2.2.1.cls = M.1 ∧ (M.2.2.1.cls ≠ "java/lang/invoke/MethodHandle" ∧ M.2.2.1.cls ≠ "java/lang/invoke/VarHandle" ∧ (parseMethodDescriptor M.2.2.1.desc).map (fun d => d.parameters.length) = some n)
def dc_lkV (own : String) (idx : Nat) (M : dc_M) (n : Nat) : Prop := dc_mOk M n ∧ Cond.methodLink own idx M.2.2.1 ∈ dc_tb ∧ Cond.instanceMethod M.2.2.1 ∈ dc_tb ∧ Cond.selects M.2.2.1.cls M.2.2.1 M.2.2.1 ∈ dc_tb
def dc_lkS (own : String) (idx : Nat) (M : dc_M) (n : Nat) : Prop := dc_mOk M n ∧ Cond.methodLink own idx M.2.2.1 ∈ dc_tb ∧ Cond.static M.2.2.1 ∈ dc_tb
def dc_lkN (own : String) (idx : Nat) (M : dc_M) (n : Nat) (host : String) : Prop := dc_mOk M n ∧ (own, idx, M.2.2.1, host) ∈ dc_nest ∧ Cond.static M.2.2.1 ∈ dc_tb
theorem dc_go {p : Program} {l : Launch} {e : Env} {R : Room} {s : State} {m : MethodId} {args : Array Value} {below : List Frame} {meth : Method} {c : Code} {H : Heap} {locs : List Loc} {cells slots : Nat} {Z : State → Prop} {D : va_G} {cA : Nat → ClassId} {ad : Nat → Nat} {A : Nat → Prop} {H0 : Heap} {pc : Nat} {la : Array Slot} {st0 rest : List Value} {Q : Option Value → dc_HP → Prop} {a : Array Value}
    (hr : va_Run p l e R s m args below meth c H locs cells slots 0 0 (F0 m pc la st0) rest (dc_Qc D cA ad A Q a) A) (hS : va_S A H0 H locs)
    (kk : ∀ (r : Option Value) (σ' : dc_HP) (H1 : Heap) (locs1 : List Loc), Q r σ' → va_P D dc_cl (dc_ws cA ad σ') H1 → va_S A H0 H1 locs1 → W p l e R s m args below meth c H1 locs1 cells slots Z (F0 m (pc + 3) la ((r.map (dc_cv ad)).toList ++ rest))) : W p l e R s m args below meth c H locs cells slots Z (F0 m pc la st0) := by
  intro T hT X
  obtain ⟨v, st₀, t, T', L, h0, X', hL, e1, e2, ⟨⟨r, σ', hv, hp, hb⟩, hz, hk⟩, st⟩ := hr T hT X
  cases hv
  rw [h0] at hz hk
  obtain ⟨t2, a1, b1⟩ := kk r σ' T'.heap (locs ++ L) hp (by rw [e1]; exact hb)
    ⟨Nat.le_trans hS.1 (by rw [e1]; exact hz), fun q h1 h2 => by rw [e1, hk q (Nat.lt_of_lt_of_le h1 hS.1) h2]; exact hS.2.1 q h1 h2, fun q hq => by
      rcases List.mem_append.mp hq with h | h
      · exact hS.2.2 q h
      · exact hL q h⟩ T' rfl X'
  exact ⟨t2, st t2 a1, b1⟩
theorem dc_res {ad : Nat → Nat} {r : Option Value} {st : List Value} : (r.map (dc_cv ad)).toList ++ st.map (dc_cv ad) = (r.toList ++ st).map (dc_cv ad) := by
  cases r <;> simp
theorem dc_rev {ad : Nat → Nat} {As st : List Value} : (As.reverse ++ st).map (dc_cv ad) = (As.map (dc_cv ad)).reverse ++ st.map (dc_cv ad) := by
  simp
theorem dx_callV (hC : dc_Cx κ own b nL fr lo) {idx n : Nat} {M : dc_M} {As rest : List Value} {Q : Option Value → dc_HP → Prop} (hd : decode b pc = .ok (.invokevirtual idx, 3)) (hw : dc_lkV own idx M n) (hn : As.length = n) {q1 ci : Nat} {ks : List Nat} {q : vw_C} (hk : dc_lay[q1]? = some (.inl (ci, ks))) (hci : dc_cl[ci]? = some q) (hqc : q.1 = M.2.2.1.cls) (hR1 : M.2.2.2.2.2.1 + 1 ≤ fr) (hR2 : 8 + (M.2.2.2.1 + 11) + M.2.2.2.2.2.2 ≤ lo) (hlen : (lg_sl ((.ref q1 :: As).map (dc_cv (fun q => q)))).length ≤ M.2.2.2.1) (hcat : (rest.map fun v => v.category).sum ≤ 8) (hst : st = As.reverse ++ .ref q1 :: rest) (hg : dc_G M (.ref q1 :: As) σ Q) (kk : ∀ r σ', Q r σ' → dc_X κ (pc + 3) ls (r.toList ++ rest) σ') : dc_X κ pc ls st σ := by
  obtain ⟨p, l, e, R, s, m, args, below, meth, c, cells, slots, Z, D, cA, ad, A, H0⟩ := κ
  obtain ⟨hx, hb, hml, hown, hts, hnw, hK, hap, hR⟩ := hC
  intro H locs la hP hS hL
  obtain ⟨⟨w1, w2, w3, w4, w5⟩, w6, w7, w8⟩ := hw
  subst hst
  refine dc_go (Q := Q) (a := ((.ref q1 :: As).map (dc_cv ad)).toArray) (rest := rest.map (dc_cv ad)) (va_runV (cc := b) (nL := nL) (As := As.map (dc_cv ad)) (b := ad q1) (C := M.2.2.1.cls) (Ts := dc_tb) (own := own) ⟨hx, hb, hml, hown, hts⟩ (dc_met hg w3 w4 hlen l hap) ⟨callB_of n hts (dc_goodIn M w1) rfl rfl rfl (hts _ w2) (hts _ w6) w5 ⟨Nat.le_trans hR1 hR.1, Nat.le_trans hR2 hR.2.1⟩, hts _ w7, hts _ w8⟩ ⟨dc_blind, ?_, fun U hU hW => ⟨rfl, by rw [hU]; exact hP, va_K.moved hW.alike hK, hnw.warm hW⟩⟩ rfl (by simp [hn]) (hL.1.trans hml) ?_ ?_ hd ⟨hR.2.2.1, hR.2.2.2⟩) hS ?_
  · have h9 := va_recv (ci := ci) (q0 := q1) hK hP hci (dc_ws_get hk)
    rw [hqc] at h9
    exact h9
  · rw [dc_rev]; rfl
  · rw [dc_cat]; exact Nat.le_trans (Nat.le_of_eq (Nat.zero_add _)) hcat
  · exact fun r σ' H1 locs1 hq hP1 hS1 => by rw [dc_res]; exact kk r σ' hq H1 locs1 la hP1 hS1 hL
theorem dx_callS (hC : dc_Cx κ own b nL fr lo) {idx n : Nat} {M : dc_M} {As rest : List Value} {Q : Option Value → dc_HP → Prop} (hd : decode b pc = .ok (.invokestatic idx, 3)) (hw : dc_lkS own idx M n) (hn : As.length = n) (hR1 : M.2.2.2.2.2.1 + 1 ≤ fr) (hR2 : 8 + (M.2.2.2.1 + 11) + M.2.2.2.2.2.2 ≤ lo) (hlen : (lg_sl (As.map (dc_cv (fun q => q)))).length ≤ M.2.2.2.1) (hcat : (rest.map fun v => v.category).sum ≤ 8) (hst : st = As.reverse ++ rest) (hg : dc_G M As σ Q) (kk : ∀ r σ', Q r σ' → dc_X κ (pc + 3) ls (r.toList ++ rest) σ') : dc_X κ pc ls st σ := by
  obtain ⟨p, l, e, R, s, m, args, below, meth, c, cells, slots, Z, D, cA, ad, A, H0⟩ := κ
  obtain ⟨hx, hb, hml, hown, hts, hnw, hK, hap, hR⟩ := hC
  intro H locs la hP hS hL
  obtain ⟨⟨w1, w2, w3, w4, w5⟩, w6, w7⟩ := hw
  subst hst
  refine dc_go (Q := Q) (a := (As.map (dc_cv ad)).toArray) (rest := rest.map (dc_cv ad)) (va_runS (cc := b) (nL := nL) (As := As.map (dc_cv ad)) (Ts := dc_tb) (own := own) ⟨hx, hb, hml, hown, hts⟩ (dc_met hg w3 w4 hlen l hap) ⟨callB_of n hts (dc_goodIn M w1) rfl rfl rfl (hts _ w2) (hts _ w6) w5 ⟨Nat.le_trans hR1 hR.1, Nat.le_trans hR2 hR.2.1⟩, hts _ w7⟩ ⟨dc_blind, fun U hU hW => ⟨rfl, by rw [hU]; exact hP, va_K.moved hW.alike hK, hnw.warm hW⟩⟩ rfl (by simp [hn]) (hL.1.trans hml) ?_ ?_ hd ⟨hR.2.2.1, hR.2.2.2⟩) hS ?_
  · exact dc_rev
  · rw [dc_cat]; exact Nat.le_trans (Nat.le_of_eq (Nat.zero_add _)) hcat
  · exact fun r σ' H1 locs1 hq hP1 hS1 => by rw [dc_res]; exact kk r σ' hq H1 locs1 la hP1 hS1 hL
theorem dx_callN (hC : dc_Cx κ own b nL fr lo) {idx n : Nat} {host : String} {M : dc_M} {As rest : List Value} {Q : Option Value → dc_HP → Prop} (hd : decode b pc = .ok (.invokestatic idx, 3)) (hw : dc_lkN own idx M n host) (hn : As.length = n) (hR1 : M.2.2.2.2.2.1 + 1 ≤ fr) (hR2 : 8 + (M.2.2.2.1 + 11) + M.2.2.2.2.2.2 ≤ lo) (hlen : (lg_sl (As.map (dc_cv (fun q => q)))).length ≤ M.2.2.2.1) (hcat : (rest.map fun v => v.category).sum ≤ 8) (hst : st = As.reverse ++ rest) (hg : dc_G M As σ Q) (kk : ∀ r σ', Q r σ' → dc_X κ (pc + 3) ls (r.toList ++ rest) σ') : dc_X κ pc ls st σ := by
  obtain ⟨p, l, e, R, s, m, args, below, meth, c, cells, slots, Z, D, cA, ad, A, H0⟩ := κ
  obtain ⟨hx, hb, hml, hown, hts, hnw, hK, hap, hR⟩ := hC
  intro H locs la hP hS hL
  obtain ⟨⟨w1, w2, w3, w4, w5⟩, w6, w7⟩ := hw
  subst hst
  refine dc_go (Q := Q) (a := (As.map (dc_cv ad)).toArray) (rest := rest.map (dc_cv ad)) (va_runSN (cc := b) (nL := nL) (As := As.map (dc_cv ad)) (Ts := dc_tb) (own := own) (host := host) ⟨hx, hb, hml, hown, hts⟩ (dc_met hg w3 w4 hlen l hap) ⟨va_cnB n hts (dc_goodIn M w1) rfl rfl rfl (hnw _ w6) (hts _ w2) w5 ⟨Nat.le_trans hR1 hR.1, Nat.le_trans hR2 hR.2.1⟩, hts _ w7, trivial⟩ ⟨dc_blind, fun U hU hW => ⟨rfl, by rw [hU]; exact hP, va_K.moved hW.alike hK, hnw.warm hW⟩⟩ rfl (by simp [hn]) (hL.1.trans hml) ?_ ?_ hd ⟨hR.2.2.1, hR.2.2.2⟩) hS ?_
  · exact dc_rev
  · rw [dc_cat]; exact Nat.le_trans (Nat.le_of_eq (Nat.zero_add _)) hcat
  · exact fun r σ' H1 locs1 hq hP1 hS1 => by rw [dc_res]; exact kk r σ' hq H1 locs1 la hP1 hS1 hL
def dc_lk_mmax (own : String) (idx : Nat) : Prop := Cond.methodLink own idx Lib.Math.max.name ∈ dc_tb ∧ Cond.static Lib.Math.max.name ∈ dc_tb ∧ Cond.initialized "java/lang/Math" ∈ dc_tb ∧ Cond.code Lib.Math.max.name Lib.Math.max.code 2 (some .int) ∈ dc_tb
theorem dx_mmax (hC : dc_Cx κ own b nL fr lo) {idx : Nat} {x y : Int32} (hd : decode b pc = .ok (.invokestatic idx, 3)) (hw : dc_lk_mmax own idx) (hf1 : 1 ≤ fr) (hl1 : (st.map fun v => v.category).sum + 13 ≤ lo) (k : dc_X κ (pc + 3) ls (.int (if x < y then y else x) :: st) σ) : dc_X κ pc ls (.int y :: .int x :: st) σ := by
  obtain ⟨p, l, e, R, s, m, args, below, meth, c, cells, slots, Z, D, cA, ad, A, H0⟩ := κ
  obtain ⟨hx, hb, hml, hown, hts, hnw, hK, hap, hR⟩ := hC
  intro H locs la hP hS hL
  obtain ⟨w1, w2, w3, w4⟩ := hw
  exact va_mmax hx hb (hL.1.symm) hown (hts _ w1) (hts _ w2) (hts _ w3) (hts _ w4) (Nat.le_trans hf1 hR.1) (by rw [dc_cat]; exact Nat.le_trans hl1 hR.2.1) hR.2.2.1 hR.2.2.2 hd (k H locs la hP hS hL)
def dc_lk_mmin (own : String) (idx : Nat) : Prop := Cond.methodLink own idx Lib.Math.min.name ∈ dc_tb ∧ Cond.static Lib.Math.min.name ∈ dc_tb ∧ Cond.initialized "java/lang/Math" ∈ dc_tb ∧ Cond.code Lib.Math.min.name Lib.Math.min.code 2 (some .int) ∈ dc_tb
theorem dx_mmin (hC : dc_Cx κ own b nL fr lo) {idx : Nat} {x y : Int32} (hd : decode b pc = .ok (.invokestatic idx, 3)) (hw : dc_lk_mmin own idx) (hf1 : 1 ≤ fr) (hl1 : (st.map fun v => v.category).sum + 13 ≤ lo) (k : dc_X κ (pc + 3) ls (.int (if y < x then y else x) :: st) σ) : dc_X κ pc ls (.int y :: .int x :: st) σ := by
  obtain ⟨p, l, e, R, s, m, args, below, meth, c, cells, slots, Z, D, cA, ad, A, H0⟩ := κ
  obtain ⟨hx, hb, hml, hown, hts, hnw, hK, hap, hR⟩ := hC
  intro H locs la hP hS hL
  obtain ⟨w1, w2, w3, w4⟩ := hw
  exact va_mmin hx hb (hL.1.symm) hown (hts _ w1) (hts _ w2) (hts _ w3) (hts _ w4) (Nat.le_trans hf1 hR.1) (by rw [dc_cat]; exact Nat.le_trans hl1 hR.2.1) hR.2.2.1 hR.2.2.2 hd (k H locs la hP hS hL)
def dc_lk_lmax (own : String) (idx : Nat) : Prop := Cond.methodLink own idx Lib.MathLoose.max_long.x ∈ dc_tb ∧ Cond.static Lib.MathLoose.max_long.x ∈ dc_tb ∧ Cond.initialized "java/lang/Math" ∈ dc_tb ∧ Cond.code Lib.MathLoose.max_long.x Lib.MathLoose.max_long.code 4 (some .long) ∈ dc_tb
theorem dx_lmax (hC : dc_Cx κ own b nL fr lo) {idx : Nat} {x y : Int64} (hd : decode b pc = .ok (.invokestatic idx, 3)) (hw : dc_lk_lmax own idx) (hf1 : 1 ≤ fr) (hl1 : (st.map fun v => v.category).sum + 15 ≤ lo) (k : dc_X κ (pc + 3) ls (.long (if y < x then x else y) :: st) σ) : dc_X κ pc ls (.long y :: .long x :: st) σ := by
  obtain ⟨p, l, e, R, s, m, args, below, meth, c, cells, slots, Z, D, cA, ad, A, H0⟩ := κ
  obtain ⟨hx, hb, hml, hown, hts, hnw, hK, hap, hR⟩ := hC
  intro H locs la hP hS hL
  obtain ⟨w1, w2, w3, w4⟩ := hw
  exact va_mmax_long hx hb (hL.1.symm) hown (hts _ w1) (hts _ w2) (hts _ w3) (hts _ w4) (Nat.le_trans hf1 hR.1) (by rw [dc_cat]; exact Nat.le_trans hl1 hR.2.1) hR.2.2.1 hR.2.2.2 hd (k H locs la hP hS hL)
def dc_lk_labs (own : String) (idx : Nat) : Prop := Cond.methodLink own idx Lib.MathLoose.abs_long.x ∈ dc_tb ∧ Cond.static Lib.MathLoose.abs_long.x ∈ dc_tb ∧ Cond.initialized "java/lang/Math" ∈ dc_tb ∧ Cond.code Lib.MathLoose.abs_long.x Lib.MathLoose.abs_long.code 2 (some .long) ∈ dc_tb
theorem dx_labs (hC : dc_Cx κ own b nL fr lo) {idx : Nat} {x : Int64} (hd : decode b pc = .ok (.invokestatic idx, 3)) (hw : dc_lk_labs own idx) (hf1 : 1 ≤ fr) (hl1 : (st.map fun v => v.category).sum + 13 ≤ lo) (k : dc_X κ (pc + 3) ls (.long (if 0 < x then x else -x) :: st) σ) : dc_X κ pc ls (.long x :: st) σ := by
  obtain ⟨p, l, e, R, s, m, args, below, meth, c, cells, slots, Z, D, cA, ad, A, H0⟩ := κ
  obtain ⟨hx, hb, hml, hown, hts, hnw, hK, hap, hR⟩ := hC
  intro H locs la hP hS hL
  obtain ⟨w1, w2, w3, w4⟩ := hw
  exact va_mabs_long hx hb (hL.1.symm) hown (hts _ w1) (hts _ w2) (hts _ w3) (hts _ w4) (Nat.le_trans hf1 hR.1) (by rw [dc_cat]; exact Nat.le_trans hl1 hR.2.1) hR.2.2.1 hR.2.2.2 hd (k H locs la hP hS hL)
end DX
section DR
variable {κ : dc_KX} {M : dc_M} {Q : Option Value → dc_HP → Prop} {pc : Nat} {ls : List (Option Value)} {σ : dc_HP}
theorem dx_iret (hO : dc_Ok κ M Q) {v : Int32} (hd : decode M.2.1 pc = .ok (.ireturn, 1)) (hr : M.2.2.2.2.1 = some .int) (hq : Q (some (.int v)) σ) : dc_X κ pc ls [.int v] σ := by
  obtain ⟨p, l, e, R, s, m, args, below, meth, c, cells, slots, Z, D, cA, ad, A, H0⟩ := κ
  obtain ⟨⟨hx, hb, -⟩, h1, h2, h3, h4, h5, h6⟩ := hO
  intro H locs la hP hS hL
  cases h3
  cases h4
  subst h5
  subst h6
  exact W.iret hx hb (h1.trans hr) (fun t ht hW => ⟨⟨some (.int v), σ, rfl, hq, by rw [ht]; exact hP⟩, hS.F ht⟩) hS.2.2 hd h2
theorem dx_zret (hO : dc_Ok κ M Q) {v : Int32} (hd : decode M.2.1 pc = .ok (.ireturn, 1)) (hr : M.2.2.2.2.1 = some .boolean) (hn : narrow .boolean (.int v) = .int v) (hq : Q (some (.int v)) σ) : dc_X κ pc ls [.int v] σ := by
  obtain ⟨p, l, e, R, s, m, args, below, meth, c, cells, slots, Z, D, cA, ad, A, H0⟩ := κ
  obtain ⟨⟨hx, hb, -⟩, h1, h2, h3, h4, h5, h6⟩ := hO
  intro H locs la hP hS hL
  cases h3
  cases h4
  subst h5
  subst h6
  exact W.zret hx hb (h1.trans hr) hn (fun t ht hW => ⟨⟨some (.int v), σ, rfl, hq, by rw [ht]; exact hP⟩, hS.F ht⟩) hS.2.2 hd h2
theorem dx_vret (hO : dc_Ok κ M Q) (hd : decode M.2.1 pc = .ok (.return_, 1)) (hr : M.2.2.2.2.1 = none) (hq : Q none σ) : dc_X κ pc ls [] σ := by
  obtain ⟨p, l, e, R, s, m, args, below, meth, c, cells, slots, Z, D, cA, ad, A, H0⟩ := κ
  obtain ⟨⟨hx, hb, -⟩, h1, h2, h3, h4, h5, h6⟩ := hO
  intro H locs la hP hS hL
  cases h3
  cases h4
  subst h5
  subst h6
  exact W.vret hx hb (h1.trans hr) (fun t ht hW => ⟨⟨none, σ, rfl, hq, by rw [ht]; exact hP⟩, hS.F ht⟩) hS.2.2 hd h2
theorem dx_lret (hO : dc_Ok κ M Q) {v : Int64} (hd : decode M.2.1 pc = .ok (.lreturn, 1)) (hr : M.2.2.2.2.1 = some .long) (hq : Q (some (.long v)) σ) : dc_X κ pc ls [.long v] σ := by
  obtain ⟨p, l, e, R, s, m, args, below, meth, c, cells, slots, Z, D, cA, ad, A, H0⟩ := κ
  obtain ⟨⟨hx, hb, -⟩, h1, h2, h3, h4, h5, h6⟩ := hO
  intro H locs la hP hS hL
  cases h3
  cases h4
  subst h5
  subst h6
  exact W.lret hx hb (h1.trans hr) (fun t ht hW => ⟨⟨some (.long v), σ, rfl, hq, by rw [ht]; exact hP⟩, hS.F ht⟩) hS.2.2 hd h2
end DR
end
section
theorem dc_sub {ws : List Cond} (ps : List Nat) (hp : ws = ps.filterMap (fun i => lw_tbl[i]?)) (h : ws.all goodWord = true) : ∀ w ∈ ws, w ∈ dc_tb := by
  intro w hw
  have h1 := List.all_eq_true.mp h w hw
  rw [hp] at hw
  obtain ⟨i, -, hi⟩ := List.mem_filterMap.mp hw
  exact List.mem_filter.mpr ⟨List.mem_of_getElem? hi, h1⟩
theorem dc_u0 : ∀ w ∈ u_ws RX0 TX0 10, w ∈ dc_tb := dc_sub [101, 103, 105, 107, 109, 111, 113, 115, 117, 119] (by decide +kernel) (by decide +kernel)
theorem dc_u1 : ∀ w ∈ u_ws RX1 TX1 4, w ∈ dc_tb := dc_sub [254, 256, 258, 260] (by decide +kernel) (by decide +kernel)
theorem dc_u2 : ∀ w ∈ u_ws RX2 TX2 3, w ∈ dc_tb := dc_sub [279, 281, 283] (by decide +kernel) (by decide +kernel)
theorem dc_u3 : ∀ w ∈ u_ws RX3 TX3 4, w ∈ dc_tb := dc_sub [214, 216, 218, 220] (by decide +kernel) (by decide +kernel)
theorem dc_u4 : ∀ w ∈ u_ws RX4 TX4 2, w ∈ dc_tb := dc_sub [160, 162] (by decide +kernel) (by decide +kernel)
theorem dc_u5 : ∀ w ∈ u_ws RX5 TX5 4, w ∈ dc_tb := dc_sub [233, 235, 237, 239] (by decide +kernel) (by decide +kernel)
theorem dc_u6 : ∀ w ∈ u_ws RX6 TX6 6, w ∈ dc_tb := dc_sub [137, 139, 141, 143, 145, 147] (by decide +kernel) (by decide +kernel)
theorem dc_u7 : ∀ w ∈ u_ws RX7 TX7 7, w ∈ dc_tb := dc_sub [187, 189, 191, 193, 195, 197, 199] (by decide +kernel) (by decide +kernel)
theorem dc_u8 : ∀ w ∈ u_ws RX8 TX8 9, w ∈ dc_tb := dc_sub [295, 297, 299, 301, 303, 305, 307, 309, 311] (by decide +kernel) (by decide +kernel)
theorem dc_u9 : ∀ w ∈ u_ws RX9 TX9 36, w ∈ dc_tb := dc_sub [800, 802, 804, 806, 808, 810, 812, 814, 816, 818, 820, 822, 824, 826, 828, 830, 832, 834, 836, 838, 840, 842, 844, 846, 848, 850, 852, 854, 856, 858, 860, 862, 864, 866, 868, 870] (by decide +kernel) (by decide +kernel)
theorem dc_in_X8 : Cond.initialized "DebtChoir" ∈ dc_tb := List.mem_filter.mpr ⟨List.mem_of_getElem? (i := 59) (by decide +kernel), by decide +kernel⟩
theorem dc_in_X0 : Cond.initialized "DebtChoir$Choir" ∈ dc_tb := List.mem_filter.mpr ⟨List.mem_of_getElem? (i := 60) (by decide +kernel), by decide +kernel⟩
theorem dc_in_X1 : Cond.initialized "DebtChoir$Fugue" ∈ dc_tb := List.mem_filter.mpr ⟨List.mem_of_getElem? (i := 66) (by decide +kernel), by decide +kernel⟩
theorem dc_in_X3 : Cond.initialized "DebtChoir$Nights" ∈ dc_tb := List.mem_filter.mpr ⟨List.mem_of_getElem? (i := 64) (by decide +kernel), by decide +kernel⟩
theorem dc_in_X4 : Cond.initialized "DebtChoir$Pad" ∈ dc_tb := List.mem_filter.mpr ⟨List.mem_of_getElem? (i := 62) (by decide +kernel), by decide +kernel⟩
theorem dc_in_X5 : Cond.initialized "DebtChoir$Rings" ∈ dc_tb := List.mem_filter.mpr ⟨List.mem_of_getElem? (i := 65) (by decide +kernel), by decide +kernel⟩
theorem dc_in_X6 : Cond.initialized "DebtChoir$Sights" ∈ dc_tb := List.mem_filter.mpr ⟨List.mem_of_getElem? (i := 61) (by decide +kernel), by decide +kernel⟩
theorem dc_in_X7 : Cond.initialized "DebtChoir$Trial" ∈ dc_tb := List.mem_filter.mpr ⟨List.mem_of_getElem? (i := 63) (by decide +kernel), by decide +kernel⟩
theorem dc_in_X9 : Cond.initialized "DebtChoirModel" ∈ dc_tb := List.mem_filter.mpr ⟨List.mem_of_getElem? (i := 68) (by decide +kernel), by decide +kernel⟩
theorem dc_in_J6 : Cond.initialized "java/lang/Integer" ∈ dc_tb := List.mem_filter.mpr ⟨List.mem_of_getElem? (i := 69) (by decide +kernel), by decide +kernel⟩
abbrev mX0_copyFrom : dc_M := (RX0, cX0_copyFrom, yX0_copyFrom, 2, none, 1, 48)
theorem dc_ok_X0_copyFrom : dc_mOk mX0_copyFrom 1 := ⟨List.mem_filter.mpr ⟨List.mem_of_getElem? (i := 421) (by decide +kernel), by decide +kernel⟩, dc_in_X0, by decide +kernel, rfl, by decide +kernel⟩
abbrev mX0_has : dc_M := (RX0, cX0_has, yX0_has, 2, (some .boolean), 0, 0)
theorem dc_ok_X0_has : dc_mOk mX0_has 1 := ⟨List.mem_filter.mpr ⟨List.mem_of_getElem? (i := 339) (by decide +kernel), by decide +kernel⟩, dc_in_X0, by decide +kernel, rfl, by decide +kernel⟩
abbrev mX0_come : dc_M := (RX0, cX0_come, yX0_come, 4, none, 1, 22)
theorem dc_ok_X0_come : dc_mOk mX0_come 3 := ⟨List.mem_filter.mpr ⟨List.mem_of_getElem? (i := 324) (by decide +kernel), by decide +kernel⟩, dc_in_X0, by decide +kernel, rfl, by decide +kernel⟩
abbrev mX0_go : dc_M := (RX0, cX0_go, yX0_go, 2, none, 2, 45)
theorem dc_ok_X0_go : dc_mOk mX0_go 1 := ⟨List.mem_filter.mpr ⟨List.mem_of_getElem? (i := 343) (by decide +kernel), by decide +kernel⟩, dc_in_X0, by decide +kernel, rfl, by decide +kernel⟩
abbrev mX0_voiceOf : dc_M := (RX0, cX0_voiceOf, yX0_voiceOf, 2, (some .int), 1, 21)
theorem dc_ok_X0_voiceOf : dc_mOk mX0_voiceOf 1 := ⟨List.mem_filter.mpr ⟨List.mem_of_getElem? (i := 558) (by decide +kernel), by decide +kernel⟩, dc_in_X0, by decide +kernel, rfl, by decide +kernel⟩
abbrev mX0_debtOf : dc_M := (RX0, cX0_debtOf, yX0_debtOf, 2, (some .int), 1, 21)
theorem dc_ok_X0_debtOf : dc_mOk mX0_debtOf 1 := ⟨List.mem_filter.mpr ⟨List.mem_of_getElem? (i := 445) (by decide +kernel), by decide +kernel⟩, dc_in_X0, by decide +kernel, rfl, by decide +kernel⟩
abbrev mX0_owe : dc_M := (RX0, cX0_owe, yX0_owe, 3, none, 1, 21)
theorem dc_ok_X0_owe : dc_mOk mX0_owe 2 := ⟨List.mem_filter.mpr ⟨List.mem_of_getElem? (i := 452) (by decide +kernel), by decide +kernel⟩, dc_in_X0, by decide +kernel, rfl, by decide +kernel⟩
abbrev mX0_allDebts : dc_M := (RX0, cX0_allDebts, yX0_allDebts, 3, (some .int), 2, 42)
theorem dc_ok_X0_allDebts : dc_mOk mX0_allDebts 0 := ⟨List.mem_filter.mpr ⟨List.mem_of_getElem? (i := 531) (by decide +kernel), by decide +kernel⟩, dc_in_X0, by decide +kernel, rfl, by decide +kernel⟩
abbrev mX0_freeSingers : dc_M := (RX0, cX0_freeSingers, yX0_freeSingers, 3, (some .int), 0, 0)
theorem dc_ok_X0_freeSingers : dc_mOk mX0_freeSingers 0 := ⟨List.mem_filter.mpr ⟨List.mem_of_getElem? (i := 429) (by decide +kernel), by decide +kernel⟩, dc_in_X0, by decide +kernel, rfl, by decide +kernel⟩
abbrev mX0_write : dc_M := (RX0, cX0_write, yX0_write, 6, none, 1, 23)
theorem dc_ok_X0_write : dc_mOk mX0_write 4 := ⟨List.mem_filter.mpr ⟨List.mem_of_getElem? (i := 363) (by decide +kernel), by decide +kernel⟩, dc_in_X0, by decide +kernel, rfl, by decide +kernel⟩
abbrev mX0_needOf : dc_M := (RX0, cX0_needOf, yX0_needOf, 4, (some .int), 1, 22)
theorem dc_ok_X0_needOf : dc_mOk mX0_needOf 2 := ⟨List.mem_filter.mpr ⟨List.mem_of_getElem? (i := 475) (by decide +kernel), by decide +kernel⟩, dc_in_X0, by decide +kernel, rfl, by decide +kernel⟩
abbrev mX0_barsOf : dc_M := (RX0, cX0_barsOf, yX0_barsOf, 2, (some .int), 1, 22)
theorem dc_ok_X0_barsOf : dc_mOk mX0_barsOf 1 := ⟨List.mem_filter.mpr ⟨List.mem_of_getElem? (i := 359) (by decide +kernel), by decide +kernel⟩, dc_in_X0, by decide +kernel, rfl, by decide +kernel⟩
abbrev mX0_payOf : dc_M := (RX0, cX0_payOf, yX0_payOf, 2, (some .int), 1, 22)
theorem dc_ok_X0_payOf : dc_mOk mX0_payOf 1 := ⟨List.mem_filter.mpr ⟨List.mem_of_getElem? (i := 488) (by decide +kernel), by decide +kernel⟩, dc_in_X0, by decide +kernel, rfl, by decide +kernel⟩
abbrev mX0_worthOf : dc_M := (RX0, cX0_worthOf, yX0_worthOf, 2, (some .int), 2, 43)
theorem dc_ok_X0_worthOf : dc_mOk mX0_worthOf 1 := ⟨List.mem_filter.mpr ⟨List.mem_of_getElem? (i := 483) (by decide +kernel), by decide +kernel⟩, dc_in_X0, by decide +kernel, rfl, by decide +kernel⟩
abbrev mX0_barsOfSet : dc_M := (RX0, cX0_barsOfSet, yX0_barsOfSet, 4, (some .int), 2, 43)
theorem dc_ok_X0_barsOfSet : dc_mOk mX0_barsOfSet 1 := ⟨List.mem_filter.mpr ⟨List.mem_of_getElem? (i := 594) (by decide +kernel), by decide +kernel⟩, dc_in_X0, by decide +kernel, rfl, by decide +kernel⟩
abbrev mX0_payOfSet : dc_M := (RX0, cX0_payOfSet, yX0_payOfSet, 5, (some .int), 3, 64)
theorem dc_ok_X0_payOfSet : dc_mOk mX0_payOfSet 1 := ⟨List.mem_filter.mpr ⟨List.mem_of_getElem? (i := 590) (by decide +kernel), by decide +kernel⟩, dc_in_X0, by decide +kernel, rfl, by decide +kernel⟩
abbrev mX0_withBreath : dc_M := (RX0, cX0_withBreath, yX0_withBreath, 4, (some .int), 0, 0)
theorem dc_ok_X0_withBreath : dc_mOk mX0_withBreath 1 := ⟨List.mem_filter.mpr ⟨List.mem_of_getElem? (i := 469) (by decide +kernel), by decide +kernel⟩, dc_in_X0, by decide +kernel, rfl, by decide +kernel⟩
abbrev mX0_readyIn : dc_M := (RX0, cX0_readyIn, yX0_readyIn, 2, (some .int), 1, 23)
theorem dc_ok_X0_readyIn : dc_mOk mX0_readyIn 1 := ⟨List.mem_filter.mpr ⟨List.mem_of_getElem? (i := 465) (by decide +kernel), by decide +kernel⟩, dc_in_X0, by decide +kernel, rfl, by decide +kernel⟩
abbrev mX0_leastFree : dc_M := (RX0, cX0_leastFree, yX0_leastFree, 6, (some .int), 1, 23)
theorem dc_ok_X0_leastFree : dc_mOk mX0_leastFree 2 := ⟨List.mem_filter.mpr ⟨List.mem_of_getElem? (i := 604) (by decide +kernel), by decide +kernel⟩, dc_in_X0, by decide +kernel, rfl, by decide +kernel⟩
abbrev mX0_canBeSung : dc_M := (RX0, cX0_canBeSung, yX0_canBeSung, 3, (some .boolean), 2, 45)
theorem dc_ok_X0_canBeSung : dc_mOk mX0_canBeSung 1 := ⟨List.mem_filter.mpr ⟨List.mem_of_getElem? (i := 461) (by decide +kernel), by decide +kernel⟩, dc_in_X0, by decide +kernel, rfl, by decide +kernel⟩
abbrev mX0_deepestOf : dc_M := (RX0, cX0_deepestOf, yX0_deepestOf, 4, (some .int), 2, 42)
theorem dc_ok_X0_deepestOf : dc_mOk mX0_deepestOf 1 := ⟨List.mem_filter.mpr ⟨List.mem_of_getElem? (i := 479) (by decide +kernel), by decide +kernel⟩, dc_in_X0, by decide +kernel, rfl, by decide +kernel⟩
abbrev mX0_sing : dc_M := (RX0, cX0_sing, yX0_sing, 4, (some .int), 3, 67)
theorem dc_ok_X0_sing : dc_mOk mX0_sing 1 := ⟨List.mem_filter.mpr ⟨List.mem_of_getElem? (i := 457) (by decide +kernel), by decide +kernel⟩, dc_in_X0, by decide +kernel, rfl, by decide +kernel⟩
abbrev mX0_singOff : dc_M := (RX0, cX0_singOff, yX0_singOff, 4, none, 2, 43)
theorem dc_ok_X0_singOff : dc_mOk mX0_singOff 2 := ⟨List.mem_filter.mpr ⟨List.mem_of_getElem? (i := 492) (by decide +kernel), by decide +kernel⟩, dc_in_X0, by decide +kernel, rfl, by decide +kernel⟩
abbrev mX0_borrow : dc_M := (RX0, cX0_borrow, yX0_borrow, 3, (some .int), 2, 43)
theorem dc_ok_X0_borrow : dc_mOk mX0_borrow 2 := ⟨List.mem_filter.mpr ⟨List.mem_of_getElem? (i := 496) (by decide +kernel), by decide +kernel⟩, dc_in_X0, by decide +kernel, rfl, by decide +kernel⟩
abbrev mX0_turnHoarse : dc_M := (RX0, cX0_turnHoarse, yX0_turnHoarse, 2, (some .int), 1, 21)
theorem dc_ok_X0_turnHoarse : dc_mOk mX0_turnHoarse 1 := ⟨List.mem_filter.mpr ⟨List.mem_of_getElem? (i := 500) (by decide +kernel), by decide +kernel⟩, dc_in_X0, by decide +kernel, rfl, by decide +kernel⟩
abbrev mX0_takeOver : dc_M := (RX0, cX0_takeOver, yX0_takeOver, 4, (some .int), 2, 43)
theorem dc_ok_X0_takeOver : dc_mOk mX0_takeOver 2 := ⟨List.mem_filter.mpr ⟨List.mem_of_getElem? (i := 504) (by decide +kernel), by decide +kernel⟩, dc_in_X0, by decide +kernel, rfl, by decide +kernel⟩
abbrev mX0_letGo : dc_M := (RX0, cX0_letGo, yX0_letGo, 2, (some .int), 2, 43)
theorem dc_ok_X0_letGo : dc_mOk mX0_letGo 1 := ⟨List.mem_filter.mpr ⟨List.mem_of_getElem? (i := 508) (by decide +kernel), by decide +kernel⟩, dc_in_X0, by decide +kernel, rfl, by decide +kernel⟩
abbrev mX0_endEvening : dc_M := (RX0, cX0_endEvening, yX0_endEvening, 3, (some .int), 2, 43)
theorem dc_ok_X0_endEvening : dc_mOk mX0_endEvening 0 := ⟨List.mem_filter.mpr ⟨List.mem_of_getElem? (i := 438) (by decide +kernel), by decide +kernel⟩, dc_in_X0, by decide +kernel, rfl, by decide +kernel⟩
abbrev mX1_start : dc_M := (RX1, cX1_start, yX1_start, 3, none, 0, 0)
theorem dc_ok_X1_start : dc_mOk mX1_start 1 := ⟨List.mem_filter.mpr ⟨List.mem_of_getElem? (i := 698) (by decide +kernel), by decide +kernel⟩, dc_in_X1, by decide +kernel, rfl, by decide +kernel⟩
abbrev mX1_evening : dc_M := (RX1, cX1_evening, yX1_evening, 4, none, 2, 43)
theorem dc_ok_X1_evening : dc_mOk mX1_evening 2 := ⟨List.mem_filter.mpr ⟨List.mem_of_getElem? (i := 702) (by decide +kernel), by decide +kernel⟩, dc_in_X1, by decide +kernel, rfl, by decide +kernel⟩
abbrev mX1_bestOf : dc_M := (RX1, cX1_bestOf, yX1_bestOf, 2, (some .long), 1, 22)
theorem dc_ok_X1_bestOf : dc_mOk mX1_bestOf 1 := ⟨List.mem_filter.mpr ⟨List.mem_of_getElem? (i := 707) (by decide +kernel), by decide +kernel⟩, dc_in_X1, by decide +kernel, rfl, by decide +kernel⟩
abbrev mX3_find : dc_M := (RX3, cX3_find, yX3_find, 6, none, 4, 97)
theorem dc_ok_X3_find : dc_mOk mX3_find 2 := ⟨List.mem_filter.mpr ⟨List.mem_of_getElem? (i := 553) (by decide +kernel), by decide +kernel⟩, dc_in_X3, by decide +kernel, rfl, by decide +kernel⟩
abbrev mX3_takePays : dc_M := (RX3, cX3_takePays, yX3_takePays, 4, none, 3, 64)
theorem dc_ok_X3_takePays : dc_mOk mX3_takePays 2 := ⟨List.mem_filter.mpr ⟨List.mem_of_getElem? (i := 562) (by decide +kernel), by decide +kernel⟩, dc_in_X3, by decide +kernel, rfl, by decide +kernel⟩
abbrev mX3_fewestFrom : dc_M := (RX3, cX3_fewestFrom, yX3_fewestFrom, 6, (some .int), 3, 72)
theorem dc_ok_X3_fewestFrom : dc_mOk mX3_fewestFrom 2 := ⟨List.mem_filter.mpr ⟨List.mem_of_getElem? (i := 568) (by decide +kernel), by decide +kernel⟩, dc_in_X3, by decide +kernel, rfl, by decide +kernel⟩
abbrev mX3_leastLeft : dc_M := (RX3, cX3_leastLeft, yX3_leastLeft, 7, (some .int), 2, 46)
theorem dc_ok_X3_leastLeft : dc_mOk mX3_leastLeft 2 := ⟨List.mem_filter.mpr ⟨List.mem_of_getElem? (i := 580) (by decide +kernel), by decide +kernel⟩, dc_in_X3, by decide +kernel, rfl, by decide +kernel⟩
abbrev mX3_afterPiece : dc_M := (RX3, cX3_afterPiece, yX3_afterPiece, 4, (some .int), 1, 23)
theorem dc_ok_X3_afterPiece : dc_mOk mX3_afterPiece 2 := ⟨List.mem_filter.mpr ⟨List.mem_of_getElem? (i := 572) (by decide +kernel), by decide +kernel⟩, dc_in_X3, by decide +kernel, rfl, by decide +kernel⟩
abbrev mX4_add : dc_M := (RX4, cX4_add, yX4_add, 2, (some .boolean), 1, 22)
theorem dc_ok_X4_add : dc_mOk mX4_add 1 := ⟨List.mem_filter.mpr ⟨List.mem_of_getElem? (i := 372) (by decide +kernel), by decide +kernel⟩, dc_in_X4, by decide +kernel, rfl, by decide +kernel⟩
abbrev mX4_signAt : dc_M := (RX4, cX4_signAt, yX4_signAt, 2, (some .int), 1, 22)
theorem dc_ok_X4_signAt : dc_mOk mX4_signAt 1 := ⟨List.mem_filter.mpr ⟨List.mem_of_getElem? (i := 393) (by decide +kernel), by decide +kernel⟩, dc_in_X4, by decide +kernel, rfl, by decide +kernel⟩
abbrev mX4_isPiece : dc_M := (RX4, cX4_isPiece, yX4_isPiece, 1, (some .boolean), 1, 22)
theorem dc_ok_X4_isPiece : dc_mOk mX4_isPiece 1 := ⟨List.mem_filter.mpr ⟨List.mem_of_getElem? (i := 396) (by decide +kernel), by decide +kernel⟩, dc_in_X4, by decide +kernel, rfl, by decide +kernel⟩
abbrev mX4_isLetter : dc_M := (RX4, cX4_isLetter, yX4_isLetter, 1, (some .boolean), 1, 22)
theorem dc_ok_X4_isLetter : dc_mOk mX4_isLetter 1 := ⟨List.mem_filter.mpr ⟨List.mem_of_getElem? (i := 399) (by decide +kernel), by decide +kernel⟩, dc_in_X4, by decide +kernel, rfl, by decide +kernel⟩
abbrev mX4_lengthOf : dc_M := (RX4, cX4_lengthOf, yX4_lengthOf, 2, (some .int), 2, 42)
theorem dc_ok_X4_lengthOf : dc_mOk mX4_lengthOf 2 := ⟨List.mem_filter.mpr ⟨List.mem_of_getElem? (i := 405) (by decide +kernel), by decide +kernel⟩, dc_in_X4, by decide +kernel, rfl, by decide +kernel⟩
abbrev mX4_isMark : dc_M := (RX4, cX4_isMark, yX4_isMark, 1, (some .boolean), 0, 0)
theorem dc_ok_X4_isMark : dc_mOk mX4_isMark 1 := ⟨List.mem_filter.mpr ⟨List.mem_of_getElem? (i := 402) (by decide +kernel), by decide +kernel⟩, dc_in_X4, by decide +kernel, rfl, by decide +kernel⟩
abbrev mX4_faultIn : dc_M := (RX4, cX4_faultIn, yX4_faultIn, 5, (some .int), 2, 43)
theorem dc_ok_X4_faultIn : dc_mOk mX4_faultIn 1 := ⟨List.mem_filter.mpr ⟨List.mem_of_getElem? (i := 389) (by decide +kernel), by decide +kernel⟩, dc_in_X4, by decide +kernel, rfl, by decide +kernel⟩
abbrev mX4_faultPlace : dc_M := (RX4, cX4_faultPlace, yX4_faultPlace, 3, (some .int), 3, 67)
theorem dc_ok_X4_faultPlace : dc_mOk mX4_faultPlace 0 := ⟨List.mem_filter.mpr ⟨List.mem_of_getElem? (i := 385) (by decide +kernel), by decide +kernel⟩, dc_in_X4, by decide +kernel, rfl, by decide +kernel⟩
abbrev mX5_start : dc_M := (RX5, cX5_start, yX5_start, 5, none, 0, 0)
theorem dc_ok_X5_start : dc_mOk mX5_start 4 := ⟨List.mem_filter.mpr ⟨List.mem_of_getElem? (i := 623) (by decide +kernel), by decide +kernel⟩, dc_in_X5, by decide +kernel, rfl, by decide +kernel⟩
abbrev mX5_swap : dc_M := (RX5, cX5_swap, yX5_swap, 4, none, 2, 46)
theorem dc_ok_X5_swap : dc_mOk mX5_swap 0 := ⟨List.mem_filter.mpr ⟨List.mem_of_getElem? (i := 627) (by decide +kernel), by decide +kernel⟩, dc_in_X5, by decide +kernel, rfl, by decide +kernel⟩
abbrev mX5_bestLeft : dc_M := (RX5, cX5_bestLeft, yX5_bestLeft, 4, (some .int), 1, 23)
theorem dc_ok_X5_bestLeft : dc_mOk mX5_bestLeft 1 := ⟨List.mem_filter.mpr ⟨List.mem_of_getElem? (i := 631) (by decide +kernel), by decide +kernel⟩, dc_in_X5, by decide +kernel, rfl, by decide +kernel⟩
abbrev mX5_isInRing : dc_M := (RX5, cX5_isInRing, yX5_isInRing, 4, (some .boolean), 1, 22)
theorem dc_ok_X5_isInRing : dc_mOk mX5_isInRing 1 := ⟨List.mem_filter.mpr ⟨List.mem_of_getElem? (i := 637) (by decide +kernel), by decide +kernel⟩, dc_in_X5, by decide +kernel, rfl, by decide +kernel⟩
abbrev mX5_partsAsDigits : dc_M := (RX5, cX5_partsAsDigits, yX5_partsAsDigits, 3, (some .int), 0, 0)
theorem dc_ok_X5_partsAsDigits : dc_mOk mX5_partsAsDigits 0 := ⟨List.mem_filter.mpr ⟨List.mem_of_getElem? (i := 642) (by decide +kernel), by decide +kernel⟩, dc_in_X5, by decide +kernel, rfl, by decide +kernel⟩
abbrev mX5_countOwn : dc_M := (RX5, cX5_countOwn, yX5_countOwn, 3, (some .int), 0, 0)
theorem dc_ok_X5_countOwn : dc_mOk mX5_countOwn 0 := ⟨List.mem_filter.mpr ⟨List.mem_of_getElem? (i := 646) (by decide +kernel), by decide +kernel⟩, dc_in_X5, by decide +kernel, rfl, by decide +kernel⟩
abbrev mX6_copyFrom : dc_M := (RX6, cX6_copyFrom, yX6_copyFrom, 2, none, 1, 48)
theorem dc_ok_X6_copyFrom : dc_mOk mX6_copyFrom 1 := ⟨List.mem_filter.mpr ⟨List.mem_of_getElem? (i := 738) (by decide +kernel), by decide +kernel⟩, dc_in_X6, by decide +kernel, rfl, by decide +kernel⟩
abbrev mX6_add : dc_M := (RX6, cX6_add, yX6_add, 3, (some .boolean), 1, 22)
theorem dc_ok_X6_add : dc_mOk mX6_add 2 := ⟨List.mem_filter.mpr ⟨List.mem_of_getElem? (i := 654) (by decide +kernel), by decide +kernel⟩, dc_in_X6, by decide +kernel, rfl, by decide +kernel⟩
abbrev mX6_sumOf : dc_M := (RX6, cX6_sumOf, yX6_sumOf, 2, (some .int), 1, 23)
theorem dc_ok_X6_sumOf : dc_mOk mX6_sumOf 2 := ⟨List.mem_filter.mpr ⟨List.mem_of_getElem? (i := 674) (by decide +kernel), by decide +kernel⟩, dc_in_X6, by decide +kernel, rfl, by decide +kernel⟩
abbrev mX6_fitsAll : dc_M := (RX6, cX6_fitsAll, yX6_fitsAll, 3, (some .boolean), 2, 44)
theorem dc_ok_X6_fitsAll : dc_mOk mX6_fitsAll 1 := ⟨List.mem_filter.mpr ⟨List.mem_of_getElem? (i := 671) (by decide +kernel), by decide +kernel⟩, dc_in_X6, by decide +kernel, rfl, by decide +kernel⟩
abbrev mX6_findRows : dc_M := (RX6, cX6_findRows, yX6_findRows, 2, none, 3, 66)
theorem dc_ok_X6_findRows : dc_mOk mX6_findRows 0 := ⟨List.mem_filter.mpr ⟨List.mem_of_getElem? (i := 667) (by decide +kernel), by decide +kernel⟩, dc_in_X6, by decide +kernel, rfl, by decide +kernel⟩
abbrev mX6_rowAt : dc_M := (RX6, cX6_rowAt, yX6_rowAt, 2, (some .int), 0, 0)
theorem dc_ok_X6_rowAt : dc_mOk mX6_rowAt 1 := ⟨List.mem_filter.mpr ⟨List.mem_of_getElem? (i := 679) (by decide +kernel), by decide +kernel⟩, dc_in_X6, by decide +kernel, rfl, by decide +kernel⟩
abbrev mX6_mostLeft : dc_M := (RX6, cX6_mostLeft, yX6_mostLeft, 5, (some .int), 2, 44)
theorem dc_ok_X6_mostLeft : dc_mOk mX6_mostLeft 1 := ⟨List.mem_filter.mpr ⟨List.mem_of_getElem? (i := 687) (by decide +kernel), by decide +kernel⟩, dc_in_X6, by decide +kernel, rfl, by decide +kernel⟩
abbrev mX7_start : dc_M := (RX7, cX7_start, yX7_start, 2, none, 2, 69)
theorem dc_ok_X7_start : dc_mOk mX7_start 1 := ⟨List.mem_filter.mpr ⟨List.mem_of_getElem? (i := 417) (by decide +kernel), by decide +kernel⟩, dc_in_X7, by decide +kernel, rfl, by decide +kernel⟩
abbrev mX7_play : dc_M := (RX7, cX7_play, yX7_play, 6, (some .int), 5, 114)
theorem dc_ok_X7_play : dc_mOk mX7_play 2 := ⟨List.mem_filter.mpr ⟨List.mem_of_getElem? (i := 413) (by decide +kernel), by decide +kernel⟩, dc_in_X7, by decide +kernel, rfl, by decide +kernel⟩
abbrev mX7_noteFreed : dc_M := (RX7, cX7_noteFreed, yX7_noteFreed, 2, none, 1, 21)
theorem dc_ok_X7_noteFreed : dc_mOk mX7_noteFreed 1 := ⟨List.mem_filter.mpr ⟨List.mem_of_getElem? (i := 512) (by decide +kernel), by decide +kernel⟩, dc_in_X7, by decide +kernel, rfl, by decide +kernel⟩
abbrev mX7_act : dc_M := (RX7, cX7_act, yX7_act, 5, (some .int), 4, 90)
theorem dc_ok_X7_act : dc_mOk mX7_act 3 := ⟨List.mem_filter.mpr ⟨List.mem_of_getElem? (i := 434) (by decide +kernel), by decide +kernel⟩, dc_in_X7, by decide +kernel, rfl, by decide +kernel⟩
abbrev mX7_draw : dc_M := (RX7, cX7_draw, yX7_draw, 4, none, 4, 90)
theorem dc_ok_X7_draw : dc_mOk mX7_draw 1 := ⟨List.mem_filter.mpr ⟨List.mem_of_getElem? (i := 729) (by decide +kernel), by decide +kernel⟩, dc_in_X7, by decide +kernel, rfl, by decide +kernel⟩
abbrev mX8_singer : dc_M := (RX8, cX8_singer, yX8_singer, 4, (some .int), 2, 45)
theorem dc_ok_X8_singer : dc_mOk mX8_singer 3 := ⟨List.mem_filter.mpr ⟨List.mem_of_getElem? (i := 317) (by decide +kernel), by decide +kernel⟩, dc_in_X8, by decide +kernel, rfl, by decide +kernel⟩
abbrev mX8_leave : dc_M := (RX8, cX8_leave, yX8_leave, 2, (some .int), 3, 66)
theorem dc_ok_X8_leave : dc_mOk mX8_leave 1 := ⟨List.mem_filter.mpr ⟨List.mem_of_getElem? (i := 335) (by decide +kernel), by decide +kernel⟩, dc_in_X8, by decide +kernel, rfl, by decide +kernel⟩
abbrev mX8_piece : dc_M := (RX8, cX8_piece, yX8_piece, 6, (some .int), 2, 48)
theorem dc_ok_X8_piece : dc_mOk mX8_piece 4 := ⟨List.mem_filter.mpr ⟨List.mem_of_getElem? (i := 349) (by decide +kernel), by decide +kernel⟩, dc_in_X8, by decide +kernel, rfl, by decide +kernel⟩
abbrev mX8_say : dc_M := (RX8, cX8_say, yX8_say, 2, (some .int), 2, 43)
theorem dc_ok_X8_say : dc_mOk mX8_say 1 := ⟨List.mem_filter.mpr ⟨List.mem_of_getElem? (i := 368) (by decide +kernel), by decide +kernel⟩, dc_in_X8, by decide +kernel, rfl, by decide +kernel⟩
abbrev mX8_wipe : dc_M := (RX8, cX8_wipe, yX8_wipe, 2, (some .int), 0, 0)
theorem dc_ok_X8_wipe : dc_mOk mX8_wipe 0 := ⟨List.mem_filter.mpr ⟨List.mem_of_getElem? (i := 377) (by decide +kernel), by decide +kernel⟩, dc_in_X8, by decide +kernel, rfl, by decide +kernel⟩
abbrev mX8_fault : dc_M := (RX8, cX8_fault, yX8_fault, 1, (some .int), 4, 89)
theorem dc_ok_X8_fault : dc_mOk mX8_fault 0 := ⟨List.mem_filter.mpr ⟨List.mem_of_getElem? (i := 381) (by decide +kernel), by decide +kernel⟩, dc_in_X8, by decide +kernel, rfl, by decide +kernel⟩
abbrev mX8_judge : dc_M := (RX8, cX8_judge, yX8_judge, 3, (some .int), 6, 139)
theorem dc_ok_X8_judge : dc_mOk mX8_judge 1 := ⟨List.mem_filter.mpr ⟨List.mem_of_getElem? (i := 409) (by decide +kernel), by decide +kernel⟩, dc_in_X8, by decide +kernel, rfl, by decide +kernel⟩
abbrev mX8_behind : dc_M := (RX8, cX8_behind, yX8_behind, 4, (some .int), 6, 139)
theorem dc_ok_X8_behind : dc_mOk mX8_behind 2 := ⟨List.mem_filter.mpr ⟨List.mem_of_getElem? (i := 521) (by decide +kernel), by decide +kernel⟩, dc_in_X8, by decide +kernel, rfl, by decide +kernel⟩
abbrev mX8_owed : dc_M := (RX8, cX8_owed, yX8_owed, 3, (some .int), 6, 139)
theorem dc_ok_X8_owed : dc_mOk mX8_owed 1 := ⟨List.mem_filter.mpr ⟨List.mem_of_getElem? (i := 527) (by decide +kernel), by decide +kernel⟩, dc_in_X8, by decide +kernel, rfl, by decide +kernel⟩
abbrev mX8_freed : dc_M := (RX8, cX8_freed, yX8_freed, 3, (some .int), 6, 139)
theorem dc_ok_X8_freed : dc_mOk mX8_freed 1 := ⟨List.mem_filter.mpr ⟨List.mem_of_getElem? (i := 535) (by decide +kernel), by decide +kernel⟩, dc_in_X8, by decide +kernel, rfl, by decide +kernel⟩
abbrev mX8_done : dc_M := (RX8, cX8_done, yX8_done, 2, (some .int), 6, 139)
theorem dc_ok_X8_done : dc_mOk mX8_done 0 := ⟨List.mem_filter.mpr ⟨List.mem_of_getElem? (i := 539) (by decide +kernel), by decide +kernel⟩, dc_in_X8, by decide +kernel, rfl, by decide +kernel⟩
abbrev mX8_may : dc_M := (RX8, cX8_may, yX8_may, 3, (some .int), 3, 67)
theorem dc_ok_X8_may : dc_mOk mX8_may 0 := ⟨List.mem_filter.mpr ⟨List.mem_of_getElem? (i := 544) (by decide +kernel), by decide +kernel⟩, dc_in_X8, by decide +kernel, rfl, by decide +kernel⟩
abbrev mX8_nights : dc_M := (RX8, cX8_nights, yX8_nights, 3, (some .int), 5, 122)
theorem dc_ok_X8_nights : dc_mOk mX8_nights 2 := ⟨List.mem_filter.mpr ⟨List.mem_of_getElem? (i := 549) (by decide +kernel), by decide +kernel⟩, dc_in_X8, by decide +kernel, rfl, by decide +kernel⟩
abbrev mX8_programme : dc_M := (RX8, cX8_programme, yX8_programme, 7, (some .int), 4, 88)
theorem dc_ok_X8_programme : dc_mOk mX8_programme 2 := ⟨List.mem_filter.mpr ⟨List.mem_of_getElem? (i := 586) (by decide +kernel), by decide +kernel⟩, dc_in_X8, by decide +kernel, rfl, by decide +kernel⟩
abbrev mX8_ruin : dc_M := (RX8, cX8_ruin, yX8_ruin, 7, (some .int), 2, 48)
theorem dc_ok_X8_ruin : dc_mOk mX8_ruin 2 := ⟨List.mem_filter.mpr ⟨List.mem_of_getElem? (i := 598) (by decide +kernel), by decide +kernel⟩, dc_in_X8, by decide +kernel, rfl, by decide +kernel⟩
abbrev mX8_seats : dc_M := (RX8, cX8_seats, yX8_seats, 8, (some .int), 2, 48)
theorem dc_ok_X8_seats : dc_mOk mX8_seats 3 := ⟨List.mem_filter.mpr ⟨List.mem_of_getElem? (i := 608) (by decide +kernel), by decide +kernel⟩, dc_in_X8, by decide +kernel, rfl, by decide +kernel⟩
abbrev mX8_rings : dc_M := (RX8, cX8_rings, yX8_rings, 6, (some .int), 3, 69)
theorem dc_ok_X8_rings : dc_mOk mX8_rings 5 := ⟨List.mem_filter.mpr ⟨List.mem_of_getElem? (i := 616) (by decide +kernel), by decide +kernel⟩, dc_in_X8, by decide +kernel, rfl, by decide +kernel⟩
abbrev mX8_seen : dc_M := (RX8, cX8_seen, yX8_seen, 3, (some .int), 2, 44)
theorem dc_ok_X8_seen : dc_mOk mX8_seen 2 := ⟨List.mem_filter.mpr ⟨List.mem_of_getElem? (i := 650) (by decide +kernel), by decide +kernel⟩, dc_in_X8, by decide +kernel, rfl, by decide +kernel⟩
abbrev mX8_forget : dc_M := (RX8, cX8_forget, yX8_forget, 2, (some .int), 0, 0)
theorem dc_ok_X8_forget : dc_mOk mX8_forget 0 := ⟨List.mem_filter.mpr ⟨List.mem_of_getElem? (i := 659) (by decide +kernel), by decide +kernel⟩, dc_in_X8, by decide +kernel, rfl, by decide +kernel⟩
abbrev mX8_holds : dc_M := (RX8, cX8_holds, yX8_holds, 2, (some .int), 4, 87)
theorem dc_ok_X8_holds : dc_mOk mX8_holds 1 := ⟨List.mem_filter.mpr ⟨List.mem_of_getElem? (i := 663) (by decide +kernel), by decide +kernel⟩, dc_in_X8, by decide +kernel, rfl, by decide +kernel⟩
abbrev mX8_ask : dc_M := (RX8, cX8_ask, yX8_ask, 6, (some .int), 4, 87)
theorem dc_ok_X8_ask : dc_mOk mX8_ask 1 := ⟨List.mem_filter.mpr ⟨List.mem_of_getElem? (i := 683) (by decide +kernel), by decide +kernel⟩, dc_in_X8, by decide +kernel, rfl, by decide +kernel⟩
abbrev mX8_fugue : dc_M := (RX8, cX8_fugue, yX8_fugue, 12, (some .long), 3, 66)
theorem dc_ok_X8_fugue : dc_mOk mX8_fugue 7 := ⟨List.mem_filter.mpr ⟨List.mem_of_getElem? (i := 693) (by decide +kernel), by decide +kernel⟩, dc_in_X8, by decide +kernel, rfl, by decide +kernel⟩
abbrev mX8_year : dc_M := (RX8, cX8_year, yX8_year, 6, (some .int), 5, 113)
theorem dc_ok_X8_year : dc_mOk mX8_year 3 := ⟨List.mem_filter.mpr ⟨List.mem_of_getElem? (i := 723) (by decide +kernel), by decide +kernel⟩, dc_in_X8, by decide +kernel, rfl, by decide +kernel⟩
abbrev mX8_image : dc_M := (RX8, cX8_image, yX8_image, 3, (some .int), 2, 69)
theorem dc_ok_X8_image : dc_mOk mX8_image 1 := ⟨List.mem_filter.mpr ⟨List.mem_of_getElem? (i := 734) (by decide +kernel), by decide +kernel⟩, dc_in_X8, by decide +kernel, rfl, by decide +kernel⟩
abbrev mX8_restore : dc_M := (RX8, cX8_restore, yX8_restore, 3, (some .int), 2, 69)
theorem dc_ok_X8_restore : dc_mOk mX8_restore 1 := ⟨List.mem_filter.mpr ⟨List.mem_of_getElem? (i := 743) (by decide +kernel), by decide +kernel⟩, dc_in_X8, by decide +kernel, rfl, by decide +kernel⟩
abbrev mX8_told : dc_M := (RX8, cX8_told, yX8_told, 2, (some .int), 3, 67)
theorem dc_ok_X8_told : dc_mOk mX8_told 1 := ⟨List.mem_filter.mpr ⟨List.mem_of_getElem? (i := 747) (by decide +kernel), by decide +kernel⟩, dc_in_X8, by decide +kernel, rfl, by decide +kernel⟩
abbrev mX8_tellSinger : dc_M := (RX8, cX8_tellSinger, yX8_tellSinger, 3, (some .int), 2, 42)
theorem dc_ok_X8_tellSinger : dc_mOk mX8_tellSinger 2 := ⟨List.mem_filter.mpr ⟨List.mem_of_getElem? (i := 756) (by decide +kernel), by decide +kernel⟩, dc_in_X8, by decide +kernel, rfl, by decide +kernel⟩
abbrev mX8_tellPiece : dc_M := (RX8, cX8_tellPiece, yX8_tellPiece, 3, (some .int), 2, 45)
theorem dc_ok_X8_tellPiece : dc_mOk mX8_tellPiece 2 := ⟨List.mem_filter.mpr ⟨List.mem_of_getElem? (i := 751) (by decide +kernel), by decide +kernel⟩, dc_in_X8, by decide +kernel, rfl, by decide +kernel⟩
abbrev mX8_placeOfBid : dc_M := (RX8, cX8_placeOfBid, yX8_placeOfBid, 6, (some .int), 1, 23)
theorem dc_ok_X8_placeOfBid : dc_mOk mX8_placeOfBid 2 := ⟨List.mem_filter.mpr ⟨List.mem_of_getElem? (i := 612) (by decide +kernel), by decide +kernel⟩, dc_in_X8, by decide +kernel, rfl, by decide +kernel⟩
abbrev mX8_areNeeds : dc_M := (RX8, cX8_areNeeds, yX8_areNeeds, 2, (some .boolean), 1, 23)
theorem dc_ok_X8_areNeeds : dc_mOk mX8_areNeeds 1 := ⟨List.mem_filter.mpr ⟨List.mem_of_getElem? (i := 352) (by decide +kernel), by decide +kernel⟩, dc_in_X8, by decide +kernel, rfl, by decide +kernel⟩
abbrev mX8_areRanks : dc_M := (RX8, cX8_areRanks, yX8_areRanks, 3, (some .boolean), 1, 23)
theorem dc_ok_X8_areRanks : dc_mOk mX8_areRanks 1 := ⟨List.mem_filter.mpr ⟨List.mem_of_getElem? (i := 619) (by decide +kernel), by decide +kernel⟩, dc_in_X8, by decide +kernel, rfl, by decide +kernel⟩
abbrev mX8_digitOf : dc_M := (RX8, cX8_digitOf, yX8_digitOf, 4, (some .int), 0, 0)
theorem dc_ok_X8_digitOf : dc_mOk mX8_digitOf 2 := ⟨List.mem_filter.mpr ⟨List.mem_of_getElem? (i := 355) (by decide +kernel), by decide +kernel⟩, dc_in_X8, by decide +kernel, rfl, by decide +kernel⟩
abbrev mX8_within : dc_M := (RX8, cX8_within, yX8_within, 3, (some .boolean), 0, 0)
theorem dc_ok_X8_within : dc_mOk mX8_within 3 := ⟨List.mem_filter.mpr ⟨List.mem_of_getElem? (i := 320) (by decide +kernel), by decide +kernel⟩, dc_in_X8, by decide +kernel, rfl, by decide +kernel⟩
abbrev mX8_bit : dc_M := (RX8, cX8_bit, yX8_bit, 2, (some .int), 0, 0)
theorem dc_ok_X8_bit : dc_mOk mX8_bit 2 := ⟨List.mem_filter.mpr ⟨List.mem_of_getElem? (i := 441) (by decide +kernel), by decide +kernel⟩, dc_in_X8, by decide +kernel, rfl, by decide +kernel⟩
abbrev mX8_commonDivisor : dc_M := (RX8, cX8_commonDivisor, yX8_commonDivisor, 11, (some .long), 1, 23)
theorem dc_ok_X8_commonDivisor : dc_mOk mX8_commonDivisor 2 := ⟨List.mem_filter.mpr ⟨List.mem_of_getElem? (i := 713) (by decide +kernel), by decide +kernel⟩, dc_in_X8, by decide +kernel, rfl, by decide +kernel⟩
abbrev mX9_in : dc_M := (RX9, cX9_in, yX9_in, 6, (some .boolean), 0, 0)
theorem dc_ok_X9_in : dc_mOk mX9_in 3 := ⟨List.mem_filter.mpr ⟨List.mem_of_getElem? (i := 881) (by decide +kernel), by decide +kernel⟩, dc_in_X9, by decide +kernel, rfl, by decide +kernel⟩
abbrev mX9_bitsOf : dc_M := (RX9, cX9_bitsOf, yX9_bitsOf, 3, (some .int), 0, 0)
theorem dc_ok_X9_bitsOf : dc_mOk mX9_bitsOf 1 := ⟨List.mem_filter.mpr ⟨List.mem_of_getElem? (i := 886) (by decide +kernel), by decide +kernel⟩, dc_in_X9, by decide +kernel, rfl, by decide +kernel⟩
abbrev mX9_isSinger : dc_M := (RX9, cX9_isSinger, yX9_isSinger, 2, (some .boolean), 1, 25)
theorem dc_ok_X9_isSinger : dc_mOk mX9_isSinger 1 := ⟨List.mem_filter.mpr ⟨List.mem_of_getElem? (i := 894) (by decide +kernel), by decide +kernel⟩, dc_in_X9, by decide +kernel, rfl, by decide +kernel⟩
abbrev mX9_singer : dc_M := (RX9, cX9_singer, yX9_singer, 4, (some .int), 1, 25)
theorem dc_ok_X9_singer : dc_mOk mX9_singer 3 := ⟨List.mem_filter.mpr ⟨List.mem_of_getElem? (i := 877) (by decide +kernel), by decide +kernel⟩, dc_in_X9, by decide +kernel, rfl, by decide +kernel⟩
abbrev mX9_leave : dc_M := (RX9, cX9_leave, yX9_leave, 2, (some .int), 2, 46)
theorem dc_ok_X9_leave : dc_mOk mX9_leave 1 := ⟨List.mem_filter.mpr ⟨List.mem_of_getElem? (i := 890) (by decide +kernel), by decide +kernel⟩, dc_in_X9, by decide +kernel, rfl, by decide +kernel⟩
abbrev mX9_areNeeds : dc_M := (RX9, cX9_areNeeds, yX9_areNeeds, 4, (some .boolean), 1, 25)
theorem dc_ok_X9_areNeeds : dc_mOk mX9_areNeeds 1 := ⟨List.mem_filter.mpr ⟨List.mem_of_getElem? (i := 902) (by decide +kernel), by decide +kernel⟩, dc_in_X9, by decide +kernel, rfl, by decide +kernel⟩
abbrev mX9_piece : dc_M := (RX9, cX9_piece, yX9_piece, 8, (some .int), 2, 48)
theorem dc_ok_X9_piece : dc_mOk mX9_piece 4 := ⟨List.mem_filter.mpr ⟨List.mem_of_getElem? (i := 898) (by decide +kernel), by decide +kernel⟩, dc_in_X9, by decide +kernel, rfl, by decide +kernel⟩
abbrev mX9_say : dc_M := (RX9, cX9_say, yX9_say, 2, (some .int), 1, 25)
theorem dc_ok_X9_say : dc_mOk mX9_say 1 := ⟨List.mem_filter.mpr ⟨List.mem_of_getElem? (i := 909) (by decide +kernel), by decide +kernel⟩, dc_in_X9, by decide +kernel, rfl, by decide +kernel⟩
abbrev mX9_wipe : dc_M := (RX9, cX9_wipe, yX9_wipe, 2, (some .int), 0, 0)
theorem dc_ok_X9_wipe : dc_mOk mX9_wipe 0 := ⟨List.mem_filter.mpr ⟨List.mem_of_getElem? (i := 915) (by decide +kernel), by decide +kernel⟩, dc_in_X9, by decide +kernel, rfl, by decide +kernel⟩
abbrev mX9_close : dc_M := (RX9, cX9_close, yX9_close, 3, (some .int), 0, 0)
theorem dc_ok_X9_close : dc_mOk mX9_close 2 := ⟨List.mem_filter.mpr ⟨List.mem_of_getElem? (i := 935) (by decide +kernel), by decide +kernel⟩, dc_in_X9, by decide +kernel, rfl, by decide +kernel⟩
abbrev mX9_begin : dc_M := (RX9, cX9_begin, yX9_begin, 4, (some .int), 1, 25)
theorem dc_ok_X9_begin : dc_mOk mX9_begin 1 := ⟨List.mem_filter.mpr ⟨List.mem_of_getElem? (i := 927) (by decide +kernel), by decide +kernel⟩, dc_in_X9, by decide +kernel, rfl, by decide +kernel⟩
abbrev mX9_readOn : dc_M := (RX9, cX9_readOn, yX9_readOn, 3, (some .int), 2, 48)
theorem dc_ok_X9_readOn : dc_mOk mX9_readOn 2 := ⟨List.mem_filter.mpr ⟨List.mem_of_getElem? (i := 923) (by decide +kernel), by decide +kernel⟩, dc_in_X9, by decide +kernel, rfl, by decide +kernel⟩
abbrev mX9_fault : dc_M := (RX9, cX9_fault, yX9_fault, 3, (some .int), 3, 70)
theorem dc_ok_X9_fault : dc_mOk mX9_fault 0 := ⟨List.mem_filter.mpr ⟨List.mem_of_getElem? (i := 919) (by decide +kernel), by decide +kernel⟩, dc_in_X9, by decide +kernel, rfl, by decide +kernel⟩
abbrev mX9_mayHere : dc_M := (RX9, cX9_mayHere, yX9_mayHere, 3, (some .boolean), 2, 46)
theorem dc_ok_X9_mayHere : dc_mOk mX9_mayHere 2 := ⟨List.mem_filter.mpr ⟨List.mem_of_getElem? (i := 971) (by decide +kernel), by decide +kernel⟩, dc_in_X9, by decide +kernel, rfl, by decide +kernel⟩
abbrev mX9_ready : dc_M := (RX9, cX9_ready, yX9_ready, 5, (some .int), 3, 68)
theorem dc_ok_X9_ready : dc_mOk mX9_ready 2 := ⟨List.mem_filter.mpr ⟨List.mem_of_getElem? (i := 967) (by decide +kernel), by decide +kernel⟩, dc_in_X9, by decide +kernel, rfl, by decide +kernel⟩
abbrev mX9_canBeSung : dc_M := (RX9, cX9_canBeSung, yX9_canBeSung, 4, (some .boolean), 4, 92)
theorem dc_ok_X9_canBeSung : dc_mOk mX9_canBeSung 1 := ⟨List.mem_filter.mpr ⟨List.mem_of_getElem? (i := 963) (by decide +kernel), by decide +kernel⟩, dc_in_X9, by decide +kernel, rfl, by decide +kernel⟩
abbrev mX9_whyNotTake : dc_M := (RX9, cX9_whyNotTake, yX9_whyNotTake, 3, (some .int), 2, 46)
theorem dc_ok_X9_whyNotTake : dc_mOk mX9_whyNotTake 2 := ⟨List.mem_filter.mpr ⟨List.mem_of_getElem? (i := 975) (by decide +kernel), by decide +kernel⟩, dc_in_X9, by decide +kernel, rfl, by decide +kernel⟩
abbrev mX9_whyNot : dc_M := (RX9, cX9_whyNot, yX9_whyNot, 4, (some .int), 5, 115)
theorem dc_ok_X9_whyNot : dc_mOk mX9_whyNot 3 := ⟨List.mem_filter.mpr ⟨List.mem_of_getElem? (i := 959) (by decide +kernel), by decide +kernel⟩, dc_in_X9, by decide +kernel, rfl, by decide +kernel⟩
abbrev mX9_singOne : dc_M := (RX9, cX9_singOne, yX9_singOne, 6, none, 3, 68)
theorem dc_ok_X9_singOne : dc_mOk mX9_singOne 2 := ⟨List.mem_filter.mpr ⟨List.mem_of_getElem? (i := 995) (by decide +kernel), by decide +kernel⟩, dc_in_X9, by decide +kernel, rfl, by decide +kernel⟩
abbrev mX9_singPiece : dc_M := (RX9, cX9_singPiece, yX9_singPiece, 4, none, 4, 93)
theorem dc_ok_X9_singPiece : dc_mOk mX9_singPiece 1 := ⟨List.mem_filter.mpr ⟨List.mem_of_getElem? (i := 991) (by decide +kernel), by decide +kernel⟩, dc_in_X9, by decide +kernel, rfl, by decide +kernel⟩
abbrev mX9_endEvening : dc_M := (RX9, cX9_endEvening, yX9_endEvening, 4, none, 2, 46)
theorem dc_ok_X9_endEvening : dc_mOk mX9_endEvening 0 := ⟨List.mem_filter.mpr ⟨List.mem_of_getElem? (i := 999) (by decide +kernel), by decide +kernel⟩, dc_in_X9, by decide +kernel, rfl, by decide +kernel⟩
abbrev mX9_happen : dc_M := (RX9, cX9_happen, yX9_happen, 4, none, 5, 116)
theorem dc_ok_X9_happen : dc_mOk mX9_happen 3 := ⟨List.mem_filter.mpr ⟨List.mem_of_getElem? (i := 987) (by decide +kernel), by decide +kernel⟩, dc_in_X9, by decide +kernel, rfl, by decide +kernel⟩
abbrev mX9_keepNow : dc_M := (RX9, cX9_keepNow, yX9_keepNow, 2, none, 0, 0)
theorem dc_ok_X9_keepNow : dc_mOk mX9_keepNow 0 := ⟨List.mem_filter.mpr ⟨List.mem_of_getElem? (i := 950) (by decide +kernel), by decide +kernel⟩, dc_in_X9, by decide +kernel, rfl, by decide +kernel⟩
abbrev mX9_back : dc_M := (RX9, cX9_back, yX9_back, 3, (some .int), 0, 0)
theorem dc_ok_X9_back : dc_mOk mX9_back 1 := ⟨List.mem_filter.mpr ⟨List.mem_of_getElem? (i := 1006) (by decide +kernel), by decide +kernel⟩, dc_in_X9, by decide +kernel, rfl, by decide +kernel⟩
abbrev mX9_owing : dc_M := (RX9, cX9_owing, yX9_owing, 3, (some .int), 2, 46)
theorem dc_ok_X9_owing : dc_mOk mX9_owing 0 := ⟨List.mem_filter.mpr ⟨List.mem_of_getElem? (i := 983) (by decide +kernel), by decide +kernel⟩, dc_in_X9, by decide +kernel, rfl, by decide +kernel⟩
abbrev mX9_leastOf : dc_M := (RX9, cX9_leastOf, yX9_leastOf, 2, (some .int), 0, 0)
theorem dc_ok_X9_leastOf : dc_mOk mX9_leastOf 1 := ⟨List.mem_filter.mpr ⟨List.mem_of_getElem? (i := 1002) (by decide +kernel), by decide +kernel⟩, dc_in_X9, by decide +kernel, rfl, by decide +kernel⟩
abbrev mX9_goEvenings : dc_M := (RX9, cX9_goEvenings, yX9_goEvenings, 3, none, 7, 162)
theorem dc_ok_X9_goEvenings : dc_mOk mX9_goEvenings 0 := ⟨List.mem_filter.mpr ⟨List.mem_of_getElem? (i := 955) (by decide +kernel), by decide +kernel⟩, dc_in_X9, by decide +kernel, rfl, by decide +kernel⟩
abbrev mX9_goOne : dc_M := (RX9, cX9_goOne, yX9_goOne, 4, none, 6, 139)
theorem dc_ok_X9_goOne : dc_mOk mX9_goOne 1 := ⟨List.mem_filter.mpr ⟨List.mem_of_getElem? (i := 979) (by decide +kernel), by decide +kernel⟩, dc_in_X9, by decide +kernel, rfl, by decide +kernel⟩
abbrev mX9_refusal : dc_M := (RX9, cX9_refusal, yX9_refusal, 1, (some .int), 8, 184)
theorem dc_ok_X9_refusal : dc_mOk mX9_refusal 0 := ⟨List.mem_filter.mpr ⟨List.mem_of_getElem? (i := 946) (by decide +kernel), by decide +kernel⟩, dc_in_X9, by decide +kernel, rfl, by decide +kernel⟩
abbrev mX9_judge : dc_M := (RX9, cX9_judge, yX9_judge, 3, (some .int), 9, 204)
theorem dc_ok_X9_judge : dc_mOk mX9_judge 1 := ⟨List.mem_filter.mpr ⟨List.mem_of_getElem? (i := 941) (by decide +kernel), by decide +kernel⟩, dc_in_X9, by decide +kernel, rfl, by decide +kernel⟩
abbrev mX9_behind : dc_M := (RX9, cX9_behind, yX9_behind, 5, (some .int), 9, 204)
theorem dc_ok_X9_behind : dc_mOk mX9_behind 2 := ⟨List.mem_filter.mpr ⟨List.mem_of_getElem? (i := 1010) (by decide +kernel), by decide +kernel⟩, dc_in_X9, by decide +kernel, rfl, by decide +kernel⟩
abbrev mX9_allDebts : dc_M := (RX9, cX9_allDebts, yX9_allDebts, 3, (some .int), 2, 46)
theorem dc_ok_X9_allDebts : dc_mOk mX9_allDebts 0 := ⟨List.mem_filter.mpr ⟨List.mem_of_getElem? (i := 1018) (by decide +kernel), by decide +kernel⟩, dc_in_X9, by decide +kernel, rfl, by decide +kernel⟩
abbrev mX9_owed : dc_M := (RX9, cX9_owed, yX9_owed, 3, (some .int), 9, 204)
theorem dc_ok_X9_owed : dc_mOk mX9_owed 1 := ⟨List.mem_filter.mpr ⟨List.mem_of_getElem? (i := 1014) (by decide +kernel), by decide +kernel⟩, dc_in_X9, by decide +kernel, rfl, by decide +kernel⟩
abbrev mX9_freed : dc_M := (RX9, cX9_freed, yX9_freed, 3, (some .int), 9, 204)
theorem dc_ok_X9_freed : dc_mOk mX9_freed 1 := ⟨List.mem_filter.mpr ⟨List.mem_of_getElem? (i := 1022) (by decide +kernel), by decide +kernel⟩, dc_in_X9, by decide +kernel, rfl, by decide +kernel⟩
abbrev mX9_done : dc_M := (RX9, cX9_done, yX9_done, 2, (some .int), 9, 204)
theorem dc_ok_X9_done : dc_mOk mX9_done 0 := ⟨List.mem_filter.mpr ⟨List.mem_of_getElem? (i := 1026) (by decide +kernel), by decide +kernel⟩, dc_in_X9, by decide +kernel, rfl, by decide +kernel⟩
abbrev mX9_may : dc_M := (RX9, cX9_may, yX9_may, 3, (some .int), 5, 115)
theorem dc_ok_X9_may : dc_mOk mX9_may 0 := ⟨List.mem_filter.mpr ⟨List.mem_of_getElem? (i := 1030) (by decide +kernel), by decide +kernel⟩, dc_in_X9, by decide +kernel, rfl, by decide +kernel⟩
abbrev mX9_behindNight : dc_M := (RX9, cX9_behindNight, yX9_behindNight, 3, (some .int), 0, 0)
theorem dc_ok_X9_behindNight : dc_mOk mX9_behindNight 2 := ⟨List.mem_filter.mpr ⟨List.mem_of_getElem? (i := 1049) (by decide +kernel), by decide +kernel⟩, dc_in_X9, by decide +kernel, rfl, by decide +kernel⟩
abbrev mX9_isFor : dc_M := (RX9, cX9_isFor, yX9_isFor, 3, (some .boolean), 0, 0)
theorem dc_ok_X9_isFor : dc_mOk mX9_isFor 2 := ⟨List.mem_filter.mpr ⟨List.mem_of_getElem? (i := 1046) (by decide +kernel), by decide +kernel⟩, dc_in_X9, by decide +kernel, rfl, by decide +kernel⟩
abbrev mX9_bestOwed : dc_M := (RX9, cX9_bestOwed, yX9_bestOwed, 8, (some .int), 1, 22)
theorem dc_ok_X9_bestOwed : dc_mOk mX9_bestOwed 2 := ⟨List.mem_filter.mpr ⟨List.mem_of_getElem? (i := 1042) (by decide +kernel), by decide +kernel⟩, dc_in_X9, by decide +kernel, rfl, by decide +kernel⟩
abbrev mX9_fewestNights : dc_M := (RX9, cX9_fewestNights, yX9_fewestNights, 8, (some .int), 2, 49)
theorem dc_ok_X9_fewestNights : dc_mOk mX9_fewestNights 3 := ⟨List.mem_filter.mpr ⟨List.mem_of_getElem? (i := 1038) (by decide +kernel), by decide +kernel⟩, dc_in_X9, by decide +kernel, rfl, by decide +kernel⟩
abbrev mX9_firstNight : dc_M := (RX9, cX9_firstNight, yX9_firstNight, 5, (some .int), 3, 76)
theorem dc_ok_X9_firstNight : dc_mOk mX9_firstNight 2 := ⟨List.mem_filter.mpr ⟨List.mem_of_getElem? (i := 1053) (by decide +kernel), by decide +kernel⟩, dc_in_X9, by decide +kernel, rfl, by decide +kernel⟩
abbrev mX9_nights : dc_M := (RX9, cX9_nights, yX9_nights, 4, (some .int), 4, 100)
theorem dc_ok_X9_nights : dc_mOk mX9_nights 2 := ⟨List.mem_filter.mpr ⟨List.mem_of_getElem? (i := 1034) (by decide +kernel), by decide +kernel⟩, dc_in_X9, by decide +kernel, rfl, by decide +kernel⟩
abbrev mX9_needsOf : dc_M := (RX9, cX9_needsOf, yX9_needsOf, 2, (some .int), 0, 0)
theorem dc_ok_X9_needsOf : dc_mOk mX9_needsOf 1 := ⟨List.mem_filter.mpr ⟨List.mem_of_getElem? (i := 1070) (by decide +kernel), by decide +kernel⟩, dc_in_X9, by decide +kernel, rfl, by decide +kernel⟩
abbrev mX9_barsOf : dc_M := (RX9, cX9_barsOf, yX9_barsOf, 4, (some .int), 0, 0)
theorem dc_ok_X9_barsOf : dc_mOk mX9_barsOf 1 := ⟨List.mem_filter.mpr ⟨List.mem_of_getElem? (i := 1062) (by decide +kernel), by decide +kernel⟩, dc_in_X9, by decide +kernel, rfl, by decide +kernel⟩
abbrev mX9_paysOf : dc_M := (RX9, cX9_paysOf, yX9_paysOf, 4, (some .int), 1, 21)
theorem dc_ok_X9_paysOf : dc_mOk mX9_paysOf 1 := ⟨List.mem_filter.mpr ⟨List.mem_of_getElem? (i := 1066) (by decide +kernel), by decide +kernel⟩, dc_in_X9, by decide +kernel, rfl, by decide +kernel⟩
abbrev mX9_programme : dc_M := (RX9, cX9_programme, yX9_programme, 5, (some .int), 2, 44)
theorem dc_ok_X9_programme : dc_mOk mX9_programme 2 := ⟨List.mem_filter.mpr ⟨List.mem_of_getElem? (i := 1057) (by decide +kernel), by decide +kernel⟩, dc_in_X9, by decide +kernel, rfl, by decide +kernel⟩
abbrev mX9_ruined : dc_M := (RX9, cX9_ruined, yX9_ruined, 6, (some .int), 3, 68)
theorem dc_ok_X9_ruined : dc_mOk mX9_ruined 2 := ⟨List.mem_filter.mpr ⟨List.mem_of_getElem? (i := 1078) (by decide +kernel), by decide +kernel⟩, dc_in_X9, by decide +kernel, rfl, by decide +kernel⟩
abbrev mX9_ruin : dc_M := (RX9, cX9_ruin, yX9_ruin, 6, (some .int), 4, 93)
theorem dc_ok_X9_ruin : dc_mOk mX9_ruin 2 := ⟨List.mem_filter.mpr ⟨List.mem_of_getElem? (i := 1074) (by decide +kernel), by decide +kernel⟩, dc_in_X9, by decide +kernel, rfl, by decide +kernel⟩
abbrev mX9_ahead : dc_M := (RX9, cX9_ahead, yX9_ahead, 4, (some .int), 0, 0)
theorem dc_ok_X9_ahead : dc_mOk mX9_ahead 1 := ⟨List.mem_filter.mpr ⟨List.mem_of_getElem? (i := 1088) (by decide +kernel), by decide +kernel⟩, dc_in_X9, by decide +kernel, rfl, by decide +kernel⟩
abbrev mX9_seats : dc_M := (RX9, cX9_seats, yX9_seats, 8, (some .int), 1, 25)
theorem dc_ok_X9_seats : dc_mOk mX9_seats 3 := ⟨List.mem_filter.mpr ⟨List.mem_of_getElem? (i := 1082) (by decide +kernel), by decide +kernel⟩, dc_in_X9, by decide +kernel, rfl, by decide +kernel⟩
abbrev mX9_areRanks : dc_M := (RX9, cX9_areRanks, yX9_areRanks, 6, (some .boolean), 1, 25)
theorem dc_ok_X9_areRanks : dc_mOk mX9_areRanks 2 := ⟨List.mem_filter.mpr ⟨List.mem_of_getElem? (i := 1096) (by decide +kernel), by decide +kernel⟩, dc_in_X9, by decide +kernel, rfl, by decide +kernel⟩
abbrev mX9_pointsTo : dc_M := (RX9, cX9_pointsTo, yX9_pointsTo, 5, (some .int), 0, 0)
theorem dc_ok_X9_pointsTo : dc_mOk mX9_pointsTo 2 := ⟨List.mem_filter.mpr ⟨List.mem_of_getElem? (i := 1109) (by decide +kernel), by decide +kernel⟩, dc_in_X9, by decide +kernel, rfl, by decide +kernel⟩
abbrev mX9_ringed : dc_M := (RX9, cX9_ringed, yX9_ringed, 7, (some .int), 1, 24)
theorem dc_ok_X9_ringed : dc_mOk mX9_ringed 1 := ⟨List.mem_filter.mpr ⟨List.mem_of_getElem? (i := 1105) (by decide +kernel), by decide +kernel⟩, dc_in_X9, by decide +kernel, rfl, by decide +kernel⟩
abbrev mX9_deal : dc_M := (RX9, cX9_deal, yX9_deal, 4, none, 2, 50)
theorem dc_ok_X9_deal : dc_mOk mX9_deal 0 := ⟨List.mem_filter.mpr ⟨List.mem_of_getElem? (i := 1101) (by decide +kernel), by decide +kernel⟩, dc_in_X9, by decide +kernel, rfl, by decide +kernel⟩
abbrev mX9_rings : dc_M := (RX9, cX9_rings, yX9_rings, 10, (some .int), 3, 73)
theorem dc_ok_X9_rings : dc_mOk mX9_rings 5 := ⟨List.mem_filter.mpr ⟨List.mem_of_getElem? (i := 1092) (by decide +kernel), by decide +kernel⟩, dc_in_X9, by decide +kernel, rfl, by decide +kernel⟩
abbrev mX9_seen : dc_M := (RX9, cX9_seen, yX9_seen, 3, (some .int), 1, 25)
theorem dc_ok_X9_seen : dc_mOk mX9_seen 2 := ⟨List.mem_filter.mpr ⟨List.mem_of_getElem? (i := 1113) (by decide +kernel), by decide +kernel⟩, dc_in_X9, by decide +kernel, rfl, by decide +kernel⟩
abbrev mX9_forget : dc_M := (RX9, cX9_forget, yX9_forget, 2, (some .int), 0, 0)
theorem dc_ok_X9_forget : dc_mOk mX9_forget 0 := ⟨List.mem_filter.mpr ⟨List.mem_of_getElem? (i := 1118) (by decide +kernel), by decide +kernel⟩, dc_in_X9, by decide +kernel, rfl, by decide +kernel⟩
abbrev mX9_together : dc_M := (RX9, cX9_together, yX9_together, 4, (some .int), 0, 0)
theorem dc_ok_X9_together : dc_mOk mX9_together 2 := ⟨List.mem_filter.mpr ⟨List.mem_of_getElem? (i := 1129) (by decide +kernel), by decide +kernel⟩, dc_in_X9, by decide +kernel, rfl, by decide +kernel⟩
abbrev mX9_fits : dc_M := (RX9, cX9_fits, yX9_fits, 4, (some .boolean), 1, 23)
theorem dc_ok_X9_fits : dc_mOk mX9_fits 1 := ⟨List.mem_filter.mpr ⟨List.mem_of_getElem? (i := 1126) (by decide +kernel), by decide +kernel⟩, dc_in_X9, by decide +kernel, rfl, by decide +kernel⟩
abbrev mX9_holds : dc_M := (RX9, cX9_holds, yX9_holds, 4, (some .int), 2, 46)
theorem dc_ok_X9_holds : dc_mOk mX9_holds 1 := ⟨List.mem_filter.mpr ⟨List.mem_of_getElem? (i := 1122) (by decide +kernel), by decide +kernel⟩, dc_in_X9, by decide +kernel, rfl, by decide +kernel⟩
abbrev mX9_mostLeft : dc_M := (RX9, cX9_mostLeft, yX9_mostLeft, 5, (some .int), 2, 46)
theorem dc_ok_X9_mostLeft : dc_mOk mX9_mostLeft 1 := ⟨List.mem_filter.mpr ⟨List.mem_of_getElem? (i := 1137) (by decide +kernel), by decide +kernel⟩, dc_in_X9, by decide +kernel, rfl, by decide +kernel⟩
abbrev mX9_ask : dc_M := (RX9, cX9_ask, yX9_ask, 6, (some .int), 3, 70)
theorem dc_ok_X9_ask : dc_mOk mX9_ask 1 := ⟨List.mem_filter.mpr ⟨List.mem_of_getElem? (i := 1133) (by decide +kernel), by decide +kernel⟩, dc_in_X9, by decide +kernel, rfl, by decide +kernel⟩
abbrev mX9_size : dc_M := (RX9, cX9_size, yX9_size, 2, (some .long), 0, 0)
theorem dc_ok_X9_size : dc_mOk mX9_size 1 := ⟨List.mem_filter.mpr ⟨List.mem_of_getElem? (i := 1158) (by decide +kernel), by decide +kernel⟩, dc_in_X9, by decide +kernel, rfl, by decide +kernel⟩
abbrev mX9_lowest : dc_M := (RX9, cX9_lowest, yX9_lowest, 11, (some .long), 1, 21)
theorem dc_ok_X9_lowest : dc_mOk mX9_lowest 3 := ⟨List.mem_filter.mpr ⟨List.mem_of_getElem? (i := 1155) (by decide +kernel), by decide +kernel⟩, dc_in_X9, by decide +kernel, rfl, by decide +kernel⟩
abbrev mX9_sung : dc_M := (RX9, cX9_sung, yX9_sung, 3, (some .long), 0, 0)
theorem dc_ok_X9_sung : dc_mOk mX9_sung 2 := ⟨List.mem_filter.mpr ⟨List.mem_of_getElem? (i := 1152) (by decide +kernel), by decide +kernel⟩, dc_in_X9, by decide +kernel, rfl, by decide +kernel⟩
abbrev mX9_fugueGood : dc_M := (RX9, cX9_fugueGood, yX9_fugueGood, 6, (some .boolean), 1, 25)
theorem dc_ok_X9_fugueGood : dc_mOk mX9_fugueGood 5 := ⟨List.mem_filter.mpr ⟨List.mem_of_getElem? (i := 1145) (by decide +kernel), by decide +kernel⟩, dc_in_X9, by decide +kernel, rfl, by decide +kernel⟩
abbrev mX9_fugue : dc_M := (RX9, cX9_fugue, yX9_fugue, 17, (some .long), 2, 51)
theorem dc_ok_X9_fugue : dc_mOk mX9_fugue 7 := ⟨List.mem_filter.mpr ⟨List.mem_of_getElem? (i := 1141) (by decide +kernel), by decide +kernel⟩, dc_in_X9, by decide +kernel, rfl, by decide +kernel⟩
abbrev mX9_actBy : dc_M := (RX9, cX9_actBy, yX9_actBy, 1, (some .int), 0, 0)
theorem dc_ok_X9_actBy : dc_mOk mX9_actBy 1 := ⟨List.mem_filter.mpr ⟨List.mem_of_getElem? (i := 1169) (by decide +kernel), by decide +kernel⟩, dc_in_X9, by decide +kernel, rfl, by decide +kernel⟩
abbrev mX9_year : dc_M := (RX9, cX9_year, yX9_year, 9, (some .int), 6, 139)
theorem dc_ok_X9_year : dc_mOk mX9_year 3 := ⟨List.mem_filter.mpr ⟨List.mem_of_getElem? (i := 1162) (by decide +kernel), by decide +kernel⟩, dc_in_X9, by decide +kernel, rfl, by decide +kernel⟩
abbrev mX9_pass : dc_M := (RX9, cX9_pass, yX9_pass, 3, (some .int), 0, 0)
theorem dc_ok_X9_pass : dc_mOk mX9_pass 1 := ⟨List.mem_filter.mpr ⟨List.mem_of_getElem? (i := 1181) (by decide +kernel), by decide +kernel⟩, dc_in_X9, by decide +kernel, rfl, by decide +kernel⟩
abbrev mX9_passRow : dc_M := (RX9, cX9_passRow, yX9_passRow, 4, none, 1, 22)
theorem dc_ok_X9_passRow : dc_mOk mX9_passRow 2 := ⟨List.mem_filter.mpr ⟨List.mem_of_getElem? (i := 1185) (by decide +kernel), by decide +kernel⟩, dc_in_X9, by decide +kernel, rfl, by decide +kernel⟩
abbrev mX9_passAll : dc_M := (RX9, cX9_passAll, yX9_passAll, 1, none, 2, 45)
theorem dc_ok_X9_passAll : dc_mOk mX9_passAll 0 := ⟨List.mem_filter.mpr ⟨List.mem_of_getElem? (i := 1177) (by decide +kernel), by decide +kernel⟩, dc_in_X9, by decide +kernel, rfl, by decide +kernel⟩
abbrev mX9_image : dc_M := (RX9, cX9_image, yX9_image, 2, (some .int), 3, 65)
theorem dc_ok_X9_image : dc_mOk mX9_image 1 := ⟨List.mem_filter.mpr ⟨List.mem_of_getElem? (i := 1173) (by decide +kernel), by decide +kernel⟩, dc_in_X9, by decide +kernel, rfl, by decide +kernel⟩
abbrev mX9_restore : dc_M := (RX9, cX9_restore, yX9_restore, 2, (some .int), 3, 65)
theorem dc_ok_X9_restore : dc_mOk mX9_restore 1 := ⟨List.mem_filter.mpr ⟨List.mem_of_getElem? (i := 1189) (by decide +kernel), by decide +kernel⟩, dc_in_X9, by decide +kernel, rfl, by decide +kernel⟩
abbrev mX9_toldOfSinger : dc_M := (RX9, cX9_toldOfSinger, yX9_toldOfSinger, 3, (some .int), 2, 46)
theorem dc_ok_X9_toldOfSinger : dc_mOk mX9_toldOfSinger 2 := ⟨List.mem_filter.mpr ⟨List.mem_of_getElem? (i := 1204) (by decide +kernel), by decide +kernel⟩, dc_in_X9, by decide +kernel, rfl, by decide +kernel⟩
abbrev mX9_toldOfPiece : dc_M := (RX9, cX9_toldOfPiece, yX9_toldOfPiece, 3, (some .int), 0, 0)
theorem dc_ok_X9_toldOfPiece : dc_mOk mX9_toldOfPiece 2 := ⟨List.mem_filter.mpr ⟨List.mem_of_getElem? (i := 1199) (by decide +kernel), by decide +kernel⟩, dc_in_X9, by decide +kernel, rfl, by decide +kernel⟩
abbrev mX9_told : dc_M := (RX9, cX9_told, yX9_told, 2, (some .int), 3, 68)
theorem dc_ok_X9_told : dc_mOk mX9_told 1 := ⟨List.mem_filter.mpr ⟨List.mem_of_getElem? (i := 1193) (by decide +kernel), by decide +kernel⟩, dc_in_X9, by decide +kernel, rfl, by decide +kernel⟩
abbrev mJ6_numberOfTrailingZeros_0f7a4 : dc_M := (RJ6, cJ6_numberOfTrailingZeros_0f7a4, yJ6_numberOfTrailingZeros_0f7a4, 2, (some .int), 0, 0)
theorem dc_ok_J6_numberOfTrailingZeros_0f7a4 : dc_mOk mJ6_numberOfTrailingZeros_0f7a4 1 := ⟨List.mem_filter.mpr ⟨List.mem_of_getElem? (i := 515) (by decide +kernel), by decide +kernel⟩, dc_in_J6, by decide +kernel, rfl, by decide +kernel⟩
abbrev mJ6_bitCount_0f7a4 : dc_M := (RJ6, cJ6_bitCount_0f7a4, yJ6_bitCount_0f7a4, 1, (some .int), 0, 0)
theorem dc_ok_J6_bitCount_0f7a4 : dc_mOk mJ6_bitCount_0f7a4 1 := ⟨List.mem_filter.mpr ⟨List.mem_of_getElem? (i := 328) (by decide +kernel), by decide +kernel⟩, dc_in_J6, by decide +kernel, rfl, by decide +kernel⟩
theorem k_X8_68 : dc_lkS RX8 68 mX8_within 3 := ⟨dc_ok_X8_within, List.mem_filter.mpr ⟨List.mem_of_getElem? (i := 318) (by decide +kernel), by decide +kernel⟩, List.mem_filter.mpr ⟨List.mem_of_getElem? (i := 319) (by decide +kernel), by decide +kernel⟩⟩
theorem k_X8_72 : dc_lkV RX8 72 mX0_come 3 := ⟨dc_ok_X0_come, List.mem_filter.mpr ⟨List.mem_of_getElem? (i := 321) (by decide +kernel), by decide +kernel⟩, List.mem_filter.mpr ⟨List.mem_of_getElem? (i := 322) (by decide +kernel), by decide +kernel⟩, List.mem_filter.mpr ⟨List.mem_of_getElem? (i := 323) (by decide +kernel), by decide +kernel⟩⟩
theorem k_X8_80 : dc_lkS RX8 80 mJ6_bitCount_0f7a4 1 := ⟨dc_ok_J6_bitCount_0f7a4, List.mem_filter.mpr ⟨List.mem_of_getElem? (i := 326) (by decide +kernel), by decide +kernel⟩, List.mem_filter.mpr ⟨List.mem_of_getElem? (i := 327) (by decide +kernel), by decide +kernel⟩⟩
theorem k_X8_86 : dc_lkV RX8 86 mX0_has 1 := ⟨dc_ok_X0_has, List.mem_filter.mpr ⟨List.mem_of_getElem? (i := 336) (by decide +kernel), by decide +kernel⟩, List.mem_filter.mpr ⟨List.mem_of_getElem? (i := 337) (by decide +kernel), by decide +kernel⟩, List.mem_filter.mpr ⟨List.mem_of_getElem? (i := 338) (by decide +kernel), by decide +kernel⟩⟩
theorem k_X8_90 : dc_lkV RX8 90 mX0_go 1 := ⟨dc_ok_X0_go, List.mem_filter.mpr ⟨List.mem_of_getElem? (i := 340) (by decide +kernel), by decide +kernel⟩, List.mem_filter.mpr ⟨List.mem_of_getElem? (i := 341) (by decide +kernel), by decide +kernel⟩, List.mem_filter.mpr ⟨List.mem_of_getElem? (i := 342) (by decide +kernel), by decide +kernel⟩⟩
theorem k_X8_94 : dc_lkS RX8 94 mX8_areNeeds 1 := ⟨dc_ok_X8_areNeeds, List.mem_filter.mpr ⟨List.mem_of_getElem? (i := 350) (by decide +kernel), by decide +kernel⟩, List.mem_filter.mpr ⟨List.mem_of_getElem? (i := 351) (by decide +kernel), by decide +kernel⟩⟩
theorem k_X8_97 : dc_lkV RX8 97 mX0_barsOf 1 := ⟨dc_ok_X0_barsOf, List.mem_filter.mpr ⟨List.mem_of_getElem? (i := 356) (by decide +kernel), by decide +kernel⟩, List.mem_filter.mpr ⟨List.mem_of_getElem? (i := 357) (by decide +kernel), by decide +kernel⟩, List.mem_filter.mpr ⟨List.mem_of_getElem? (i := 358) (by decide +kernel), by decide +kernel⟩⟩
theorem k_X8_100 : dc_lkV RX8 100 mX0_write 4 := ⟨dc_ok_X0_write, List.mem_filter.mpr ⟨List.mem_of_getElem? (i := 360) (by decide +kernel), by decide +kernel⟩, List.mem_filter.mpr ⟨List.mem_of_getElem? (i := 361) (by decide +kernel), by decide +kernel⟩, List.mem_filter.mpr ⟨List.mem_of_getElem? (i := 362) (by decide +kernel), by decide +kernel⟩⟩
theorem k_X8_104 : dc_lkV RX8 104 mX4_add 1 := ⟨dc_ok_X4_add, List.mem_filter.mpr ⟨List.mem_of_getElem? (i := 369) (by decide +kernel), by decide +kernel⟩, List.mem_filter.mpr ⟨List.mem_of_getElem? (i := 370) (by decide +kernel), by decide +kernel⟩, List.mem_filter.mpr ⟨List.mem_of_getElem? (i := 371) (by decide +kernel), by decide +kernel⟩⟩
theorem k_X8_110 : dc_lkV RX8 110 mX4_faultPlace 0 := ⟨dc_ok_X4_faultPlace, List.mem_filter.mpr ⟨List.mem_of_getElem? (i := 382) (by decide +kernel), by decide +kernel⟩, List.mem_filter.mpr ⟨List.mem_of_getElem? (i := 383) (by decide +kernel), by decide +kernel⟩, List.mem_filter.mpr ⟨List.mem_of_getElem? (i := 384) (by decide +kernel), by decide +kernel⟩⟩
theorem k_X8_114 : dc_lkV RX8 114 mX7_play 2 := ⟨dc_ok_X7_play, List.mem_filter.mpr ⟨List.mem_of_getElem? (i := 410) (by decide +kernel), by decide +kernel⟩, List.mem_filter.mpr ⟨List.mem_of_getElem? (i := 411) (by decide +kernel), by decide +kernel⟩, List.mem_filter.mpr ⟨List.mem_of_getElem? (i := 412) (by decide +kernel), by decide +kernel⟩⟩
theorem k_X8_128 : dc_lkV RX8 128 mX0_debtOf 1 := ⟨dc_ok_X0_debtOf, List.mem_filter.mpr ⟨List.mem_of_getElem? (i := 522) (by decide +kernel), by decide +kernel⟩, List.mem_filter.mpr ⟨List.mem_of_getElem? (i := 443) (by decide +kernel), by decide +kernel⟩, List.mem_filter.mpr ⟨List.mem_of_getElem? (i := 444) (by decide +kernel), by decide +kernel⟩⟩
theorem k_X8_137 : dc_lkS RX8 137 mX8_bit 2 := ⟨dc_ok_X8_bit, List.mem_filter.mpr ⟨List.mem_of_getElem? (i := 523) (by decide +kernel), by decide +kernel⟩, List.mem_filter.mpr ⟨List.mem_of_getElem? (i := 440) (by decide +kernel), by decide +kernel⟩⟩
theorem k_X8_141 : dc_lkV RX8 141 mX0_allDebts 0 := ⟨dc_ok_X0_allDebts, List.mem_filter.mpr ⟨List.mem_of_getElem? (i := 528) (by decide +kernel), by decide +kernel⟩, List.mem_filter.mpr ⟨List.mem_of_getElem? (i := 529) (by decide +kernel), by decide +kernel⟩, List.mem_filter.mpr ⟨List.mem_of_getElem? (i := 530) (by decide +kernel), by decide +kernel⟩⟩
theorem k_X8_153 : dc_lkV RX8 153 mX0_copyFrom 1 := ⟨dc_ok_X0_copyFrom, List.mem_filter.mpr ⟨List.mem_of_getElem? (i := 540) (by decide +kernel), by decide +kernel⟩, List.mem_filter.mpr ⟨List.mem_of_getElem? (i := 419) (by decide +kernel), by decide +kernel⟩, List.mem_filter.mpr ⟨List.mem_of_getElem? (i := 420) (by decide +kernel), by decide +kernel⟩⟩
theorem k_X8_160 : dc_lkV RX8 160 mX0_canBeSung 1 := ⟨dc_ok_X0_canBeSung, List.mem_filter.mpr ⟨List.mem_of_getElem? (i := 545) (by decide +kernel), by decide +kernel⟩, List.mem_filter.mpr ⟨List.mem_of_getElem? (i := 459) (by decide +kernel), by decide +kernel⟩, List.mem_filter.mpr ⟨List.mem_of_getElem? (i := 460) (by decide +kernel), by decide +kernel⟩⟩
theorem k_X8_163 : dc_lkV RX8 163 mX3_find 2 := ⟨dc_ok_X3_find, List.mem_filter.mpr ⟨List.mem_of_getElem? (i := 550) (by decide +kernel), by decide +kernel⟩, List.mem_filter.mpr ⟨List.mem_of_getElem? (i := 551) (by decide +kernel), by decide +kernel⟩, List.mem_filter.mpr ⟨List.mem_of_getElem? (i := 552) (by decide +kernel), by decide +kernel⟩⟩
theorem k_X8_173 : dc_lkV RX8 173 mX0_payOfSet 1 := ⟨dc_ok_X0_payOfSet, List.mem_filter.mpr ⟨List.mem_of_getElem? (i := 587) (by decide +kernel), by decide +kernel⟩, List.mem_filter.mpr ⟨List.mem_of_getElem? (i := 588) (by decide +kernel), by decide +kernel⟩, List.mem_filter.mpr ⟨List.mem_of_getElem? (i := 589) (by decide +kernel), by decide +kernel⟩⟩
theorem k_X8_176 : dc_lkV RX8 176 mX0_barsOfSet 1 := ⟨dc_ok_X0_barsOfSet, List.mem_filter.mpr ⟨List.mem_of_getElem? (i := 591) (by decide +kernel), by decide +kernel⟩, List.mem_filter.mpr ⟨List.mem_of_getElem? (i := 592) (by decide +kernel), by decide +kernel⟩, List.mem_filter.mpr ⟨List.mem_of_getElem? (i := 593) (by decide +kernel), by decide +kernel⟩⟩
theorem k_X8_179 : dc_lkV RX8 179 mX0_needOf 2 := ⟨dc_ok_X0_needOf, List.mem_filter.mpr ⟨List.mem_of_getElem? (i := 599) (by decide +kernel), by decide +kernel⟩, List.mem_filter.mpr ⟨List.mem_of_getElem? (i := 473) (by decide +kernel), by decide +kernel⟩, List.mem_filter.mpr ⟨List.mem_of_getElem? (i := 474) (by decide +kernel), by decide +kernel⟩⟩
theorem k_X8_182 : dc_lkV RX8 182 mX0_readyIn 1 := ⟨dc_ok_X0_readyIn, List.mem_filter.mpr ⟨List.mem_of_getElem? (i := 600) (by decide +kernel), by decide +kernel⟩, List.mem_filter.mpr ⟨List.mem_of_getElem? (i := 463) (by decide +kernel), by decide +kernel⟩, List.mem_filter.mpr ⟨List.mem_of_getElem? (i := 464) (by decide +kernel), by decide +kernel⟩⟩
theorem k_X8_185 : dc_lkV RX8 185 mX0_leastFree 2 := ⟨dc_ok_X0_leastFree, List.mem_filter.mpr ⟨List.mem_of_getElem? (i := 601) (by decide +kernel), by decide +kernel⟩, List.mem_filter.mpr ⟨List.mem_of_getElem? (i := 602) (by decide +kernel), by decide +kernel⟩, List.mem_filter.mpr ⟨List.mem_of_getElem? (i := 603) (by decide +kernel), by decide +kernel⟩⟩
theorem k_X8_189 : dc_lkS RX8 189 mX8_placeOfBid 2 := ⟨dc_ok_X8_placeOfBid, List.mem_filter.mpr ⟨List.mem_of_getElem? (i := 610) (by decide +kernel), by decide +kernel⟩, List.mem_filter.mpr ⟨List.mem_of_getElem? (i := 611) (by decide +kernel), by decide +kernel⟩⟩
theorem k_X8_192 : dc_lkS RX8 192 mX8_digitOf 2 := ⟨dc_ok_X8_digitOf, List.mem_filter.mpr ⟨List.mem_of_getElem? (i := 353) (by decide +kernel), by decide +kernel⟩, List.mem_filter.mpr ⟨List.mem_of_getElem? (i := 354) (by decide +kernel), by decide +kernel⟩⟩
theorem k_X8_195 : dc_lkS RX8 195 mX8_areRanks 1 := ⟨dc_ok_X8_areRanks, List.mem_filter.mpr ⟨List.mem_of_getElem? (i := 617) (by decide +kernel), by decide +kernel⟩, List.mem_filter.mpr ⟨List.mem_of_getElem? (i := 618) (by decide +kernel), by decide +kernel⟩⟩
theorem k_X8_198 : dc_lkV RX8 198 mX5_start 4 := ⟨dc_ok_X5_start, List.mem_filter.mpr ⟨List.mem_of_getElem? (i := 620) (by decide +kernel), by decide +kernel⟩, List.mem_filter.mpr ⟨List.mem_of_getElem? (i := 621) (by decide +kernel), by decide +kernel⟩, List.mem_filter.mpr ⟨List.mem_of_getElem? (i := 622) (by decide +kernel), by decide +kernel⟩⟩
theorem k_X8_201 : dc_lkV RX8 201 mX5_swap 0 := ⟨dc_ok_X5_swap, List.mem_filter.mpr ⟨List.mem_of_getElem? (i := 624) (by decide +kernel), by decide +kernel⟩, List.mem_filter.mpr ⟨List.mem_of_getElem? (i := 625) (by decide +kernel), by decide +kernel⟩, List.mem_filter.mpr ⟨List.mem_of_getElem? (i := 626) (by decide +kernel), by decide +kernel⟩⟩
theorem k_X8_204 : dc_lkV RX8 204 mX5_partsAsDigits 0 := ⟨dc_ok_X5_partsAsDigits, List.mem_filter.mpr ⟨List.mem_of_getElem? (i := 639) (by decide +kernel), by decide +kernel⟩, List.mem_filter.mpr ⟨List.mem_of_getElem? (i := 640) (by decide +kernel), by decide +kernel⟩, List.mem_filter.mpr ⟨List.mem_of_getElem? (i := 641) (by decide +kernel), by decide +kernel⟩⟩
theorem k_X8_207 : dc_lkV RX8 207 mX5_countOwn 0 := ⟨dc_ok_X5_countOwn, List.mem_filter.mpr ⟨List.mem_of_getElem? (i := 643) (by decide +kernel), by decide +kernel⟩, List.mem_filter.mpr ⟨List.mem_of_getElem? (i := 644) (by decide +kernel), by decide +kernel⟩, List.mem_filter.mpr ⟨List.mem_of_getElem? (i := 645) (by decide +kernel), by decide +kernel⟩⟩
theorem k_X8_210 : dc_lkV RX8 210 mX6_add 2 := ⟨dc_ok_X6_add, List.mem_filter.mpr ⟨List.mem_of_getElem? (i := 651) (by decide +kernel), by decide +kernel⟩, List.mem_filter.mpr ⟨List.mem_of_getElem? (i := 652) (by decide +kernel), by decide +kernel⟩, List.mem_filter.mpr ⟨List.mem_of_getElem? (i := 653) (by decide +kernel), by decide +kernel⟩⟩
theorem k_X8_214 : dc_lkV RX8 214 mX6_findRows 0 := ⟨dc_ok_X6_findRows, List.mem_filter.mpr ⟨List.mem_of_getElem? (i := 664) (by decide +kernel), by decide +kernel⟩, List.mem_filter.mpr ⟨List.mem_of_getElem? (i := 665) (by decide +kernel), by decide +kernel⟩, List.mem_filter.mpr ⟨List.mem_of_getElem? (i := 666) (by decide +kernel), by decide +kernel⟩⟩
theorem k_X8_220 : dc_lkV RX8 220 mX6_rowAt 1 := ⟨dc_ok_X6_rowAt, List.mem_filter.mpr ⟨List.mem_of_getElem? (i := 676) (by decide +kernel), by decide +kernel⟩, List.mem_filter.mpr ⟨List.mem_of_getElem? (i := 677) (by decide +kernel), by decide +kernel⟩, List.mem_filter.mpr ⟨List.mem_of_getElem? (i := 678) (by decide +kernel), by decide +kernel⟩⟩
theorem k_X8_223 : dc_lkV RX8 223 mX6_mostLeft 1 := ⟨dc_ok_X6_mostLeft, List.mem_filter.mpr ⟨List.mem_of_getElem? (i := 684) (by decide +kernel), by decide +kernel⟩, List.mem_filter.mpr ⟨List.mem_of_getElem? (i := 685) (by decide +kernel), by decide +kernel⟩, List.mem_filter.mpr ⟨List.mem_of_getElem? (i := 686) (by decide +kernel), by decide +kernel⟩⟩
theorem k_X8_228 : dc_lkV RX8 228 mX1_start 1 := ⟨dc_ok_X1_start, List.mem_filter.mpr ⟨List.mem_of_getElem? (i := 695) (by decide +kernel), by decide +kernel⟩, List.mem_filter.mpr ⟨List.mem_of_getElem? (i := 696) (by decide +kernel), by decide +kernel⟩, List.mem_filter.mpr ⟨List.mem_of_getElem? (i := 697) (by decide +kernel), by decide +kernel⟩⟩
theorem k_X8_230 : dc_lkV RX8 230 mX1_evening 2 := ⟨dc_ok_X1_evening, List.mem_filter.mpr ⟨List.mem_of_getElem? (i := 699) (by decide +kernel), by decide +kernel⟩, List.mem_filter.mpr ⟨List.mem_of_getElem? (i := 700) (by decide +kernel), by decide +kernel⟩, List.mem_filter.mpr ⟨List.mem_of_getElem? (i := 701) (by decide +kernel), by decide +kernel⟩⟩
theorem k_X8_237 : dc_lkV RX8 237 mX1_bestOf 1 := ⟨dc_ok_X1_bestOf, List.mem_filter.mpr ⟨List.mem_of_getElem? (i := 710) (by decide +kernel), by decide +kernel⟩, List.mem_filter.mpr ⟨List.mem_of_getElem? (i := 705) (by decide +kernel), by decide +kernel⟩, List.mem_filter.mpr ⟨List.mem_of_getElem? (i := 706) (by decide +kernel), by decide +kernel⟩⟩
theorem k_X8_245 : dc_lkS RX8 245 mX8_commonDivisor 2 := ⟨dc_ok_X8_commonDivisor, List.mem_filter.mpr ⟨List.mem_of_getElem? (i := 711) (by decide +kernel), by decide +kernel⟩, List.mem_filter.mpr ⟨List.mem_of_getElem? (i := 712) (by decide +kernel), by decide +kernel⟩⟩
theorem k_X8_249 : dc_lkV RX8 249 mX7_start 1 := ⟨dc_ok_X7_start, List.mem_filter.mpr ⟨List.mem_of_getElem? (i := 724) (by decide +kernel), by decide +kernel⟩, List.mem_filter.mpr ⟨List.mem_of_getElem? (i := 415) (by decide +kernel), by decide +kernel⟩, List.mem_filter.mpr ⟨List.mem_of_getElem? (i := 416) (by decide +kernel), by decide +kernel⟩⟩
theorem k_X8_252 : dc_lkV RX8 252 mX7_draw 1 := ⟨dc_ok_X7_draw, List.mem_filter.mpr ⟨List.mem_of_getElem? (i := 726) (by decide +kernel), by decide +kernel⟩, List.mem_filter.mpr ⟨List.mem_of_getElem? (i := 727) (by decide +kernel), by decide +kernel⟩, List.mem_filter.mpr ⟨List.mem_of_getElem? (i := 728) (by decide +kernel), by decide +kernel⟩⟩
theorem k_X8_255 : dc_lkV RX8 255 mX0_freeSingers 0 := ⟨dc_ok_X0_freeSingers, List.mem_filter.mpr ⟨List.mem_of_getElem? (i := 730) (by decide +kernel), by decide +kernel⟩, List.mem_filter.mpr ⟨List.mem_of_getElem? (i := 427) (by decide +kernel), by decide +kernel⟩, List.mem_filter.mpr ⟨List.mem_of_getElem? (i := 428) (by decide +kernel), by decide +kernel⟩⟩
theorem k_X8_260 : dc_lkV RX8 260 mX6_copyFrom 1 := ⟨dc_ok_X6_copyFrom, List.mem_filter.mpr ⟨List.mem_of_getElem? (i := 735) (by decide +kernel), by decide +kernel⟩, List.mem_filter.mpr ⟨List.mem_of_getElem? (i := 736) (by decide +kernel), by decide +kernel⟩, List.mem_filter.mpr ⟨List.mem_of_getElem? (i := 737) (by decide +kernel), by decide +kernel⟩⟩
theorem k_X8_267 : dc_lkV RX8 267 mX8_tellPiece 2 := ⟨dc_ok_X8_tellPiece, List.mem_filter.mpr ⟨List.mem_of_getElem? (i := 748) (by decide +kernel), by decide +kernel⟩, List.mem_filter.mpr ⟨List.mem_of_getElem? (i := 750) (by decide +kernel), by decide +kernel⟩, List.mem_filter.mpr ⟨List.mem_of_getElem? (i := 14) (by decide +kernel), by decide +kernel⟩⟩
theorem k_X8_270 : dc_lkV RX8 270 mX8_tellSinger 2 := ⟨dc_ok_X8_tellSinger, List.mem_filter.mpr ⟨List.mem_of_getElem? (i := 753) (by decide +kernel), by decide +kernel⟩, List.mem_filter.mpr ⟨List.mem_of_getElem? (i := 755) (by decide +kernel), by decide +kernel⟩, List.mem_filter.mpr ⟨List.mem_of_getElem? (i := 15) (by decide +kernel), by decide +kernel⟩⟩
theorem k_X8_276 : dc_lkV RX8 276 mX0_voiceOf 1 := ⟨dc_ok_X0_voiceOf, List.mem_filter.mpr ⟨List.mem_of_getElem? (i := 757) (by decide +kernel), by decide +kernel⟩, List.mem_filter.mpr ⟨List.mem_of_getElem? (i := 556) (by decide +kernel), by decide +kernel⟩, List.mem_filter.mpr ⟨List.mem_of_getElem? (i := 557) (by decide +kernel), by decide +kernel⟩⟩
theorem k_X8_279 : dc_lkV RX8 279 mX0_payOf 1 := ⟨dc_ok_X0_payOf, List.mem_filter.mpr ⟨List.mem_of_getElem? (i := 752) (by decide +kernel), by decide +kernel⟩, List.mem_filter.mpr ⟨List.mem_of_getElem? (i := 486) (by decide +kernel), by decide +kernel⟩, List.mem_filter.mpr ⟨List.mem_of_getElem? (i := 487) (by decide +kernel), by decide +kernel⟩⟩
theorem k_X8_282 : dc_lk_labs RX8 282 := ⟨List.mem_filter.mpr ⟨List.mem_of_getElem? (i := 714) (by decide +kernel), by decide +kernel⟩, List.mem_filter.mpr ⟨List.mem_of_getElem? (i := 715) (by decide +kernel), by decide +kernel⟩, List.mem_filter.mpr ⟨List.mem_of_getElem? (i := 71) (by decide +kernel), by decide +kernel⟩, List.mem_filter.mpr ⟨List.mem_of_getElem? (i := 716) (by decide +kernel), by decide +kernel⟩⟩
theorem k_X8_288 : dc_lk_lmax RX8 288 := ⟨List.mem_filter.mpr ⟨List.mem_of_getElem? (i := 717) (by decide +kernel), by decide +kernel⟩, List.mem_filter.mpr ⟨List.mem_of_getElem? (i := 718) (by decide +kernel), by decide +kernel⟩, List.mem_filter.mpr ⟨List.mem_of_getElem? (i := 71) (by decide +kernel), by decide +kernel⟩, List.mem_filter.mpr ⟨List.mem_of_getElem? (i := 719) (by decide +kernel), by decide +kernel⟩⟩
theorem k_X0_43 : dc_lkCp RX0 43 := ⟨List.mem_filter.mpr ⟨List.mem_of_getElem? (i := 422) (by decide +kernel), by decide +kernel⟩, List.mem_filter.mpr ⟨List.mem_of_getElem? (i := 424) (by decide +kernel), by decide +kernel⟩, List.mem_filter.mpr ⟨List.mem_of_getElem? (i := 423) (by decide +kernel), by decide +kernel⟩, List.mem_filter.mpr ⟨List.mem_of_getElem? (i := 70) (by decide +kernel), by decide +kernel⟩⟩
theorem k_X0_49 : dc_lkN RX0 49 mX8_within 3 "DebtChoir" := ⟨dc_ok_X8_within, by decide +kernel, List.mem_filter.mpr ⟨List.mem_of_getElem? (i := 319) (by decide +kernel), by decide +kernel⟩⟩
theorem k_X0_53 : dc_lkV RX0 53 mX0_has 1 := ⟨dc_ok_X0_has, List.mem_filter.mpr ⟨List.mem_of_getElem? (i := 344) (by decide +kernel), by decide +kernel⟩, List.mem_filter.mpr ⟨List.mem_of_getElem? (i := 337) (by decide +kernel), by decide +kernel⟩, List.mem_filter.mpr ⟨List.mem_of_getElem? (i := 338) (by decide +kernel), by decide +kernel⟩⟩
theorem k_X0_57 : dc_lkV RX0 57 mX0_come 3 := ⟨dc_ok_X0_come, List.mem_filter.mpr ⟨List.mem_of_getElem? (i := 345) (by decide +kernel), by decide +kernel⟩, List.mem_filter.mpr ⟨List.mem_of_getElem? (i := 322) (by decide +kernel), by decide +kernel⟩, List.mem_filter.mpr ⟨List.mem_of_getElem? (i := 323) (by decide +kernel), by decide +kernel⟩⟩
theorem k_X0_61 : dc_lkV RX0 61 mX0_debtOf 1 := ⟨dc_ok_X0_debtOf, List.mem_filter.mpr ⟨List.mem_of_getElem? (i := 442) (by decide +kernel), by decide +kernel⟩, List.mem_filter.mpr ⟨List.mem_of_getElem? (i := 443) (by decide +kernel), by decide +kernel⟩, List.mem_filter.mpr ⟨List.mem_of_getElem? (i := 444) (by decide +kernel), by decide +kernel⟩⟩
theorem k_X0_65 : dc_lkN RX0 65 mX8_digitOf 2 "DebtChoir" := ⟨dc_ok_X8_digitOf, by decide +kernel, List.mem_filter.mpr ⟨List.mem_of_getElem? (i := 354) (by decide +kernel), by decide +kernel⟩⟩
theorem k_X0_69 : dc_lkV RX0 69 mX0_barsOf 1 := ⟨dc_ok_X0_barsOf, List.mem_filter.mpr ⟨List.mem_of_getElem? (i := 484) (by decide +kernel), by decide +kernel⟩, List.mem_filter.mpr ⟨List.mem_of_getElem? (i := 357) (by decide +kernel), by decide +kernel⟩, List.mem_filter.mpr ⟨List.mem_of_getElem? (i := 358) (by decide +kernel), by decide +kernel⟩⟩
theorem k_X0_72 : dc_lkV RX0 72 mX0_payOf 1 := ⟨dc_ok_X0_payOf, List.mem_filter.mpr ⟨List.mem_of_getElem? (i := 485) (by decide +kernel), by decide +kernel⟩, List.mem_filter.mpr ⟨List.mem_of_getElem? (i := 486) (by decide +kernel), by decide +kernel⟩, List.mem_filter.mpr ⟨List.mem_of_getElem? (i := 487) (by decide +kernel), by decide +kernel⟩⟩
theorem k_X0_75 : dc_lkN RX0 75 mX8_bit 2 "DebtChoir" := ⟨dc_ok_X8_bit, by decide +kernel, List.mem_filter.mpr ⟨List.mem_of_getElem? (i := 440) (by decide +kernel), by decide +kernel⟩⟩
theorem k_X0_78 : dc_lkV RX0 78 mX0_worthOf 1 := ⟨dc_ok_X0_worthOf, List.mem_filter.mpr ⟨List.mem_of_getElem? (i := 480) (by decide +kernel), by decide +kernel⟩, List.mem_filter.mpr ⟨List.mem_of_getElem? (i := 481) (by decide +kernel), by decide +kernel⟩, List.mem_filter.mpr ⟨List.mem_of_getElem? (i := 482) (by decide +kernel), by decide +kernel⟩⟩
theorem k_X0_81 : dc_lkV RX0 81 mX0_needOf 2 := ⟨dc_ok_X0_needOf, List.mem_filter.mpr ⟨List.mem_of_getElem? (i := 472) (by decide +kernel), by decide +kernel⟩, List.mem_filter.mpr ⟨List.mem_of_getElem? (i := 473) (by decide +kernel), by decide +kernel⟩, List.mem_filter.mpr ⟨List.mem_of_getElem? (i := 474) (by decide +kernel), by decide +kernel⟩⟩
theorem k_X0_84 : dc_lkV RX0 84 mX0_withBreath 1 := ⟨dc_ok_X0_withBreath, List.mem_filter.mpr ⟨List.mem_of_getElem? (i := 466) (by decide +kernel), by decide +kernel⟩, List.mem_filter.mpr ⟨List.mem_of_getElem? (i := 468) (by decide +kernel), by decide +kernel⟩, List.mem_filter.mpr ⟨List.mem_of_getElem? (i := 3) (by decide +kernel), by decide +kernel⟩⟩
theorem k_X0_87 : dc_lkV RX0 87 mX0_freeSingers 0 := ⟨dc_ok_X0_freeSingers, List.mem_filter.mpr ⟨List.mem_of_getElem? (i := 470) (by decide +kernel), by decide +kernel⟩, List.mem_filter.mpr ⟨List.mem_of_getElem? (i := 427) (by decide +kernel), by decide +kernel⟩, List.mem_filter.mpr ⟨List.mem_of_getElem? (i := 428) (by decide +kernel), by decide +kernel⟩⟩
theorem k_X0_91 : dc_lkS RX0 91 mJ6_bitCount_0f7a4 1 := ⟨dc_ok_J6_bitCount_0f7a4, List.mem_filter.mpr ⟨List.mem_of_getElem? (i := 471) (by decide +kernel), by decide +kernel⟩, List.mem_filter.mpr ⟨List.mem_of_getElem? (i := 327) (by decide +kernel), by decide +kernel⟩⟩
theorem k_X0_96 : dc_lkV RX0 96 mX0_readyIn 1 := ⟨dc_ok_X0_readyIn, List.mem_filter.mpr ⟨List.mem_of_getElem? (i := 462) (by decide +kernel), by decide +kernel⟩, List.mem_filter.mpr ⟨List.mem_of_getElem? (i := 463) (by decide +kernel), by decide +kernel⟩, List.mem_filter.mpr ⟨List.mem_of_getElem? (i := 464) (by decide +kernel), by decide +kernel⟩⟩
theorem k_X0_99 : dc_lkV RX0 99 mX0_canBeSung 1 := ⟨dc_ok_X0_canBeSung, List.mem_filter.mpr ⟨List.mem_of_getElem? (i := 458) (by decide +kernel), by decide +kernel⟩, List.mem_filter.mpr ⟨List.mem_of_getElem? (i := 459) (by decide +kernel), by decide +kernel⟩, List.mem_filter.mpr ⟨List.mem_of_getElem? (i := 460) (by decide +kernel), by decide +kernel⟩⟩
theorem k_X0_102 : dc_lkV RX0 102 mX0_deepestOf 1 := ⟨dc_ok_X0_deepestOf, List.mem_filter.mpr ⟨List.mem_of_getElem? (i := 476) (by decide +kernel), by decide +kernel⟩, List.mem_filter.mpr ⟨List.mem_of_getElem? (i := 478) (by decide +kernel), by decide +kernel⟩, List.mem_filter.mpr ⟨List.mem_of_getElem? (i := 4) (by decide +kernel), by decide +kernel⟩⟩
theorem k_X0_105 : dc_lkV RX0 105 mX0_singOff 2 := ⟨dc_ok_X0_singOff, List.mem_filter.mpr ⟨List.mem_of_getElem? (i := 489) (by decide +kernel), by decide +kernel⟩, List.mem_filter.mpr ⟨List.mem_of_getElem? (i := 491) (by decide +kernel), by decide +kernel⟩, List.mem_filter.mpr ⟨List.mem_of_getElem? (i := 5) (by decide +kernel), by decide +kernel⟩⟩
theorem k_X0_109 : dc_lk_mmin RX0 109 := ⟨List.mem_filter.mpr ⟨List.mem_of_getElem? (i := 446) (by decide +kernel), by decide +kernel⟩, List.mem_filter.mpr ⟨List.mem_of_getElem? (i := 447) (by decide +kernel), by decide +kernel⟩, List.mem_filter.mpr ⟨List.mem_of_getElem? (i := 71) (by decide +kernel), by decide +kernel⟩, List.mem_filter.mpr ⟨List.mem_of_getElem? (i := 448) (by decide +kernel), by decide +kernel⟩⟩
theorem k_X0_114 : dc_lkV RX0 114 mX0_owe 2 := ⟨dc_ok_X0_owe, List.mem_filter.mpr ⟨List.mem_of_getElem? (i := 449) (by decide +kernel), by decide +kernel⟩, List.mem_filter.mpr ⟨List.mem_of_getElem? (i := 451) (by decide +kernel), by decide +kernel⟩, List.mem_filter.mpr ⟨List.mem_of_getElem? (i := 2) (by decide +kernel), by decide +kernel⟩⟩
theorem k_X1_26 : dc_lkV RX1 26 mX1_bestOf 1 := ⟨dc_ok_X1_bestOf, List.mem_filter.mpr ⟨List.mem_of_getElem? (i := 704) (by decide +kernel), by decide +kernel⟩, List.mem_filter.mpr ⟨List.mem_of_getElem? (i := 705) (by decide +kernel), by decide +kernel⟩, List.mem_filter.mpr ⟨List.mem_of_getElem? (i := 706) (by decide +kernel), by decide +kernel⟩⟩
theorem k_X1_30 : dc_lk_mmin RX1 30 := ⟨List.mem_filter.mpr ⟨List.mem_of_getElem? (i := 709) (by decide +kernel), by decide +kernel⟩, List.mem_filter.mpr ⟨List.mem_of_getElem? (i := 447) (by decide +kernel), by decide +kernel⟩, List.mem_filter.mpr ⟨List.mem_of_getElem? (i := 71) (by decide +kernel), by decide +kernel⟩, List.mem_filter.mpr ⟨List.mem_of_getElem? (i := 448) (by decide +kernel), by decide +kernel⟩⟩
theorem k_X1_36 : dc_lkN RX1 36 mX8_within 3 "DebtChoir" := ⟨dc_ok_X8_within, by decide +kernel, List.mem_filter.mpr ⟨List.mem_of_getElem? (i := 319) (by decide +kernel), by decide +kernel⟩⟩
theorem k_X3_18 : dc_lkV RX3 18 mX0_debtOf 1 := ⟨dc_ok_X0_debtOf, List.mem_filter.mpr ⟨List.mem_of_getElem? (i := 554) (by decide +kernel), by decide +kernel⟩, List.mem_filter.mpr ⟨List.mem_of_getElem? (i := 443) (by decide +kernel), by decide +kernel⟩, List.mem_filter.mpr ⟨List.mem_of_getElem? (i := 444) (by decide +kernel), by decide +kernel⟩⟩
theorem k_X3_31 : dc_lkV RX3 31 mX0_voiceOf 1 := ⟨dc_ok_X0_voiceOf, List.mem_filter.mpr ⟨List.mem_of_getElem? (i := 555) (by decide +kernel), by decide +kernel⟩, List.mem_filter.mpr ⟨List.mem_of_getElem? (i := 556) (by decide +kernel), by decide +kernel⟩, List.mem_filter.mpr ⟨List.mem_of_getElem? (i := 557) (by decide +kernel), by decide +kernel⟩⟩
theorem k_X3_34 : dc_lkV RX3 34 mX3_takePays 2 := ⟨dc_ok_X3_takePays, List.mem_filter.mpr ⟨List.mem_of_getElem? (i := 559) (by decide +kernel), by decide +kernel⟩, List.mem_filter.mpr ⟨List.mem_of_getElem? (i := 561) (by decide +kernel), by decide +kernel⟩, List.mem_filter.mpr ⟨List.mem_of_getElem? (i := 7) (by decide +kernel), by decide +kernel⟩⟩
theorem k_X3_38 : dc_lkV RX3 38 mX3_fewestFrom 2 := ⟨dc_ok_X3_fewestFrom, List.mem_filter.mpr ⟨List.mem_of_getElem? (i := 565) (by decide +kernel), by decide +kernel⟩, List.mem_filter.mpr ⟨List.mem_of_getElem? (i := 567) (by decide +kernel), by decide +kernel⟩, List.mem_filter.mpr ⟨List.mem_of_getElem? (i := 8) (by decide +kernel), by decide +kernel⟩⟩
theorem k_X3_42 : dc_lkV RX3 42 mX0_needOf 2 := ⟨dc_ok_X0_needOf, List.mem_filter.mpr ⟨List.mem_of_getElem? (i := 563) (by decide +kernel), by decide +kernel⟩, List.mem_filter.mpr ⟨List.mem_of_getElem? (i := 473) (by decide +kernel), by decide +kernel⟩, List.mem_filter.mpr ⟨List.mem_of_getElem? (i := 474) (by decide +kernel), by decide +kernel⟩⟩
theorem k_X3_45 : dc_lkV RX3 45 mX0_worthOf 1 := ⟨dc_ok_X0_worthOf, List.mem_filter.mpr ⟨List.mem_of_getElem? (i := 564) (by decide +kernel), by decide +kernel⟩, List.mem_filter.mpr ⟨List.mem_of_getElem? (i := 481) (by decide +kernel), by decide +kernel⟩, List.mem_filter.mpr ⟨List.mem_of_getElem? (i := 482) (by decide +kernel), by decide +kernel⟩⟩
theorem k_X3_48 : dc_lkV RX3 48 mX3_afterPiece 2 := ⟨dc_ok_X3_afterPiece, List.mem_filter.mpr ⟨List.mem_of_getElem? (i := 569) (by decide +kernel), by decide +kernel⟩, List.mem_filter.mpr ⟨List.mem_of_getElem? (i := 571) (by decide +kernel), by decide +kernel⟩, List.mem_filter.mpr ⟨List.mem_of_getElem? (i := 9) (by decide +kernel), by decide +kernel⟩⟩
theorem k_X3_51 : dc_lkV RX3 51 mX3_leastLeft 2 := ⟨dc_ok_X3_leastLeft, List.mem_filter.mpr ⟨List.mem_of_getElem? (i := 577) (by decide +kernel), by decide +kernel⟩, List.mem_filter.mpr ⟨List.mem_of_getElem? (i := 579) (by decide +kernel), by decide +kernel⟩, List.mem_filter.mpr ⟨List.mem_of_getElem? (i := 10) (by decide +kernel), by decide +kernel⟩⟩
theorem k_X3_54 : dc_lkS RX3 54 mJ6_bitCount_0f7a4 1 := ⟨dc_ok_J6_bitCount_0f7a4, List.mem_filter.mpr ⟨List.mem_of_getElem? (i := 582) (by decide +kernel), by decide +kernel⟩, List.mem_filter.mpr ⟨List.mem_of_getElem? (i := 327) (by decide +kernel), by decide +kernel⟩⟩
theorem k_X3_59 : dc_lkN RX3 59 mX8_bit 2 "DebtChoir" := ⟨dc_ok_X8_bit, by decide +kernel, List.mem_filter.mpr ⟨List.mem_of_getElem? (i := 440) (by decide +kernel), by decide +kernel⟩⟩
theorem k_X3_62 : dc_lkN RX3 62 mX8_within 3 "DebtChoir" := ⟨dc_ok_X8_within, by decide +kernel, List.mem_filter.mpr ⟨List.mem_of_getElem? (i := 319) (by decide +kernel), by decide +kernel⟩⟩
theorem k_X3_66 : dc_lk_mmax RX3 66 := ⟨List.mem_filter.mpr ⟨List.mem_of_getElem? (i := 574) (by decide +kernel), by decide +kernel⟩, List.mem_filter.mpr ⟨List.mem_of_getElem? (i := 575) (by decide +kernel), by decide +kernel⟩, List.mem_filter.mpr ⟨List.mem_of_getElem? (i := 71) (by decide +kernel), by decide +kernel⟩, List.mem_filter.mpr ⟨List.mem_of_getElem? (i := 576) (by decide +kernel), by decide +kernel⟩⟩
theorem k_X4_19 : dc_lkN RX4 19 mX8_within 3 "DebtChoir" := ⟨dc_ok_X8_within, by decide +kernel, List.mem_filter.mpr ⟨List.mem_of_getElem? (i := 319) (by decide +kernel), by decide +kernel⟩⟩
theorem k_X4_23 : dc_lkS RX4 23 mX4_isLetter 1 := ⟨dc_ok_X4_isLetter, List.mem_filter.mpr ⟨List.mem_of_getElem? (i := 397) (by decide +kernel), by decide +kernel⟩, List.mem_filter.mpr ⟨List.mem_of_getElem? (i := 398) (by decide +kernel), by decide +kernel⟩⟩
theorem k_X4_27 : dc_lkV RX4 27 mX4_signAt 1 := ⟨dc_ok_X4_signAt, List.mem_filter.mpr ⟨List.mem_of_getElem? (i := 390) (by decide +kernel), by decide +kernel⟩, List.mem_filter.mpr ⟨List.mem_of_getElem? (i := 391) (by decide +kernel), by decide +kernel⟩, List.mem_filter.mpr ⟨List.mem_of_getElem? (i := 392) (by decide +kernel), by decide +kernel⟩⟩
theorem k_X4_31 : dc_lkS RX4 31 mX4_isPiece 1 := ⟨dc_ok_X4_isPiece, List.mem_filter.mpr ⟨List.mem_of_getElem? (i := 394) (by decide +kernel), by decide +kernel⟩, List.mem_filter.mpr ⟨List.mem_of_getElem? (i := 395) (by decide +kernel), by decide +kernel⟩⟩
theorem k_X4_34 : dc_lkS RX4 34 mX4_isMark 1 := ⟨dc_ok_X4_isMark, List.mem_filter.mpr ⟨List.mem_of_getElem? (i := 400) (by decide +kernel), by decide +kernel⟩, List.mem_filter.mpr ⟨List.mem_of_getElem? (i := 401) (by decide +kernel), by decide +kernel⟩⟩
theorem k_X4_37 : dc_lkV RX4 37 mX4_faultIn 1 := ⟨dc_ok_X4_faultIn, List.mem_filter.mpr ⟨List.mem_of_getElem? (i := 386) (by decide +kernel), by decide +kernel⟩, List.mem_filter.mpr ⟨List.mem_of_getElem? (i := 388) (by decide +kernel), by decide +kernel⟩, List.mem_filter.mpr ⟨List.mem_of_getElem? (i := 0) (by decide +kernel), by decide +kernel⟩⟩
theorem k_X4_40 : dc_lkS RX4 40 mX4_lengthOf 2 := ⟨dc_ok_X4_lengthOf, List.mem_filter.mpr ⟨List.mem_of_getElem? (i := 403) (by decide +kernel), by decide +kernel⟩, List.mem_filter.mpr ⟨List.mem_of_getElem? (i := 404) (by decide +kernel), by decide +kernel⟩⟩
theorem k_X5_25 : dc_lkV RX5 25 mX5_bestLeft 1 := ⟨dc_ok_X5_bestLeft, List.mem_filter.mpr ⟨List.mem_of_getElem? (i := 628) (by decide +kernel), by decide +kernel⟩, List.mem_filter.mpr ⟨List.mem_of_getElem? (i := 630) (by decide +kernel), by decide +kernel⟩, List.mem_filter.mpr ⟨List.mem_of_getElem? (i := 11) (by decide +kernel), by decide +kernel⟩⟩
theorem k_X5_29 : dc_lkN RX5 29 mX8_bit 2 "DebtChoir" := ⟨dc_ok_X8_bit, by decide +kernel, List.mem_filter.mpr ⟨List.mem_of_getElem? (i := 440) (by decide +kernel), by decide +kernel⟩⟩
theorem k_X5_33 : dc_lkV RX5 33 mX5_isInRing 1 := ⟨dc_ok_X5_isInRing, List.mem_filter.mpr ⟨List.mem_of_getElem? (i := 634) (by decide +kernel), by decide +kernel⟩, List.mem_filter.mpr ⟨List.mem_of_getElem? (i := 636) (by decide +kernel), by decide +kernel⟩, List.mem_filter.mpr ⟨List.mem_of_getElem? (i := 12) (by decide +kernel), by decide +kernel⟩⟩
theorem k_X5_37 : dc_lkN RX5 37 mX8_digitOf 2 "DebtChoir" := ⟨dc_ok_X8_digitOf, by decide +kernel, List.mem_filter.mpr ⟨List.mem_of_getElem? (i := 354) (by decide +kernel), by decide +kernel⟩⟩
theorem k_X5_40 : dc_lkN RX5 40 mX8_within 3 "DebtChoir" := ⟨dc_ok_X8_within, by decide +kernel, List.mem_filter.mpr ⟨List.mem_of_getElem? (i := 319) (by decide +kernel), by decide +kernel⟩⟩
theorem k_X6_28 : dc_lkCp RX6 28 := ⟨List.mem_filter.mpr ⟨List.mem_of_getElem? (i := 739) (by decide +kernel), by decide +kernel⟩, List.mem_filter.mpr ⟨List.mem_of_getElem? (i := 424) (by decide +kernel), by decide +kernel⟩, List.mem_filter.mpr ⟨List.mem_of_getElem? (i := 423) (by decide +kernel), by decide +kernel⟩, List.mem_filter.mpr ⟨List.mem_of_getElem? (i := 70) (by decide +kernel), by decide +kernel⟩⟩
theorem k_X6_34 : dc_lkN RX6 34 mX8_within 3 "DebtChoir" := ⟨dc_ok_X8_within, by decide +kernel, List.mem_filter.mpr ⟨List.mem_of_getElem? (i := 319) (by decide +kernel), by decide +kernel⟩⟩
theorem k_X6_38 : dc_lk_mmin RX6 38 := ⟨List.mem_filter.mpr ⟨List.mem_of_getElem? (i := 675) (by decide +kernel), by decide +kernel⟩, List.mem_filter.mpr ⟨List.mem_of_getElem? (i := 447) (by decide +kernel), by decide +kernel⟩, List.mem_filter.mpr ⟨List.mem_of_getElem? (i := 71) (by decide +kernel), by decide +kernel⟩, List.mem_filter.mpr ⟨List.mem_of_getElem? (i := 448) (by decide +kernel), by decide +kernel⟩⟩
theorem k_X6_44 : dc_lkS RX6 44 mX6_sumOf 2 := ⟨dc_ok_X6_sumOf, List.mem_filter.mpr ⟨List.mem_of_getElem? (i := 672) (by decide +kernel), by decide +kernel⟩, List.mem_filter.mpr ⟨List.mem_of_getElem? (i := 673) (by decide +kernel), by decide +kernel⟩⟩
theorem k_X6_50 : dc_lkV RX6 50 mX6_fitsAll 1 := ⟨dc_ok_X6_fitsAll, List.mem_filter.mpr ⟨List.mem_of_getElem? (i := 668) (by decide +kernel), by decide +kernel⟩, List.mem_filter.mpr ⟨List.mem_of_getElem? (i := 670) (by decide +kernel), by decide +kernel⟩, List.mem_filter.mpr ⟨List.mem_of_getElem? (i := 13) (by decide +kernel), by decide +kernel⟩⟩
theorem k_X6_54 : dc_lkV RX6 54 mX6_rowAt 1 := ⟨dc_ok_X6_rowAt, List.mem_filter.mpr ⟨List.mem_of_getElem? (i := 688) (by decide +kernel), by decide +kernel⟩, List.mem_filter.mpr ⟨List.mem_of_getElem? (i := 677) (by decide +kernel), by decide +kernel⟩, List.mem_filter.mpr ⟨List.mem_of_getElem? (i := 678) (by decide +kernel), by decide +kernel⟩⟩
theorem k_X6_58 : dc_lk_mmax RX6 58 := ⟨List.mem_filter.mpr ⟨List.mem_of_getElem? (i := 689) (by decide +kernel), by decide +kernel⟩, List.mem_filter.mpr ⟨List.mem_of_getElem? (i := 575) (by decide +kernel), by decide +kernel⟩, List.mem_filter.mpr ⟨List.mem_of_getElem? (i := 71) (by decide +kernel), by decide +kernel⟩, List.mem_filter.mpr ⟨List.mem_of_getElem? (i := 576) (by decide +kernel), by decide +kernel⟩⟩
theorem k_X7_18 : dc_lkV RX7 18 mX0_copyFrom 1 := ⟨dc_ok_X0_copyFrom, List.mem_filter.mpr ⟨List.mem_of_getElem? (i := 418) (by decide +kernel), by decide +kernel⟩, List.mem_filter.mpr ⟨List.mem_of_getElem? (i := 419) (by decide +kernel), by decide +kernel⟩, List.mem_filter.mpr ⟨List.mem_of_getElem? (i := 420) (by decide +kernel), by decide +kernel⟩⟩
theorem k_X7_41 : dc_lkV RX7 41 mX7_start 1 := ⟨dc_ok_X7_start, List.mem_filter.mpr ⟨List.mem_of_getElem? (i := 414) (by decide +kernel), by decide +kernel⟩, List.mem_filter.mpr ⟨List.mem_of_getElem? (i := 415) (by decide +kernel), by decide +kernel⟩, List.mem_filter.mpr ⟨List.mem_of_getElem? (i := 416) (by decide +kernel), by decide +kernel⟩⟩
theorem k_X7_44 : dc_lkV RX7 44 mX4_faultPlace 0 := ⟨dc_ok_X4_faultPlace, List.mem_filter.mpr ⟨List.mem_of_getElem? (i := 425) (by decide +kernel), by decide +kernel⟩, List.mem_filter.mpr ⟨List.mem_of_getElem? (i := 383) (by decide +kernel), by decide +kernel⟩, List.mem_filter.mpr ⟨List.mem_of_getElem? (i := 384) (by decide +kernel), by decide +kernel⟩⟩
theorem k_X7_53 : dc_lkV RX7 53 mX0_freeSingers 0 := ⟨dc_ok_X0_freeSingers, List.mem_filter.mpr ⟨List.mem_of_getElem? (i := 426) (by decide +kernel), by decide +kernel⟩, List.mem_filter.mpr ⟨List.mem_of_getElem? (i := 427) (by decide +kernel), by decide +kernel⟩, List.mem_filter.mpr ⟨List.mem_of_getElem? (i := 428) (by decide +kernel), by decide +kernel⟩⟩
theorem k_X7_56 : dc_lkV RX7 56 mX4_signAt 1 := ⟨dc_ok_X4_signAt, List.mem_filter.mpr ⟨List.mem_of_getElem? (i := 430) (by decide +kernel), by decide +kernel⟩, List.mem_filter.mpr ⟨List.mem_of_getElem? (i := 391) (by decide +kernel), by decide +kernel⟩, List.mem_filter.mpr ⟨List.mem_of_getElem? (i := 392) (by decide +kernel), by decide +kernel⟩⟩
theorem k_X7_60 : dc_lkV RX7 60 mX7_act 3 := ⟨dc_ok_X7_act, List.mem_filter.mpr ⟨List.mem_of_getElem? (i := 431) (by decide +kernel), by decide +kernel⟩, List.mem_filter.mpr ⟨List.mem_of_getElem? (i := 433) (by decide +kernel), by decide +kernel⟩, List.mem_filter.mpr ⟨List.mem_of_getElem? (i := 1) (by decide +kernel), by decide +kernel⟩⟩
theorem k_X7_64 : dc_lkV RX7 64 mX7_noteFreed 1 := ⟨dc_ok_X7_noteFreed, List.mem_filter.mpr ⟨List.mem_of_getElem? (i := 509) (by decide +kernel), by decide +kernel⟩, List.mem_filter.mpr ⟨List.mem_of_getElem? (i := 511) (by decide +kernel), by decide +kernel⟩, List.mem_filter.mpr ⟨List.mem_of_getElem? (i := 6) (by decide +kernel), by decide +kernel⟩⟩
theorem k_X7_68 : dc_lkS RX7 68 mX4_isPiece 1 := ⟨dc_ok_X4_isPiece, List.mem_filter.mpr ⟨List.mem_of_getElem? (i := 453) (by decide +kernel), by decide +kernel⟩, List.mem_filter.mpr ⟨List.mem_of_getElem? (i := 395) (by decide +kernel), by decide +kernel⟩⟩
theorem k_X7_72 : dc_lkS RX7 72 mX4_lengthOf 2 := ⟨dc_ok_X4_lengthOf, List.mem_filter.mpr ⟨List.mem_of_getElem? (i := 517) (by decide +kernel), by decide +kernel⟩, List.mem_filter.mpr ⟨List.mem_of_getElem? (i := 404) (by decide +kernel), by decide +kernel⟩⟩
theorem k_X7_76 : dc_lkS RX7 76 mJ6_numberOfTrailingZeros_0f7a4 1 := ⟨dc_ok_J6_numberOfTrailingZeros_0f7a4, List.mem_filter.mpr ⟨List.mem_of_getElem? (i := 513) (by decide +kernel), by decide +kernel⟩, List.mem_filter.mpr ⟨List.mem_of_getElem? (i := 514) (by decide +kernel), by decide +kernel⟩⟩
theorem k_X7_81 : dc_lkV RX7 81 mX0_endEvening 0 := ⟨dc_ok_X0_endEvening, List.mem_filter.mpr ⟨List.mem_of_getElem? (i := 435) (by decide +kernel), by decide +kernel⟩, List.mem_filter.mpr ⟨List.mem_of_getElem? (i := 436) (by decide +kernel), by decide +kernel⟩, List.mem_filter.mpr ⟨List.mem_of_getElem? (i := 437) (by decide +kernel), by decide +kernel⟩⟩
theorem k_X7_84 : dc_lkV RX7 84 mX0_sing 1 := ⟨dc_ok_X0_sing, List.mem_filter.mpr ⟨List.mem_of_getElem? (i := 454) (by decide +kernel), by decide +kernel⟩, List.mem_filter.mpr ⟨List.mem_of_getElem? (i := 455) (by decide +kernel), by decide +kernel⟩, List.mem_filter.mpr ⟨List.mem_of_getElem? (i := 456) (by decide +kernel), by decide +kernel⟩⟩
theorem k_X7_87 : dc_lkV RX7 87 mX0_borrow 2 := ⟨dc_ok_X0_borrow, List.mem_filter.mpr ⟨List.mem_of_getElem? (i := 493) (by decide +kernel), by decide +kernel⟩, List.mem_filter.mpr ⟨List.mem_of_getElem? (i := 494) (by decide +kernel), by decide +kernel⟩, List.mem_filter.mpr ⟨List.mem_of_getElem? (i := 495) (by decide +kernel), by decide +kernel⟩⟩
theorem k_X7_90 : dc_lkV RX7 90 mX0_turnHoarse 1 := ⟨dc_ok_X0_turnHoarse, List.mem_filter.mpr ⟨List.mem_of_getElem? (i := 497) (by decide +kernel), by decide +kernel⟩, List.mem_filter.mpr ⟨List.mem_of_getElem? (i := 498) (by decide +kernel), by decide +kernel⟩, List.mem_filter.mpr ⟨List.mem_of_getElem? (i := 499) (by decide +kernel), by decide +kernel⟩⟩
theorem k_X7_93 : dc_lkV RX7 93 mX0_takeOver 2 := ⟨dc_ok_X0_takeOver, List.mem_filter.mpr ⟨List.mem_of_getElem? (i := 501) (by decide +kernel), by decide +kernel⟩, List.mem_filter.mpr ⟨List.mem_of_getElem? (i := 502) (by decide +kernel), by decide +kernel⟩, List.mem_filter.mpr ⟨List.mem_of_getElem? (i := 503) (by decide +kernel), by decide +kernel⟩⟩
theorem k_X7_96 : dc_lkV RX7 96 mX0_letGo 1 := ⟨dc_ok_X0_letGo, List.mem_filter.mpr ⟨List.mem_of_getElem? (i := 505) (by decide +kernel), by decide +kernel⟩, List.mem_filter.mpr ⟨List.mem_of_getElem? (i := 506) (by decide +kernel), by decide +kernel⟩, List.mem_filter.mpr ⟨List.mem_of_getElem? (i := 507) (by decide +kernel), by decide +kernel⟩⟩
theorem k_L_13 : dc_lkV RL 13 mX8_singer 3 := ⟨dc_ok_X8_singer, List.mem_filter.mpr ⟨List.mem_of_getElem? (i := 314) (by decide +kernel), by decide +kernel⟩, List.mem_filter.mpr ⟨List.mem_of_getElem? (i := 315) (by decide +kernel), by decide +kernel⟩, List.mem_filter.mpr ⟨List.mem_of_getElem? (i := 316) (by decide +kernel), by decide +kernel⟩⟩
theorem k_L_17 : dc_lkV RL 17 mX9_singer 3 := ⟨dc_ok_X9_singer, List.mem_filter.mpr ⟨List.mem_of_getElem? (i := 874) (by decide +kernel), by decide +kernel⟩, List.mem_filter.mpr ⟨List.mem_of_getElem? (i := 875) (by decide +kernel), by decide +kernel⟩, List.mem_filter.mpr ⟨List.mem_of_getElem? (i := 876) (by decide +kernel), by decide +kernel⟩⟩
theorem k_L_18 : dc_lkV RL 18 mX8_leave 1 := ⟨dc_ok_X8_leave, List.mem_filter.mpr ⟨List.mem_of_getElem? (i := 332) (by decide +kernel), by decide +kernel⟩, List.mem_filter.mpr ⟨List.mem_of_getElem? (i := 333) (by decide +kernel), by decide +kernel⟩, List.mem_filter.mpr ⟨List.mem_of_getElem? (i := 334) (by decide +kernel), by decide +kernel⟩⟩
theorem k_L_22 : dc_lkV RL 22 mX9_leave 1 := ⟨dc_ok_X9_leave, List.mem_filter.mpr ⟨List.mem_of_getElem? (i := 887) (by decide +kernel), by decide +kernel⟩, List.mem_filter.mpr ⟨List.mem_of_getElem? (i := 888) (by decide +kernel), by decide +kernel⟩, List.mem_filter.mpr ⟨List.mem_of_getElem? (i := 889) (by decide +kernel), by decide +kernel⟩⟩
theorem k_L_23 : dc_lkV RL 23 mX8_piece 4 := ⟨dc_ok_X8_piece, List.mem_filter.mpr ⟨List.mem_of_getElem? (i := 346) (by decide +kernel), by decide +kernel⟩, List.mem_filter.mpr ⟨List.mem_of_getElem? (i := 347) (by decide +kernel), by decide +kernel⟩, List.mem_filter.mpr ⟨List.mem_of_getElem? (i := 348) (by decide +kernel), by decide +kernel⟩⟩
theorem k_L_27 : dc_lkV RL 27 mX9_piece 4 := ⟨dc_ok_X9_piece, List.mem_filter.mpr ⟨List.mem_of_getElem? (i := 895) (by decide +kernel), by decide +kernel⟩, List.mem_filter.mpr ⟨List.mem_of_getElem? (i := 896) (by decide +kernel), by decide +kernel⟩, List.mem_filter.mpr ⟨List.mem_of_getElem? (i := 897) (by decide +kernel), by decide +kernel⟩⟩
theorem k_L_28 : dc_lkV RL 28 mX8_say 1 := ⟨dc_ok_X8_say, List.mem_filter.mpr ⟨List.mem_of_getElem? (i := 365) (by decide +kernel), by decide +kernel⟩, List.mem_filter.mpr ⟨List.mem_of_getElem? (i := 366) (by decide +kernel), by decide +kernel⟩, List.mem_filter.mpr ⟨List.mem_of_getElem? (i := 367) (by decide +kernel), by decide +kernel⟩⟩
theorem k_L_31 : dc_lkV RL 31 mX9_say 1 := ⟨dc_ok_X9_say, List.mem_filter.mpr ⟨List.mem_of_getElem? (i := 906) (by decide +kernel), by decide +kernel⟩, List.mem_filter.mpr ⟨List.mem_of_getElem? (i := 907) (by decide +kernel), by decide +kernel⟩, List.mem_filter.mpr ⟨List.mem_of_getElem? (i := 908) (by decide +kernel), by decide +kernel⟩⟩
theorem k_L_32 : dc_lkV RL 32 mX8_wipe 0 := ⟨dc_ok_X8_wipe, List.mem_filter.mpr ⟨List.mem_of_getElem? (i := 374) (by decide +kernel), by decide +kernel⟩, List.mem_filter.mpr ⟨List.mem_of_getElem? (i := 375) (by decide +kernel), by decide +kernel⟩, List.mem_filter.mpr ⟨List.mem_of_getElem? (i := 376) (by decide +kernel), by decide +kernel⟩⟩
theorem k_L_36 : dc_lkV RL 36 mX9_wipe 0 := ⟨dc_ok_X9_wipe, List.mem_filter.mpr ⟨List.mem_of_getElem? (i := 912) (by decide +kernel), by decide +kernel⟩, List.mem_filter.mpr ⟨List.mem_of_getElem? (i := 913) (by decide +kernel), by decide +kernel⟩, List.mem_filter.mpr ⟨List.mem_of_getElem? (i := 914) (by decide +kernel), by decide +kernel⟩⟩
theorem k_L_37 : dc_lkV RL 37 mX8_fault 0 := ⟨dc_ok_X8_fault, List.mem_filter.mpr ⟨List.mem_of_getElem? (i := 378) (by decide +kernel), by decide +kernel⟩, List.mem_filter.mpr ⟨List.mem_of_getElem? (i := 379) (by decide +kernel), by decide +kernel⟩, List.mem_filter.mpr ⟨List.mem_of_getElem? (i := 380) (by decide +kernel), by decide +kernel⟩⟩
theorem k_L_40 : dc_lkV RL 40 mX9_fault 0 := ⟨dc_ok_X9_fault, List.mem_filter.mpr ⟨List.mem_of_getElem? (i := 916) (by decide +kernel), by decide +kernel⟩, List.mem_filter.mpr ⟨List.mem_of_getElem? (i := 917) (by decide +kernel), by decide +kernel⟩, List.mem_filter.mpr ⟨List.mem_of_getElem? (i := 918) (by decide +kernel), by decide +kernel⟩⟩
theorem k_L_41 : dc_lkV RL 41 mX8_judge 1 := ⟨dc_ok_X8_judge, List.mem_filter.mpr ⟨List.mem_of_getElem? (i := 406) (by decide +kernel), by decide +kernel⟩, List.mem_filter.mpr ⟨List.mem_of_getElem? (i := 407) (by decide +kernel), by decide +kernel⟩, List.mem_filter.mpr ⟨List.mem_of_getElem? (i := 408) (by decide +kernel), by decide +kernel⟩⟩
theorem k_L_44 : dc_lkV RL 44 mX9_judge 1 := ⟨dc_ok_X9_judge, List.mem_filter.mpr ⟨List.mem_of_getElem? (i := 938) (by decide +kernel), by decide +kernel⟩, List.mem_filter.mpr ⟨List.mem_of_getElem? (i := 939) (by decide +kernel), by decide +kernel⟩, List.mem_filter.mpr ⟨List.mem_of_getElem? (i := 940) (by decide +kernel), by decide +kernel⟩⟩
theorem k_L_45 : dc_lkV RL 45 mX8_behind 2 := ⟨dc_ok_X8_behind, List.mem_filter.mpr ⟨List.mem_of_getElem? (i := 518) (by decide +kernel), by decide +kernel⟩, List.mem_filter.mpr ⟨List.mem_of_getElem? (i := 519) (by decide +kernel), by decide +kernel⟩, List.mem_filter.mpr ⟨List.mem_of_getElem? (i := 520) (by decide +kernel), by decide +kernel⟩⟩
theorem k_L_49 : dc_lkV RL 49 mX9_behind 2 := ⟨dc_ok_X9_behind, List.mem_filter.mpr ⟨List.mem_of_getElem? (i := 1007) (by decide +kernel), by decide +kernel⟩, List.mem_filter.mpr ⟨List.mem_of_getElem? (i := 1008) (by decide +kernel), by decide +kernel⟩, List.mem_filter.mpr ⟨List.mem_of_getElem? (i := 1009) (by decide +kernel), by decide +kernel⟩⟩
theorem k_L_50 : dc_lkV RL 50 mX8_owed 1 := ⟨dc_ok_X8_owed, List.mem_filter.mpr ⟨List.mem_of_getElem? (i := 524) (by decide +kernel), by decide +kernel⟩, List.mem_filter.mpr ⟨List.mem_of_getElem? (i := 525) (by decide +kernel), by decide +kernel⟩, List.mem_filter.mpr ⟨List.mem_of_getElem? (i := 526) (by decide +kernel), by decide +kernel⟩⟩
theorem k_L_53 : dc_lkV RL 53 mX9_owed 1 := ⟨dc_ok_X9_owed, List.mem_filter.mpr ⟨List.mem_of_getElem? (i := 1011) (by decide +kernel), by decide +kernel⟩, List.mem_filter.mpr ⟨List.mem_of_getElem? (i := 1012) (by decide +kernel), by decide +kernel⟩, List.mem_filter.mpr ⟨List.mem_of_getElem? (i := 1013) (by decide +kernel), by decide +kernel⟩⟩
theorem k_L_54 : dc_lkV RL 54 mX8_freed 1 := ⟨dc_ok_X8_freed, List.mem_filter.mpr ⟨List.mem_of_getElem? (i := 532) (by decide +kernel), by decide +kernel⟩, List.mem_filter.mpr ⟨List.mem_of_getElem? (i := 533) (by decide +kernel), by decide +kernel⟩, List.mem_filter.mpr ⟨List.mem_of_getElem? (i := 534) (by decide +kernel), by decide +kernel⟩⟩
theorem k_L_57 : dc_lkV RL 57 mX9_freed 1 := ⟨dc_ok_X9_freed, List.mem_filter.mpr ⟨List.mem_of_getElem? (i := 1019) (by decide +kernel), by decide +kernel⟩, List.mem_filter.mpr ⟨List.mem_of_getElem? (i := 1020) (by decide +kernel), by decide +kernel⟩, List.mem_filter.mpr ⟨List.mem_of_getElem? (i := 1021) (by decide +kernel), by decide +kernel⟩⟩
theorem k_L_58 : dc_lkV RL 58 mX8_done 0 := ⟨dc_ok_X8_done, List.mem_filter.mpr ⟨List.mem_of_getElem? (i := 536) (by decide +kernel), by decide +kernel⟩, List.mem_filter.mpr ⟨List.mem_of_getElem? (i := 537) (by decide +kernel), by decide +kernel⟩, List.mem_filter.mpr ⟨List.mem_of_getElem? (i := 538) (by decide +kernel), by decide +kernel⟩⟩
theorem k_L_61 : dc_lkV RL 61 mX9_done 0 := ⟨dc_ok_X9_done, List.mem_filter.mpr ⟨List.mem_of_getElem? (i := 1023) (by decide +kernel), by decide +kernel⟩, List.mem_filter.mpr ⟨List.mem_of_getElem? (i := 1024) (by decide +kernel), by decide +kernel⟩, List.mem_filter.mpr ⟨List.mem_of_getElem? (i := 1025) (by decide +kernel), by decide +kernel⟩⟩
theorem k_L_62 : dc_lkV RL 62 mX8_may 0 := ⟨dc_ok_X8_may, List.mem_filter.mpr ⟨List.mem_of_getElem? (i := 541) (by decide +kernel), by decide +kernel⟩, List.mem_filter.mpr ⟨List.mem_of_getElem? (i := 542) (by decide +kernel), by decide +kernel⟩, List.mem_filter.mpr ⟨List.mem_of_getElem? (i := 543) (by decide +kernel), by decide +kernel⟩⟩
theorem k_L_65 : dc_lkV RL 65 mX9_may 0 := ⟨dc_ok_X9_may, List.mem_filter.mpr ⟨List.mem_of_getElem? (i := 1027) (by decide +kernel), by decide +kernel⟩, List.mem_filter.mpr ⟨List.mem_of_getElem? (i := 1028) (by decide +kernel), by decide +kernel⟩, List.mem_filter.mpr ⟨List.mem_of_getElem? (i := 1029) (by decide +kernel), by decide +kernel⟩⟩
theorem k_L_66 : dc_lkV RL 66 mX8_nights 2 := ⟨dc_ok_X8_nights, List.mem_filter.mpr ⟨List.mem_of_getElem? (i := 546) (by decide +kernel), by decide +kernel⟩, List.mem_filter.mpr ⟨List.mem_of_getElem? (i := 547) (by decide +kernel), by decide +kernel⟩, List.mem_filter.mpr ⟨List.mem_of_getElem? (i := 548) (by decide +kernel), by decide +kernel⟩⟩
theorem k_L_69 : dc_lkV RL 69 mX9_nights 2 := ⟨dc_ok_X9_nights, List.mem_filter.mpr ⟨List.mem_of_getElem? (i := 1031) (by decide +kernel), by decide +kernel⟩, List.mem_filter.mpr ⟨List.mem_of_getElem? (i := 1032) (by decide +kernel), by decide +kernel⟩, List.mem_filter.mpr ⟨List.mem_of_getElem? (i := 1033) (by decide +kernel), by decide +kernel⟩⟩
theorem k_L_70 : dc_lkV RL 70 mX8_programme 2 := ⟨dc_ok_X8_programme, List.mem_filter.mpr ⟨List.mem_of_getElem? (i := 583) (by decide +kernel), by decide +kernel⟩, List.mem_filter.mpr ⟨List.mem_of_getElem? (i := 584) (by decide +kernel), by decide +kernel⟩, List.mem_filter.mpr ⟨List.mem_of_getElem? (i := 585) (by decide +kernel), by decide +kernel⟩⟩
theorem k_L_73 : dc_lkV RL 73 mX9_programme 2 := ⟨dc_ok_X9_programme, List.mem_filter.mpr ⟨List.mem_of_getElem? (i := 1054) (by decide +kernel), by decide +kernel⟩, List.mem_filter.mpr ⟨List.mem_of_getElem? (i := 1055) (by decide +kernel), by decide +kernel⟩, List.mem_filter.mpr ⟨List.mem_of_getElem? (i := 1056) (by decide +kernel), by decide +kernel⟩⟩
theorem k_L_74 : dc_lkV RL 74 mX8_ruin 2 := ⟨dc_ok_X8_ruin, List.mem_filter.mpr ⟨List.mem_of_getElem? (i := 595) (by decide +kernel), by decide +kernel⟩, List.mem_filter.mpr ⟨List.mem_of_getElem? (i := 596) (by decide +kernel), by decide +kernel⟩, List.mem_filter.mpr ⟨List.mem_of_getElem? (i := 597) (by decide +kernel), by decide +kernel⟩⟩
theorem k_L_77 : dc_lkV RL 77 mX9_ruin 2 := ⟨dc_ok_X9_ruin, List.mem_filter.mpr ⟨List.mem_of_getElem? (i := 1071) (by decide +kernel), by decide +kernel⟩, List.mem_filter.mpr ⟨List.mem_of_getElem? (i := 1072) (by decide +kernel), by decide +kernel⟩, List.mem_filter.mpr ⟨List.mem_of_getElem? (i := 1073) (by decide +kernel), by decide +kernel⟩⟩
theorem k_L_78 : dc_lkV RL 78 mX8_seats 3 := ⟨dc_ok_X8_seats, List.mem_filter.mpr ⟨List.mem_of_getElem? (i := 605) (by decide +kernel), by decide +kernel⟩, List.mem_filter.mpr ⟨List.mem_of_getElem? (i := 606) (by decide +kernel), by decide +kernel⟩, List.mem_filter.mpr ⟨List.mem_of_getElem? (i := 607) (by decide +kernel), by decide +kernel⟩⟩
theorem k_L_81 : dc_lkV RL 81 mX9_seats 3 := ⟨dc_ok_X9_seats, List.mem_filter.mpr ⟨List.mem_of_getElem? (i := 1079) (by decide +kernel), by decide +kernel⟩, List.mem_filter.mpr ⟨List.mem_of_getElem? (i := 1080) (by decide +kernel), by decide +kernel⟩, List.mem_filter.mpr ⟨List.mem_of_getElem? (i := 1081) (by decide +kernel), by decide +kernel⟩⟩
theorem k_L_82 : dc_lkV RL 82 mX8_rings 5 := ⟨dc_ok_X8_rings, List.mem_filter.mpr ⟨List.mem_of_getElem? (i := 613) (by decide +kernel), by decide +kernel⟩, List.mem_filter.mpr ⟨List.mem_of_getElem? (i := 614) (by decide +kernel), by decide +kernel⟩, List.mem_filter.mpr ⟨List.mem_of_getElem? (i := 615) (by decide +kernel), by decide +kernel⟩⟩
theorem k_L_86 : dc_lkV RL 86 mX9_rings 5 := ⟨dc_ok_X9_rings, List.mem_filter.mpr ⟨List.mem_of_getElem? (i := 1089) (by decide +kernel), by decide +kernel⟩, List.mem_filter.mpr ⟨List.mem_of_getElem? (i := 1090) (by decide +kernel), by decide +kernel⟩, List.mem_filter.mpr ⟨List.mem_of_getElem? (i := 1091) (by decide +kernel), by decide +kernel⟩⟩
theorem k_L_87 : dc_lkV RL 87 mX8_seen 2 := ⟨dc_ok_X8_seen, List.mem_filter.mpr ⟨List.mem_of_getElem? (i := 647) (by decide +kernel), by decide +kernel⟩, List.mem_filter.mpr ⟨List.mem_of_getElem? (i := 648) (by decide +kernel), by decide +kernel⟩, List.mem_filter.mpr ⟨List.mem_of_getElem? (i := 649) (by decide +kernel), by decide +kernel⟩⟩
theorem k_L_90 : dc_lkV RL 90 mX9_seen 2 := ⟨dc_ok_X9_seen, List.mem_filter.mpr ⟨List.mem_of_getElem? (i := 1110) (by decide +kernel), by decide +kernel⟩, List.mem_filter.mpr ⟨List.mem_of_getElem? (i := 1111) (by decide +kernel), by decide +kernel⟩, List.mem_filter.mpr ⟨List.mem_of_getElem? (i := 1112) (by decide +kernel), by decide +kernel⟩⟩
theorem k_L_91 : dc_lkV RL 91 mX8_forget 0 := ⟨dc_ok_X8_forget, List.mem_filter.mpr ⟨List.mem_of_getElem? (i := 656) (by decide +kernel), by decide +kernel⟩, List.mem_filter.mpr ⟨List.mem_of_getElem? (i := 657) (by decide +kernel), by decide +kernel⟩, List.mem_filter.mpr ⟨List.mem_of_getElem? (i := 658) (by decide +kernel), by decide +kernel⟩⟩
theorem k_L_94 : dc_lkV RL 94 mX9_forget 0 := ⟨dc_ok_X9_forget, List.mem_filter.mpr ⟨List.mem_of_getElem? (i := 1115) (by decide +kernel), by decide +kernel⟩, List.mem_filter.mpr ⟨List.mem_of_getElem? (i := 1116) (by decide +kernel), by decide +kernel⟩, List.mem_filter.mpr ⟨List.mem_of_getElem? (i := 1117) (by decide +kernel), by decide +kernel⟩⟩
theorem k_L_95 : dc_lkV RL 95 mX8_holds 1 := ⟨dc_ok_X8_holds, List.mem_filter.mpr ⟨List.mem_of_getElem? (i := 660) (by decide +kernel), by decide +kernel⟩, List.mem_filter.mpr ⟨List.mem_of_getElem? (i := 661) (by decide +kernel), by decide +kernel⟩, List.mem_filter.mpr ⟨List.mem_of_getElem? (i := 662) (by decide +kernel), by decide +kernel⟩⟩
theorem k_L_98 : dc_lkV RL 98 mX9_holds 1 := ⟨dc_ok_X9_holds, List.mem_filter.mpr ⟨List.mem_of_getElem? (i := 1119) (by decide +kernel), by decide +kernel⟩, List.mem_filter.mpr ⟨List.mem_of_getElem? (i := 1120) (by decide +kernel), by decide +kernel⟩, List.mem_filter.mpr ⟨List.mem_of_getElem? (i := 1121) (by decide +kernel), by decide +kernel⟩⟩
theorem k_L_99 : dc_lkV RL 99 mX8_ask 1 := ⟨dc_ok_X8_ask, List.mem_filter.mpr ⟨List.mem_of_getElem? (i := 680) (by decide +kernel), by decide +kernel⟩, List.mem_filter.mpr ⟨List.mem_of_getElem? (i := 681) (by decide +kernel), by decide +kernel⟩, List.mem_filter.mpr ⟨List.mem_of_getElem? (i := 682) (by decide +kernel), by decide +kernel⟩⟩
theorem k_L_102 : dc_lkV RL 102 mX9_ask 1 := ⟨dc_ok_X9_ask, List.mem_filter.mpr ⟨List.mem_of_getElem? (i := 1130) (by decide +kernel), by decide +kernel⟩, List.mem_filter.mpr ⟨List.mem_of_getElem? (i := 1131) (by decide +kernel), by decide +kernel⟩, List.mem_filter.mpr ⟨List.mem_of_getElem? (i := 1132) (by decide +kernel), by decide +kernel⟩⟩
theorem k_L_103 : dc_lkV RL 103 mX8_fugue 7 := ⟨dc_ok_X8_fugue, List.mem_filter.mpr ⟨List.mem_of_getElem? (i := 690) (by decide +kernel), by decide +kernel⟩, List.mem_filter.mpr ⟨List.mem_of_getElem? (i := 691) (by decide +kernel), by decide +kernel⟩, List.mem_filter.mpr ⟨List.mem_of_getElem? (i := 692) (by decide +kernel), by decide +kernel⟩⟩
theorem k_L_107 : dc_lkV RL 107 mX9_fugue 7 := ⟨dc_ok_X9_fugue, List.mem_filter.mpr ⟨List.mem_of_getElem? (i := 1138) (by decide +kernel), by decide +kernel⟩, List.mem_filter.mpr ⟨List.mem_of_getElem? (i := 1139) (by decide +kernel), by decide +kernel⟩, List.mem_filter.mpr ⟨List.mem_of_getElem? (i := 1140) (by decide +kernel), by decide +kernel⟩⟩
theorem k_L_108 : dc_lkV RL 108 mX8_year 3 := ⟨dc_ok_X8_year, List.mem_filter.mpr ⟨List.mem_of_getElem? (i := 720) (by decide +kernel), by decide +kernel⟩, List.mem_filter.mpr ⟨List.mem_of_getElem? (i := 721) (by decide +kernel), by decide +kernel⟩, List.mem_filter.mpr ⟨List.mem_of_getElem? (i := 722) (by decide +kernel), by decide +kernel⟩⟩
theorem k_L_111 : dc_lkV RL 111 mX9_year 3 := ⟨dc_ok_X9_year, List.mem_filter.mpr ⟨List.mem_of_getElem? (i := 1159) (by decide +kernel), by decide +kernel⟩, List.mem_filter.mpr ⟨List.mem_of_getElem? (i := 1160) (by decide +kernel), by decide +kernel⟩, List.mem_filter.mpr ⟨List.mem_of_getElem? (i := 1161) (by decide +kernel), by decide +kernel⟩⟩
theorem k_L_112 : dc_lkV RL 112 mX8_image 1 := ⟨dc_ok_X8_image, List.mem_filter.mpr ⟨List.mem_of_getElem? (i := 731) (by decide +kernel), by decide +kernel⟩, List.mem_filter.mpr ⟨List.mem_of_getElem? (i := 732) (by decide +kernel), by decide +kernel⟩, List.mem_filter.mpr ⟨List.mem_of_getElem? (i := 733) (by decide +kernel), by decide +kernel⟩⟩
theorem k_L_115 : dc_lkV RL 115 mX9_image 1 := ⟨dc_ok_X9_image, List.mem_filter.mpr ⟨List.mem_of_getElem? (i := 1170) (by decide +kernel), by decide +kernel⟩, List.mem_filter.mpr ⟨List.mem_of_getElem? (i := 1171) (by decide +kernel), by decide +kernel⟩, List.mem_filter.mpr ⟨List.mem_of_getElem? (i := 1172) (by decide +kernel), by decide +kernel⟩⟩
theorem k_L_116 : dc_lkV RL 116 mX8_restore 1 := ⟨dc_ok_X8_restore, List.mem_filter.mpr ⟨List.mem_of_getElem? (i := 740) (by decide +kernel), by decide +kernel⟩, List.mem_filter.mpr ⟨List.mem_of_getElem? (i := 741) (by decide +kernel), by decide +kernel⟩, List.mem_filter.mpr ⟨List.mem_of_getElem? (i := 742) (by decide +kernel), by decide +kernel⟩⟩
theorem k_L_119 : dc_lkV RL 119 mX9_restore 1 := ⟨dc_ok_X9_restore, List.mem_filter.mpr ⟨List.mem_of_getElem? (i := 1186) (by decide +kernel), by decide +kernel⟩, List.mem_filter.mpr ⟨List.mem_of_getElem? (i := 1187) (by decide +kernel), by decide +kernel⟩, List.mem_filter.mpr ⟨List.mem_of_getElem? (i := 1188) (by decide +kernel), by decide +kernel⟩⟩
theorem k_L_120 : dc_lkV RL 120 mX8_told 1 := ⟨dc_ok_X8_told, List.mem_filter.mpr ⟨List.mem_of_getElem? (i := 744) (by decide +kernel), by decide +kernel⟩, List.mem_filter.mpr ⟨List.mem_of_getElem? (i := 745) (by decide +kernel), by decide +kernel⟩, List.mem_filter.mpr ⟨List.mem_of_getElem? (i := 746) (by decide +kernel), by decide +kernel⟩⟩
theorem k_L_123 : dc_lkV RL 123 mX9_told 1 := ⟨dc_ok_X9_told, List.mem_filter.mpr ⟨List.mem_of_getElem? (i := 1190) (by decide +kernel), by decide +kernel⟩, List.mem_filter.mpr ⟨List.mem_of_getElem? (i := 1191) (by decide +kernel), by decide +kernel⟩, List.mem_filter.mpr ⟨List.mem_of_getElem? (i := 1192) (by decide +kernel), by decide +kernel⟩⟩
theorem k_X9_77 : dc_lkS RX9 77 mX9_in 3 := ⟨dc_ok_X9_in, List.mem_filter.mpr ⟨List.mem_of_getElem? (i := 879) (by decide +kernel), by decide +kernel⟩, List.mem_filter.mpr ⟨List.mem_of_getElem? (i := 880) (by decide +kernel), by decide +kernel⟩⟩
theorem k_X9_95 : dc_lkS RX9 95 mX9_bitsOf 1 := ⟨dc_ok_X9_bitsOf, List.mem_filter.mpr ⟨List.mem_of_getElem? (i := 884) (by decide +kernel), by decide +kernel⟩, List.mem_filter.mpr ⟨List.mem_of_getElem? (i := 885) (by decide +kernel), by decide +kernel⟩⟩
theorem k_X9_99 : dc_lkV RX9 99 mX9_isSinger 1 := ⟨dc_ok_X9_isSinger, List.mem_filter.mpr ⟨List.mem_of_getElem? (i := 891) (by decide +kernel), by decide +kernel⟩, List.mem_filter.mpr ⟨List.mem_of_getElem? (i := 893) (by decide +kernel), by decide +kernel⟩, List.mem_filter.mpr ⟨List.mem_of_getElem? (i := 16) (by decide +kernel), by decide +kernel⟩⟩
theorem k_X9_107 : dc_lkS RX9 107 mX9_areNeeds 1 := ⟨dc_ok_X9_areNeeds, List.mem_filter.mpr ⟨List.mem_of_getElem? (i := 900) (by decide +kernel), by decide +kernel⟩, List.mem_filter.mpr ⟨List.mem_of_getElem? (i := 901) (by decide +kernel), by decide +kernel⟩⟩
theorem k_X9_132 : dc_lkV RX9 132 mX9_close 2 := ⟨dc_ok_X9_close, List.mem_filter.mpr ⟨List.mem_of_getElem? (i := 932) (by decide +kernel), by decide +kernel⟩, List.mem_filter.mpr ⟨List.mem_of_getElem? (i := 934) (by decide +kernel), by decide +kernel⟩, List.mem_filter.mpr ⟨List.mem_of_getElem? (i := 19) (by decide +kernel), by decide +kernel⟩⟩
theorem k_X9_136 : dc_lkV RX9 136 mX9_begin 1 := ⟨dc_ok_X9_begin, List.mem_filter.mpr ⟨List.mem_of_getElem? (i := 924) (by decide +kernel), by decide +kernel⟩, List.mem_filter.mpr ⟨List.mem_of_getElem? (i := 926) (by decide +kernel), by decide +kernel⟩, List.mem_filter.mpr ⟨List.mem_of_getElem? (i := 18) (by decide +kernel), by decide +kernel⟩⟩
theorem k_X9_143 : dc_lkV RX9 143 mX9_readOn 2 := ⟨dc_ok_X9_readOn, List.mem_filter.mpr ⟨List.mem_of_getElem? (i := 920) (by decide +kernel), by decide +kernel⟩, List.mem_filter.mpr ⟨List.mem_of_getElem? (i := 922) (by decide +kernel), by decide +kernel⟩, List.mem_filter.mpr ⟨List.mem_of_getElem? (i := 17) (by decide +kernel), by decide +kernel⟩⟩
theorem k_X9_146 : dc_lkV RX9 146 mX9_mayHere 2 := ⟨dc_ok_X9_mayHere, List.mem_filter.mpr ⟨List.mem_of_getElem? (i := 968) (by decide +kernel), by decide +kernel⟩, List.mem_filter.mpr ⟨List.mem_of_getElem? (i := 970) (by decide +kernel), by decide +kernel⟩, List.mem_filter.mpr ⟨List.mem_of_getElem? (i := 26) (by decide +kernel), by decide +kernel⟩⟩
theorem k_X9_150 : dc_lkV RX9 150 mX9_ready 2 := ⟨dc_ok_X9_ready, List.mem_filter.mpr ⟨List.mem_of_getElem? (i := 964) (by decide +kernel), by decide +kernel⟩, List.mem_filter.mpr ⟨List.mem_of_getElem? (i := 966) (by decide +kernel), by decide +kernel⟩, List.mem_filter.mpr ⟨List.mem_of_getElem? (i := 25) (by decide +kernel), by decide +kernel⟩⟩
theorem k_X9_157 : dc_lkV RX9 157 mX9_canBeSung 1 := ⟨dc_ok_X9_canBeSung, List.mem_filter.mpr ⟨List.mem_of_getElem? (i := 960) (by decide +kernel), by decide +kernel⟩, List.mem_filter.mpr ⟨List.mem_of_getElem? (i := 962) (by decide +kernel), by decide +kernel⟩, List.mem_filter.mpr ⟨List.mem_of_getElem? (i := 24) (by decide +kernel), by decide +kernel⟩⟩
theorem k_X9_160 : dc_lkV RX9 160 mX9_whyNotTake 2 := ⟨dc_ok_X9_whyNotTake, List.mem_filter.mpr ⟨List.mem_of_getElem? (i := 972) (by decide +kernel), by decide +kernel⟩, List.mem_filter.mpr ⟨List.mem_of_getElem? (i := 974) (by decide +kernel), by decide +kernel⟩, List.mem_filter.mpr ⟨List.mem_of_getElem? (i := 27) (by decide +kernel), by decide +kernel⟩⟩
theorem k_X9_169 : dc_lkV RX9 169 mX9_singOne 2 := ⟨dc_ok_X9_singOne, List.mem_filter.mpr ⟨List.mem_of_getElem? (i := 992) (by decide +kernel), by decide +kernel⟩, List.mem_filter.mpr ⟨List.mem_of_getElem? (i := 994) (by decide +kernel), by decide +kernel⟩, List.mem_filter.mpr ⟨List.mem_of_getElem? (i := 32) (by decide +kernel), by decide +kernel⟩⟩
theorem k_X9_173 : dc_lkV RX9 173 mX9_singPiece 1 := ⟨dc_ok_X9_singPiece, List.mem_filter.mpr ⟨List.mem_of_getElem? (i := 988) (by decide +kernel), by decide +kernel⟩, List.mem_filter.mpr ⟨List.mem_of_getElem? (i := 990) (by decide +kernel), by decide +kernel⟩, List.mem_filter.mpr ⟨List.mem_of_getElem? (i := 31) (by decide +kernel), by decide +kernel⟩⟩
theorem k_X9_177 : dc_lkV RX9 177 mX9_endEvening 0 := ⟨dc_ok_X9_endEvening, List.mem_filter.mpr ⟨List.mem_of_getElem? (i := 996) (by decide +kernel), by decide +kernel⟩, List.mem_filter.mpr ⟨List.mem_of_getElem? (i := 998) (by decide +kernel), by decide +kernel⟩, List.mem_filter.mpr ⟨List.mem_of_getElem? (i := 33) (by decide +kernel), by decide +kernel⟩⟩
theorem k_X9_192 : dc_lkV RX9 192 mX9_whyNot 3 := ⟨dc_ok_X9_whyNot, List.mem_filter.mpr ⟨List.mem_of_getElem? (i := 956) (by decide +kernel), by decide +kernel⟩, List.mem_filter.mpr ⟨List.mem_of_getElem? (i := 958) (by decide +kernel), by decide +kernel⟩, List.mem_filter.mpr ⟨List.mem_of_getElem? (i := 23) (by decide +kernel), by decide +kernel⟩⟩
theorem k_X9_196 : dc_lkV RX9 196 mX9_goOne 1 := ⟨dc_ok_X9_goOne, List.mem_filter.mpr ⟨List.mem_of_getElem? (i := 976) (by decide +kernel), by decide +kernel⟩, List.mem_filter.mpr ⟨List.mem_of_getElem? (i := 978) (by decide +kernel), by decide +kernel⟩, List.mem_filter.mpr ⟨List.mem_of_getElem? (i := 28) (by decide +kernel), by decide +kernel⟩⟩
theorem k_X9_199 : dc_lkV RX9 199 mX9_owing 0 := ⟨dc_ok_X9_owing, List.mem_filter.mpr ⟨List.mem_of_getElem? (i := 980) (by decide +kernel), by decide +kernel⟩, List.mem_filter.mpr ⟨List.mem_of_getElem? (i := 982) (by decide +kernel), by decide +kernel⟩, List.mem_filter.mpr ⟨List.mem_of_getElem? (i := 29) (by decide +kernel), by decide +kernel⟩⟩
theorem k_X9_203 : dc_lkV RX9 203 mX9_happen 3 := ⟨dc_ok_X9_happen, List.mem_filter.mpr ⟨List.mem_of_getElem? (i := 984) (by decide +kernel), by decide +kernel⟩, List.mem_filter.mpr ⟨List.mem_of_getElem? (i := 986) (by decide +kernel), by decide +kernel⟩, List.mem_filter.mpr ⟨List.mem_of_getElem? (i := 30) (by decide +kernel), by decide +kernel⟩⟩
theorem k_X9_207 : dc_lkS RX9 207 mX9_leastOf 1 := ⟨dc_ok_X9_leastOf, List.mem_filter.mpr ⟨List.mem_of_getElem? (i := 1000) (by decide +kernel), by decide +kernel⟩, List.mem_filter.mpr ⟨List.mem_of_getElem? (i := 1001) (by decide +kernel), by decide +kernel⟩⟩
theorem k_X9_210 : dc_lkV RX9 210 mX9_keepNow 0 := ⟨dc_ok_X9_keepNow, List.mem_filter.mpr ⟨List.mem_of_getElem? (i := 947) (by decide +kernel), by decide +kernel⟩, List.mem_filter.mpr ⟨List.mem_of_getElem? (i := 949) (by decide +kernel), by decide +kernel⟩, List.mem_filter.mpr ⟨List.mem_of_getElem? (i := 21) (by decide +kernel), by decide +kernel⟩⟩
theorem k_X9_213 : dc_lkV RX9 213 mX9_fault 0 := ⟨dc_ok_X9_fault, List.mem_filter.mpr ⟨List.mem_of_getElem? (i := 951) (by decide +kernel), by decide +kernel⟩, List.mem_filter.mpr ⟨List.mem_of_getElem? (i := 917) (by decide +kernel), by decide +kernel⟩, List.mem_filter.mpr ⟨List.mem_of_getElem? (i := 918) (by decide +kernel), by decide +kernel⟩⟩
theorem k_X9_216 : dc_lkV RX9 216 mX9_goEvenings 0 := ⟨dc_ok_X9_goEvenings, List.mem_filter.mpr ⟨List.mem_of_getElem? (i := 952) (by decide +kernel), by decide +kernel⟩, List.mem_filter.mpr ⟨List.mem_of_getElem? (i := 954) (by decide +kernel), by decide +kernel⟩, List.mem_filter.mpr ⟨List.mem_of_getElem? (i := 22) (by decide +kernel), by decide +kernel⟩⟩
theorem k_X9_221 : dc_lkV RX9 221 mX9_refusal 0 := ⟨dc_ok_X9_refusal, List.mem_filter.mpr ⟨List.mem_of_getElem? (i := 943) (by decide +kernel), by decide +kernel⟩, List.mem_filter.mpr ⟨List.mem_of_getElem? (i := 945) (by decide +kernel), by decide +kernel⟩, List.mem_filter.mpr ⟨List.mem_of_getElem? (i := 20) (by decide +kernel), by decide +kernel⟩⟩
theorem k_X9_224 : dc_lkV RX9 224 mX9_back 1 := ⟨dc_ok_X9_back, List.mem_filter.mpr ⟨List.mem_of_getElem? (i := 1003) (by decide +kernel), by decide +kernel⟩, List.mem_filter.mpr ⟨List.mem_of_getElem? (i := 1005) (by decide +kernel), by decide +kernel⟩, List.mem_filter.mpr ⟨List.mem_of_getElem? (i := 34) (by decide +kernel), by decide +kernel⟩⟩
theorem k_X9_227 : dc_lkV RX9 227 mX9_allDebts 0 := ⟨dc_ok_X9_allDebts, List.mem_filter.mpr ⟨List.mem_of_getElem? (i := 1015) (by decide +kernel), by decide +kernel⟩, List.mem_filter.mpr ⟨List.mem_of_getElem? (i := 1017) (by decide +kernel), by decide +kernel⟩, List.mem_filter.mpr ⟨List.mem_of_getElem? (i := 35) (by decide +kernel), by decide +kernel⟩⟩
theorem k_X9_230 : dc_lkV RX9 230 mX9_isFor 2 := ⟨dc_ok_X9_isFor, List.mem_filter.mpr ⟨List.mem_of_getElem? (i := 1043) (by decide +kernel), by decide +kernel⟩, List.mem_filter.mpr ⟨List.mem_of_getElem? (i := 1045) (by decide +kernel), by decide +kernel⟩, List.mem_filter.mpr ⟨List.mem_of_getElem? (i := 38) (by decide +kernel), by decide +kernel⟩⟩
theorem k_X9_233 : dc_lkS RX9 233 mX9_behindNight 2 := ⟨dc_ok_X9_behindNight, List.mem_filter.mpr ⟨List.mem_of_getElem? (i := 1047) (by decide +kernel), by decide +kernel⟩, List.mem_filter.mpr ⟨List.mem_of_getElem? (i := 1048) (by decide +kernel), by decide +kernel⟩⟩
theorem k_X9_236 : dc_lkV RX9 236 mX9_bestOwed 2 := ⟨dc_ok_X9_bestOwed, List.mem_filter.mpr ⟨List.mem_of_getElem? (i := 1039) (by decide +kernel), by decide +kernel⟩, List.mem_filter.mpr ⟨List.mem_of_getElem? (i := 1041) (by decide +kernel), by decide +kernel⟩, List.mem_filter.mpr ⟨List.mem_of_getElem? (i := 37) (by decide +kernel), by decide +kernel⟩⟩
theorem k_X9_239 : dc_lkV RX9 239 mX9_fewestNights 3 := ⟨dc_ok_X9_fewestNights, List.mem_filter.mpr ⟨List.mem_of_getElem? (i := 1035) (by decide +kernel), by decide +kernel⟩, List.mem_filter.mpr ⟨List.mem_of_getElem? (i := 1037) (by decide +kernel), by decide +kernel⟩, List.mem_filter.mpr ⟨List.mem_of_getElem? (i := 36) (by decide +kernel), by decide +kernel⟩⟩
theorem k_X9_242 : dc_lkV RX9 242 mX9_firstNight 2 := ⟨dc_ok_X9_firstNight, List.mem_filter.mpr ⟨List.mem_of_getElem? (i := 1050) (by decide +kernel), by decide +kernel⟩, List.mem_filter.mpr ⟨List.mem_of_getElem? (i := 1052) (by decide +kernel), by decide +kernel⟩, List.mem_filter.mpr ⟨List.mem_of_getElem? (i := 39) (by decide +kernel), by decide +kernel⟩⟩
theorem k_X9_245 : dc_lkV RX9 245 mX9_needsOf 1 := ⟨dc_ok_X9_needsOf, List.mem_filter.mpr ⟨List.mem_of_getElem? (i := 1067) (by decide +kernel), by decide +kernel⟩, List.mem_filter.mpr ⟨List.mem_of_getElem? (i := 1069) (by decide +kernel), by decide +kernel⟩, List.mem_filter.mpr ⟨List.mem_of_getElem? (i := 42) (by decide +kernel), by decide +kernel⟩⟩
theorem k_X9_250 : dc_lkV RX9 250 mX9_barsOf 1 := ⟨dc_ok_X9_barsOf, List.mem_filter.mpr ⟨List.mem_of_getElem? (i := 1059) (by decide +kernel), by decide +kernel⟩, List.mem_filter.mpr ⟨List.mem_of_getElem? (i := 1061) (by decide +kernel), by decide +kernel⟩, List.mem_filter.mpr ⟨List.mem_of_getElem? (i := 40) (by decide +kernel), by decide +kernel⟩⟩
theorem k_X9_253 : dc_lkV RX9 253 mX9_paysOf 1 := ⟨dc_ok_X9_paysOf, List.mem_filter.mpr ⟨List.mem_of_getElem? (i := 1063) (by decide +kernel), by decide +kernel⟩, List.mem_filter.mpr ⟨List.mem_of_getElem? (i := 1065) (by decide +kernel), by decide +kernel⟩, List.mem_filter.mpr ⟨List.mem_of_getElem? (i := 41) (by decide +kernel), by decide +kernel⟩⟩
theorem k_X9_256 : dc_lkV RX9 256 mX9_ruined 2 := ⟨dc_ok_X9_ruined, List.mem_filter.mpr ⟨List.mem_of_getElem? (i := 1075) (by decide +kernel), by decide +kernel⟩, List.mem_filter.mpr ⟨List.mem_of_getElem? (i := 1077) (by decide +kernel), by decide +kernel⟩, List.mem_filter.mpr ⟨List.mem_of_getElem? (i := 43) (by decide +kernel), by decide +kernel⟩⟩
theorem k_X9_263 : dc_lkV RX9 263 mX9_ahead 1 := ⟨dc_ok_X9_ahead, List.mem_filter.mpr ⟨List.mem_of_getElem? (i := 1085) (by decide +kernel), by decide +kernel⟩, List.mem_filter.mpr ⟨List.mem_of_getElem? (i := 1087) (by decide +kernel), by decide +kernel⟩, List.mem_filter.mpr ⟨List.mem_of_getElem? (i := 44) (by decide +kernel), by decide +kernel⟩⟩
theorem k_X9_268 : dc_lkV RX9 268 mX9_pointsTo 2 := ⟨dc_ok_X9_pointsTo, List.mem_filter.mpr ⟨List.mem_of_getElem? (i := 1106) (by decide +kernel), by decide +kernel⟩, List.mem_filter.mpr ⟨List.mem_of_getElem? (i := 1108) (by decide +kernel), by decide +kernel⟩, List.mem_filter.mpr ⟨List.mem_of_getElem? (i := 48) (by decide +kernel), by decide +kernel⟩⟩
theorem k_X9_271 : dc_lkV RX9 271 mX9_ringed 1 := ⟨dc_ok_X9_ringed, List.mem_filter.mpr ⟨List.mem_of_getElem? (i := 1102) (by decide +kernel), by decide +kernel⟩, List.mem_filter.mpr ⟨List.mem_of_getElem? (i := 1104) (by decide +kernel), by decide +kernel⟩, List.mem_filter.mpr ⟨List.mem_of_getElem? (i := 47) (by decide +kernel), by decide +kernel⟩⟩
theorem k_X9_274 : dc_lkV RX9 274 mX9_areRanks 2 := ⟨dc_ok_X9_areRanks, List.mem_filter.mpr ⟨List.mem_of_getElem? (i := 1093) (by decide +kernel), by decide +kernel⟩, List.mem_filter.mpr ⟨List.mem_of_getElem? (i := 1095) (by decide +kernel), by decide +kernel⟩, List.mem_filter.mpr ⟨List.mem_of_getElem? (i := 45) (by decide +kernel), by decide +kernel⟩⟩
theorem k_X9_277 : dc_lkV RX9 277 mX9_deal 0 := ⟨dc_ok_X9_deal, List.mem_filter.mpr ⟨List.mem_of_getElem? (i := 1098) (by decide +kernel), by decide +kernel⟩, List.mem_filter.mpr ⟨List.mem_of_getElem? (i := 1100) (by decide +kernel), by decide +kernel⟩, List.mem_filter.mpr ⟨List.mem_of_getElem? (i := 46) (by decide +kernel), by decide +kernel⟩⟩
theorem k_X9_285 : dc_lkS RX9 285 mX9_together 2 := ⟨dc_ok_X9_together, List.mem_filter.mpr ⟨List.mem_of_getElem? (i := 1127) (by decide +kernel), by decide +kernel⟩, List.mem_filter.mpr ⟨List.mem_of_getElem? (i := 1128) (by decide +kernel), by decide +kernel⟩⟩
theorem k_X9_288 : dc_lkV RX9 288 mX9_fits 1 := ⟨dc_ok_X9_fits, List.mem_filter.mpr ⟨List.mem_of_getElem? (i := 1123) (by decide +kernel), by decide +kernel⟩, List.mem_filter.mpr ⟨List.mem_of_getElem? (i := 1125) (by decide +kernel), by decide +kernel⟩, List.mem_filter.mpr ⟨List.mem_of_getElem? (i := 49) (by decide +kernel), by decide +kernel⟩⟩
theorem k_X9_291 : dc_lkV RX9 291 mX9_mostLeft 1 := ⟨dc_ok_X9_mostLeft, List.mem_filter.mpr ⟨List.mem_of_getElem? (i := 1134) (by decide +kernel), by decide +kernel⟩, List.mem_filter.mpr ⟨List.mem_of_getElem? (i := 1136) (by decide +kernel), by decide +kernel⟩, List.mem_filter.mpr ⟨List.mem_of_getElem? (i := 50) (by decide +kernel), by decide +kernel⟩⟩
theorem k_X9_294 : dc_lkS RX9 294 mX9_size 1 := ⟨dc_ok_X9_size, List.mem_filter.mpr ⟨List.mem_of_getElem? (i := 1156) (by decide +kernel), by decide +kernel⟩, List.mem_filter.mpr ⟨List.mem_of_getElem? (i := 1157) (by decide +kernel), by decide +kernel⟩⟩
theorem k_X9_302 : dc_lkV RX9 302 mX9_fugueGood 5 := ⟨dc_ok_X9_fugueGood, List.mem_filter.mpr ⟨List.mem_of_getElem? (i := 1142) (by decide +kernel), by decide +kernel⟩, List.mem_filter.mpr ⟨List.mem_of_getElem? (i := 1144) (by decide +kernel), by decide +kernel⟩, List.mem_filter.mpr ⟨List.mem_of_getElem? (i := 51) (by decide +kernel), by decide +kernel⟩⟩
theorem k_X9_308 : dc_lkV RX9 308 mX9_sung 2 := ⟨dc_ok_X9_sung, List.mem_filter.mpr ⟨List.mem_of_getElem? (i := 1149) (by decide +kernel), by decide +kernel⟩, List.mem_filter.mpr ⟨List.mem_of_getElem? (i := 1151) (by decide +kernel), by decide +kernel⟩, List.mem_filter.mpr ⟨List.mem_of_getElem? (i := 52) (by decide +kernel), by decide +kernel⟩⟩
theorem k_X9_312 : dc_lkS RX9 312 mX9_lowest 3 := ⟨dc_ok_X9_lowest, List.mem_filter.mpr ⟨List.mem_of_getElem? (i := 1153) (by decide +kernel), by decide +kernel⟩, List.mem_filter.mpr ⟨List.mem_of_getElem? (i := 1154) (by decide +kernel), by decide +kernel⟩⟩
theorem k_X9_324 : dc_lkS RX9 324 mX9_actBy 1 := ⟨dc_ok_X9_actBy, List.mem_filter.mpr ⟨List.mem_of_getElem? (i := 1167) (by decide +kernel), by decide +kernel⟩, List.mem_filter.mpr ⟨List.mem_of_getElem? (i := 1168) (by decide +kernel), by decide +kernel⟩⟩
theorem k_X9_334 : dc_lkV RX9 334 mX9_pass 1 := ⟨dc_ok_X9_pass, List.mem_filter.mpr ⟨List.mem_of_getElem? (i := 1178) (by decide +kernel), by decide +kernel⟩, List.mem_filter.mpr ⟨List.mem_of_getElem? (i := 1180) (by decide +kernel), by decide +kernel⟩, List.mem_filter.mpr ⟨List.mem_of_getElem? (i := 54) (by decide +kernel), by decide +kernel⟩⟩
theorem k_X9_337 : dc_lkV RX9 337 mX9_passRow 2 := ⟨dc_ok_X9_passRow, List.mem_filter.mpr ⟨List.mem_of_getElem? (i := 1182) (by decide +kernel), by decide +kernel⟩, List.mem_filter.mpr ⟨List.mem_of_getElem? (i := 1184) (by decide +kernel), by decide +kernel⟩, List.mem_filter.mpr ⟨List.mem_of_getElem? (i := 55) (by decide +kernel), by decide +kernel⟩⟩
theorem k_X9_341 : dc_lkV RX9 341 mX9_passAll 0 := ⟨dc_ok_X9_passAll, List.mem_filter.mpr ⟨List.mem_of_getElem? (i := 1174) (by decide +kernel), by decide +kernel⟩, List.mem_filter.mpr ⟨List.mem_of_getElem? (i := 1176) (by decide +kernel), by decide +kernel⟩, List.mem_filter.mpr ⟨List.mem_of_getElem? (i := 53) (by decide +kernel), by decide +kernel⟩⟩
theorem k_X9_348 : dc_lkV RX9 348 mX9_toldOfPiece 2 := ⟨dc_ok_X9_toldOfPiece, List.mem_filter.mpr ⟨List.mem_of_getElem? (i := 1196) (by decide +kernel), by decide +kernel⟩, List.mem_filter.mpr ⟨List.mem_of_getElem? (i := 1198) (by decide +kernel), by decide +kernel⟩, List.mem_filter.mpr ⟨List.mem_of_getElem? (i := 56) (by decide +kernel), by decide +kernel⟩⟩
theorem k_X9_353 : dc_lkV RX9 353 mX9_toldOfSinger 2 := ⟨dc_ok_X9_toldOfSinger, List.mem_filter.mpr ⟨List.mem_of_getElem? (i := 1201) (by decide +kernel), by decide +kernel⟩, List.mem_filter.mpr ⟨List.mem_of_getElem? (i := 1203) (by decide +kernel), by decide +kernel⟩, List.mem_filter.mpr ⟨List.mem_of_getElem? (i := 57) (by decide +kernel), by decide +kernel⟩⟩
theorem f_X8_10 : dc_fl RX8 10 8 0 (RX8, TX8, 9) := ⟨rfl, by decide, List.mem_filter.mpr ⟨List.mem_of_getElem? (i := 286) (by decide +kernel), by decide +kernel⟩, dc_u8, nmX8⟩
theorem f_X8_19 : dc_fl RX8 19 8 1 (RX8, TX8, 9) := ⟨rfl, by decide, List.mem_filter.mpr ⟨List.mem_of_getElem? (i := 287) (by decide +kernel), by decide +kernel⟩, dc_u8, nmX8⟩
theorem f_X8_26 : dc_fl RX8 26 8 2 (RX8, TX8, 9) := ⟨rfl, by decide, List.mem_filter.mpr ⟨List.mem_of_getElem? (i := 288) (by decide +kernel), by decide +kernel⟩, dc_u8, nmX8⟩
theorem f_X8_33 : dc_fl RX8 33 8 3 (RX8, TX8, 9) := ⟨rfl, by decide, List.mem_filter.mpr ⟨List.mem_of_getElem? (i := 289) (by decide +kernel), by decide +kernel⟩, dc_u8, nmX8⟩
theorem f_X8_40 : dc_fl RX8 40 8 4 (RX8, TX8, 9) := ⟨rfl, by decide, List.mem_filter.mpr ⟨List.mem_of_getElem? (i := 290) (by decide +kernel), by decide +kernel⟩, dc_u8, nmX8⟩
theorem f_X8_47 : dc_fl RX8 47 8 5 (RX8, TX8, 9) := ⟨rfl, by decide, List.mem_filter.mpr ⟨List.mem_of_getElem? (i := 291) (by decide +kernel), by decide +kernel⟩, dc_u8, nmX8⟩
theorem f_X8_54 : dc_fl RX8 54 8 6 (RX8, TX8, 9) := ⟨rfl, by decide, List.mem_filter.mpr ⟨List.mem_of_getElem? (i := 292) (by decide +kernel), by decide +kernel⟩, dc_u8, nmX8⟩
theorem f_X8_61 : dc_fl RX8 61 8 7 (RX8, TX8, 9) := ⟨rfl, by decide, List.mem_filter.mpr ⟨List.mem_of_getElem? (i := 293) (by decide +kernel), by decide +kernel⟩, dc_u8, nmX8⟩
theorem f_X8_65 : dc_fl RX8 65 8 8 (RX8, TX8, 9) := ⟨rfl, by decide, List.mem_filter.mpr ⟨List.mem_of_getElem? (i := 294) (by decide +kernel), by decide +kernel⟩, dc_u8, nmX8⟩
theorem f_X8_76 : dc_fl RX8 76 0 0 (RX0, TX0, 10) := ⟨rfl, by decide, List.mem_filter.mpr ⟨List.mem_of_getElem? (i := 87) (by decide +kernel), by decide +kernel⟩, dc_u0, nmX0⟩
theorem f_X8_107 : dc_fl RX8 107 4 0 (RX4, TX4, 2) := ⟨rfl, by decide, List.mem_filter.mpr ⟨List.mem_of_getElem? (i := 158) (by decide +kernel), by decide +kernel⟩, dc_u4, nmX4⟩
theorem f_X8_118 : dc_fl RX8 118 7 2 (RX7, TX7, 7) := ⟨rfl, by decide, List.mem_filter.mpr ⟨List.mem_of_getElem? (i := 178) (by decide +kernel), by decide +kernel⟩, dc_u7, nmX7⟩
theorem f_X8_121 : dc_fl RX8 121 7 3 (RX7, TX7, 7) := ⟨rfl, by decide, List.mem_filter.mpr ⟨List.mem_of_getElem? (i := 180) (by decide +kernel), by decide +kernel⟩, dc_u7, nmX7⟩
theorem f_X8_124 : dc_fl RX8 124 7 4 (RX7, TX7, 7) := ⟨rfl, by decide, List.mem_filter.mpr ⟨List.mem_of_getElem? (i := 182) (by decide +kernel), by decide +kernel⟩, dc_u7, nmX7⟩
theorem f_X8_127 : dc_fl RX8 127 7 0 (RX7, TX7, 7) := ⟨rfl, by decide, List.mem_filter.mpr ⟨List.mem_of_getElem? (i := 174) (by decide +kernel), by decide +kernel⟩, dc_u7, nmX7⟩
theorem f_X8_131 : dc_fl RX8 131 0 1 (RX0, TX0, 10) := ⟨rfl, by decide, List.mem_filter.mpr ⟨List.mem_of_getElem? (i := 89) (by decide +kernel), by decide +kernel⟩, dc_u0, nmX0⟩
theorem f_X8_134 : dc_fl RX8 134 0 2 (RX0, TX0, 10) := ⟨rfl, by decide, List.mem_filter.mpr ⟨List.mem_of_getElem? (i := 91) (by decide +kernel), by decide +kernel⟩, dc_u0, nmX0⟩
theorem f_X8_144 : dc_fl RX8 144 0 4 (RX0, TX0, 10) := ⟨rfl, by decide, List.mem_filter.mpr ⟨List.mem_of_getElem? (i := 95) (by decide +kernel), by decide +kernel⟩, dc_u0, nmX0⟩
theorem f_X8_147 : dc_fl RX8 147 7 5 (RX7, TX7, 7) := ⟨rfl, by decide, List.mem_filter.mpr ⟨List.mem_of_getElem? (i := 184) (by decide +kernel), by decide +kernel⟩, dc_u7, nmX7⟩
theorem f_X8_150 : dc_fl RX8 150 7 6 (RX7, TX7, 7) := ⟨rfl, by decide, List.mem_filter.mpr ⟨List.mem_of_getElem? (i := 186) (by decide +kernel), by decide +kernel⟩, dc_u7, nmX7⟩
theorem f_X8_157 : dc_fl RX8 157 7 1 (RX7, TX7, 7) := ⟨rfl, by decide, List.mem_filter.mpr ⟨List.mem_of_getElem? (i := 176) (by decide +kernel), by decide +kernel⟩, dc_u7, nmX7⟩
theorem f_X8_167 : dc_fl RX8 167 3 0 (RX3, TX3, 4) := ⟨rfl, by decide, List.mem_filter.mpr ⟨List.mem_of_getElem? (i := 209) (by decide +kernel), by decide +kernel⟩, dc_u3, nmX3⟩
theorem f_X8_170 : dc_fl RX8 170 3 1 (RX3, TX3, 4) := ⟨rfl, by decide, List.mem_filter.mpr ⟨List.mem_of_getElem? (i := 211) (by decide +kernel), by decide +kernel⟩, dc_u3, nmX3⟩
theorem f_X8_188 : Cond.constant RX8 188 (999999) ∈ dc_tb := List.mem_filter.mpr ⟨List.mem_of_getElem? (i := 609) (by decide +kernel), by decide +kernel⟩
theorem f_X8_213 : dc_fl RX8 213 6 0 (RX6, TX6, 6) := ⟨rfl, by decide, List.mem_filter.mpr ⟨List.mem_of_getElem? (i := 130) (by decide +kernel), by decide +kernel⟩, dc_u6, nmX6⟩
theorem f_X8_217 : dc_fl RX8 217 6 1 (RX6, TX6, 6) := ⟨rfl, by decide, List.mem_filter.mpr ⟨List.mem_of_getElem? (i := 132) (by decide +kernel), by decide +kernel⟩, dc_u6, nmX6⟩
theorem f_X8_226 : Cond.constantLong RX8 226 (-1000000000000000002) ∈ dc_tb := List.mem_filter.mpr ⟨List.mem_of_getElem? (i := 694) (by decide +kernel), by decide +kernel⟩
theorem f_X8_234 : dc_fl RX8 234 1 1 (RX1, TX1, 4) := ⟨rfl, by decide, List.mem_filter.mpr ⟨List.mem_of_getElem? (i := 251) (by decide +kernel), by decide +kernel⟩, dc_u1, nmX1⟩
theorem f_X8_241 : dc_fl RX8 241 1 0 (RX1, TX1, 4) := ⟨rfl, by decide, List.mem_filter.mpr ⟨List.mem_of_getElem? (i := 249) (by decide +kernel), by decide +kernel⟩, dc_u1, nmX1⟩
theorem f_X8_251 : Cond.constant RX8 251 (65537) ∈ dc_tb := List.mem_filter.mpr ⟨List.mem_of_getElem? (i := 725) (by decide +kernel), by decide +kernel⟩
theorem f_X8_258 : dc_fl RX8 258 2 0 (RX2, TX2, 3) := ⟨rfl, by decide, List.mem_filter.mpr ⟨List.mem_of_getElem? (i := 275) (by decide +kernel), by decide +kernel⟩, dc_u2, nmX2⟩
theorem f_X8_259 : dc_fl RX8 259 2 1 (RX2, TX2, 3) := ⟨rfl, by decide, List.mem_filter.mpr ⟨List.mem_of_getElem? (i := 277) (by decide +kernel), by decide +kernel⟩, dc_u2, nmX2⟩
theorem f_X8_263 : dc_fl RX8 263 2 2 (RX2, TX2, 3) := ⟨rfl, by decide, List.mem_filter.mpr ⟨List.mem_of_getElem? (i := 278) (by decide +kernel), by decide +kernel⟩, dc_u2, nmX2⟩
theorem f_X8_273 : dc_fl RX8 273 0 3 (RX0, TX0, 10) := ⟨rfl, by decide, List.mem_filter.mpr ⟨List.mem_of_getElem? (i := 93) (by decide +kernel), by decide +kernel⟩, dc_u0, nmX0⟩
theorem f_X0_9 : dc_fl RX0 9 0 5 (RX0, TX0, 10) := ⟨rfl, by decide, List.mem_filter.mpr ⟨List.mem_of_getElem? (i := 96) (by decide +kernel), by decide +kernel⟩, dc_u0, nmX0⟩
theorem f_X0_15 : dc_fl RX0 15 0 6 (RX0, TX0, 10) := ⟨rfl, by decide, List.mem_filter.mpr ⟨List.mem_of_getElem? (i := 97) (by decide +kernel), by decide +kernel⟩, dc_u0, nmX0⟩
theorem f_X0_18 : dc_fl RX0 18 0 7 (RX0, TX0, 10) := ⟨rfl, by decide, List.mem_filter.mpr ⟨List.mem_of_getElem? (i := 98) (by decide +kernel), by decide +kernel⟩, dc_u0, nmX0⟩
theorem f_X0_21 : dc_fl RX0 21 0 8 (RX0, TX0, 10) := ⟨rfl, by decide, List.mem_filter.mpr ⟨List.mem_of_getElem? (i := 99) (by decide +kernel), by decide +kernel⟩, dc_u0, nmX0⟩
theorem f_X0_24 : dc_fl RX0 24 0 9 (RX0, TX0, 10) := ⟨rfl, by decide, List.mem_filter.mpr ⟨List.mem_of_getElem? (i := 100) (by decide +kernel), by decide +kernel⟩, dc_u0, nmX0⟩
theorem f_X0_27 : dc_fl RX0 27 0 0 (RX0, TX0, 10) := ⟨rfl, by decide, List.mem_filter.mpr ⟨List.mem_of_getElem? (i := 86) (by decide +kernel), by decide +kernel⟩, dc_u0, nmX0⟩
theorem f_X0_31 : dc_fl RX0 31 0 1 (RX0, TX0, 10) := ⟨rfl, by decide, List.mem_filter.mpr ⟨List.mem_of_getElem? (i := 88) (by decide +kernel), by decide +kernel⟩, dc_u0, nmX0⟩
theorem f_X0_34 : dc_fl RX0 34 0 2 (RX0, TX0, 10) := ⟨rfl, by decide, List.mem_filter.mpr ⟨List.mem_of_getElem? (i := 90) (by decide +kernel), by decide +kernel⟩, dc_u0, nmX0⟩
theorem f_X0_37 : dc_fl RX0 37 0 3 (RX0, TX0, 10) := ⟨rfl, by decide, List.mem_filter.mpr ⟨List.mem_of_getElem? (i := 92) (by decide +kernel), by decide +kernel⟩, dc_u0, nmX0⟩
theorem f_X0_40 : dc_fl RX0 40 0 4 (RX0, TX0, 10) := ⟨rfl, by decide, List.mem_filter.mpr ⟨List.mem_of_getElem? (i := 94) (by decide +kernel), by decide +kernel⟩, dc_u0, nmX0⟩
theorem f_X1_9 : dc_fl RX1 9 1 2 (RX1, TX1, 4) := ⟨rfl, by decide, List.mem_filter.mpr ⟨List.mem_of_getElem? (i := 252) (by decide +kernel), by decide +kernel⟩, dc_u1, nmX1⟩
theorem f_X1_13 : dc_fl RX1 13 1 3 (RX1, TX1, 4) := ⟨rfl, by decide, List.mem_filter.mpr ⟨List.mem_of_getElem? (i := 253) (by decide +kernel), by decide +kernel⟩, dc_u1, nmX1⟩
theorem f_X1_16 : dc_fl RX1 16 1 0 (RX1, TX1, 4) := ⟨rfl, by decide, List.mem_filter.mpr ⟨List.mem_of_getElem? (i := 248) (by decide +kernel), by decide +kernel⟩, dc_u1, nmX1⟩
theorem f_X1_20 : dc_fl RX1 20 1 1 (RX1, TX1, 4) := ⟨rfl, by decide, List.mem_filter.mpr ⟨List.mem_of_getElem? (i := 250) (by decide +kernel), by decide +kernel⟩, dc_u1, nmX1⟩
theorem f_X1_24 : Cond.constantLong RX1 24 (10) ∈ dc_tb := List.mem_filter.mpr ⟨List.mem_of_getElem? (i := 703) (by decide +kernel), by decide +kernel⟩
theorem f_X3_9 : dc_fl RX3 9 3 2 (RX3, TX3, 4) := ⟨rfl, by decide, List.mem_filter.mpr ⟨List.mem_of_getElem? (i := 212) (by decide +kernel), by decide +kernel⟩, dc_u3, nmX3⟩
theorem f_X3_15 : dc_fl RX3 15 3 3 (RX3, TX3, 4) := ⟨rfl, by decide, List.mem_filter.mpr ⟨List.mem_of_getElem? (i := 213) (by decide +kernel), by decide +kernel⟩, dc_u3, nmX3⟩
theorem f_X3_24 : dc_fl RX3 24 3 0 (RX3, TX3, 4) := ⟨rfl, by decide, List.mem_filter.mpr ⟨List.mem_of_getElem? (i := 208) (by decide +kernel), by decide +kernel⟩, dc_u3, nmX3⟩
theorem f_X3_28 : dc_fl RX3 28 3 1 (RX3, TX3, 4) := ⟨rfl, by decide, List.mem_filter.mpr ⟨List.mem_of_getElem? (i := 210) (by decide +kernel), by decide +kernel⟩, dc_u3, nmX3⟩
theorem f_X4_11 : dc_fl RX4 11 4 1 (RX4, TX4, 2) := ⟨rfl, by decide, List.mem_filter.mpr ⟨List.mem_of_getElem? (i := 159) (by decide +kernel), by decide +kernel⟩, dc_u4, nmX4⟩
theorem f_X4_15 : dc_fl RX4 15 4 0 (RX4, TX4, 2) := ⟨rfl, by decide, List.mem_filter.mpr ⟨List.mem_of_getElem? (i := 156) (by decide +kernel), by decide +kernel⟩, dc_u4, nmX4⟩
theorem f_X5_11 : dc_fl RX5 11 5 0 (RX5, TX5, 4) := ⟨rfl, by decide, List.mem_filter.mpr ⟨List.mem_of_getElem? (i := 229) (by decide +kernel), by decide +kernel⟩, dc_u5, nmX5⟩
theorem f_X5_15 : dc_fl RX5 15 5 1 (RX5, TX5, 4) := ⟨rfl, by decide, List.mem_filter.mpr ⟨List.mem_of_getElem? (i := 230) (by decide +kernel), by decide +kernel⟩, dc_u5, nmX5⟩
theorem f_X5_18 : dc_fl RX5 18 5 2 (RX5, TX5, 4) := ⟨rfl, by decide, List.mem_filter.mpr ⟨List.mem_of_getElem? (i := 231) (by decide +kernel), by decide +kernel⟩, dc_u5, nmX5⟩
theorem f_X5_21 : dc_fl RX5 21 5 3 (RX5, TX5, 4) := ⟨rfl, by decide, List.mem_filter.mpr ⟨List.mem_of_getElem? (i := 232) (by decide +kernel), by decide +kernel⟩, dc_u5, nmX5⟩
theorem f_X6_11 : dc_fl RX6 11 6 2 (RX6, TX6, 6) := ⟨rfl, by decide, List.mem_filter.mpr ⟨List.mem_of_getElem? (i := 133) (by decide +kernel), by decide +kernel⟩, dc_u6, nmX6⟩
theorem f_X6_15 : dc_fl RX6 15 6 3 (RX6, TX6, 6) := ⟨rfl, by decide, List.mem_filter.mpr ⟨List.mem_of_getElem? (i := 134) (by decide +kernel), by decide +kernel⟩, dc_u6, nmX6⟩
theorem f_X6_18 : dc_fl RX6 18 6 4 (RX6, TX6, 6) := ⟨rfl, by decide, List.mem_filter.mpr ⟨List.mem_of_getElem? (i := 135) (by decide +kernel), by decide +kernel⟩, dc_u6, nmX6⟩
theorem f_X6_21 : dc_fl RX6 21 6 5 (RX6, TX6, 6) := ⟨rfl, by decide, List.mem_filter.mpr ⟨List.mem_of_getElem? (i := 136) (by decide +kernel), by decide +kernel⟩, dc_u6, nmX6⟩
theorem f_X6_24 : dc_fl RX6 24 6 0 (RX6, TX6, 6) := ⟨rfl, by decide, List.mem_filter.mpr ⟨List.mem_of_getElem? (i := 129) (by decide +kernel), by decide +kernel⟩, dc_u6, nmX6⟩
theorem f_X6_47 : dc_fl RX6 47 6 1 (RX6, TX6, 6) := ⟨rfl, by decide, List.mem_filter.mpr ⟨List.mem_of_getElem? (i := 131) (by decide +kernel), by decide +kernel⟩, dc_u6, nmX6⟩
theorem f_X7_12 : dc_fl RX7 12 7 0 (RX7, TX7, 7) := ⟨rfl, by decide, List.mem_filter.mpr ⟨List.mem_of_getElem? (i := 173) (by decide +kernel), by decide +kernel⟩, dc_u7, nmX7⟩
theorem f_X7_22 : dc_fl RX7 22 7 1 (RX7, TX7, 7) := ⟨rfl, by decide, List.mem_filter.mpr ⟨List.mem_of_getElem? (i := 175) (by decide +kernel), by decide +kernel⟩, dc_u7, nmX7⟩
theorem f_X7_26 : dc_fl RX7 26 7 2 (RX7, TX7, 7) := ⟨rfl, by decide, List.mem_filter.mpr ⟨List.mem_of_getElem? (i := 177) (by decide +kernel), by decide +kernel⟩, dc_u7, nmX7⟩
theorem f_X7_29 : dc_fl RX7 29 7 3 (RX7, TX7, 7) := ⟨rfl, by decide, List.mem_filter.mpr ⟨List.mem_of_getElem? (i := 179) (by decide +kernel), by decide +kernel⟩, dc_u7, nmX7⟩
theorem f_X7_32 : dc_fl RX7 32 7 4 (RX7, TX7, 7) := ⟨rfl, by decide, List.mem_filter.mpr ⟨List.mem_of_getElem? (i := 181) (by decide +kernel), by decide +kernel⟩, dc_u7, nmX7⟩
theorem f_X7_35 : dc_fl RX7 35 7 5 (RX7, TX7, 7) := ⟨rfl, by decide, List.mem_filter.mpr ⟨List.mem_of_getElem? (i := 183) (by decide +kernel), by decide +kernel⟩, dc_u7, nmX7⟩
theorem f_X7_38 : dc_fl RX7 38 7 6 (RX7, TX7, 7) := ⟨rfl, by decide, List.mem_filter.mpr ⟨List.mem_of_getElem? (i := 185) (by decide +kernel), by decide +kernel⟩, dc_u7, nmX7⟩
theorem f_X7_50 : dc_fl RX7 50 4 0 (RX4, TX4, 2) := ⟨rfl, by decide, List.mem_filter.mpr ⟨List.mem_of_getElem? (i := 157) (by decide +kernel), by decide +kernel⟩, dc_u4, nmX4⟩
theorem f_X9_7 : dc_fl RX9 7 9 4 (RX9, TX9, 36) := ⟨rfl, by decide, List.mem_filter.mpr ⟨List.mem_of_getElem? (i := 768) (by decide +kernel), by decide +kernel⟩, dc_u9, nmX9⟩
theorem f_X9_13 : dc_fl RX9 13 9 5 (RX9, TX9, 36) := ⟨rfl, by decide, List.mem_filter.mpr ⟨List.mem_of_getElem? (i := 769) (by decide +kernel), by decide +kernel⟩, dc_u9, nmX9⟩
theorem f_X9_16 : dc_fl RX9 16 9 6 (RX9, TX9, 36) := ⟨rfl, by decide, List.mem_filter.mpr ⟨List.mem_of_getElem? (i := 770) (by decide +kernel), by decide +kernel⟩, dc_u9, nmX9⟩
theorem f_X9_19 : dc_fl RX9 19 9 7 (RX9, TX9, 36) := ⟨rfl, by decide, List.mem_filter.mpr ⟨List.mem_of_getElem? (i := 771) (by decide +kernel), by decide +kernel⟩, dc_u9, nmX9⟩
theorem f_X9_22 : dc_fl RX9 22 9 8 (RX9, TX9, 36) := ⟨rfl, by decide, List.mem_filter.mpr ⟨List.mem_of_getElem? (i := 772) (by decide +kernel), by decide +kernel⟩, dc_u9, nmX9⟩
theorem f_X9_25 : dc_fl RX9 25 9 9 (RX9, TX9, 36) := ⟨rfl, by decide, List.mem_filter.mpr ⟨List.mem_of_getElem? (i := 773) (by decide +kernel), by decide +kernel⟩, dc_u9, nmX9⟩
theorem f_X9_28 : dc_fl RX9 28 9 10 (RX9, TX9, 36) := ⟨rfl, by decide, List.mem_filter.mpr ⟨List.mem_of_getElem? (i := 774) (by decide +kernel), by decide +kernel⟩, dc_u9, nmX9⟩
theorem f_X9_31 : dc_fl RX9 31 9 12 (RX9, TX9, 36) := ⟨rfl, by decide, List.mem_filter.mpr ⟨List.mem_of_getElem? (i := 776) (by decide +kernel), by decide +kernel⟩, dc_u9, nmX9⟩
theorem f_X9_34 : dc_fl RX9 34 9 14 (RX9, TX9, 36) := ⟨rfl, by decide, List.mem_filter.mpr ⟨List.mem_of_getElem? (i := 778) (by decide +kernel), by decide +kernel⟩, dc_u9, nmX9⟩
theorem f_X9_37 : dc_fl RX9 37 9 15 (RX9, TX9, 36) := ⟨rfl, by decide, List.mem_filter.mpr ⟨List.mem_of_getElem? (i := 779) (by decide +kernel), by decide +kernel⟩, dc_u9, nmX9⟩
theorem f_X9_40 : dc_fl RX9 40 9 16 (RX9, TX9, 36) := ⟨rfl, by decide, List.mem_filter.mpr ⟨List.mem_of_getElem? (i := 780) (by decide +kernel), by decide +kernel⟩, dc_u9, nmX9⟩
theorem f_X9_43 : dc_fl RX9 43 9 20 (RX9, TX9, 36) := ⟨rfl, by decide, List.mem_filter.mpr ⟨List.mem_of_getElem? (i := 784) (by decide +kernel), by decide +kernel⟩, dc_u9, nmX9⟩
theorem f_X9_46 : dc_fl RX9 46 9 25 (RX9, TX9, 36) := ⟨rfl, by decide, List.mem_filter.mpr ⟨List.mem_of_getElem? (i := 789) (by decide +kernel), by decide +kernel⟩, dc_u9, nmX9⟩
theorem f_X9_49 : dc_fl RX9 49 9 26 (RX9, TX9, 36) := ⟨rfl, by decide, List.mem_filter.mpr ⟨List.mem_of_getElem? (i := 790) (by decide +kernel), by decide +kernel⟩, dc_u9, nmX9⟩
theorem f_X9_52 : dc_fl RX9 52 9 27 (RX9, TX9, 36) := ⟨rfl, by decide, List.mem_filter.mpr ⟨List.mem_of_getElem? (i := 791) (by decide +kernel), by decide +kernel⟩, dc_u9, nmX9⟩
theorem f_X9_55 : dc_fl RX9 55 9 28 (RX9, TX9, 36) := ⟨rfl, by decide, List.mem_filter.mpr ⟨List.mem_of_getElem? (i := 792) (by decide +kernel), by decide +kernel⟩, dc_u9, nmX9⟩
theorem f_X9_58 : dc_fl RX9 58 9 29 (RX9, TX9, 36) := ⟨rfl, by decide, List.mem_filter.mpr ⟨List.mem_of_getElem? (i := 793) (by decide +kernel), by decide +kernel⟩, dc_u9, nmX9⟩
theorem f_X9_61 : dc_fl RX9 61 9 30 (RX9, TX9, 36) := ⟨rfl, by decide, List.mem_filter.mpr ⟨List.mem_of_getElem? (i := 794) (by decide +kernel), by decide +kernel⟩, dc_u9, nmX9⟩
theorem f_X9_65 : dc_fl RX9 65 9 31 (RX9, TX9, 36) := ⟨rfl, by decide, List.mem_filter.mpr ⟨List.mem_of_getElem? (i := 795) (by decide +kernel), by decide +kernel⟩, dc_u9, nmX9⟩
theorem f_X9_68 : dc_fl RX9 68 9 32 (RX9, TX9, 36) := ⟨rfl, by decide, List.mem_filter.mpr ⟨List.mem_of_getElem? (i := 796) (by decide +kernel), by decide +kernel⟩, dc_u9, nmX9⟩
theorem f_X9_71 : dc_fl RX9 71 9 33 (RX9, TX9, 36) := ⟨rfl, by decide, List.mem_filter.mpr ⟨List.mem_of_getElem? (i := 797) (by decide +kernel), by decide +kernel⟩, dc_u9, nmX9⟩
theorem f_X9_75 : Cond.constantLong RX9 75 (7) ∈ dc_tb := List.mem_filter.mpr ⟨List.mem_of_getElem? (i := 878) (by decide +kernel), by decide +kernel⟩
theorem f_X9_81 : dc_fl RX9 81 9 0 (RX9, TX9, 36) := ⟨rfl, by decide, List.mem_filter.mpr ⟨List.mem_of_getElem? (i := 764) (by decide +kernel), by decide +kernel⟩, dc_u9, nmX9⟩
theorem f_X9_85 : Cond.constantLong RX9 85 (3) ∈ dc_tb := List.mem_filter.mpr ⟨List.mem_of_getElem? (i := 882) (by decide +kernel), by decide +kernel⟩
theorem f_X9_87 : Cond.constantLong RX9 87 (999) ∈ dc_tb := List.mem_filter.mpr ⟨List.mem_of_getElem? (i := 883) (by decide +kernel), by decide +kernel⟩
theorem f_X9_89 : dc_fl RX9 89 9 1 (RX9, TX9, 36) := ⟨rfl, by decide, List.mem_filter.mpr ⟨List.mem_of_getElem? (i := 765) (by decide +kernel), by decide +kernel⟩, dc_u9, nmX9⟩
theorem f_X9_92 : dc_fl RX9 92 9 2 (RX9, TX9, 36) := ⟨rfl, by decide, List.mem_filter.mpr ⟨List.mem_of_getElem? (i := 766) (by decide +kernel), by decide +kernel⟩, dc_u9, nmX9⟩
theorem f_X9_103 : Cond.constantLong RX9 103 (3333) ∈ dc_tb := List.mem_filter.mpr ⟨List.mem_of_getElem? (i := 903) (by decide +kernel), by decide +kernel⟩
theorem f_X9_105 : Cond.constantLong RX9 105 (5) ∈ dc_tb := List.mem_filter.mpr ⟨List.mem_of_getElem? (i := 899) (by decide +kernel), by decide +kernel⟩
theorem f_X9_110 : Cond.constantLong RX9 110 (60) ∈ dc_tb := List.mem_filter.mpr ⟨List.mem_of_getElem? (i := 904) (by decide +kernel), by decide +kernel⟩
theorem f_X9_112 : Cond.constantLong RX9 112 (9) ∈ dc_tb := List.mem_filter.mpr ⟨List.mem_of_getElem? (i := 905) (by decide +kernel), by decide +kernel⟩
theorem f_X9_114 : Cond.constantLong RX9 114 (33) ∈ dc_tb := List.mem_filter.mpr ⟨List.mem_of_getElem? (i := 910) (by decide +kernel), by decide +kernel⟩
theorem f_X9_116 : Cond.constantLong RX9 116 (126) ∈ dc_tb := List.mem_filter.mpr ⟨List.mem_of_getElem? (i := 911) (by decide +kernel), by decide +kernel⟩
theorem f_X9_118 : dc_fl RX9 118 9 13 (RX9, TX9, 36) := ⟨rfl, by decide, List.mem_filter.mpr ⟨List.mem_of_getElem? (i := 777) (by decide +kernel), by decide +kernel⟩, dc_u9, nmX9⟩
theorem f_X9_121 : dc_fl RX9 121 9 17 (RX9, TX9, 36) := ⟨rfl, by decide, List.mem_filter.mpr ⟨List.mem_of_getElem? (i := 781) (by decide +kernel), by decide +kernel⟩, dc_u9, nmX9⟩
theorem f_X9_124 : Cond.constantLong RX9 124 (48) ∈ dc_tb := List.mem_filter.mpr ⟨List.mem_of_getElem? (i := 928) (by decide +kernel), by decide +kernel⟩
theorem f_X9_126 : Cond.constantLong RX9 126 (53) ∈ dc_tb := List.mem_filter.mpr ⟨List.mem_of_getElem? (i := 929) (by decide +kernel), by decide +kernel⟩
theorem f_X9_128 : Cond.constantLong RX9 128 (65) ∈ dc_tb := List.mem_filter.mpr ⟨List.mem_of_getElem? (i := 930) (by decide +kernel), by decide +kernel⟩
theorem f_X9_130 : Cond.constantLong RX9 130 (72) ∈ dc_tb := List.mem_filter.mpr ⟨List.mem_of_getElem? (i := 931) (by decide +kernel), by decide +kernel⟩
theorem f_X9_139 : Cond.constantLong RX9 139 (49) ∈ dc_tb := List.mem_filter.mpr ⟨List.mem_of_getElem? (i := 936) (by decide +kernel), by decide +kernel⟩
theorem f_X9_141 : Cond.constantLong RX9 141 (57) ∈ dc_tb := List.mem_filter.mpr ⟨List.mem_of_getElem? (i := 937) (by decide +kernel), by decide +kernel⟩
theorem f_X9_154 : dc_fl RX9 154 9 3 (RX9, TX9, 36) := ⟨rfl, by decide, List.mem_filter.mpr ⟨List.mem_of_getElem? (i := 767) (by decide +kernel), by decide +kernel⟩, dc_u9, nmX9⟩
theorem f_X9_163 : dc_fl RX9 163 9 18 (RX9, TX9, 36) := ⟨rfl, by decide, List.mem_filter.mpr ⟨List.mem_of_getElem? (i := 782) (by decide +kernel), by decide +kernel⟩, dc_u9, nmX9⟩
theorem f_X9_166 : dc_fl RX9 166 9 19 (RX9, TX9, 36) := ⟨rfl, by decide, List.mem_filter.mpr ⟨List.mem_of_getElem? (i := 783) (by decide +kernel), by decide +kernel⟩, dc_u9, nmX9⟩
theorem f_X9_180 : dc_fl RX9 180 9 21 (RX9, TX9, 36) := ⟨rfl, by decide, List.mem_filter.mpr ⟨List.mem_of_getElem? (i := 785) (by decide +kernel), by decide +kernel⟩, dc_u9, nmX9⟩
theorem f_X9_183 : dc_fl RX9 183 9 22 (RX9, TX9, 36) := ⟨rfl, by decide, List.mem_filter.mpr ⟨List.mem_of_getElem? (i := 786) (by decide +kernel), by decide +kernel⟩, dc_u9, nmX9⟩
theorem f_X9_186 : dc_fl RX9 186 9 23 (RX9, TX9, 36) := ⟨rfl, by decide, List.mem_filter.mpr ⟨List.mem_of_getElem? (i := 787) (by decide +kernel), by decide +kernel⟩, dc_u9, nmX9⟩
theorem f_X9_189 : dc_fl RX9 189 9 24 (RX9, TX9, 36) := ⟨rfl, by decide, List.mem_filter.mpr ⟨List.mem_of_getElem? (i := 788) (by decide +kernel), by decide +kernel⟩, dc_u9, nmX9⟩
theorem f_X9_219 : Cond.constantLong RX9 219 (2) ∈ dc_tb := List.mem_filter.mpr ⟨List.mem_of_getElem? (i := 942) (by decide +kernel), by decide +kernel⟩
theorem f_X9_248 : Cond.constantLong RX9 248 (99) ∈ dc_tb := List.mem_filter.mpr ⟨List.mem_of_getElem? (i := 1058) (by decide +kernel), by decide +kernel⟩
theorem f_X9_259 : Cond.constantLong RX9 259 (6) ∈ dc_tb := List.mem_filter.mpr ⟨List.mem_of_getElem? (i := 1083) (by decide +kernel), by decide +kernel⟩
theorem f_X9_261 : Cond.constantLong RX9 261 (999999) ∈ dc_tb := List.mem_filter.mpr ⟨List.mem_of_getElem? (i := 1084) (by decide +kernel), by decide +kernel⟩
theorem f_X9_266 : Cond.constantLong RX9 266 (3210) ∈ dc_tb := List.mem_filter.mpr ⟨List.mem_of_getElem? (i := 1097) (by decide +kernel), by decide +kernel⟩
theorem f_X9_280 : Cond.constantLong RX9 280 (18) ∈ dc_tb := List.mem_filter.mpr ⟨List.mem_of_getElem? (i := 1114) (by decide +kernel), by decide +kernel⟩
theorem f_X9_282 : dc_fl RX9 282 9 11 (RX9, TX9, 36) := ⟨rfl, by decide, List.mem_filter.mpr ⟨List.mem_of_getElem? (i := 775) (by decide +kernel), by decide +kernel⟩, dc_u9, nmX9⟩
theorem f_X9_298 : Cond.constantLong RX9 298 (10) ∈ dc_tb := List.mem_filter.mpr ⟨List.mem_of_getElem? (i := 1147) (by decide +kernel), by decide +kernel⟩
theorem f_X9_300 : Cond.constantLong RX9 300 (8) ∈ dc_tb := List.mem_filter.mpr ⟨List.mem_of_getElem? (i := 1146) (by decide +kernel), by decide +kernel⟩
theorem f_X9_306 : Cond.constantLong RX9 306 (-1000000000000000002) ∈ dc_tb := List.mem_filter.mpr ⟨List.mem_of_getElem? (i := 1148) (by decide +kernel), by decide +kernel⟩
theorem f_X9_316 : Cond.constantLong RX9 316 (9999) ∈ dc_tb := List.mem_filter.mpr ⟨List.mem_of_getElem? (i := 1163) (by decide +kernel), by decide +kernel⟩
theorem f_X9_318 : Cond.constantLong RX9 318 (75) ∈ dc_tb := List.mem_filter.mpr ⟨List.mem_of_getElem? (i := 1164) (by decide +kernel), by decide +kernel⟩
theorem f_X9_320 : Cond.constantLong RX9 320 (74) ∈ dc_tb := List.mem_filter.mpr ⟨List.mem_of_getElem? (i := 1165) (by decide +kernel), by decide +kernel⟩
theorem f_X9_322 : Cond.constantLong RX9 322 (65537) ∈ dc_tb := List.mem_filter.mpr ⟨List.mem_of_getElem? (i := 1166) (by decide +kernel), by decide +kernel⟩
theorem f_X9_327 : dc_fl RX9 327 9 35 (RX9, TX9, 36) := ⟨rfl, by decide, List.mem_filter.mpr ⟨List.mem_of_getElem? (i := 799) (by decide +kernel), by decide +kernel⟩, dc_u9, nmX9⟩
theorem f_X9_331 : dc_fl RX9 331 9 34 (RX9, TX9, 36) := ⟨rfl, by decide, List.mem_filter.mpr ⟨List.mem_of_getElem? (i := 798) (by decide +kernel), by decide +kernel⟩, dc_u9, nmX9⟩
theorem f_X9_344 : Cond.constantLong RX9 344 (100) ∈ dc_tb := List.mem_filter.mpr ⟨List.mem_of_getElem? (i := 1194) (by decide +kernel), by decide +kernel⟩
theorem f_X9_346 : Cond.constantLong RX9 346 (159) ∈ dc_tb := List.mem_filter.mpr ⟨List.mem_of_getElem? (i := 1195) (by decide +kernel), by decide +kernel⟩
theorem f_X9_351 : Cond.constantLong RX9 351 (89) ∈ dc_tb := List.mem_filter.mpr ⟨List.mem_of_getElem? (i := 1200) (by decide +kernel), by decide +kernel⟩
theorem f_J6_264 : Cond.constant RJ6 264 (65536) ∈ dc_tb := List.mem_filter.mpr ⟨List.mem_of_getElem? (i := 516) (by decide +kernel), by decide +kernel⟩
theorem f_J6_265 : Cond.constant RJ6 265 (1431655765) ∈ dc_tb := List.mem_filter.mpr ⟨List.mem_of_getElem? (i := 329) (by decide +kernel), by decide +kernel⟩
theorem f_J6_266 : Cond.constant RJ6 266 (858993459) ∈ dc_tb := List.mem_filter.mpr ⟨List.mem_of_getElem? (i := 330) (by decide +kernel), by decide +kernel⟩
theorem f_J6_267 : Cond.constant RJ6 267 (252645135) ∈ dc_tb := List.mem_filter.mpr ⟨List.mem_of_getElem? (i := 331) (by decide +kernel), by decide +kernel⟩
end
section
theorem dc_le {a b : Nat} (h : Nat.ble a b = true) : a ≤ b := Nat.le_of_ble_eq_true h
theorem dc_bn {v : Int32} (g : v = 0 ∨ v = 1) : narrow .boolean (.int v) = .int v := by rcases g with rfl | rfl <;> decide
theorem dc_swn {x : Int32} {k : Nat} (hk : k < 2 ^ 31) (c : ¬ x = nI k) : x.toInt ≠ (k : Int) := fun q => c (Int32.toInt_inj.mp (q.trans (nI_toInt hk).symm))
theorem dc_inr {α β γ : Type} {f : α → γ} {g : β → γ} {x : β} {r : γ} (h : Sum.elim f g (.inr x) = r) : g x = r := h
def dc_let {α β : Type} (a : α) (f : α → β) : β := f a
theorem dc_lt {α β : Type} {a s : α} {f : α → β} {r : β} (e : s = a) (h : dc_let a f = r) : f s = r := by subst e; exact h
def dc_len (q : Nat) : Nat := match dc_lay[q]? with
  | some (.inr (_, n)) => n
  | _ => 0
def dc_mask : List Bool → List (Option Value) → List (Option Value)
  | true :: m, a :: l => a :: dc_mask m l
  | false :: m, _ :: l => none :: dc_mask m l
  | [], l => l
  | _ :: _, [] => []
theorem dc_mask_get : ∀ (m : List Bool) (l : List (Option Value)) (i : Nat) (v : Value), (dc_mask m l)[i]? = some (some v) → l[i]? = some (some v)
  | true :: m, a :: l, 0, v, h => h
  | true :: m, a :: l, i + 1, v, h => dc_mask_get m l i v (by simpa [dc_mask] using h)
  | false :: m, a :: l, 0, v, h => by simp [dc_mask] at h
  | false :: m, a :: l, i + 1, v, h => dc_mask_get m l i v (by simpa [dc_mask] using h)
  | [], l, i, v, h => h
  | _ :: _, [], i, v, h => by simp [dc_mask] at h
section DX2
variable {κ : dc_KX} {own : String} {b : ByteArray} {nL fr lo pc : Nat} {ls : List (Option Value)} {st : List Value} {σ : dc_HP}
theorem dx_nm (k : ∀ s, s = σ → dc_X κ pc ls st s) : dc_X κ pc ls st σ := k σ rfl
theorem dx_wk (m : List Bool) (k : dc_X κ pc (dc_mask m ls) st σ) : dc_X κ pc ls st σ := by
  obtain ⟨p, l, e, R, s, mm, args, below, meth, c, cells, slots, Z, D, cA, ad, A, H0⟩ := κ
  intro H locs la hP hS hL
  exact k H locs la hP hS ⟨hL.1, hL.2.1, fun i v h => hL.2.2 i v (dc_mask_get m ls i v h)⟩
theorem dx_getI (hC : dc_Cx κ own b nL fr lo) {idx ci j q1 : Nat} {ks : List Nat} {q : vw_C} (hd : decode b pc = .ok (.getfield idx, 3)) (hf : dc_fl own idx ci j q) (hk : dc_lay[q1]? = some (.inl (ci, ks))) (hj : ks[j]? = some 0) (k : dc_X κ (pc + 3) ls (.int (σ.1 q1 j) :: st) σ) : dc_X κ pc ls (.ref q1 :: st) σ := dx_get hC hd hf hk hj rfl k
theorem dx_getZ (hC : dc_Cx κ own b nL fr lo) {idx ci j q1 : Nat} {ks : List Nat} {q : vw_C} (hd : decode b pc = .ok (.getfield idx, 3)) (hf : dc_fl own idx ci j q) (hk : dc_lay[q1]? = some (.inl (ci, ks))) (hj : ks[j]? = some 2) (k : dc_X κ (pc + 3) ls (.int (σ.1 q1 j) :: st) σ) : dc_X κ pc ls (.ref q1 :: st) σ := dx_get hC hd hf hk hj rfl k
theorem dx_getJ (hC : dc_Cx κ own b nL fr lo) {idx ci j q1 : Nat} {ks : List Nat} {q : vw_C} (hd : decode b pc = .ok (.getfield idx, 3)) (hf : dc_fl own idx ci j q) (hk : dc_lay[q1]? = some (.inl (ci, ks))) (hj : ks[j]? = some 1) (k : dc_X κ (pc + 3) ls (.long (σ.2 q1 j) :: st) σ) : dc_X κ pc ls (.ref q1 :: st) σ := dx_get hC hd hf hk hj rfl k
theorem dx_getR {r : Nat} (hC : dc_Cx κ own b nL fr lo) {idx ci j q1 : Nat} {ks : List Nat} {q : vw_C} (hd : decode b pc = .ok (.getfield idx, 3)) (hf : dc_fl own idx ci j q) (hk : dc_lay[q1]? = some (.inl (ci, ks))) (hj : ks[j]? = some (r + 3)) (k : dc_X κ (pc + 3) ls (.ref r :: st) σ) : dc_X κ pc ls (.ref q1 :: st) σ := dx_get hC hd hf hk hj rfl k
theorem dx_callVir {As rest : List Value} (hC : dc_Cx κ own b nL fr lo) {idx n : Nat} {M : dc_M} {r : Int32} (hd : decode b pc = .ok (.invokevirtual idx, 3)) (hw : dc_lkV own idx M n) (hn : As.length = n) {q1 ci : Nat} {ks : List Nat} {q : vw_C} (hk : dc_lay[q1]? = some (.inl (ci, ks))) (hci : dc_cl[ci]? = some q) (hqc : q.1 = M.2.2.1.cls) (hR1 : M.2.2.2.2.2.1 + 1 ≤ fr) (hR2 : 8 + (M.2.2.2.1 + 11) + M.2.2.2.2.2.2 ≤ lo) (hlen : (lg_sl ((.ref q1 :: As).map (dc_cv (fun q => q)))).length ≤ M.2.2.2.1) (hcat : (rest.map fun v => v.category).sum ≤ 8) (hst : st = As.reverse ++ .ref q1 :: rest) (hg : dc_G M (.ref q1 :: As) σ (dc_qi (fun x τ => x = r ∧ τ = σ))) (k : dc_X κ (pc + 3) ls (.int r :: rest) σ) : dc_X κ pc ls st σ :=
  dx_callV hC hd hw hn hk hci hqc hR1 hR2 hlen hcat hst hg (fun r0 τ h => by obtain ⟨x, rfl, rfl, rfl⟩ := h; exact k)
theorem dx_callViw {As rest : List Value} (hC : dc_Cx κ own b nL fr lo) {idx n : Nat} {M : dc_M} {r : Int32 × dc_HP} (hd : decode b pc = .ok (.invokevirtual idx, 3)) (hw : dc_lkV own idx M n) (hn : As.length = n) {q1 ci : Nat} {ks : List Nat} {q : vw_C} (hk : dc_lay[q1]? = some (.inl (ci, ks))) (hci : dc_cl[ci]? = some q) (hqc : q.1 = M.2.2.1.cls) (hR1 : M.2.2.2.2.2.1 + 1 ≤ fr) (hR2 : 8 + (M.2.2.2.1 + 11) + M.2.2.2.2.2.2 ≤ lo) (hlen : (lg_sl ((.ref q1 :: As).map (dc_cv (fun q => q)))).length ≤ M.2.2.2.1) (hcat : (rest.map fun v => v.category).sum ≤ 8) (hst : st = As.reverse ++ .ref q1 :: rest) (hg : dc_G M (.ref q1 :: As) σ (dc_qi (fun x τ => x = r.1 ∧ τ = r.2))) (k : dc_X κ (pc + 3) ls (.int r.1 :: rest) r.2) : dc_X κ pc ls st σ :=
  dx_callV hC hd hw hn hk hci hqc hR1 hR2 hlen hcat hst hg (fun r0 τ h => by obtain ⟨x, rfl, rfl, rfl⟩ := h; exact k)
theorem dx_callVvr {As rest : List Value} (hC : dc_Cx κ own b nL fr lo) {idx n : Nat} {M : dc_M} (hd : decode b pc = .ok (.invokevirtual idx, 3)) (hw : dc_lkV own idx M n) (hn : As.length = n) {q1 ci : Nat} {ks : List Nat} {q : vw_C} (hk : dc_lay[q1]? = some (.inl (ci, ks))) (hci : dc_cl[ci]? = some q) (hqc : q.1 = M.2.2.1.cls) (hR1 : M.2.2.2.2.2.1 + 1 ≤ fr) (hR2 : 8 + (M.2.2.2.1 + 11) + M.2.2.2.2.2.2 ≤ lo) (hlen : (lg_sl ((.ref q1 :: As).map (dc_cv (fun q => q)))).length ≤ M.2.2.2.1) (hcat : (rest.map fun v => v.category).sum ≤ 8) (hst : st = As.reverse ++ .ref q1 :: rest) (hg : dc_G M (.ref q1 :: As) σ (dc_qv (fun τ => τ = σ))) (k : dc_X κ (pc + 3) ls rest σ) : dc_X κ pc ls st σ :=
  dx_callV hC hd hw hn hk hci hqc hR1 hR2 hlen hcat hst hg (fun r0 τ h => by obtain ⟨rfl, rfl⟩ := h; exact k)
theorem dx_callVvw {As rest : List Value} (hC : dc_Cx κ own b nL fr lo) {idx n : Nat} {M : dc_M} {r : dc_HP} (hd : decode b pc = .ok (.invokevirtual idx, 3)) (hw : dc_lkV own idx M n) (hn : As.length = n) {q1 ci : Nat} {ks : List Nat} {q : vw_C} (hk : dc_lay[q1]? = some (.inl (ci, ks))) (hci : dc_cl[ci]? = some q) (hqc : q.1 = M.2.2.1.cls) (hR1 : M.2.2.2.2.2.1 + 1 ≤ fr) (hR2 : 8 + (M.2.2.2.1 + 11) + M.2.2.2.2.2.2 ≤ lo) (hlen : (lg_sl ((.ref q1 :: As).map (dc_cv (fun q => q)))).length ≤ M.2.2.2.1) (hcat : (rest.map fun v => v.category).sum ≤ 8) (hst : st = As.reverse ++ .ref q1 :: rest) (hg : dc_G M (.ref q1 :: As) σ (dc_qv (fun τ => τ = r))) (k : dc_X κ (pc + 3) ls rest r) : dc_X κ pc ls st σ :=
  dx_callV hC hd hw hn hk hci hqc hR1 hR2 hlen hcat hst hg (fun r0 τ h => by obtain ⟨rfl, rfl⟩ := h; exact k)
theorem dx_callVlr {As rest : List Value} (hC : dc_Cx κ own b nL fr lo) {idx n : Nat} {M : dc_M} {r : Int64} (hd : decode b pc = .ok (.invokevirtual idx, 3)) (hw : dc_lkV own idx M n) (hn : As.length = n) {q1 ci : Nat} {ks : List Nat} {q : vw_C} (hk : dc_lay[q1]? = some (.inl (ci, ks))) (hci : dc_cl[ci]? = some q) (hqc : q.1 = M.2.2.1.cls) (hR1 : M.2.2.2.2.2.1 + 1 ≤ fr) (hR2 : 8 + (M.2.2.2.1 + 11) + M.2.2.2.2.2.2 ≤ lo) (hlen : (lg_sl ((.ref q1 :: As).map (dc_cv (fun q => q)))).length ≤ M.2.2.2.1) (hcat : (rest.map fun v => v.category).sum ≤ 8) (hst : st = As.reverse ++ .ref q1 :: rest) (hg : dc_G M (.ref q1 :: As) σ (dc_ql (fun x τ => x = r ∧ τ = σ))) (k : dc_X κ (pc + 3) ls (.long r :: rest) σ) : dc_X κ pc ls st σ :=
  dx_callV hC hd hw hn hk hci hqc hR1 hR2 hlen hcat hst hg (fun r0 τ h => by obtain ⟨x, rfl, rfl, rfl⟩ := h; exact k)
theorem dx_callVlw {As rest : List Value} (hC : dc_Cx κ own b nL fr lo) {idx n : Nat} {M : dc_M} {r : Int64 × dc_HP} (hd : decode b pc = .ok (.invokevirtual idx, 3)) (hw : dc_lkV own idx M n) (hn : As.length = n) {q1 ci : Nat} {ks : List Nat} {q : vw_C} (hk : dc_lay[q1]? = some (.inl (ci, ks))) (hci : dc_cl[ci]? = some q) (hqc : q.1 = M.2.2.1.cls) (hR1 : M.2.2.2.2.2.1 + 1 ≤ fr) (hR2 : 8 + (M.2.2.2.1 + 11) + M.2.2.2.2.2.2 ≤ lo) (hlen : (lg_sl ((.ref q1 :: As).map (dc_cv (fun q => q)))).length ≤ M.2.2.2.1) (hcat : (rest.map fun v => v.category).sum ≤ 8) (hst : st = As.reverse ++ .ref q1 :: rest) (hg : dc_G M (.ref q1 :: As) σ (dc_ql (fun x τ => x = r.1 ∧ τ = r.2))) (k : dc_X κ (pc + 3) ls (.long r.1 :: rest) r.2) : dc_X κ pc ls st σ :=
  dx_callV hC hd hw hn hk hci hqc hR1 hR2 hlen hcat hst hg (fun r0 τ h => by obtain ⟨x, rfl, rfl, rfl⟩ := h; exact k)
theorem dx_callSir {As rest : List Value} (hC : dc_Cx κ own b nL fr lo) {idx n : Nat} {M : dc_M} {r : Int32} (hd : decode b pc = .ok (.invokestatic idx, 3)) (hw : dc_lkS own idx M n) (hn : As.length = n) (hR1 : M.2.2.2.2.2.1 + 1 ≤ fr) (hR2 : 8 + (M.2.2.2.1 + 11) + M.2.2.2.2.2.2 ≤ lo) (hlen : (lg_sl (As.map (dc_cv (fun q => q)))).length ≤ M.2.2.2.1) (hcat : (rest.map fun v => v.category).sum ≤ 8) (hst : st = As.reverse ++ rest) (hg : dc_G M As σ (dc_qi (fun x τ => x = r ∧ τ = σ))) (k : dc_X κ (pc + 3) ls (.int r :: rest) σ) : dc_X κ pc ls st σ :=
  dx_callS hC hd hw hn hR1 hR2 hlen hcat hst hg (fun r0 τ h => by obtain ⟨x, rfl, rfl, rfl⟩ := h; exact k)
theorem dx_callSiw {As rest : List Value} (hC : dc_Cx κ own b nL fr lo) {idx n : Nat} {M : dc_M} {r : Int32 × dc_HP} (hd : decode b pc = .ok (.invokestatic idx, 3)) (hw : dc_lkS own idx M n) (hn : As.length = n) (hR1 : M.2.2.2.2.2.1 + 1 ≤ fr) (hR2 : 8 + (M.2.2.2.1 + 11) + M.2.2.2.2.2.2 ≤ lo) (hlen : (lg_sl (As.map (dc_cv (fun q => q)))).length ≤ M.2.2.2.1) (hcat : (rest.map fun v => v.category).sum ≤ 8) (hst : st = As.reverse ++ rest) (hg : dc_G M As σ (dc_qi (fun x τ => x = r.1 ∧ τ = r.2))) (k : dc_X κ (pc + 3) ls (.int r.1 :: rest) r.2) : dc_X κ pc ls st σ :=
  dx_callS hC hd hw hn hR1 hR2 hlen hcat hst hg (fun r0 τ h => by obtain ⟨x, rfl, rfl, rfl⟩ := h; exact k)
theorem dx_callSvr {As rest : List Value} (hC : dc_Cx κ own b nL fr lo) {idx n : Nat} {M : dc_M} (hd : decode b pc = .ok (.invokestatic idx, 3)) (hw : dc_lkS own idx M n) (hn : As.length = n) (hR1 : M.2.2.2.2.2.1 + 1 ≤ fr) (hR2 : 8 + (M.2.2.2.1 + 11) + M.2.2.2.2.2.2 ≤ lo) (hlen : (lg_sl (As.map (dc_cv (fun q => q)))).length ≤ M.2.2.2.1) (hcat : (rest.map fun v => v.category).sum ≤ 8) (hst : st = As.reverse ++ rest) (hg : dc_G M As σ (dc_qv (fun τ => τ = σ))) (k : dc_X κ (pc + 3) ls rest σ) : dc_X κ pc ls st σ :=
  dx_callS hC hd hw hn hR1 hR2 hlen hcat hst hg (fun r0 τ h => by obtain ⟨rfl, rfl⟩ := h; exact k)
theorem dx_callSvw {As rest : List Value} (hC : dc_Cx κ own b nL fr lo) {idx n : Nat} {M : dc_M} {r : dc_HP} (hd : decode b pc = .ok (.invokestatic idx, 3)) (hw : dc_lkS own idx M n) (hn : As.length = n) (hR1 : M.2.2.2.2.2.1 + 1 ≤ fr) (hR2 : 8 + (M.2.2.2.1 + 11) + M.2.2.2.2.2.2 ≤ lo) (hlen : (lg_sl (As.map (dc_cv (fun q => q)))).length ≤ M.2.2.2.1) (hcat : (rest.map fun v => v.category).sum ≤ 8) (hst : st = As.reverse ++ rest) (hg : dc_G M As σ (dc_qv (fun τ => τ = r))) (k : dc_X κ (pc + 3) ls rest r) : dc_X κ pc ls st σ :=
  dx_callS hC hd hw hn hR1 hR2 hlen hcat hst hg (fun r0 τ h => by obtain ⟨rfl, rfl⟩ := h; exact k)
theorem dx_callSlr {As rest : List Value} (hC : dc_Cx κ own b nL fr lo) {idx n : Nat} {M : dc_M} {r : Int64} (hd : decode b pc = .ok (.invokestatic idx, 3)) (hw : dc_lkS own idx M n) (hn : As.length = n) (hR1 : M.2.2.2.2.2.1 + 1 ≤ fr) (hR2 : 8 + (M.2.2.2.1 + 11) + M.2.2.2.2.2.2 ≤ lo) (hlen : (lg_sl (As.map (dc_cv (fun q => q)))).length ≤ M.2.2.2.1) (hcat : (rest.map fun v => v.category).sum ≤ 8) (hst : st = As.reverse ++ rest) (hg : dc_G M As σ (dc_ql (fun x τ => x = r ∧ τ = σ))) (k : dc_X κ (pc + 3) ls (.long r :: rest) σ) : dc_X κ pc ls st σ :=
  dx_callS hC hd hw hn hR1 hR2 hlen hcat hst hg (fun r0 τ h => by obtain ⟨x, rfl, rfl, rfl⟩ := h; exact k)
theorem dx_callSlw {As rest : List Value} (hC : dc_Cx κ own b nL fr lo) {idx n : Nat} {M : dc_M} {r : Int64 × dc_HP} (hd : decode b pc = .ok (.invokestatic idx, 3)) (hw : dc_lkS own idx M n) (hn : As.length = n) (hR1 : M.2.2.2.2.2.1 + 1 ≤ fr) (hR2 : 8 + (M.2.2.2.1 + 11) + M.2.2.2.2.2.2 ≤ lo) (hlen : (lg_sl (As.map (dc_cv (fun q => q)))).length ≤ M.2.2.2.1) (hcat : (rest.map fun v => v.category).sum ≤ 8) (hst : st = As.reverse ++ rest) (hg : dc_G M As σ (dc_ql (fun x τ => x = r.1 ∧ τ = r.2))) (k : dc_X κ (pc + 3) ls (.long r.1 :: rest) r.2) : dc_X κ pc ls st σ :=
  dx_callS hC hd hw hn hR1 hR2 hlen hcat hst hg (fun r0 τ h => by obtain ⟨x, rfl, rfl, rfl⟩ := h; exact k)
theorem dx_callNir {As rest : List Value} (hC : dc_Cx κ own b nL fr lo) {idx n : Nat} {host : String} {M : dc_M} {r : Int32} (hd : decode b pc = .ok (.invokestatic idx, 3)) (hw : dc_lkN own idx M n host) (hn : As.length = n) (hR1 : M.2.2.2.2.2.1 + 1 ≤ fr) (hR2 : 8 + (M.2.2.2.1 + 11) + M.2.2.2.2.2.2 ≤ lo) (hlen : (lg_sl (As.map (dc_cv (fun q => q)))).length ≤ M.2.2.2.1) (hcat : (rest.map fun v => v.category).sum ≤ 8) (hst : st = As.reverse ++ rest) (hg : dc_G M As σ (dc_qi (fun x τ => x = r ∧ τ = σ))) (k : dc_X κ (pc + 3) ls (.int r :: rest) σ) : dc_X κ pc ls st σ :=
  dx_callN hC hd hw hn hR1 hR2 hlen hcat hst hg (fun r0 τ h => by obtain ⟨x, rfl, rfl, rfl⟩ := h; exact k)
theorem dx_callNiw {As rest : List Value} (hC : dc_Cx κ own b nL fr lo) {idx n : Nat} {host : String} {M : dc_M} {r : Int32 × dc_HP} (hd : decode b pc = .ok (.invokestatic idx, 3)) (hw : dc_lkN own idx M n host) (hn : As.length = n) (hR1 : M.2.2.2.2.2.1 + 1 ≤ fr) (hR2 : 8 + (M.2.2.2.1 + 11) + M.2.2.2.2.2.2 ≤ lo) (hlen : (lg_sl (As.map (dc_cv (fun q => q)))).length ≤ M.2.2.2.1) (hcat : (rest.map fun v => v.category).sum ≤ 8) (hst : st = As.reverse ++ rest) (hg : dc_G M As σ (dc_qi (fun x τ => x = r.1 ∧ τ = r.2))) (k : dc_X κ (pc + 3) ls (.int r.1 :: rest) r.2) : dc_X κ pc ls st σ :=
  dx_callN hC hd hw hn hR1 hR2 hlen hcat hst hg (fun r0 τ h => by obtain ⟨x, rfl, rfl, rfl⟩ := h; exact k)
theorem dx_callNvr {As rest : List Value} (hC : dc_Cx κ own b nL fr lo) {idx n : Nat} {host : String} {M : dc_M} (hd : decode b pc = .ok (.invokestatic idx, 3)) (hw : dc_lkN own idx M n host) (hn : As.length = n) (hR1 : M.2.2.2.2.2.1 + 1 ≤ fr) (hR2 : 8 + (M.2.2.2.1 + 11) + M.2.2.2.2.2.2 ≤ lo) (hlen : (lg_sl (As.map (dc_cv (fun q => q)))).length ≤ M.2.2.2.1) (hcat : (rest.map fun v => v.category).sum ≤ 8) (hst : st = As.reverse ++ rest) (hg : dc_G M As σ (dc_qv (fun τ => τ = σ))) (k : dc_X κ (pc + 3) ls rest σ) : dc_X κ pc ls st σ :=
  dx_callN hC hd hw hn hR1 hR2 hlen hcat hst hg (fun r0 τ h => by obtain ⟨rfl, rfl⟩ := h; exact k)
theorem dx_callNvw {As rest : List Value} (hC : dc_Cx κ own b nL fr lo) {idx n : Nat} {host : String} {M : dc_M} {r : dc_HP} (hd : decode b pc = .ok (.invokestatic idx, 3)) (hw : dc_lkN own idx M n host) (hn : As.length = n) (hR1 : M.2.2.2.2.2.1 + 1 ≤ fr) (hR2 : 8 + (M.2.2.2.1 + 11) + M.2.2.2.2.2.2 ≤ lo) (hlen : (lg_sl (As.map (dc_cv (fun q => q)))).length ≤ M.2.2.2.1) (hcat : (rest.map fun v => v.category).sum ≤ 8) (hst : st = As.reverse ++ rest) (hg : dc_G M As σ (dc_qv (fun τ => τ = r))) (k : dc_X κ (pc + 3) ls rest r) : dc_X κ pc ls st σ :=
  dx_callN hC hd hw hn hR1 hR2 hlen hcat hst hg (fun r0 τ h => by obtain ⟨rfl, rfl⟩ := h; exact k)
theorem dx_callNlr {As rest : List Value} (hC : dc_Cx κ own b nL fr lo) {idx n : Nat} {host : String} {M : dc_M} {r : Int64} (hd : decode b pc = .ok (.invokestatic idx, 3)) (hw : dc_lkN own idx M n host) (hn : As.length = n) (hR1 : M.2.2.2.2.2.1 + 1 ≤ fr) (hR2 : 8 + (M.2.2.2.1 + 11) + M.2.2.2.2.2.2 ≤ lo) (hlen : (lg_sl (As.map (dc_cv (fun q => q)))).length ≤ M.2.2.2.1) (hcat : (rest.map fun v => v.category).sum ≤ 8) (hst : st = As.reverse ++ rest) (hg : dc_G M As σ (dc_ql (fun x τ => x = r ∧ τ = σ))) (k : dc_X κ (pc + 3) ls (.long r :: rest) σ) : dc_X κ pc ls st σ :=
  dx_callN hC hd hw hn hR1 hR2 hlen hcat hst hg (fun r0 τ h => by obtain ⟨x, rfl, rfl, rfl⟩ := h; exact k)
theorem dx_callNlw {As rest : List Value} (hC : dc_Cx κ own b nL fr lo) {idx n : Nat} {host : String} {M : dc_M} {r : Int64 × dc_HP} (hd : decode b pc = .ok (.invokestatic idx, 3)) (hw : dc_lkN own idx M n host) (hn : As.length = n) (hR1 : M.2.2.2.2.2.1 + 1 ≤ fr) (hR2 : 8 + (M.2.2.2.1 + 11) + M.2.2.2.2.2.2 ≤ lo) (hlen : (lg_sl (As.map (dc_cv (fun q => q)))).length ≤ M.2.2.2.1) (hcat : (rest.map fun v => v.category).sum ≤ 8) (hst : st = As.reverse ++ rest) (hg : dc_G M As σ (dc_ql (fun x τ => x = r.1 ∧ τ = r.2))) (k : dc_X κ (pc + 3) ls (.long r.1 :: rest) r.2) : dc_X κ pc ls st σ :=
  dx_callN hC hd hw hn hR1 hR2 hlen hcat hst hg (fun r0 τ h => by obtain ⟨x, rfl, rfl, rfl⟩ := h; exact k)
end DX2
theorem kb_m6 : (Int8.ofInt (-6)).toInt32 = (-6 : Int32) := by decide
theorem kb_m5 : (Int8.ofInt (-5)).toInt32 = (-5 : Int32) := by decide
theorem kb_m4 : (Int8.ofInt (-4)).toInt32 = (-4 : Int32) := by decide
theorem kb_m3 : (Int8.ofInt (-3)).toInt32 = (-3 : Int32) := by decide
theorem kb_m2 : (Int8.ofInt (-2)).toInt32 = (-2 : Int32) := by decide
theorem kb_6 : (Int8.ofInt (6)).toInt32 = nI 6 := by decide
theorem kb_7 : (Int8.ofInt (7)).toInt32 = nI 7 := by decide
theorem kb_8 : (Int8.ofInt (8)).toInt32 = nI 8 := by decide
theorem kb_9 : (Int8.ofInt (9)).toInt32 = nI 9 := by decide
theorem kb_10 : (Int8.ofInt (10)).toInt32 = nI 10 := by decide
theorem kb_15 : (Int8.ofInt (15)).toInt32 = nI 15 := by decide
theorem kb_16 : (Int8.ofInt (16)).toInt32 = nI 16 := by decide
theorem kb_18 : (Int8.ofInt (18)).toInt32 = nI 18 := by decide
theorem kb_19 : (Int8.ofInt (19)).toInt32 = nI 19 := by decide
theorem kb_24 : (Int8.ofInt (24)).toInt32 = nI 24 := by decide
theorem kb_32 : (Int8.ofInt (32)).toInt32 = nI 32 := by decide
theorem kb_33 : (Int8.ofInt (33)).toInt32 = nI 33 := by decide
theorem kb_42 : (Int8.ofInt (42)).toInt32 = nI 42 := by decide
theorem kb_43 : (Int8.ofInt (43)).toInt32 = nI 43 := by decide
theorem kb_46 : (Int8.ofInt (46)).toInt32 = nI 46 := by decide
theorem kb_48 : (Int8.ofInt (48)).toInt32 = nI 48 := by decide
theorem kb_49 : (Int8.ofInt (49)).toInt32 = nI 49 := by decide
theorem kb_53 : (Int8.ofInt (53)).toInt32 = nI 53 := by decide
theorem kb_57 : (Int8.ofInt (57)).toInt32 = nI 57 := by decide
theorem kb_59 : (Int8.ofInt (59)).toInt32 = nI 59 := by decide
theorem kb_60 : (Int8.ofInt (60)).toInt32 = nI 60 := by decide
theorem kb_61 : (Int8.ofInt (61)).toInt32 = nI 61 := by decide
theorem kb_63 : (Int8.ofInt (63)).toInt32 = nI 63 := by decide
theorem kb_64 : (Int8.ofInt (64)).toInt32 = nI 64 := by decide
theorem kb_65 : (Int8.ofInt (65)).toInt32 = nI 65 := by decide
theorem kb_72 : (Int8.ofInt (72)).toInt32 = nI 72 := by decide
theorem kb_74 : (Int8.ofInt (74)).toInt32 = nI 74 := by decide
theorem kb_75 : (Int8.ofInt (75)).toInt32 = nI 75 := by decide
theorem kb_89 : (Int8.ofInt (89)).toInt32 = nI 89 := by decide
theorem kb_90 : (Int8.ofInt (90)).toInt32 = nI 90 := by decide
theorem kb_99 : (Int8.ofInt (99)).toInt32 = nI 99 := by decide
theorem kb_100 : (Int8.ofInt (100)).toInt32 = nI 100 := by decide
theorem kb_120 : (Int8.ofInt (120)).toInt32 = nI 120 := by decide
theorem kb_126 : (Int8.ofInt (126)).toInt32 = nI 126 := by decide
theorem kc_m1 : Int32.ofInt (-1) = (-1 : Int32) := by decide
theorem kc_0 : Int32.ofInt (0) = nI 0 := by decide
theorem kc_1 : Int32.ofInt (1) = nI 1 := by decide
theorem kc_2 : Int32.ofInt (2) = nI 2 := by decide
theorem kc_3 : Int32.ofInt (3) = nI 3 := by decide
theorem kc_4 : Int32.ofInt (4) = nI 4 := by decide
theorem kc_5 : Int32.ofInt (5) = nI 5 := by decide
theorem kc_8 : Int32.ofInt (8) = nI 8 := by decide
theorem kc_16 : Int32.ofInt (16) = nI 16 := by decide
theorem ks_159 : (Int16.ofInt (159)).toInt32 = nI 159 := by decide
theorem ks_256 : (Int16.ofInt (256)).toInt32 = nI 256 := by decide
theorem ks_999 : (Int16.ofInt (999)).toInt32 = nI 999 := by decide
theorem ks_1000 : (Int16.ofInt (1000)).toInt32 = nI 1000 := by decide
theorem ks_9990 : (Int16.ofInt (9990)).toInt32 = nI 9990 := by decide
theorem ks_9999 : (Int16.ofInt (9999)).toInt32 = nI 9999 := by decide
end
section
def fn_X8_within (x0 : Int32) (x1 : Int32) (x2 : Int32) : Option (Int32) := (if x0 < x1 then some (nI 0) else (if x2 < x0 then some (nI 0) else some (nI 1)))
def fn_X0_come (σ : dc_HP) (b : Nat) (x1 : Int32) (x2 : Int32) (x3 : Int32) : Option (dc_HP) := (fn_X8_within x1 (nI 0) (nI 7)).bind (fun r4 => (if r4 = 0 then some σ else dc_let (dc_wI σ b 0 ((σ.1 b 0) ||| ((nI 1) <<< (x1 &&& 31)))) (fun s19 => dc_let (dc_wI s19 b 1 ((s19.1 b 1) &&& (((nI 1) <<< (x1 &&& 31)) ^^^ ((-1 : Int32))))) (fun s33 => dc_let (dc_wI s33 b 2 ((s33.1 b 2) &&& (((nI 1) <<< (x1 &&& 31)) ^^^ ((-1 : Int32))))) (fun s47 => if x1 < 0 ∨ 8 ≤ x1.toNatClampNeg then none else dc_let (dc_wI s47 (b + 1) x1.toNatClampNeg x2) (fun s56 => if x1 < 0 ∨ 8 ≤ x1.toNatClampNeg then none else some (dc_wI s56 (b + 2) x1.toNatClampNeg x3)))))))
def fn_J6_bitCount_0f7a4 (x0 : Int32) : Option (Int32) := some ((((((((x0 - (((x0.toUInt32 >>> ((nI 1).toUInt32 &&& Int32.toUInt32 31)).toInt32) &&& ((1431655765 : Int32)))) &&& ((858993459 : Int32))) + ((((x0 - (((x0.toUInt32 >>> ((nI 1).toUInt32 &&& Int32.toUInt32 31)).toInt32) &&& ((1431655765 : Int32)))).toUInt32 >>> ((nI 2).toUInt32 &&& Int32.toUInt32 31)).toInt32) &&& ((858993459 : Int32)))) + (((((x0 - (((x0.toUInt32 >>> ((nI 1).toUInt32 &&& Int32.toUInt32 31)).toInt32) &&& ((1431655765 : Int32)))) &&& ((858993459 : Int32))) + ((((x0 - (((x0.toUInt32 >>> ((nI 1).toUInt32 &&& Int32.toUInt32 31)).toInt32) &&& ((1431655765 : Int32)))).toUInt32 >>> ((nI 2).toUInt32 &&& Int32.toUInt32 31)).toInt32) &&& ((858993459 : Int32)))).toUInt32 >>> ((nI 4).toUInt32 &&& Int32.toUInt32 31)).toInt32)) &&& ((252645135 : Int32))) + (((((((x0 - (((x0.toUInt32 >>> ((nI 1).toUInt32 &&& Int32.toUInt32 31)).toInt32) &&& ((1431655765 : Int32)))) &&& ((858993459 : Int32))) + ((((x0 - (((x0.toUInt32 >>> ((nI 1).toUInt32 &&& Int32.toUInt32 31)).toInt32) &&& ((1431655765 : Int32)))).toUInt32 >>> ((nI 2).toUInt32 &&& Int32.toUInt32 31)).toInt32) &&& ((858993459 : Int32)))) + (((((x0 - (((x0.toUInt32 >>> ((nI 1).toUInt32 &&& Int32.toUInt32 31)).toInt32) &&& ((1431655765 : Int32)))) &&& ((858993459 : Int32))) + ((((x0 - (((x0.toUInt32 >>> ((nI 1).toUInt32 &&& Int32.toUInt32 31)).toInt32) &&& ((1431655765 : Int32)))).toUInt32 >>> ((nI 2).toUInt32 &&& Int32.toUInt32 31)).toInt32) &&& ((858993459 : Int32)))).toUInt32 >>> ((nI 4).toUInt32 &&& Int32.toUInt32 31)).toInt32)) &&& ((252645135 : Int32))).toUInt32 >>> ((nI 8).toUInt32 &&& Int32.toUInt32 31)).toInt32)) + ((((((((x0 - (((x0.toUInt32 >>> ((nI 1).toUInt32 &&& Int32.toUInt32 31)).toInt32) &&& ((1431655765 : Int32)))) &&& ((858993459 : Int32))) + ((((x0 - (((x0.toUInt32 >>> ((nI 1).toUInt32 &&& Int32.toUInt32 31)).toInt32) &&& ((1431655765 : Int32)))).toUInt32 >>> ((nI 2).toUInt32 &&& Int32.toUInt32 31)).toInt32) &&& ((858993459 : Int32)))) + (((((x0 - (((x0.toUInt32 >>> ((nI 1).toUInt32 &&& Int32.toUInt32 31)).toInt32) &&& ((1431655765 : Int32)))) &&& ((858993459 : Int32))) + ((((x0 - (((x0.toUInt32 >>> ((nI 1).toUInt32 &&& Int32.toUInt32 31)).toInt32) &&& ((1431655765 : Int32)))).toUInt32 >>> ((nI 2).toUInt32 &&& Int32.toUInt32 31)).toInt32) &&& ((858993459 : Int32)))).toUInt32 >>> ((nI 4).toUInt32 &&& Int32.toUInt32 31)).toInt32)) &&& ((252645135 : Int32))) + (((((((x0 - (((x0.toUInt32 >>> ((nI 1).toUInt32 &&& Int32.toUInt32 31)).toInt32) &&& ((1431655765 : Int32)))) &&& ((858993459 : Int32))) + ((((x0 - (((x0.toUInt32 >>> ((nI 1).toUInt32 &&& Int32.toUInt32 31)).toInt32) &&& ((1431655765 : Int32)))).toUInt32 >>> ((nI 2).toUInt32 &&& Int32.toUInt32 31)).toInt32) &&& ((858993459 : Int32)))) + (((((x0 - (((x0.toUInt32 >>> ((nI 1).toUInt32 &&& Int32.toUInt32 31)).toInt32) &&& ((1431655765 : Int32)))) &&& ((858993459 : Int32))) + ((((x0 - (((x0.toUInt32 >>> ((nI 1).toUInt32 &&& Int32.toUInt32 31)).toInt32) &&& ((1431655765 : Int32)))).toUInt32 >>> ((nI 2).toUInt32 &&& Int32.toUInt32 31)).toInt32) &&& ((858993459 : Int32)))).toUInt32 >>> ((nI 4).toUInt32 &&& Int32.toUInt32 31)).toInt32)) &&& ((252645135 : Int32))).toUInt32 >>> ((nI 8).toUInt32 &&& Int32.toUInt32 31)).toInt32)).toUInt32 >>> ((nI 16).toUInt32 &&& Int32.toUInt32 31)).toInt32)) &&& (nI 63))
def fn_X8_singer (σ : dc_HP) (x1 : Int32) (x2 : Int32) (x3 : Int32) : Option (Int32 × dc_HP) := (fn_X8_within x1 (nI 0) (nI 7)).bind (fun r4 => (if r4 = 0 then some ((-1 : Int32), σ) else (fn_X8_within x2 (nI 0) (nI 3)).bind (fun r15 => (if r15 = 0 then some ((-2 : Int32), σ) else (fn_X8_within x3 (nI 0) (nI 999)).bind (fun r26 => (if r26 = 0 then some ((-2 : Int32), σ) else (fn_X0_come σ 1 x1 x2 x3).bind (fun r42 => (fn_J6_bitCount_0f7a4 (r42.1 1 0)).bind (fun r52 => some (r52, r42)))))))))
def fn_X0_has (σ : dc_HP) (b : Nat) (x1 : Int32) : Option (Int32) := (if x1 < 0 then some (nI 0) else (if (nI 8) ≤ x1 then some (nI 0) else (if (((σ.1 b 0) >>> (x1 &&& 31)) &&& (nI 1)) = (nI 1) then some (nI 1) else some (nI 0))))
def fn_X0_go (σ : dc_HP) (b : Nat) (x1 : Int32) : Option (dc_HP) := (fn_X0_has σ b x1).bind (fun r2 => (if r2 = 0 then some σ else (fn_X0_come σ b x1 (nI 0) (nI 0)).bind (fun r12 => some (dc_wI r12 b 0 ((r12.1 b 0) &&& (((nI 1) <<< (x1 &&& 31)) ^^^ ((-1 : Int32))))))))
def fn_X8_leave (σ : dc_HP) (x1 : Int32) : Option (Int32 × dc_HP) := (fn_X0_has σ 1 x1).bind (fun r5 => (if r5 = 0 then some ((-1 : Int32), σ) else (fn_X0_go σ 1 x1).bind (fun r18 => (fn_J6_bitCount_0f7a4 (r18.1 1 0)).bind (fun r28 => some (r28, r18)))))
def fn_X8_digitOf_L4 (x1 : Int32) : Nat → Int32 → Int32 → Option (Int32)
  | 0, _, _ => none
  | n + 1, x2, x3 => (if x1 ≤ x3 then some x2 else fn_X8_digitOf_L4 x1 n (x2 / (nI 10)) (x3 + nI 1))
def fn_X8_digitOf (x0 : Int32) (x1 : Int32) : Option (Int32) := (fn_X8_digitOf_L4 x1 200 x0 (nI 0)).bind (fun q4 => some (q4 - q4 / (nI 10) * (nI 10)))
def fn_X8_areNeeds_L15 (x0 : Int32) : Nat → Int32 → Option ((Int32) ⊕ (Unit))
  | 0, _ => none
  | n + 1, x1 => (if (nI 4) ≤ x1 then some (.inr ()) else (fn_X8_digitOf x0 x1).bind (fun r22 => (if r22 ≤ (nI 3) then fn_X8_areNeeds_L15 x0 n (x1 + nI 1) else some (.inl (nI 0)))))
def fn_X8_areNeeds (x0 : Int32) : Option (Int32) := (fn_X8_within x0 (nI 0) (nI 9999)).bind (fun r5 => (if r5 = 0 then some (nI 0) else (fn_X8_areNeeds_L15 x0 200 (nI 0)).bind (Sum.elim (fun r => some r) (fun q15 => some (nI 1)))))
def fn_X0_barsOf (σ : dc_HP) (b : Nat) (x1 : Int32) : Option (Int32) := (fn_X8_within x1 (nI 0) (nI 5)).bind (fun r3 => (if r3 = 0 then some (nI 0) else if x1 < 0 ∨ 6 ≤ x1.toNatClampNeg then none else some (σ.1 (b + 4) x1.toNatClampNeg)))
def fn_X0_write_L12 (b : Nat) (x1 : Int32) (x2 : Int32) (x3 : Int32) (x4 : Int32) : Nat → Int32 → dc_HP → Option (dc_HP)
  | 0, _, _ => none
  | n + 1, x5, σ => (if (nI 4) ≤ x5 then some σ else (fn_X8_digitOf x2 ((nI 3) - x5)).bind (fun r33 => if ((x1 * (nI 4)) + x5) < 0 ∨ 24 ≤ ((x1 * (nI 4)) + x5).toNatClampNeg then none else dc_let (dc_wI σ (b + 3) ((x1 * (nI 4)) + x5).toNatClampNeg r33) (fun s36 => fn_X0_write_L12 b x1 x2 x3 x4 n (x5 + nI 1) s36)))
def fn_X0_write (σ : dc_HP) (b : Nat) (x1 : Int32) (x2 : Int32) (x3 : Int32) (x4 : Int32) : Option (dc_HP) := (fn_X8_within x1 (nI 0) (nI 5)).bind (fun r3 => (if r3 = 0 then some σ else (fn_X0_write_L12 b x1 x2 x3 x4 200 (nI 0) σ).bind (fun q12 => if x1 < 0 ∨ 6 ≤ x1.toNatClampNeg then none else dc_let (dc_wI q12 (b + 4) x1.toNatClampNeg x3) (fun s49 => if x1 < 0 ∨ 6 ≤ x1.toNatClampNeg then none else some (dc_wI s49 (b + 5) x1.toNatClampNeg x4)))))
def fn_X8_piece (σ : dc_HP) (x1 : Int32) (x2 : Int32) (x3 : Int32) (x4 : Int32) : Option (Int32 × dc_HP) := (fn_X8_within x1 (nI 0) (nI 5)).bind (fun r3 => (if r3 = 0 then some ((-1 : Int32), σ) else (fn_X8_areNeeds x2).bind (fun r12 => (if r12 = 0 then some ((-2 : Int32), σ) else (fn_X8_within x3 (nI 0) (nI 60)).bind (fun r22 => (if r22 = 0 then some ((-2 : Int32), σ) else (fn_X8_within x4 (nI 0) (nI 9)).bind (fun r33 => (if r33 = 0 then some ((-2 : Int32), σ) else (fn_X0_barsOf σ 1 x1).bind (fun r47 => (fn_X0_write σ 1 x1 x2 x3 x4).bind (fun r61 => some (r47, r61)))))))))))
def fn_X4_add (σ : dc_HP) (x1 : Int32) : Option (Int32 × dc_HP) := (fn_X8_within (σ.1 12 0) (nI 0) (nI 59)).bind (fun r7 => (if r7 = 0 then some (nI 0, σ) else if (σ.1 12 0) < 0 ∨ 60 ≤ (σ.1 12 0).toNatClampNeg then none else dc_let (dc_wI σ 13 (σ.1 12 0).toNatClampNeg x1) (fun s24 => dc_let (dc_wI s24 12 0 ((s24.1 12 0) + (nI 1))) (fun s32 => some (nI 1, s32)))))
def fn_X8_say (σ : dc_HP) (x1 : Int32) : Option (Int32 × dc_HP) := (fn_X8_within x1 (nI 33) (nI 126)).bind (fun r5 => (if r5 = 0 then some ((-2 : Int32), σ) else (fn_X4_add σ x1).bind (fun r19 => (if r19.1 = 0 then some ((-4 : Int32), r19.2) else some (r19.2.1 12 0, r19.2)))))
def fn_X8_wipe (σ : dc_HP) : Option (Int32 × dc_HP) := dc_let (dc_wI σ 12 0 (nI 0)) (fun s13 => some (σ.1 12 0, s13))
def fn_X4_signAt (σ : dc_HP) (x1 : Int32) : Option (Int32) := (fn_X8_within x1 (nI 0) (nI 59)).bind (fun r4 => (if r4 = 0 then some (nI 0) else (if (σ.1 12 0) ≤ x1 then some (nI 0) else if x1 < 0 ∨ 60 ≤ x1.toNatClampNeg then none else some (σ.1 13 x1.toNatClampNeg))))
def fn_X4_isPiece (x0 : Int32) : Option (Int32) := (fn_X8_within x0 (nI 48) (nI 53)).bind (fun r5 => (if r5 = 0 ∨ r5 = 1 then some r5 else none))
def fn_X4_isLetter (x0 : Int32) : Option (Int32) := (fn_X8_within x0 (nI 65) (nI 72)).bind (fun r5 => (if r5 = 0 ∨ r5 = 1 then some r5 else none))
def fn_X4_isMark (x0 : Int32) : Option (Int32) := (if x0 = (nI 43) then some (nI 1) else (if x0 = (nI 42) then some (nI 1) else (if x0 = (nI 61) then some (nI 1) else (if x0 = (nI 120) then some (nI 1) else some (nI 0)))))
def fn_X4_faultIn (σ : dc_HP) (x1 : Int32) : Option (Int32) := (fn_X4_signAt σ x1).bind (fun r2 => (fn_X4_isPiece r2).bind (fun r7 => (if r7 = 0 then (if r2 = (nI 46) then some ((-6 : Int32)) else (fn_X4_isLetter r2).bind (fun r23 => (if r23 = 0 then some x1 else (fn_X4_signAt σ (x1 + (nI 1))).bind (fun r35 => (fn_X4_isMark r35).bind (fun r40 => (if r40 = 0 then some (x1 + (nI 1)) else (fn_X4_signAt σ (x1 + (nI 2))).bind (fun r54 => (if r35 = (nI 43) then (fn_X8_within r54 (nI 49) (nI 57)).bind (fun r71 => (if r71 = 0 then some (x1 + (nI 2)) else (if r35 = (nI 61) then (fn_X4_isLetter r54).bind (fun r85 => (if r85 = 0 then some (x1 + (nI 2)) else some ((-6 : Int32)))) else some ((-6 : Int32))))) else (if r35 = (nI 61) then (fn_X4_isLetter r54).bind (fun r85 => (if r85 = 0 then some (x1 + (nI 2)) else some ((-6 : Int32)))) else some ((-6 : Int32))))))))))) else some ((-6 : Int32)))))
def fn_X4_lengthOf (x0 : Int32) (x1 : Int32) : Option (Int32) := (fn_X4_isLetter x0).bind (fun r1 => (if r1 = 0 then some (nI 1) else (if x1 = (nI 43) then some (nI 3) else (if x1 = (nI 61) then some (nI 3) else some (nI 2)))))
def fn_X4_faultPlace_L2 (σ : dc_HP) : Nat → Int32 → Option ((Int32) ⊕ (Unit))
  | 0, _ => none
  | n + 1, x1 => (if (σ.1 12 0) ≤ x1 then some (.inr ()) else (fn_X4_faultIn σ x1).bind (fun r12 => (if r12 = ((-6 : Int32)) then (fn_X4_signAt σ x1).bind (fun r27 => (fn_X4_signAt σ (x1 + (nI 1))).bind (fun r34 => (fn_X4_lengthOf r27 r34).bind (fun r37 => fn_X4_faultPlace_L2 σ n (x1 + r37)))) else some (.inl r12))))
def fn_X4_faultPlace (σ : dc_HP) : Option (Int32) := (fn_X4_faultPlace_L2 σ 200 (nI 0)).bind (Sum.elim (fun r => some r) (fun q2 => some ((-6 : Int32))))
def fn_X8_fault (σ : dc_HP) : Option (Int32) := (fn_X4_faultPlace σ).bind (fun r4 => some r4)
def fn_X0_copyFrom (σ : dc_HP) (b : Nat) (q1 : Nat) : Option (dc_HP) := dc_let (dc_wI σ b 0 (σ.1 q1 0)) (fun s5 => dc_let (dc_wI s5 b 1 (s5.1 q1 1)) (fun s13 => dc_let (dc_wI s13 b 2 (s13.1 q1 2)) (fun s21 => dc_let (dc_wI s21 b 3 (s21.1 q1 3)) (fun s29 => dc_let (dc_wI s29 b 4 (nI 0)) (fun s34 => dc_let (dc_cp s34 (q1 + 1) (b + 1) 8) (fun s49 => dc_let (dc_cp s49 (q1 + 2) (b + 2) 8) (fun s64 => dc_let (dc_cp s64 (q1 + 3) (b + 3) 24) (fun s79 => dc_let (dc_cp s79 (q1 + 4) (b + 4) 6) (fun s94 => some (dc_cp s94 (q1 + 5) (b + 5) 6))))))))))
def fn_X7_start (σ : dc_HP) (q1 : Nat) : Option (dc_HP) := (fn_X0_copyFrom σ 15 q1).bind (fun r5 => dc_let (dc_wI r5 14 1 (nI 0)) (fun s10 => dc_let (dc_wI s10 14 2 ((-6 : Int32))) (fun s16 => dc_let (dc_wI s16 14 3 ((-6 : Int32))) (fun s22 => dc_let (dc_wI s22 14 4 (nI 0)) (fun s27 => dc_let (dc_wI s27 14 5 ((-6 : Int32))) (fun s33 => some (dc_wI s33 14 6 ((-6 : Int32)))))))))
def fn_X0_freeSingers_L4 (σ : dc_HP) (b : Nat) : Nat → Int32 → Int32 → Option (Int32)
  | 0, _, _ => none
  | n + 1, x1, x2 => (if (nI 8) ≤ x2 then some x1 else if x2 < 0 ∨ 8 ≤ x2.toNatClampNeg then none else (if (σ.1 (b + 2) x2.toNatClampNeg) = 0 then fn_X0_freeSingers_L4 σ b n (x1 ||| ((nI 1) <<< (x2 &&& 31))) (x2 + nI 1) else fn_X0_freeSingers_L4 σ b n x1 (x2 + nI 1)))
def fn_X0_freeSingers (σ : dc_HP) (b : Nat) : Option (Int32) := (fn_X0_freeSingers_L4 σ b 200 (nI 0) (nI 0)).bind (fun q4 => some (q4 &&& (σ.1 b 0)))
def fn_X0_turnHoarse (σ : dc_HP) (b : Nat) (x1 : Int32) : Option (Int32 × dc_HP) := (fn_X0_has σ b x1).bind (fun r2 => (if r2 = 0 then some (nI 1, σ) else dc_let (dc_wI σ b 1 ((σ.1 b 1) ^^^ ((nI 1) <<< (x1 &&& 31)))) (fun s19 => some (nI 0, s19))))
def fn_X0_debtOf (σ : dc_HP) (b : Nat) (x1 : Int32) : Option (Int32) := (fn_X0_has σ b x1).bind (fun r2 => (if r2 = 0 then some (nI 0) else if x1 < 0 ∨ 8 ≤ x1.toNatClampNeg then none else some (σ.1 (b + 2) x1.toNatClampNeg)))
def fn_X0_owe (σ : dc_HP) (b : Nat) (x1 : Int32) (x2 : Int32) : Option (dc_HP) := (fn_X0_has σ b x1).bind (fun r2 => (if r2 = 0 then some σ else if x1 < 0 ∨ 8 ≤ x1.toNatClampNeg then none else some (dc_wI σ (b + 2) x1.toNatClampNeg x2)))
def fn_X0_borrow (σ : dc_HP) (b : Nat) (x1 : Int32) (x2 : Int32) : Option (Int32 × dc_HP) := (fn_X0_has σ b x1).bind (fun r2 => (if r2 = 0 then some (nI 1, σ) else (fn_X0_debtOf σ b x1).bind (fun r12 => (if (r12 + x2) ≤ (nI 999) then (fn_X0_debtOf σ b x1).bind (fun r29 => (fn_X0_owe σ b x1 (r29 + x2)).bind (fun r34 => some (nI 0, r34))) else some (nI 3, σ)))))
def fn_X0_takeOver (σ : dc_HP) (b : Nat) (x1 : Int32) (x2 : Int32) : Option (Int32 × dc_HP) := (fn_X0_has σ b x1).bind (fun r2 => (if r2 = 0 then some (nI 1, σ) else (fn_X0_has σ b x2).bind (fun r10 => (if r10 = 0 then some (nI 1, σ) else (fn_X0_debtOf σ b x1).bind (fun r20 => (if x1 = x2 then some (nI 2, σ) else (if r20 = 0 then some (nI 2, σ) else (fn_X0_debtOf σ b x2).bind (fun r37 => (if (r37 + r20) ≤ (nI 999) then (fn_X0_debtOf σ b x2).bind (fun r54 => (fn_X0_owe σ b x2 (r54 + r20)).bind (fun r59 => (fn_X0_owe r59 b x1 (nI 0)).bind (fun r65 => some (nI 0, r65)))) else some (nI 3, σ))))))))))
def fn_X0_letGo (σ : dc_HP) (b : Nat) (x1 : Int32) : Option (Int32 × dc_HP) := (fn_X0_has σ b x1).bind (fun r2 => (if r2 = 0 then some (nI 1, σ) else (fn_X0_debtOf σ b x1).bind (fun r12 => (if r12 = 0 then some (nI 2, σ) else (fn_X0_owe σ b x1 (nI 0)).bind (fun r23 => some (nI 0, r23))))))
def fn_X0_withBreath_L4 (σ : dc_HP) (b : Nat) (x1 : Int32) : Nat → Int32 → Int32 → Option (Int32)
  | 0, _, _ => none
  | n + 1, x2, x3 => (if (nI 8) ≤ x3 then some x2 else if x3 < 0 ∨ 8 ≤ x3.toNatClampNeg then none else (if (σ.1 (b + 1) x3.toNatClampNeg) = x1 then fn_X0_withBreath_L4 σ b x1 n (x2 ||| ((nI 1) <<< (x3 &&& 31))) (x3 + nI 1) else fn_X0_withBreath_L4 σ b x1 n x2 (x3 + nI 1)))
def fn_X0_withBreath (σ : dc_HP) (b : Nat) (x1 : Int32) : Option (Int32) := (fn_X0_withBreath_L4 σ b x1 200 (nI 0) (nI 0)).bind (fun q4 => some (((q4 &&& (σ.1 b 0)) &&& ((σ.1 b 1) ^^^ ((-1 : Int32)))) &&& ((σ.1 b 2) ^^^ ((-1 : Int32)))))
def fn_X0_readyIn (σ : dc_HP) (b : Nat) (x1 : Int32) : Option (Int32) := (fn_X0_withBreath σ b x1).bind (fun r2 => (fn_X0_freeSingers σ b).bind (fun r6 => some (r2 &&& (r6 ^^^ ((-1 : Int32))))))
def fn_X0_needOf (σ : dc_HP) (b : Nat) (x1 : Int32) (x2 : Int32) : Option (Int32) := (fn_X8_within x1 (nI 0) (nI 5)).bind (fun r3 => ((if r3 = 0 then some (nI 0) else (fn_X8_within x2 (nI 0) (nI 3)).bind (fun r12 => (if r12 = 0 then some (nI 0) else some (nI 1))))).bind (fun q6 => (if q6 = 0 then some (nI 0) else if ((x1 * (nI 4)) + x2) < 0 ∨ 24 ≤ ((x1 * (nI 4)) + x2).toNatClampNeg then none else some (σ.1 (b + 3) ((x1 * (nI 4)) + x2).toNatClampNeg))))
def fn_X0_canBeSung_L2 (σ : dc_HP) (b : Nat) (x1 : Int32) : Nat → Int32 → Option ((Int32) ⊕ (Unit))
  | 0, _ => none
  | n + 1, x2 => (if (nI 4) ≤ x2 then some (.inr ()) else (fn_X0_readyIn σ b x2).bind (fun r9 => (fn_J6_bitCount_0f7a4 r9).bind (fun r12 => (fn_X0_needOf σ b x1 x2).bind (fun r18 => (if r18 ≤ r12 then fn_X0_canBeSung_L2 σ b x1 n (x2 + nI 1) else some (.inl (nI 0)))))))
def fn_X0_canBeSung (σ : dc_HP) (b : Nat) (x1 : Int32) : Option (Int32) := (fn_X0_canBeSung_L2 σ b x1 200 (nI 0)).bind (Sum.elim (fun r => some r) (fun q2 => some (nI 1)))
def fn_X8_bit (x0 : Int32) (x1 : Int32) : Option (Int32) := some ((x0 >>> (x1 &&& 31)) &&& (nI 1))
def fn_X0_deepestOf_L5 (σ : dc_HP) (b : Nat) (x1 : Int32) : Nat → Int32 → Int32 → Option (Int32)
  | 0, _, _ => none
  | n + 1, x2, x3 => (if (nI 8) ≤ x3 then some x2 else (fn_X8_bit x1 x3).bind (fun r13 => (if r13 = (nI 1) then (fn_X0_debtOf σ b x3).bind (fun r22 => (fn_X0_debtOf σ b x2).bind (fun r27 => (if r22 ≤ r27 then fn_X0_deepestOf_L5 σ b x1 n x2 (x3 + nI 1) else fn_X0_deepestOf_L5 σ b x1 n x3 (x3 + nI 1)))) else fn_X0_deepestOf_L5 σ b x1 n x2 (x3 + nI 1))))
def fn_X0_deepestOf (σ : dc_HP) (b : Nat) (x1 : Int32) : Option (Int32) := (fn_X0_deepestOf_L5 σ b x1 200 ((-6 : Int32)) (nI 0)).bind (fun q5 => some q5)
def fn_X0_payOf (σ : dc_HP) (b : Nat) (x1 : Int32) : Option (Int32) := (fn_X8_within x1 (nI 0) (nI 5)).bind (fun r3 => (if r3 = 0 then some (nI 0) else if x1 < 0 ∨ 6 ≤ x1.toNatClampNeg then none else some (σ.1 (b + 5) x1.toNatClampNeg)))
def fn_X0_worthOf (σ : dc_HP) (b : Nat) (x1 : Int32) : Option (Int32) := (fn_X0_barsOf σ b x1).bind (fun r2 => (fn_X0_payOf σ b x1).bind (fun r7 => some (r2 * r7)))
def fn_X0_singOff (σ : dc_HP) (b : Nat) (x1 : Int32) (x2 : Int32) : Option (dc_HP) := (fn_X0_has σ b x1).bind (fun r2 => (if r2 = 0 then some σ else (fn_X0_debtOf σ b x1).bind (fun r11 => (fn_X0_debtOf σ b x1).bind (fun r22 => (fn_X0_owe σ b x1 (r22 - (if r11 < x2 then r11 else x2))).bind (fun r27 => dc_let (dc_wI r27 b 4 ((r27.1 b 4) + (if r11 < x2 then r11 else x2))) (fun s37 => some (dc_wI s37 b 2 ((s37.1 b 2) ||| ((nI 1) <<< (x1 &&& 31))))))))))
def fn_X0_sing_L19 (b : Nat) (x1 : Int32) (x2 : Int32) : Nat → Int32 → dc_HP → Option (dc_HP)
  | 0, _, _ => none
  | n + 1, x3, σ => (fn_X0_needOf σ b x1 x2).bind (fun r23 => (if r23 ≤ x3 then some σ else (fn_X0_readyIn σ b x2).bind (fun r33 => (fn_X0_deepestOf σ b r33).bind (fun r36 => (fn_X0_worthOf σ b x1).bind (fun r41 => (fn_X0_singOff σ b r36 r41).bind (fun r44 => fn_X0_sing_L19 b x1 x2 n (x3 + nI 1) r44))))))
def fn_X0_sing_L12 (b : Nat) (x1 : Int32) : Nat → Int32 → dc_HP → Option (dc_HP)
  | 0, _, _ => none
  | n + 1, x2, σ => (if (nI 4) ≤ x2 then some σ else (fn_X0_sing_L19 b x1 x2 200 (nI 0) σ).bind (fun q19 => fn_X0_sing_L12 b x1 n (x2 + nI 1) q19))
def fn_X0_sing (σ : dc_HP) (b : Nat) (x1 : Int32) : Option (Int32 × dc_HP) := (fn_X0_canBeSung σ b x1).bind (fun r2 => (if r2 = 0 then some (nI 4, σ) else (fn_X0_sing_L12 b x1 200 (nI 0) σ).bind (fun q12 => some (nI 0, q12))))
def fn_X0_endEvening_L13 (b : Nat) : Nat → Int32 → dc_HP → Option (dc_HP)
  | 0, _, _ => none
  | n + 1, x1, σ => (if (nI 8) ≤ x1 then some σ else (fn_X8_bit (σ.1 b 1) x1).bind (fun r24 => (if r24 = (nI 1) then (fn_X0_debtOf σ b x1).bind (fun r44 => (fn_X0_owe σ b x1 (if (r44 + (r44 / (nI 10))) < (nI 999) then (r44 + (r44 / (nI 10))) else (nI 999))).bind (fun r62 => fn_X0_endEvening_L13 b n (x1 + nI 1) r62)) else (fn_X8_bit (σ.1 b 2) x1).bind (fun r36 => (if r36 = 0 then (fn_X0_debtOf σ b x1).bind (fun r44 => (fn_X0_owe σ b x1 (if (r44 + (r44 / (nI 10))) < (nI 999) then (r44 + (r44 / (nI 10))) else (nI 999))).bind (fun r62 => fn_X0_endEvening_L13 b n (x1 + nI 1) r62)) else fn_X0_endEvening_L13 b n (x1 + nI 1) σ)))))
def fn_X0_endEvening (σ : dc_HP) (b : Nat) : Option (Int32 × dc_HP) := (if (σ.1 b 3) < (nI 99) then (fn_X0_endEvening_L13 b 200 (nI 0) σ).bind (fun q13 => dc_let (dc_wI q13 b 2 (nI 0)) (fun s73 => dc_let (dc_wI s73 b 3 ((s73.1 b 3) + (nI 1))) (fun s83 => some (nI 0, s83)))) else some (nI 5, σ))
def fn_X7_act (σ : dc_HP) (x1 : Int32) (x2 : Int32) (x3 : Int32) : Option (Int32 × dc_HP) := (if x1 = (nI 46) then (fn_X0_endEvening σ 15).bind (fun r10 => some (r10.1, r10.2)) else (fn_X4_isPiece x1).bind (fun r15 => (if r15 = 0 then (if x2 = nI 42 then (fn_X0_turnHoarse σ 15 (x1 - (nI 65))).bind (fun r99 => some (r99.1, r99.2)) else if x2 = nI 43 then (fn_X0_borrow σ 15 (x1 - (nI 65)) ((nI 10) * (x3 - (nI 48)))).bind (fun r89 => some (r89.1, r89.2)) else if x2 = nI 61 then (fn_X0_takeOver σ 15 (x1 - (nI 65)) (x3 - (nI 65))).bind (fun r113 => some (r113.1, r113.2)) else (fn_X0_letGo σ 15 (x1 - (nI 65))).bind (fun r123 => some (r123.1, r123.2))) else (fn_X0_sing σ 15 (x1 - (nI 48))).bind (fun r29 => some (r29.1, r29.2)))))
def fn_J6_numberOfTrailingZeros_0f7a4 (x0 : Int32) : Option (Int32) := (if 0 < ((x0 ^^^ ((-1 : Int32))) &&& (x0 - (nI 1))) then ((if ((x0 ^^^ ((-1 : Int32))) &&& (x0 - (nI 1))) ≤ ((65536 : Int32)) then some ((x0 ^^^ ((-1 : Int32))) &&& (x0 - (nI 1)), nI 1) else some ((((x0 ^^^ ((-1 : Int32))) &&& (x0 - (nI 1))).toUInt32 >>> ((nI 16).toUInt32 &&& Int32.toUInt32 31)).toInt32, (nI 1) + nI 16))).bind (fun q23 => ((if q23.1 ≤ (nI 256) then some (q23.1, q23.2) else some ((q23.1.toUInt32 >>> ((nI 8).toUInt32 &&& Int32.toUInt32 31)).toInt32, q23.2 + nI 8))).bind (fun q38 => ((if q38.1 ≤ (nI 16) then some (q38.1, q38.2) else some ((q38.1.toUInt32 >>> ((nI 4).toUInt32 &&& Int32.toUInt32 31)).toInt32, q38.2 + nI 4))).bind (fun q52 => (if q52.1 ≤ (nI 4) then some (q52.2 + ((q52.1.toUInt32 >>> ((nI 1).toUInt32 &&& Int32.toUInt32 31)).toInt32)) else some ((q52.2 + nI 2) + ((((q52.1.toUInt32 >>> ((nI 2).toUInt32 &&& Int32.toUInt32 31)).toInt32).toUInt32 >>> ((nI 1).toUInt32 &&& Int32.toUInt32 31)).toInt32)))))) else some (((x0 ^^^ ((-1 : Int32))) &&& (x0 - (nI 1))) &&& (nI 32)))
def fn_X7_noteFreed (σ : dc_HP) (x1 : Int32) : Option (dc_HP) := (if x1 = 0 then some σ else (if (σ.1 14 5) = ((-6 : Int32)) then dc_let (dc_wI σ 14 5 (σ.1 14 1)) (fun s18 => (fn_J6_numberOfTrailingZeros_0f7a4 x1).bind (fun r23 => some (dc_wI s18 14 6 r23))) else some σ))
def fn_X7_play_L19 (q2 : Nat) : Nat → Int32 → dc_HP → Option ((Int32 × dc_HP) ⊕ (dc_HP))
  | 0, _, _ => none
  | n + 1, x3, σ => (if (σ.1 12 0) ≤ x3 then some (.inr σ) else (fn_X0_freeSingers σ 15).bind (fun r31 => (fn_X4_signAt σ x3).bind (fun r39 => (fn_X4_signAt σ (x3 + (nI 1))).bind (fun r46 => (fn_X4_signAt σ (x3 + (nI 2))).bind (fun r53 => (fn_X7_act σ r39 r46 r53).bind (fun r56 => (if r56.1 = 0 then (fn_X0_freeSingers r56.2 15).bind (fun r88 => (fn_X7_noteFreed r56.2 (r88 &&& (r31 ^^^ ((-1 : Int32))))).bind (fun r96 => (fn_X4_signAt r96 x3).bind (fun r101 => (fn_X4_isPiece r101).bind (fun r104 => ((if r104 = 0 then some r96 else dc_let (dc_wI r96 14 4 ((r96.1 14 4) + (nI 1))) (fun s117 => some s117))).bind (fun q107 => dc_let (dc_wI q107 14 1 ((q107.1 14 1) + (nI 1))) (fun s127 => (fn_X4_signAt s127 x3).bind (fun r133 => (fn_X4_signAt s127 (x3 + (nI 1))).bind (fun r140 => (fn_X4_lengthOf r133 r140).bind (fun r143 => fn_X7_play_L19 q2 n (x3 + r143) s127))))))))) else dc_let (dc_wI r56.2 14 2 (r56.2.1 14 1)) (fun s71 => dc_let (dc_wI s71 14 3 r56.1) (fun s77 => some (.inl ((-3 : Int32), s77)))))))))))
def fn_X7_play (σ : dc_HP) (q2 : Nat) : Option (Int32 × dc_HP) := (fn_X7_start σ q2).bind (fun r2 => (fn_X4_faultPlace r2).bind (fun r6 => (if r6 = ((-6 : Int32)) then (fn_X7_play_L19 q2 200 (nI 0) r2).bind (Sum.elim (fun r => some r) (fun q19 => some (nI 0, q19))) else some ((-5 : Int32), r2))))
def fn_X8_judge (σ : dc_HP) (x1 : Int32) : Option (Int32 × dc_HP) := (fn_X8_within x1 (nI 0) (nI 2)).bind (fun r3 => (if r3 = 0 then some ((-2 : Int32), σ) else (fn_X7_play σ 1).bind (fun r24 => (if r24.1 = ((-5 : Int32)) then some (r24.1, r24.2) else (if r24.1 = ((-3 : Int32)) then (if x1 = (nI 2) then some (r24.1, r24.2) else (if x1 = 0 then some (r24.2.1 14 2, r24.2) else (if x1 = (nI 1) then some (r24.2.1 14 3, r24.2) else some (r24.2.1 14 4, r24.2)))) else (if x1 = 0 then some (r24.2.1 14 2, r24.2) else (if x1 = (nI 1) then some (r24.2.1 14 3, r24.2) else some (r24.2.1 14 4, r24.2))))))))
def fn_X8_behind (σ : dc_HP) (x1 : Int32) (x2 : Int32) : Option (Int32 × dc_HP) := (fn_X0_has σ 1 x1).bind (fun r5 => (if r5 = 0 then some ((-1 : Int32), σ) else (fn_X8_within x2 (nI 0) (nI 2)).bind (fun r16 => (if r16 = 0 then some ((-2 : Int32), σ) else (fn_X7_play σ 1).bind (fun r37 => (if r37.1 = 0 then (if x2 = 0 then (fn_X0_debtOf r37.2 15 x1).bind (fun r59 => some (r59, r37.2)) else ((if x2 = (nI 1) then some (r37.2.1 15 1) else some (r37.2.1 15 2))).bind (fun q65 => (fn_X8_bit q65 x1).bind (fun r92 => some (r92, r37.2)))) else some (r37.1, r37.2)))))))
def fn_X0_allDebts_L4 (σ : dc_HP) (b : Nat) : Nat → Int32 → Int32 → Option (Int32)
  | 0, _, _ => none
  | n + 1, x1, x2 => (if (nI 8) ≤ x2 then some x1 else (fn_X0_debtOf σ b x2).bind (fun r13 => fn_X0_allDebts_L4 σ b n (x1 + r13) (x2 + nI 1)))
def fn_X0_allDebts (σ : dc_HP) (b : Nat) : Option (Int32) := (fn_X0_allDebts_L4 σ b 200 (nI 0) (nI 0)).bind (fun q4 => some q4)
def fn_X8_owed (σ : dc_HP) (x1 : Int32) : Option (Int32 × dc_HP) := (fn_X8_within x1 (nI 0) (nI 1)).bind (fun r3 => (if r3 = 0 then some ((-2 : Int32), σ) else (fn_X7_play σ 1).bind (fun r24 => (if r24.1 = 0 then (if x1 = 0 then (fn_X0_allDebts r24.2 15).bind (fun r45 => some (r45, r24.2)) else some (r24.2.1 15 4, r24.2)) else some (r24.1, r24.2)))))
def fn_X8_freed (σ : dc_HP) (x1 : Int32) : Option (Int32 × dc_HP) := (fn_X8_within x1 (nI 0) (nI 1)).bind (fun r3 => (if r3 = 0 then some ((-2 : Int32), σ) else (fn_X7_play σ 1).bind (fun r24 => (if r24.1 = 0 then (if x1 = 0 then some (r24.2.1 14 5, r24.2) else some (r24.2.1 14 6, r24.2)) else some (r24.1, r24.2)))))
def fn_X8_done (σ : dc_HP) : Option (Int32 × dc_HP) := (fn_X7_play σ 1).bind (fun r12 => (if r12.1 = 0 then (fn_X0_copyFrom r12.2 1 15).bind (fun r33 => dc_let (dc_wI r33 12 0 (nI 0)) (fun s41 => some (s41.1 14 1, s41))) else some (r12.1, r12.2)))
def fn_X8_may_L4 (σ : dc_HP) : Nat → Int32 → Int32 → Option (Int32)
  | 0, _, _ => none
  | n + 1, x1, x2 => (if (nI 6) ≤ x2 then some x1 else (fn_X0_canBeSung σ 1 x2).bind (fun r15 => (if r15 = 0 then fn_X8_may_L4 σ n x1 (x2 + nI 1) else fn_X8_may_L4 σ n (x1 ||| ((nI 1) <<< (x2 &&& 31))) (x2 + nI 1))))
def fn_X8_may (σ : dc_HP) : Option (Int32) := (fn_X8_may_L4 σ 200 (nI 0) (nI 0)).bind (fun q4 => some q4)
def fn_X0_voiceOf (σ : dc_HP) (b : Nat) (x1 : Int32) : Option (Int32) := (fn_X0_has σ b x1).bind (fun r2 => (if r2 = 0 then some ((-6 : Int32)) else if x1 < 0 ∨ 8 ≤ x1.toNatClampNeg then none else some (σ.1 (b + 1) x1.toNatClampNeg)))
def fn_X3_takePays_L2 (q1 : Nat) (x2 : Int32) : Nat → Int32 → dc_HP → Option (dc_HP)
  | 0, _, _ => none
  | n + 1, x3, σ => (if (nI 6) ≤ x3 then some σ else (fn_X0_needOf σ q1 x3 x2).bind (fun r16 => (if r16 ≤ 0 then if x3 < 0 ∨ 6 ≤ x3.toNatClampNeg then none else dc_let (dc_wI σ 22 x3.toNatClampNeg ((-1 : Int32))) (fun s31 => fn_X3_takePays_L2 q1 x2 n (x3 + nI 1) s31) else (fn_X0_worthOf σ q1 x3).bind (fun r24 => if x3 < 0 ∨ 6 ≤ x3.toNatClampNeg then none else dc_let (dc_wI σ 22 x3.toNatClampNeg r24) (fun s31 => fn_X3_takePays_L2 q1 x2 n (x3 + nI 1) s31)))))
def fn_X3_takePays (σ : dc_HP) (q1 : Nat) (x2 : Int32) : Option (dc_HP) := (fn_X3_takePays_L2 q1 x2 200 (nI 0) σ).bind (fun q2 => some q2)
def fn_X3_afterPiece (σ : dc_HP) (x1 : Int32) (x2 : Int32) : Option (Int32) := (if x1 = ((-1 : Int32)) then some ((-1 : Int32)) else (fn_X8_within x2 (nI 0) (nI 5)).bind (fun r8 => (if r8 = 0 then some ((-1 : Int32)) else if x2 < 0 ∨ 6 ≤ x2.toNatClampNeg then none else (if (σ.1 22 x2.toNatClampNeg) = ((-1 : Int32)) then some ((-1 : Int32)) else if x2 < 0 ∨ 6 ≤ x2.toNatClampNeg then none else some ((if (nI 0) < (x1 - (σ.1 22 x2.toNatClampNeg)) then (x1 - (σ.1 22 x2.toNatClampNeg)) else (nI 0)) + ((if (nI 0) < (x1 - (σ.1 22 x2.toNatClampNeg)) then (x1 - (σ.1 22 x2.toNatClampNeg)) else (nI 0)) / (nI 10)))))))
def fn_X3_leastLeft_L5 (σ : dc_HP) (x1 : Int32) (x2 : Int32) : Nat → Int32 → Int32 → Option (Int32)
  | 0, _, _ => none
  | n + 1, x3, x4 => (if (nI 6) ≤ x4 then some x3 else (if x4 = x2 then fn_X3_leastLeft_L5 σ x1 x2 n x3 (x4 + nI 1) else (fn_X8_bit x1 x4).bind (fun r31 => (if r31 = (nI 1) then (fn_X8_within (x1 &&& (((nI 1) <<< (x4 &&& 31)) ^^^ ((-1 : Int32)))) (nI 0) ((nI 64) - (nI 1))).bind (fun r48 => (if r48 = 0 then fn_X3_leastLeft_L5 σ x1 x2 n x3 (x4 + nI 1) else if (x1 &&& (((nI 1) <<< (x4 &&& 31)) ^^^ ((-1 : Int32)))) < 0 ∨ 64 ≤ (x1 &&& (((nI 1) <<< (x4 &&& 31)) ^^^ ((-1 : Int32)))).toNatClampNeg then none else (fn_X3_afterPiece σ (σ.1 23 (x1 &&& (((nI 1) <<< (x4 &&& 31)) ^^^ ((-1 : Int32)))).toNatClampNeg) x4).bind (fun r64 => (if r64 = ((-1 : Int32)) then fn_X3_leastLeft_L5 σ x1 x2 n x3 (x4 + nI 1) else (if x3 = ((-1 : Int32)) then fn_X3_leastLeft_L5 σ x1 x2 n r64 (x4 + nI 1) else (if x3 ≤ r64 then fn_X3_leastLeft_L5 σ x1 x2 n x3 (x4 + nI 1) else fn_X3_leastLeft_L5 σ x1 x2 n r64 (x4 + nI 1))))))) else fn_X3_leastLeft_L5 σ x1 x2 n x3 (x4 + nI 1)))))
def fn_X3_leastLeft (σ : dc_HP) (x1 : Int32) (x2 : Int32) : Option (Int32) := (fn_X3_leastLeft_L5 σ x1 x2 200 ((-1 : Int32)) (nI 0)).bind (fun q5 => some q5)
def fn_X3_fewestFrom_L6 (x1 : Int32) (x2 : Int32) : Nat → Int32 → Int32 → dc_HP → Option (Int32 × dc_HP)
  | 0, _, _, _ => none
  | n + 1, x3, x4, σ => (if (nI 64) ≤ x4 then some (x3, σ) else ((if x4 = ((nI 1) <<< (x1 &&& 31)) then (fn_X3_afterPiece σ x2 x1).bind (fun r33 => some r33) else (fn_X3_leastLeft σ x4 x1).bind (fun r43 => some r43))).bind (fun q27 => if x4 < 0 ∨ 64 ≤ x4.toNatClampNeg then none else dc_let (dc_wI σ 23 x4.toNatClampNeg q27) (fun s46 => (fn_J6_bitCount_0f7a4 x4).bind (fun r49 => if x4 < 0 ∨ 64 ≤ x4.toNatClampNeg then none else (if (s46.1 23 x4.toNatClampNeg) = 0 then (if x3 = ((-6 : Int32)) then fn_X3_fewestFrom_L6 x1 x2 n r49 (x4 + nI 1) s46 else (if x3 ≤ r49 then fn_X3_fewestFrom_L6 x1 x2 n x3 (x4 + nI 1) s46 else fn_X3_fewestFrom_L6 x1 x2 n r49 (x4 + nI 1) s46)) else fn_X3_fewestFrom_L6 x1 x2 n x3 (x4 + nI 1) s46)))))
def fn_X3_fewestFrom (σ : dc_HP) (x1 : Int32) (x2 : Int32) : Option (Int32 × dc_HP) := (fn_X3_fewestFrom_L6 x1 x2 200 ((-6 : Int32)) (nI 0) σ).bind (fun q6 => some (q6.1, q6.2))
def fn_X3_find_L44 (q1 : Nat) (x3 : Int32) : Nat → Int32 → dc_HP → Option (dc_HP)
  | 0, _, _ => none
  | n + 1, x4, σ => (if (nI 6) ≤ x4 then some σ else (fn_X3_fewestFrom σ x4 x3).bind (fun r55 => (if r55.1 = ((-6 : Int32)) then fn_X3_find_L44 q1 x3 n (x4 + nI 1) r55.2 else (if (r55.2.1 21 0) = ((-6 : Int32)) then dc_let (dc_wI r55.2 21 0 r55.1) (fun s88 => dc_let (dc_wI s88 21 1 x4) (fun s94 => fn_X3_find_L44 q1 x3 n (x4 + nI 1) s94)) else (if (r55.2.1 21 0) ≤ r55.1 then fn_X3_find_L44 q1 x3 n (x4 + nI 1) r55.2 else dc_let (dc_wI r55.2 21 0 r55.1) (fun s88 => dc_let (dc_wI s88 21 1 x4) (fun s94 => fn_X3_find_L44 q1 x3 n (x4 + nI 1) s94)))))))
def fn_X3_find (σ : dc_HP) (q1 : Nat) (x2 : Int32) : Option (dc_HP) := (fn_X0_debtOf σ q1 x2).bind (fun r2 => ((if r2 = 0 then some (nI 0) else some ((-6 : Int32)))).bind (fun q8 => dc_let (dc_wI σ 21 0 q8) (fun s17 => dc_let (dc_wI s17 21 1 ((-6 : Int32))) (fun s23 => (if r2 = 0 then some s23 else (fn_X0_voiceOf s23 q1 x2).bind (fun r35 => (fn_X3_takePays s23 q1 r35).bind (fun r38 => (fn_X3_find_L44 q1 r2 200 (nI 0) r38).bind (fun q44 => some q44))))))))
def fn_X8_nights (σ : dc_HP) (x1 : Int32) (x2 : Int32) : Option (Int32 × dc_HP) := (fn_X0_has σ 1 x1).bind (fun r5 => (if r5 = 0 then some ((-1 : Int32), σ) else (fn_X8_within x2 (nI 0) (nI 1)).bind (fun r16 => (if r16 = 0 then some ((-2 : Int32), σ) else (fn_X3_find σ 1 x1).bind (fun r34 => (if x2 = 0 then some (r34.1 21 0, r34) else some (r34.1 21 1, r34)))))))
def fn_X0_payOfSet_L13 (σ : dc_HP) (b : Nat) (x1 : Int32) (x3 : Int32) : Nat → Int32 → Int32 → Option (Int32)
  | 0, _, _ => none
  | n + 1, x2, x4 => (if (nI 4) ≤ x4 then some x2 else (fn_X8_bit x1 x3).bind (fun r22 => (fn_X0_worthOf σ b x3).bind (fun r27 => (fn_X0_needOf σ b x3 x4).bind (fun r35 => fn_X0_payOfSet_L13 σ b x1 x3 n (x2 + ((r22 * r27) * r35)) (x4 + nI 1)))))
def fn_X0_payOfSet_L4 (σ : dc_HP) (b : Nat) (x1 : Int32) : Nat → Int32 → Int32 → Option (Int32)
  | 0, _, _ => none
  | n + 1, x2, x3 => (if (nI 6) ≤ x3 then some x2 else (fn_X0_payOfSet_L13 σ b x1 x3 200 x2 (nI 0)).bind (fun q13 => fn_X0_payOfSet_L4 σ b x1 n q13 (x3 + nI 1)))
def fn_X0_payOfSet (σ : dc_HP) (b : Nat) (x1 : Int32) : Option (Int32) := (fn_X0_payOfSet_L4 σ b x1 200 (nI 0) (nI 0)).bind (fun q4 => some q4)
def fn_X0_barsOfSet_L4 (σ : dc_HP) (b : Nat) (x1 : Int32) : Nat → Int32 → Int32 → Option (Int32)
  | 0, _, _ => none
  | n + 1, x2, x3 => (if (nI 6) ≤ x3 then some x2 else (fn_X8_bit x1 x3).bind (fun r13 => (fn_X0_barsOf σ b x3).bind (fun r18 => fn_X0_barsOfSet_L4 σ b x1 n (x2 + (r13 * r18)) (x3 + nI 1))))
def fn_X0_barsOfSet (σ : dc_HP) (b : Nat) (x1 : Int32) : Option (Int32) := (fn_X0_barsOfSet_L4 σ b x1 200 (nI 0) (nI 0)).bind (fun q4 => some q4)
def fn_X8_programme_L30 (σ : dc_HP) (x1 : Int32) (x2 : Int32) : Nat → Int32 → Int32 → Int32 → Option (Int32 × Int32)
  | 0, _, _, _ => none
  | n + 1, x3, x4, x5 => (if (nI 64) ≤ x5 then some (x3, x4) else (fn_X0_payOfSet σ 1 x5).bind (fun r43 => (fn_X0_barsOfSet σ 1 x5).bind (fun r54 => (if x1 < r54 then fn_X8_programme_L30 σ x1 x2 n x3 x4 (x5 + nI 1) else (if r43 ≤ x3 then fn_X8_programme_L30 σ x1 x2 n x3 x4 (x5 + nI 1) else fn_X8_programme_L30 σ x1 x2 n r43 x5 (x5 + nI 1))))))
def fn_X8_programme (σ : dc_HP) (x1 : Int32) (x2 : Int32) : Option (Int32) := (fn_X8_within x1 (nI 0) (nI 99)).bind (fun r4 => (if r4 = 0 then some ((-2 : Int32)) else (fn_X8_within x2 (nI 0) (nI 1)).bind (fun r13 => (if r13 = 0 then some ((-2 : Int32)) else (fn_X8_programme_L30 σ x1 x2 200 (nI 0) (nI 0) (nI 0)).bind (fun q30 => (if x2 = 0 then some q30.1 else some q30.2))))))
def fn_X0_leastFree_L17 (σ : dc_HP) (b : Nat) (x2 : Int32) (x3 : Int32) : Nat → Int32 → Int32 → Option (Int32)
  | 0, _, _ => none
  | n + 1, x4, x5 => (if (nI 8) ≤ x5 then some x4 else (fn_X8_bit x3 x5).bind (fun r27 => (if r27 = (nI 1) then (fn_J6_bitCount_0f7a4 x4).bind (fun r36 => (if x2 ≤ r36 then fn_X0_leastFree_L17 σ b x2 x3 n x4 (x5 + nI 1) else fn_X0_leastFree_L17 σ b x2 x3 n (x4 ||| ((nI 1) <<< (x5 &&& 31))) (x5 + nI 1))) else fn_X0_leastFree_L17 σ b x2 x3 n x4 (x5 + nI 1))))
def fn_X0_leastFree (σ : dc_HP) (b : Nat) (x1 : Int32) (x2 : Int32) : Option (Int32) := (fn_X0_withBreath σ b x1).bind (fun r2 => (fn_X0_freeSingers σ b).bind (fun r6 => (fn_X0_leastFree_L17 σ b x2 (r2 &&& r6) 200 (nI 0) (nI 0)).bind (fun q17 => some q17)))
def fn_X8_ruin_L28 (σ : dc_HP) (x1 : Int32) (x2 : Int32) : Nat → Int32 → Int32 → Option ((Int32) ⊕ (Int32))
  | 0, _, _ => none
  | n + 1, x3, x4 => (if (nI 4) ≤ x4 then some (.inr x3) else (fn_X0_needOf σ 1 x1 x4).bind (fun r41 => (fn_X0_readyIn σ 1 x4).bind (fun r50 => (fn_J6_bitCount_0f7a4 r50).bind (fun r53 => (fn_X0_leastFree σ 1 x4 (r41 - r53)).bind (fun r67 => (fn_J6_bitCount_0f7a4 r67).bind (fun r74 => (if (r41 - r53) ≤ r74 then fn_X8_ruin_L28 σ x1 x2 n (x3 ||| r67) (x4 + nI 1) else some (.inl ((-6 : Int32))))))))))
def fn_X8_ruin (σ : dc_HP) (x1 : Int32) (x2 : Int32) : Option (Int32) := (fn_X8_within x1 (nI 0) (nI 5)).bind (fun r3 => (if r3 = 0 then some ((-1 : Int32)) else (fn_X8_within x2 (nI 0) (nI 1)).bind (fun r14 => (if r14 = 0 then some ((-2 : Int32)) else (fn_X8_ruin_L28 σ x1 x2 200 (nI 0) (nI 0)).bind (Sum.elim (fun r => some r) (fun q28 => (if x2 = 0 then (fn_J6_bitCount_0f7a4 q28).bind (fun r101 => some r101) else some q28)))))))
def fn_X8_placeOfBid_L13 (x0 : Int32) (x1 : Int32) (x2 : Int32) : Nat → Int32 → Int32 → Option (Int32)
  | 0, _, _ => none
  | n + 1, x3, x4 => (if (nI 6) ≤ x4 then some x3 else (fn_X8_digitOf x0 ((nI 5) - x4)).bind (fun r25 => (if x2 < r25 then fn_X8_placeOfBid_L13 x0 x1 x2 n (x3 + nI 1) (x4 + nI 1) else (if r25 = x2 then (if x1 ≤ x4 then fn_X8_placeOfBid_L13 x0 x1 x2 n x3 (x4 + nI 1) else fn_X8_placeOfBid_L13 x0 x1 x2 n (x3 + nI 1) (x4 + nI 1)) else fn_X8_placeOfBid_L13 x0 x1 x2 n x3 (x4 + nI 1)))))
def fn_X8_placeOfBid (x0 : Int32) (x1 : Int32) : Option (Int32) := (fn_X8_digitOf x0 ((nI 5) - x1)).bind (fun r4 => (fn_X8_placeOfBid_L13 x0 x1 r4 200 (nI 0) (nI 0)).bind (fun q13 => some q13))
def fn_X8_seats_L41 (x1 : Int32) (x2 : Int32) (x3 : Int32) : Nat → Int32 → Int32 → Int32 → Option (Int32 × Int32)
  | 0, _, _, _ => none
  | n + 1, x4, x5, x6 => (if (nI 6) ≤ x6 then some (x4, x5) else (fn_X8_placeOfBid x2 x6).bind (fun r51 => (if x1 ≤ r51 then (if r51 = x1 then (fn_X8_digitOf x2 ((nI 5) - x6)).bind (fun r85 => fn_X8_seats_L41 x1 x2 x3 n x4 r85 (x6 + nI 1)) else fn_X8_seats_L41 x1 x2 x3 n x4 x5 (x6 + nI 1)) else fn_X8_seats_L41 x1 x2 x3 n (x4 ||| ((nI 1) <<< (x6 &&& 31))) x5 (x6 + nI 1))))
def fn_X8_seats (x1 : Int32) (x2 : Int32) (x3 : Int32) : Option (Int32) := (fn_X8_within x1 (nI 0) (nI 6)).bind (fun r4 => (if r4 = 0 then some ((-2 : Int32)) else (fn_X8_within x2 (nI 0) ((999999 : Int32))).bind (fun r14 => (if r14 = 0 then some ((-2 : Int32)) else (fn_X8_within x3 (nI 0) (nI 1)).bind (fun r23 => (if r23 = 0 then some ((-2 : Int32)) else (fn_X8_seats_L41 x1 x2 x3 200 (nI 0) (nI 0) (nI 0)).bind (fun q41 => (if x3 = 0 then some q41.1 else some q41.2))))))))
def fn_X8_areRanks_L17 (x0 : Int32) : Nat → Int32 → Int32 → Option (Int32)
  | 0, _, _ => none
  | n + 1, x1, x2 => (if (nI 4) ≤ x2 then some x1 else (fn_X8_digitOf x0 x2).bind (fun r26 => fn_X8_areRanks_L17 x0 n (x1 ||| ((nI 1) <<< (r26 &&& 31))) (x2 + nI 1)))
def fn_X8_areRanks (x0 : Int32) : Option (Int32) := (fn_X8_within x0 (nI 0) (nI 9999)).bind (fun r5 => (if r5 = 0 then some (nI 0) else (fn_X8_areRanks_L17 x0 200 (nI 0) (nI 0)).bind (fun q17 => (if q17 = (nI 15) then some (nI 1) else some (nI 0)))))
def fn_X5_start (σ : dc_HP) (x1 : Int32) (x2 : Int32) (x3 : Int32) (x4 : Int32) : Option (dc_HP) := dc_let (dc_wI σ 25 (nI 0).toNatClampNeg x1) (fun s6 => dc_let (dc_wI s6 25 (nI 1).toNatClampNeg x2) (fun s13 => dc_let (dc_wI s13 25 (nI 2).toNatClampNeg x3) (fun s20 => dc_let (dc_wI s20 25 (nI 3).toNatClampNeg x4) (fun s28 => some (dc_wI s28 24 3 (nI 15))))))
def fn_X5_bestLeft_L2 (σ : dc_HP) (x1 : Int32) : Nat → Int32 → Option ((Int32) ⊕ (Unit))
  | 0, _ => none
  | n + 1, x2 => (if x2 < 0 then some (.inr ()) else (fn_X8_digitOf x1 x2).bind (fun r8 => (fn_X8_bit (σ.1 24 3) r8).bind (fun r17 => (if r17 = (nI 1) then some (.inl r8) else fn_X5_bestLeft_L2 σ x1 n (x2 + (-1 : Int32))))))
def fn_X5_bestLeft (σ : dc_HP) (x1 : Int32) : Option (Int32) := (fn_X5_bestLeft_L2 σ x1 200 (nI 3)).bind (Sum.elim (fun r => some r) (fun q2 => some ((-6 : Int32))))
def fn_X5_isInRing_L4 (σ : dc_HP) (x1 : Int32) : Nat → Int32 → Int32 → Option ((Int32) ⊕ (Unit))
  | 0, _, _ => none
  | n + 1, x2, x3 => (if (nI 4) ≤ x3 then some (.inr ()) else (fn_X8_within x2 (nI 0) (nI 3)).bind (fun r12 => (if r12 = 0 then (if ((-6 : Int32)) = x1 then some (.inl (nI 1)) else fn_X5_isInRing_L4 σ x1 n ((-6 : Int32)) (x3 + nI 1)) else if x2 < 0 ∨ 4 ≤ x2.toNatClampNeg then none else (if (σ.1 27 x2.toNatClampNeg) = x1 then some (.inl (nI 1)) else fn_X5_isInRing_L4 σ x1 n (σ.1 27 x2.toNatClampNeg) (x3 + nI 1)))))
def fn_X5_isInRing (σ : dc_HP) (x1 : Int32) : Option (Int32) := (fn_X5_isInRing_L4 σ x1 200 x1 (nI 0)).bind (Sum.elim (fun r => some r) (fun q4 => some (nI 0)))
def fn_X5_swap_L9 (x1 : Int32) : Nat → Int32 → dc_HP → Option (dc_HP)
  | 0, _, _ => none
  | n + 1, x2, σ => (if (nI 4) ≤ x2 then some σ else if x2 < 0 ∨ 4 ≤ x2.toNatClampNeg then none else (fn_X5_bestLeft σ (σ.1 25 x2.toNatClampNeg)).bind (fun r26 => if x2 < 0 ∨ 4 ≤ x2.toNatClampNeg then none else dc_let (dc_wI σ 27 x2.toNatClampNeg r26) (fun s29 => fn_X5_swap_L9 x1 n (x2 + nI 1) s29)))
def fn_X5_swap_L40 (x1 : Int32) : Nat → Int32 → Int32 → dc_HP → Option (Int32 × dc_HP)
  | 0, _, _, _ => none
  | n + 1, x2, x3, σ => (if (nI 4) ≤ x3 then some (x2, σ) else (fn_X8_bit (σ.1 24 3) x3).bind (fun r50 => (if r50 = (nI 1) then (fn_X5_isInRing σ x3).bind (fun r59 => (if r59 = 0 then fn_X5_swap_L40 x1 n x2 (x3 + nI 1) σ else if x3 < 0 ∨ 4 ≤ x3.toNatClampNeg then none else if x3 < 0 ∨ 4 ≤ x3.toNatClampNeg then none else dc_let (dc_wI σ 26 x3.toNatClampNeg (σ.1 27 x3.toNatClampNeg)) (fun s76 => fn_X5_swap_L40 x1 n (x2 ||| ((nI 1) <<< (x3 &&& 31))) (x3 + nI 1) s76))) else fn_X5_swap_L40 x1 n x2 (x3 + nI 1) σ)))
def fn_X5_swap_L2  : Nat → Int32 → dc_HP → Option (dc_HP)
  | 0, _, _ => none
  | n + 1, x1, σ => (if (nI 4) ≤ x1 then some σ else (fn_X5_swap_L9 x1 200 (nI 0) σ).bind (fun q9 => (fn_X5_swap_L40 x1 200 (nI 0) (nI 0) q9).bind (fun q40 => dc_let (dc_wI q40.2 24 3 ((q40.2.1 24 3) &&& (q40.1 ^^^ ((-1 : Int32))))) (fun s98 => fn_X5_swap_L2 n (x1 + nI 1) s98))))
def fn_X5_swap (σ : dc_HP) : Option (dc_HP) := (fn_X5_swap_L2 200 (nI 0) σ).bind (fun q2 => some q2)
def fn_X5_countOwn_L4 (σ : dc_HP) : Nat → Int32 → Int32 → Option (Int32)
  | 0, _, _ => none
  | n + 1, x1, x2 => (if (nI 4) ≤ x2 then some x1 else if x2 < 0 ∨ 4 ≤ x2.toNatClampNeg then none else (if (σ.1 26 x2.toNatClampNeg) = x2 then fn_X5_countOwn_L4 σ n (x1 + nI 1) (x2 + nI 1) else fn_X5_countOwn_L4 σ n x1 (x2 + nI 1)))
def fn_X5_countOwn (σ : dc_HP) : Option (Int32) := (fn_X5_countOwn_L4 σ 200 (nI 0) (nI 0)).bind (fun q4 => some q4)
def fn_X5_partsAsDigits_L4 (σ : dc_HP) : Nat → Int32 → Int32 → Option (Int32)
  | 0, _, _ => none
  | n + 1, x1, x2 => (if (nI 4) ≤ x2 then some x1 else if x2 < 0 ∨ 4 ≤ x2.toNatClampNeg then none else fn_X5_partsAsDigits_L4 σ n (((nI 10) * x1) + (σ.1 26 x2.toNatClampNeg)) (x2 + nI 1))
def fn_X5_partsAsDigits (σ : dc_HP) : Option (Int32) := (fn_X5_partsAsDigits_L4 σ 200 (nI 0) (nI 0)).bind (fun q4 => some q4)
def fn_X8_rings (σ : dc_HP) (x1 : Int32) (x2 : Int32) (x3 : Int32) (x4 : Int32) (x5 : Int32) : Option (Int32 × dc_HP) := (fn_X8_areRanks x1).bind (fun r1 => (if r1 = 0 then some ((-2 : Int32), σ) else (fn_X8_areRanks x2).bind (fun r8 => (if r8 = 0 then some ((-2 : Int32), σ) else (fn_X8_areRanks x3).bind (fun r15 => (if r15 = 0 then some ((-2 : Int32), σ) else (fn_X8_areRanks x4).bind (fun r23 => (if r23 = 0 then some ((-2 : Int32), σ) else (fn_X8_within x5 (nI 0) (nI 1)).bind (fun r33 => (if r33 = 0 then some ((-2 : Int32), σ) else (fn_X5_start σ x1 x2 x3 x4).bind (fun r51 => (fn_X5_swap r51).bind (fun r58 => (if x5 = 0 then (fn_X5_partsAsDigits r58).bind (fun r70 => some (r70, r58)) else (fn_X5_countOwn r58).bind (fun r80 => some (r80, r58)))))))))))))))
def fn_X6_add (σ : dc_HP) (b : Nat) (x1 : Int32) (x2 : Int32) : Option (Int32 × dc_HP) := (fn_X8_within (σ.1 b 0) (nI 0) (nI 7)).bind (fun r7 => (if r7 = 0 then some (nI 0, σ) else if (σ.1 b 0) < 0 ∨ 8 ≤ (σ.1 b 0).toNatClampNeg then none else dc_let (dc_wI σ (b + 1) (σ.1 b 0).toNatClampNeg x1) (fun s24 => if (s24.1 b 0) < 0 ∨ 8 ≤ (s24.1 b 0).toNatClampNeg then none else dc_let (dc_wI s24 (b + 2) (s24.1 b 0).toNatClampNeg x2) (fun s34 => dc_let (dc_wI s34 b 0 ((s34.1 b 0) + (nI 1))) (fun s42 => some (nI 1, s42))))))
def fn_X8_seen (σ : dc_HP) (x1 : Int32) (x2 : Int32) : Option (Int32 × dc_HP) := (fn_X8_within x1 (nI 1) (nI 9)).bind (fun r4 => (if r4 = 0 then some ((-2 : Int32), σ) else (fn_X8_within x2 (nI 0) (nI 18)).bind (fun r14 => (if r14 = 0 then some ((-2 : Int32), σ) else (fn_X6_add σ 7 x1 x2).bind (fun r29 => (if r29.1 = 0 then some ((-4 : Int32), r29.2) else some (r29.2.1 7 0, r29.2)))))))
def fn_X8_forget (σ : dc_HP) : Option (Int32 × dc_HP) := dc_let (dc_wI σ 7 0 (nI 0)) (fun s13 => some (σ.1 7 0, s13))
def fn_X6_sumOf (x0 : Int32) (x1 : Int32) : Option (Int32) := some ((if (x0 / (nI 10)) < x1 then (x0 / (nI 10)) else x1) + (if (x0 - x0 / (nI 10) * (nI 10)) < x1 then (x0 - x0 / (nI 10) * (nI 10)) else x1))
def fn_X6_fitsAll_L2 (σ : dc_HP) (b : Nat) (x1 : Int32) : Nat → Int32 → Option ((Int32) ⊕ (Unit))
  | 0, _ => none
  | n + 1, x2 => (if (σ.1 b 0) ≤ x2 then some (.inr ()) else (if (nI 8) ≤ x2 then some (.inr ()) else if x2 < 0 ∨ 8 ≤ x2.toNatClampNeg then none else (fn_X6_sumOf x1 (σ.1 (b + 1) x2.toNatClampNeg)).bind (fun r23 => if x2 < 0 ∨ 8 ≤ x2.toNatClampNeg then none else (if r23 = (σ.1 (b + 2) x2.toNatClampNeg) then fn_X6_fitsAll_L2 σ b x1 n (x2 + nI 1) else some (.inl (nI 0))))))
def fn_X6_fitsAll (σ : dc_HP) (b : Nat) (x1 : Int32) : Option (Int32) := (fn_X6_fitsAll_L2 σ b x1 200 (nI 0)).bind (Sum.elim (fun r => some r) (fun q2 => some (nI 1)))
def fn_X6_findRows_L7 (b : Nat) : Nat → Int32 → dc_HP → Option (dc_HP)
  | 0, _, _ => none
  | n + 1, x1, σ => (if (nI 100) ≤ x1 then some σ else (fn_X6_fitsAll σ b x1).bind (fun r15 => (if r15 = 0 then fn_X6_findRows_L7 b n (x1 + nI 1) σ else (if (nI 100) ≤ (σ.1 b 1) then fn_X6_findRows_L7 b n (x1 + nI 1) σ else if (σ.1 b 1) < 0 ∨ 100 ≤ (σ.1 b 1).toNatClampNeg then none else dc_let (dc_wI σ (b + 3) (σ.1 b 1).toNatClampNeg x1) (fun s39 => dc_let (dc_wI s39 b 1 ((s39.1 b 1) + (nI 1))) (fun s47 => fn_X6_findRows_L7 b n (x1 + nI 1) s47))))))
def fn_X6_findRows (σ : dc_HP) (b : Nat) : Option (dc_HP) := dc_let (dc_wI σ b 1 (nI 0)) (fun s2 => (fn_X6_findRows_L7 b 200 (nI 0) s2).bind (fun q7 => some q7))
def fn_X6_rowAt (σ : dc_HP) (b : Nat) (x1 : Int32) : Option (Int32) := (if x1 < 0 then some ((-6 : Int32)) else (if (σ.1 b 1) ≤ x1 then some ((-6 : Int32)) else (if (nI 100) ≤ x1 then some ((-6 : Int32)) else if x1 < 0 ∨ 100 ≤ x1.toNatClampNeg then none else some (σ.1 (b + 3) x1.toNatClampNeg))))
def fn_X8_holds (σ : dc_HP) (x1 : Int32) : Option (Int32 × dc_HP) := (fn_X6_findRows σ 7).bind (fun r4 => (if x1 = ((-1 : Int32)) then some (r4.1 7 1, r4) else (fn_X6_rowAt r4 7 x1).bind (fun r27 => some (r27, r4))))
def fn_X6_mostLeft_L2 (b : Nat) (x1 : Int32) : Nat → Int32 → dc_HP → Option (dc_HP)
  | 0, _, _ => none
  | n + 1, x2, σ => (if (nI 19) ≤ x2 then some σ else if x2 < 0 ∨ 19 ≤ x2.toNatClampNeg then none else dc_let (dc_wI σ (b + 4) x2.toNatClampNeg (nI 0)) (fun s14 => fn_X6_mostLeft_L2 b x1 n (x2 + nI 1) s14))
def fn_X6_mostLeft_L25 (b : Nat) (x1 : Int32) : Nat → Int32 → Int32 → dc_HP → Option (Int32 × dc_HP)
  | 0, _, _, _ => none
  | n + 1, x2, x3, σ => (if (σ.1 b 1) ≤ x3 then some (x2, σ) else (fn_X6_rowAt σ b x3).bind (fun r35 => (fn_X6_sumOf r35 x1).bind (fun r39 => (fn_X8_within r39 (nI 0) (nI 18)).bind (fun r49 => (if r49 = 0 then fn_X6_mostLeft_L25 b x1 n x2 (x3 + nI 1) σ else if r39 < 0 ∨ 19 ≤ r39.toNatClampNeg then none else if r39 < 0 ∨ 19 ≤ r39.toNatClampNeg then none else dc_let (dc_wI σ (b + 4) r39.toNatClampNeg ((σ.1 (b + 4) r39.toNatClampNeg) + (nI 1))) (fun s65 => if r39 < 0 ∨ 19 ≤ r39.toNatClampNeg then none else fn_X6_mostLeft_L25 b x1 n (if x2 < (s65.1 (b + 4) r39.toNatClampNeg) then (s65.1 (b + 4) r39.toNatClampNeg) else x2) (x3 + nI 1) s65))))))
def fn_X6_mostLeft (σ : dc_HP) (b : Nat) (x1 : Int32) : Option (Int32 × dc_HP) := (fn_X6_mostLeft_L2 b x1 200 (nI 0) σ).bind (fun q2 => (fn_X6_mostLeft_L25 b x1 200 (nI 0) (nI 0) q2).bind (fun q25 => some (q25.1, q25.2)))
def fn_X8_ask_L46 (x1 : Int32) : Nat → Int32 → Int32 → Int32 → dc_HP → Option (Int32 × Int32 × dc_HP)
  | 0, _, _, _, _ => none
  | n + 1, x2, x3, x4, σ => (if (nI 9) < x4 then some (x2, x3, σ) else (fn_X6_mostLeft σ 7 x4).bind (fun r59 => (if x3 ≤ r59.1 then fn_X8_ask_L46 x1 n x2 x3 (x4 + nI 1) r59.2 else fn_X8_ask_L46 x1 n x4 r59.1 (x4 + nI 1) r59.2)))
def fn_X8_ask (σ : dc_HP) (x1 : Int32) : Option (Int32 × dc_HP) := (fn_X8_within x1 (nI 0) (nI 1)).bind (fun r3 => (if r3 = 0 then some ((-2 : Int32), σ) else (fn_X6_findRows σ 7).bind (fun r16 => (if (r16.1 7 1) = 0 then some ((-6 : Int32), r16) else (fn_X6_mostLeft r16 7 (nI 1)).bind (fun r39 => (fn_X8_ask_L46 x1 200 (nI 1) r39.1 (nI 2) r39.2).bind (fun q46 => (if x1 = 0 then some (q46.1, q46.2.2) else some (q46.2.1, q46.2.2))))))))
def fn_X1_start_L12 (x1 : Int32) : Nat → Int32 → dc_HP → Option (dc_HP)
  | 0, _, _ => none
  | n + 1, x2, σ => (if (nI 9) < x2 then some σ else if x2 < 0 ∨ 10 ≤ x2.toNatClampNeg then none else dc_let (dc_wL σ 29 x2.toNatClampNeg (((-x1) * x2).toInt64)) (fun s28 => fn_X1_start_L12 x1 n (x2 + nI 1) s28))
def fn_X1_start (σ : dc_HP) (x1 : Int32) : Option (dc_HP) := dc_let (dc_wL σ 28 0 ((1 : Int64))) (fun s2 => dc_let (dc_wI s2 28 1 (nI 0)) (fun s7 => (fn_X1_start_L12 x1 200 (nI 0) s7).bind (fun q12 => some q12)))
def fn_X1_bestOf (σ : dc_HP) (x1 : Int32) : Option (Int64) := (fn_X8_within x1 (nI 0) (nI 9)).bind (fun r4 => (if r4 = 0 then some ((0 : Int64)) else if x1 < 0 ∨ 10 ≤ x1.toNatClampNeg then none else some (σ.2 29 x1.toNatClampNeg)))
def fn_X1_evening_L19 (x1 : Int32) (x2 : Int32) : Nat → Int32 → dc_HP → Option (dc_HP)
  | 0, _, _ => none
  | n + 1, x3, σ => (if (nI 9) < x3 then some σ else (if x3 = 0 then (fn_X1_bestOf σ (nI 0)).bind (fun r39 => if x3 < 0 ∨ 10 ≤ x3.toNatClampNeg then none else dc_let (dc_wL σ 30 x3.toNatClampNeg (((10 : Int64)) * r39)) (fun s75 => fn_X1_evening_L19 x1 x2 n (x3 + nI 1) s75)) else (fn_X1_bestOf σ (x3 - (nI 1))).bind (fun r52 => (fn_X1_bestOf σ (if (x3 + (nI 1)) < (nI 9) then (x3 + (nI 1)) else (nI 9))).bind (fun r70 => if x3 < 0 ∨ 10 ≤ x3.toNatClampNeg then none else dc_let (dc_wL σ 30 x3.toNatClampNeg ((x1.toInt64 * r52) + ((((nI 10) - x1).toInt64) * r70))) (fun s75 => fn_X1_evening_L19 x1 x2 n (x3 + nI 1) s75)))))
def fn_X1_evening_L84 (x2 : Int32) : Nat → Int32 → dc_HP → Option (dc_HP)
  | 0, _, _ => none
  | n + 1, x3, σ => (if (nI 9) < x3 then some σ else if x3 < 0 ∨ 10 ≤ x3.toNatClampNeg then none else if x3 < 0 ∨ 10 ≤ x3.toNatClampNeg then none else dc_let (dc_wL σ 29 x3.toNatClampNeg (σ.2 30 x3.toNatClampNeg)) (fun s101 => (if (nI 9) ≤ x3 then fn_X1_evening_L84 x2 n (x3 + nI 1) s101 else if (x3 + (nI 1)) < 0 ∨ 10 ≤ (x3 + (nI 1)).toNatClampNeg then none else if x3 < 0 ∨ 10 ≤ x3.toNatClampNeg then none else (if (lg_cmp ((x2.toInt64 * (s101.2 28 0)) + (s101.2 30 (x3 + (nI 1)).toNatClampNeg)) (s101.2 30 x3.toNatClampNeg)) ≤ 0 then fn_X1_evening_L84 x2 n (x3 + nI 1) s101 else if (x3 + (nI 1)) < 0 ∨ 10 ≤ (x3 + (nI 1)).toNatClampNeg then none else if x3 < 0 ∨ 10 ≤ x3.toNatClampNeg then none else dc_let (dc_wL s101 29 x3.toNatClampNeg ((x2.toInt64 * (s101.2 28 0)) + (s101.2 30 (x3 + (nI 1)).toNatClampNeg))) (fun s155 => dc_let (dc_wI s155 28 1 ((s155.1 28 1) ||| ((nI 1) <<< (x3 &&& 31)))) (fun s165 => fn_X1_evening_L84 x2 n (x3 + nI 1) s165))))))
def fn_X1_evening (σ : dc_HP) (x1 : Int32) (x2 : Int32) : Option (dc_HP) := dc_let (dc_wL σ 28 0 ((σ.2 28 0) * ((10 : Int64)))) (fun s9 => dc_let (dc_wI s9 28 1 (nI 0)) (fun s14 => (fn_X1_evening_L19 x1 x2 200 (nI 0) s14).bind (fun q19 => (fn_X1_evening_L84 x2 200 (nI 0) q19).bind (fun q84 => some q84))))
def fn_X8_commonDivisor_L15  : Nat → Int64 → Int64 → Int32 → Option (Int64)
  | 0, _, _, _ => none
  | n + 1, x4, x6, x8 => (if (nI 1000) ≤ x8 then some x4 else (if (lg_cmp x6 ((0 : Int64))) = 0 then some x4 else if x6 = 0 then none else fn_X8_commonDivisor_L15 n x6 (x4 - x4 / x6 * x6) (x8 + nI 1)))
def fn_X8_commonDivisor (x0 : Int64) (x2 : Int64) : Option (Int64) := (fn_X8_commonDivisor_L15 200 (if 0 < x0 then x0 else -x0) (if 0 < x2 then x2 else -x2) (nI 0)).bind (fun q15 => some (if q15 < ((1 : Int64)) then ((1 : Int64)) else q15))
def fn_X8_fugue_L88 (x1 : Int32) (x2 : Int32) (x3 : Int32) (x4 : Int32) (x6 : Int32) (x7 : Int32) : Nat → Int32 → dc_HP → Option (dc_HP)
  | 0, _, _ => none
  | n + 1, x8, σ => (if x2 ≤ x8 then some σ else (fn_X1_evening σ x3 x4).bind (fun r101 => fn_X8_fugue_L88 x1 x2 x3 x4 x6 x7 n (x8 + nI 1) r101))
def fn_X8_fugue (σ : dc_HP) (x1 : Int32) (x2 : Int32) (x3 : Int32) (x4 : Int32) (x5 : Int32) (x6 : Int32) (x7 : Int32) : Option (Int64 × dc_HP) := (fn_X8_within x1 (nI 0) (nI 9)).bind (fun r4 => (if r4 = 0 then some ((-1000000000000000002 : Int64), σ) else (fn_X8_within x2 (nI 0) (nI 8)).bind (fun r14 => (if r14 = 0 then some ((-1000000000000000002 : Int64), σ) else (fn_X8_within x3 (nI 0) (nI 10)).bind (fun r24 => (if r24 = 0 then some ((-1000000000000000002 : Int64), σ) else (fn_X8_within x4 (nI 0) (nI 9)).bind (fun r35 => (if r35 = 0 then some ((-1000000000000000002 : Int64), σ) else (fn_X8_within x5 (nI 0) (nI 9)).bind (fun r46 => (if r46 = 0 then some ((-1000000000000000002 : Int64), σ) else (fn_X8_within x6 (nI 0) (nI 1)).bind (fun r56 => (if r56 = 0 then some ((-1000000000000000002 : Int64), σ) else (fn_X8_within x7 (nI 0) (nI 1)).bind (fun r66 => (if r66 = 0 then some ((-1000000000000000002 : Int64), σ) else (fn_X1_start σ x5).bind (fun r82 => (fn_X8_fugue_L88 x1 x2 x3 x4 x6 x7 200 (nI 0) r82).bind (fun q88 => (if x6 = (nI 1) then (fn_X8_bit (q88.1 28 1) x1).bind (fun r124 => some (r124.toInt64, q88)) else (fn_X1_bestOf q88 x1).bind (fun r134 => (fn_X8_commonDivisor r134 (q88.2 28 0)).bind (fun r148 => (if x7 = 0 then if r148 = 0 then none else some (r134 / r148, q88) else if r148 = 0 then none else some ((q88.2 28 0) / r148, q88)))))))))))))))))))))
def fn_X7_draw (σ : dc_HP) (x1 : Int32) : Option (dc_HP) := (if (x1 - x1 / (nI 8) * (nI 8)) = nI 0 then (fn_X0_sing σ 15 ((x1 / (nI 8)) - (x1 / (nI 8)) / (nI 6) * (nI 6))).bind (fun r64 => some r64.2) else if (x1 - x1 / (nI 8) * (nI 8)) = nI 1 then (fn_X0_sing σ 15 ((x1 / (nI 8)) - (x1 / (nI 8)) / (nI 6) * (nI 6))).bind (fun r64 => some r64.2) else if (x1 - x1 / (nI 8) * (nI 8)) = nI 2 then (fn_X0_sing σ 15 ((x1 / (nI 8)) - (x1 / (nI 8)) / (nI 6) * (nI 6))).bind (fun r64 => some r64.2) else if (x1 - x1 / (nI 8) * (nI 8)) = nI 3 then (fn_X0_endEvening σ 15).bind (fun r75 => some r75.2) else if (x1 - x1 / (nI 8) * (nI 8)) = nI 4 then (fn_X0_borrow σ 15 ((x1 / (nI 8)) - (x1 / (nI 8)) / (nI 8) * (nI 8)) ((nI 10) * ((nI 1) + ((x1 / (nI 64)) - (x1 / (nI 64)) / (nI 9) * (nI 9))))).bind (fun r99 => some r99.2) else if (x1 - x1 / (nI 8) * (nI 8)) = nI 5 then (fn_X0_borrow σ 15 ((x1 / (nI 8)) - (x1 / (nI 8)) / (nI 8) * (nI 8)) ((nI 10) * ((nI 1) + ((x1 / (nI 64)) - (x1 / (nI 64)) / (nI 9) * (nI 9))))).bind (fun r99 => some r99.2) else if (x1 - x1 / (nI 8) * (nI 8)) = nI 6 then (fn_X0_turnHoarse σ 15 ((x1 / (nI 8)) - (x1 / (nI 8)) / (nI 8) * (nI 8))).bind (fun r114 => some r114.2) else (fn_X0_takeOver σ 15 ((x1 / (nI 8)) - (x1 / (nI 8)) / (nI 8) * (nI 8)) ((x1 / (nI 64)) - (x1 / (nI 64)) / (nI 8) * (nI 8))).bind (fun r133 => some r133.2))
def fn_X8_year_L50 (x2 : Int32) (x3 : Int32) : Nat → Int32 → Int32 → dc_HP → Option (dc_HP)
  | 0, _, _, _ => none
  | n + 1, x4, x5, σ => (if x2 ≤ x5 then some σ else (fn_X7_draw σ ((((nI 75) * x4) + (nI 74)) - (((nI 75) * x4) + (nI 74)) / ((65537 : Int32)) * ((65537 : Int32)))).bind (fun r75 => fn_X8_year_L50 x2 x3 n ((((nI 75) * x4) + (nI 74)) - (((nI 75) * x4) + (nI 74)) / ((65537 : Int32)) * ((65537 : Int32))) (x5 + nI 1) r75))
def fn_X8_year (σ : dc_HP) (x1 : Int32) (x2 : Int32) (x3 : Int32) : Option (Int32 × dc_HP) := (fn_X8_within x1 (nI 0) (nI 9999)).bind (fun r5 => (if r5 = 0 then some ((-2 : Int32), σ) else (fn_X8_within x2 (nI 1) (nI 99)).bind (fun r15 => (if r15 = 0 then some ((-2 : Int32), σ) else (fn_X8_within x3 (nI 0) (nI 2)).bind (fun r24 => (if r24 = 0 then some ((-2 : Int32), σ) else (fn_X7_start σ 1).bind (fun r41 => (fn_X8_year_L50 x2 x3 200 x1 (nI 0) r41).bind (fun q50 => (if x3 = 0 then (fn_X0_allDebts q50 15).bind (fun r95 => some (r95, q50)) else (if x3 = (nI 1) then (fn_X0_freeSingers q50 15).bind (fun r111 => (fn_J6_bitCount_0f7a4 r111).bind (fun r114 => some (r114, q50))) else some (q50.1 15 4, q50)))))))))))
def fn_X6_copyFrom (σ : dc_HP) (b : Nat) (q1 : Nat) : Option (dc_HP) := dc_let (dc_wI σ b 0 (σ.1 q1 0)) (fun s5 => dc_let (dc_cp s5 (q1 + 1) (b + 1) 8) (fun s20 => some (dc_cp s20 (q1 + 2) (b + 2) 8)))
def fn_X8_image (σ : dc_HP) (x1 : Int32) : Option (Int32 × dc_HP) := (fn_X8_within x1 (nI 0) (nI 1)).bind (fun r3 => (if r3 = 0 then some ((-2 : Int32), σ) else (if x1 = 0 then (fn_X0_copyFrom σ 32 1).bind (fun r36 => (fn_X6_copyFrom r36 38 7).bind (fun r47 => dc_let (dc_wI r47 31 2 (nI 1)) (fun s52 => some (nI 1, s52)))) else (fn_X0_copyFrom σ 44 1).bind (fun r36 => (fn_X6_copyFrom r36 50 7).bind (fun r47 => dc_let (dc_wI r47 43 2 (nI 1)) (fun s52 => some (nI 1, s52)))))))
def fn_X8_restore (σ : dc_HP) (x1 : Int32) : Option (Int32 × dc_HP) := (fn_X8_within x1 (nI 0) (nI 1)).bind (fun r3 => (if r3 = 0 then some ((-2 : Int32), σ) else (if x1 = 0 then (if (σ.1 31 2) = 0 then some ((-3 : Int32), σ) else (fn_X0_copyFrom σ 1 32).bind (fun r46 => (fn_X6_copyFrom r46 7 38).bind (fun r57 => some (nI 1, r57)))) else (if (σ.1 43 2) = 0 then some ((-3 : Int32), σ) else (fn_X0_copyFrom σ 1 44).bind (fun r46 => (fn_X6_copyFrom r46 7 50).bind (fun r57 => some (nI 1, r57)))))))
def fn_X8_tellSinger (σ : dc_HP) (x1 : Int32) (x2 : Int32) : Option (Int32) := (fn_X0_has σ 1 x1).bind (fun r5 => (if r5 = 0 then some ((-2 : Int32)) else (if x2 = nI 0 then (fn_X0_voiceOf σ 1 x1).bind (fun r49 => some r49) else if x2 = nI 1 then (fn_X0_debtOf σ 1 x1).bind (fun r58 => some r58) else if x2 = nI 2 then (fn_X8_bit (σ.1 1 1) x1).bind (fun r70 => some r70) else if x2 = nI 3 then (fn_X8_bit (σ.1 1 2) x1).bind (fun r82 => some r82) else some ((-2 : Int32)))))
def fn_X8_tellPiece (σ : dc_HP) (x1 : Int32) (x2 : Int32) : Option (Int32) := (fn_X8_within x2 (nI 0) (nI 3)).bind (fun r3 => (if r3 = 0 then (if x2 = (nI 4) then (fn_X0_barsOf σ 1 x1).bind (fun r29 => some r29) else (if x2 = (nI 5) then (fn_X0_payOf σ 1 x1).bind (fun r43 => some r43) else some ((-2 : Int32)))) else (fn_X0_needOf σ 1 x1 x2).bind (fun r15 => some r15)))
def fn_X8_told (σ : dc_HP) (x1 : Int32) : Option (Int32) := (fn_X8_within x1 (nI 100) (nI 159)).bind (fun r6 => (if r6 = 0 then (fn_X8_within x1 (nI 10) (nI 89)).bind (fun r33 => (if r33 = 0 then (if x1 = nI 0 then some (σ.1 12 0) else if x1 = nI 1 then some (σ.1 1 0) else if x1 = nI 2 then some (σ.1 1 3) else if x1 = nI 3 then some (σ.1 7 0) else some ((-2 : Int32))) else (fn_X8_tellSinger σ ((x1 / (nI 10)) - (nI 1)) (x1 - x1 / (nI 10) * (nI 10))).bind (fun r50 => some r50))) else (fn_X8_tellPiece σ ((x1 - (nI 100)) / (nI 10)) (x1 - x1 / (nI 10) * (nI 10))).bind (fun r24 => some r24)))
def fn_X9_in (x0 : Int64) (x2 : Int64) (x4 : Int64) : Option (Int32) := (if (lg_cmp x0 x2) < 0 then some (nI 0) else (if 0 < (lg_cmp x0 x4) then some (nI 0) else some (nI 1)))
def fn_X9_bitsOf_L4  : Nat → Int32 → Int32 → Option (Int32)
  | 0, _, _ => none
  | n + 1, x1, x2 => (if x2 = 0 then some x1 else fn_X9_bitsOf_L4 n (x1 + nI 1) (x2 &&& (x2 - (nI 1))))
def fn_X9_bitsOf (x0 : Int32) : Option (Int32) := (fn_X9_bitsOf_L4 200 (nI 0) x0).bind (fun q4 => some q4)
def fn_X9_singer (σ : dc_HP) (x1 : Int32) (x2 : Int32) (x3 : Int32) : Option (Int32 × dc_HP) := (fn_X9_in x1.toInt64 ((0 : Int64)) ((7 : Int64))).bind (fun r6 => (if r6 = 0 then some ((-1 : Int32), σ) else (fn_X9_in x2.toInt64 ((0 : Int64)) ((3 : Int64))).bind (fun r20 => (if r20 = 0 then some ((-2 : Int32), σ) else (fn_X9_in x3.toInt64 ((0 : Int64)) ((999 : Int64))).bind (fun r32 => (if r32 = 0 then some ((-2 : Int32), σ) else dc_let (dc_wI σ 55 0 ((σ.1 55 0) ||| ((nI 1) <<< (x1 &&& 31)))) (fun s50 => dc_let (dc_wI s50 55 1 ((s50.1 55 1) &&& (((nI 1) <<< (x1 &&& 31)) ^^^ ((-1 : Int32))))) (fun s64 => dc_let (dc_wI s64 55 2 ((s64.1 55 2) &&& (((nI 1) <<< (x1 &&& 31)) ^^^ ((-1 : Int32))))) (fun s78 => if x1 < 0 ∨ 8 ≤ x1.toNatClampNeg then none else dc_let (dc_wI s78 56 x1.toNatClampNeg x2) (fun s87 => if x1 < 0 ∨ 8 ≤ x1.toNatClampNeg then none else dc_let (dc_wI s87 57 x1.toNatClampNeg x3) (fun s94 => (fn_X9_bitsOf (s94.1 55 0)).bind (fun r99 => some (r99, s94)))))))))))))
def fn_X9_isSinger (σ : dc_HP) (x1 : Int32) : Option (Int32) := (fn_X9_in x1.toInt64 ((0 : Int64)) ((7 : Int64))).bind (fun r6 => (if r6 = 0 then some (nI 0) else (if (((σ.1 55 0) >>> (x1 &&& 31)) &&& (nI 1)) = (nI 1) then some (nI 1) else some (nI 0))))
def fn_X9_leave (σ : dc_HP) (x1 : Int32) : Option (Int32 × dc_HP) := (fn_X9_isSinger σ x1).bind (fun r2 => (if r2 = 0 then some ((-1 : Int32), σ) else dc_let (dc_wI σ 55 0 ((σ.1 55 0) &&& (((nI 1) <<< (x1 &&& 31)) ^^^ ((-1 : Int32))))) (fun s21 => (fn_X9_bitsOf (s21.1 55 0)).bind (fun r28 => some (r28, s21)))))
def fn_X9_areNeeds_L14  : Nat → Int32 → Int32 → Int32 → Option (Int32)
  | 0, _, _, _ => none
  | n + 1, x1, x2, x3 => (if (nI 4) ≤ x3 then some x1 else (if x1 = 0 then fn_X9_areNeeds_L14 n (nI 0) (x2 / (nI 10)) (x3 + nI 1) else (fn_X9_in ((x2 - x2 / (nI 10) * (nI 10)).toInt64) ((0 : Int64)) ((3 : Int64))).bind (fun r32 => (if r32 = 0 then fn_X9_areNeeds_L14 n (nI 0) (x2 / (nI 10)) (x3 + nI 1) else fn_X9_areNeeds_L14 n (nI 1) (x2 / (nI 10)) (x3 + nI 1)))))
def fn_X9_areNeeds (x0 : Int32) : Option (Int32) := (fn_X9_in x0.toInt64 ((0 : Int64)) ((3333 : Int64))).bind (fun r6 => (fn_X9_areNeeds_L14 200 r6 x0 (nI 0)).bind (fun q14 => (if q14 = 0 ∨ q14 = 1 then some q14 else none)))
def fn_X9_piece_L63 (x1 : Int32) (x3 : Int32) (x4 : Int32) (x5 : Int32) : Nat → Int32 → Int32 → dc_HP → Option (dc_HP)
  | 0, _, _, _ => none
  | n + 1, x6, x7, σ => (if x7 < 0 then some σ else if (((nI 4) * x1) + x7) < 0 ∨ 24 ≤ (((nI 4) * x1) + x7).toNatClampNeg then none else dc_let (dc_wI σ 58 (((nI 4) * x1) + x7).toNatClampNeg (x6 - x6 / (nI 10) * (nI 10))) (fun s83 => fn_X9_piece_L63 x1 x3 x4 x5 n (x6 / (nI 10)) (x7 + (-1 : Int32)) s83))
def fn_X9_piece (σ : dc_HP) (x1 : Int32) (x2 : Int32) (x3 : Int32) (x4 : Int32) : Option (Int32 × dc_HP) := (fn_X9_in x1.toInt64 ((0 : Int64)) ((5 : Int64))).bind (fun r6 => (if r6 = 0 then some ((-1 : Int32), σ) else (fn_X9_areNeeds x2).bind (fun r15 => (if r15 = 0 then some ((-2 : Int32), σ) else (fn_X9_in x3.toInt64 ((0 : Int64)) ((60 : Int64))).bind (fun r27 => (if r27 = 0 then some ((-2 : Int32), σ) else (fn_X9_in x4.toInt64 ((0 : Int64)) ((9 : Int64))).bind (fun r40 => (if r40 = 0 then some ((-2 : Int32), σ) else if x1 < 0 ∨ 6 ≤ x1.toNatClampNeg then none else (fn_X9_piece_L63 x1 x3 x4 (σ.1 59 x1.toNatClampNeg) 200 x2 (nI 3) σ).bind (fun q63 => if x1 < 0 ∨ 6 ≤ x1.toNatClampNeg then none else dc_let (dc_wI q63 59 x1.toNatClampNeg x3) (fun s103 => if x1 < 0 ∨ 6 ≤ x1.toNatClampNeg then none else dc_let (dc_wI s103 60 x1.toNatClampNeg x4) (fun s111 => some (σ.1 59 x1.toNatClampNeg, s111))))))))))))
def fn_X9_say (σ : dc_HP) (x1 : Int32) : Option (Int32 × dc_HP) := (fn_X9_in x1.toInt64 ((33 : Int64)) ((126 : Int64))).bind (fun r8 => (if r8 = 0 then some ((-2 : Int32), σ) else (if (σ.1 55 13) = (nI 60) then some ((-4 : Int32), σ) else if (σ.1 55 13) < 0 ∨ 60 ≤ (σ.1 55 13).toNatClampNeg then none else dc_let (dc_wI σ 63 (σ.1 55 13).toNatClampNeg x1) (fun s38 => dc_let (dc_wI s38 55 13 ((s38.1 55 13) + (nI 1))) (fun s46 => some (s46.1 55 13, s46))))))
def fn_X9_wipe (σ : dc_HP) : Option (Int32 × dc_HP) := dc_let (dc_wI σ 55 13 (nI 0)) (fun s7 => some (σ.1 55 13, s7))
def fn_X9_close (σ : dc_HP) (x1 : Int32) (x2 : Int32) : Option (Int32 × dc_HP) := if (σ.1 55 17) < 0 ∨ 60 ≤ (σ.1 55 17).toNatClampNeg then none else dc_let (dc_wI σ 64 (σ.1 55 17).toNatClampNeg x1) (fun s9 => if (s9.1 55 17) < 0 ∨ 60 ≤ (s9.1 55 17).toNatClampNeg then none else dc_let (dc_wI s9 66 (s9.1 55 17).toNatClampNeg x2) (fun s19 => dc_let (dc_wI s19 55 17 ((s19.1 55 17) + (nI 1))) (fun s27 => some (nI 0, s27))))
def fn_X9_begin (σ : dc_HP) (x1 : Int32) : Option (Int32 × dc_HP) := (fn_X9_in x1.toInt64 ((48 : Int64)) ((53 : Int64))).bind (fun r8 => (fn_X9_in x1.toInt64 ((65 : Int64)) ((72 : Int64))).bind (fun r20 => ((if r8 = 0 then (if r20 = 0 then some (nI 0) else some (x1 - (nI 65))) else some (x1 - (nI 48)))).bind (fun q33 => if (σ.1 55 17) < 0 ∨ 60 ≤ (σ.1 55 17).toNatClampNeg then none else dc_let (dc_wI σ 65 (σ.1 55 17).toNatClampNeg q33) (fun s55 => (if r8 = 0 then (if x1 = (nI 46) then (fn_X9_close s55 (nI 5) (nI 0)).bind (fun r78 => some (r78.1, r78.2)) else (if r20 = 0 then some ((-6 : Int32), s55) else some (nI 1, s55))) else (fn_X9_close s55 (nI 0) (nI 0)).bind (fun r63 => some (r63.1, r63.2)))))))
def fn_X9_readOn (σ : dc_HP) (x1 : Int32) (x2 : Int32) : Option (Int32 × dc_HP) := (if x1 = 0 then (fn_X9_begin σ x2).bind (fun r6 => some (r6.1, r6.2)) else (if x1 = (nI 2) then (fn_X9_in x2.toInt64 ((49 : Int64)) ((57 : Int64))).bind (fun r23 => (if r23 = 0 then some ((-6 : Int32), σ) else (fn_X9_close σ (nI 1) ((nI 10) * (x2 - (nI 48)))).bind (fun r38 => some (r38.1, r38.2)))) else (if x1 = (nI 3) then (fn_X9_in x2.toInt64 ((65 : Int64)) ((72 : Int64))).bind (fun r60 => (if r60 = 0 then some ((-6 : Int32), σ) else (fn_X9_close σ (nI 3) (x2 - (nI 65))).bind (fun r72 => some (r72.1, r72.2)))) else (if x2 = (nI 43) then some (nI 2, σ) else (if x2 = (nI 61) then some (nI 3, σ) else (if x2 = (nI 42) then (fn_X9_close σ (nI 2) (nI 0)).bind (fun r110 => some (r110.1, r110.2)) else (if x2 = (nI 120) then (fn_X9_close σ (nI 4) (nI 0)).bind (fun r125 => some (r125.1, r125.2)) else some ((-6 : Int32), σ))))))))
def fn_X9_fault_L9  : Nat → Int32 → Int32 → dc_HP → Option ((Int32 × dc_HP) ⊕ (Int32 × dc_HP))
  | 0, _, _, _ => none
  | n + 1, x1, x2, σ => (if (σ.1 55 13) ≤ x2 then some (.inr (x1, σ)) else if x2 < 0 ∨ 60 ≤ x2.toNatClampNeg then none else (fn_X9_readOn σ x1 (σ.1 63 x2.toNatClampNeg)).bind (fun r25 => (if 0 ≤ r25.1 then fn_X9_fault_L9 n r25.1 (x2 + nI 1) r25.2 else some (.inl (x2, r25.2)))))
def fn_X9_fault (σ : dc_HP) : Option (Int32 × dc_HP) := dc_let (dc_wI σ 55 17 (nI 0)) (fun s2 => (fn_X9_fault_L9 200 (nI 0) (nI 0) s2).bind (Sum.elim (fun r => some r) (fun q9 => (if q9.1 = 0 then some ((-6 : Int32), q9.2) else some (q9.2.1 55 13, q9.2)))))
def fn_X9_keepNow_L2  : Nat → Int32 → dc_HP → Option (dc_HP)
  | 0, _, _ => none
  | n + 1, x1, σ => (if (nI 8) ≤ x1 then some σ else if x1 < 0 ∨ 8 ≤ x1.toNatClampNeg then none else if x1 < 0 ∨ 11 ≤ x1.toNatClampNeg then none else dc_let (dc_wI σ 67 x1.toNatClampNeg (σ.1 57 x1.toNatClampNeg)) (fun s19 => fn_X9_keepNow_L2 n (x1 + nI 1) s19))
def fn_X9_keepNow (σ : dc_HP) : Option (dc_HP) := (fn_X9_keepNow_L2 200 (nI 0) σ).bind (fun q2 => dc_let (dc_wI q2 67 (nI 8).toNatClampNeg (q2.1 55 1)) (fun s36 => dc_let (dc_wI s36 67 (nI 9).toNatClampNeg (s36.1 55 2)) (fun s47 => some (dc_wI s47 67 (nI 10).toNatClampNeg (s47.1 55 3)))))
def fn_X9_whyNotTake (σ : dc_HP) (x1 : Int32) (x2 : Int32) : Option (Int32) := (fn_X9_isSinger σ x2).bind (fun r2 => (if r2 = 0 then some (nI 1) else (if x1 = x2 then some (nI 2) else if x1 < 0 ∨ 8 ≤ x1.toNatClampNeg then none else (if (σ.1 57 x1.toNatClampNeg) = 0 then some (nI 2) else if x1 < 0 ∨ 8 ≤ x1.toNatClampNeg then none else if x2 < 0 ∨ 8 ≤ x2.toNatClampNeg then none else (if ((σ.1 57 x1.toNatClampNeg) + (σ.1 57 x2.toNatClampNeg)) ≤ (nI 999) then some (nI 0) else some (nI 3))))))
def fn_X9_mayHere (σ : dc_HP) (x1 : Int32) (x2 : Int32) : Option (Int32) := (fn_X9_isSinger σ x1).bind (fun r2 => (if r2 = 0 then some (nI 0) else if x1 < 0 ∨ 8 ≤ x1.toNatClampNeg then none else (if (σ.1 56 x1.toNatClampNeg) = x2 then (if (((σ.1 55 1) >>> (x1 &&& 31)) &&& (nI 1)) = 0 then (if (((σ.1 55 2) >>> (x1 &&& 31)) &&& (nI 1)) = 0 then some (nI 1) else some (nI 0)) else some (nI 0)) else some (nI 0))))
def fn_X9_ready_L5 (σ : dc_HP) (x1 : Int32) (x2 : Int32) : Nat → Int32 → Int32 → Option (Int32)
  | 0, _, _ => none
  | n + 1, x3, x4 => (if (nI 8) ≤ x4 then some x3 else (fn_X9_mayHere σ x4 x1).bind (fun r17 => (if r17 = 0 then fn_X9_ready_L5 σ x1 x2 n (x3 + (nI 0)) (x4 + nI 1) else if x4 < 0 ∨ 8 ≤ x4.toNatClampNeg then none else (if (σ.1 57 x4.toNatClampNeg) ≤ 0 then (if (nI 0) = x2 then fn_X9_ready_L5 σ x1 x2 n (x3 + (nI 1)) (x4 + nI 1) else fn_X9_ready_L5 σ x1 x2 n (x3 + (nI 0)) (x4 + nI 1)) else (if (nI 1) = x2 then fn_X9_ready_L5 σ x1 x2 n (x3 + (nI 1)) (x4 + nI 1) else fn_X9_ready_L5 σ x1 x2 n (x3 + (nI 0)) (x4 + nI 1))))))
def fn_X9_ready (σ : dc_HP) (x1 : Int32) (x2 : Int32) : Option (Int32) := (fn_X9_ready_L5 σ x1 x2 200 (nI 0) (nI 0)).bind (fun q5 => some q5)
def fn_X9_canBeSung_L4 (σ : dc_HP) (x1 : Int32) : Nat → Int32 → Int32 → Option (Int32)
  | 0, _, _ => none
  | n + 1, x2, x3 => (if (nI 4) ≤ x3 then some x2 else (if x2 = 0 then fn_X9_canBeSung_L4 σ x1 n (nI 0) (x3 + nI 1) else (fn_X9_ready σ x3 (nI 1)).bind (fun r16 => if (((nI 4) * x1) + x3) < 0 ∨ 24 ≤ (((nI 4) * x1) + x3).toNatClampNeg then none else (if r16 < (σ.1 58 (((nI 4) * x1) + x3).toNatClampNeg) then fn_X9_canBeSung_L4 σ x1 n (nI 0) (x3 + nI 1) else fn_X9_canBeSung_L4 σ x1 n (nI 1) (x3 + nI 1)))))
def fn_X9_canBeSung (σ : dc_HP) (x1 : Int32) : Option (Int32) := (fn_X9_canBeSung_L4 σ x1 200 (nI 1) (nI 0)).bind (fun q4 => (if q4 = 0 ∨ q4 = 1 then some q4 else none))
def fn_X9_whyNot (σ : dc_HP) (x1 : Int32) (x2 : Int32) (x3 : Int32) : Option (Int32) := (if x1 = (nI 5) then (if (σ.1 55 3) = (nI 99) then some (nI 5) else some (nI 0)) else (if x1 = 0 then (fn_X9_canBeSung σ x2).bind (fun r26 => (if r26 = 0 then some (nI 4) else some (nI 0))) else (fn_X9_isSinger σ x2).bind (fun r40 => (if r40 = 0 then some (nI 1) else (if x1 = nI 1 then if x2 < 0 ∨ 8 ≤ x2.toNatClampNeg then none else (if ((σ.1 57 x2.toNatClampNeg) + x3) ≤ (nI 999) then some (nI 0) else some (nI 3)) else if x1 = nI 2 then some (nI 0) else if x1 = nI 3 then (fn_X9_whyNotTake σ x2 x3).bind (fun r103 => some r103) else if x1 = nI 4 then if x2 < 0 ∨ 8 ≤ x2.toNatClampNeg then none else (if (σ.1 57 x2.toNatClampNeg) = 0 then some (nI 2) else some (nI 0)) else some (nI 0))))))
def fn_X9_owing_L4 (σ : dc_HP) : Nat → Int32 → Int32 → Option (Int32)
  | 0, _, _ => none
  | n + 1, x1, x2 => (if (nI 8) ≤ x2 then some x1 else (fn_X9_isSinger σ x2).bind (fun r13 => (if r13 = 0 then fn_X9_owing_L4 σ n (x1 ||| (nI 0)) (x2 + nI 1) else if x2 < 0 ∨ 8 ≤ x2.toNatClampNeg then none else (if (σ.1 57 x2.toNatClampNeg) ≤ 0 then fn_X9_owing_L4 σ n (x1 ||| (nI 0)) (x2 + nI 1) else fn_X9_owing_L4 σ n (x1 ||| ((nI 1) <<< (x2 &&& 31))) (x2 + nI 1)))))
def fn_X9_owing (σ : dc_HP) : Option (Int32) := (fn_X9_owing_L4 σ 200 (nI 0) (nI 0)).bind (fun q4 => some q4)
def fn_X9_singOne_L6 (σ : dc_HP) (x1 : Int32) (x2 : Int32) : Nat → Int32 → Int32 → Option (Int32)
  | 0, _, _ => none
  | n + 1, x3, x4 => (if (nI 8) ≤ x4 then some x3 else (fn_X9_mayHere σ x4 x1).bind (fun r17 => ((if r17 = 0 then some (nI 0) else if x4 < 0 ∨ 8 ≤ x4.toNatClampNeg then none else (if (σ.1 57 x4.toNatClampNeg) ≤ 0 then some (nI 0) else some (nI 1)))).bind (fun q20 => (if q20 = 0 then fn_X9_singOne_L6 σ x1 x2 n x3 (x4 + nI 1) else (if x3 < 0 then fn_X9_singOne_L6 σ x1 x2 n x4 (x4 + nI 1) else if x4 < 0 ∨ 8 ≤ x4.toNatClampNeg then none else if x3 < 0 ∨ 8 ≤ x3.toNatClampNeg then none else (if (σ.1 57 x4.toNatClampNeg) ≤ (σ.1 57 x3.toNatClampNeg) then fn_X9_singOne_L6 σ x1 x2 n x3 (x4 + nI 1) else fn_X9_singOne_L6 σ x1 x2 n x4 (x4 + nI 1)))))))
def fn_X9_singOne (σ : dc_HP) (x1 : Int32) (x2 : Int32) : Option (dc_HP) := (fn_X9_singOne_L6 σ x1 x2 200 ((-6 : Int32)) (nI 0)).bind (fun q6 => if q6 < 0 ∨ 8 ≤ q6.toNatClampNeg then none else ((if x2 ≤ (σ.1 57 q6.toNatClampNeg) then some x2 else if q6 < 0 ∨ 8 ≤ q6.toNatClampNeg then none else some (σ.1 57 q6.toNatClampNeg))).bind (fun q85 => if q6 < 0 ∨ 8 ≤ q6.toNatClampNeg then none else if q6 < 0 ∨ 8 ≤ q6.toNatClampNeg then none else dc_let (dc_wI σ 57 q6.toNatClampNeg ((σ.1 57 q6.toNatClampNeg) - q85)) (fun s110 => dc_let (dc_wI s110 55 18 ((s110.1 55 18) + q85)) (fun s119 => some (dc_wI s119 55 2 ((s119.1 55 2) ||| ((nI 1) <<< (q6 &&& 31))))))))
def fn_X9_singPiece_L19 (x1 : Int32) (x2 : Int32) : Nat → Int32 → dc_HP → Option (dc_HP)
  | 0, _, _ => none
  | n + 1, x3, σ => if (((nI 4) * x1) + x2) < 0 ∨ 24 ≤ (((nI 4) * x1) + x2).toNatClampNeg then none else (if (σ.1 58 (((nI 4) * x1) + x2).toNatClampNeg) ≤ x3 then some σ else if x1 < 0 ∨ 6 ≤ x1.toNatClampNeg then none else if x1 < 0 ∨ 6 ≤ x1.toNatClampNeg then none else (fn_X9_singOne σ x2 ((σ.1 59 x1.toNatClampNeg) * (σ.1 60 x1.toNatClampNeg))).bind (fun r48 => fn_X9_singPiece_L19 x1 x2 n (x3 + nI 1) r48))
def fn_X9_singPiece_L12 (x1 : Int32) : Nat → Int32 → dc_HP → Option (dc_HP)
  | 0, _, _ => none
  | n + 1, x2, σ => (if (nI 4) ≤ x2 then some σ else (fn_X9_singPiece_L19 x1 x2 200 (nI 0) σ).bind (fun q19 => fn_X9_singPiece_L12 x1 n (x2 + nI 1) q19))
def fn_X9_singPiece (σ : dc_HP) (x1 : Int32) : Option (dc_HP) := dc_let (dc_wI σ 55 19 ((σ.1 55 19) + (nI 1))) (fun s7 => (fn_X9_singPiece_L12 x1 200 (nI 0) s7).bind (fun q12 => some q12))
def fn_X9_endEvening_L2  : Nat → Int32 → dc_HP → Option (dc_HP)
  | 0, _, _ => none
  | n + 1, x1, σ => (if (nI 8) ≤ x1 then some σ else (fn_X9_isSinger σ x1).bind (fun r10 => ((if r10 = 0 then some (nI 0) else (if (((σ.1 55 1) >>> (x1 &&& 31)) &&& (nI 1)) = (nI 1) then some (nI 1) else (if (((σ.1 55 2) >>> (x1 &&& 31)) &&& (nI 1)) = 0 then some (nI 1) else some (nI 0))))).bind (fun q13 => ((if q13 = 0 then if x1 < 0 ∨ 8 ≤ x1.toNatClampNeg then none else some (σ.1 57 x1.toNatClampNeg) else if x1 < 0 ∨ 8 ≤ x1.toNatClampNeg then none else if x1 < 0 ∨ 8 ≤ x1.toNatClampNeg then none else some ((σ.1 57 x1.toNatClampNeg) + ((σ.1 57 x1.toNatClampNeg) / (nI 10))))).bind (fun q46 => (if q46 ≤ (nI 999) then if x1 < 0 ∨ 8 ≤ x1.toNatClampNeg then none else dc_let (dc_wI σ 57 x1.toNatClampNeg q46) (fun s94 => fn_X9_endEvening_L2 n (x1 + nI 1) s94) else if x1 < 0 ∨ 8 ≤ x1.toNatClampNeg then none else dc_let (dc_wI σ 57 x1.toNatClampNeg (nI 999)) (fun s94 => fn_X9_endEvening_L2 n (x1 + nI 1) s94))))))
def fn_X9_endEvening (σ : dc_HP) : Option (dc_HP) := (fn_X9_endEvening_L2 200 (nI 0) σ).bind (fun q2 => dc_let (dc_wI q2 55 2 (nI 0)) (fun s103 => some (dc_wI s103 55 3 ((s103.1 55 3) + (nI 1)))))
def fn_X9_happen (σ : dc_HP) (x1 : Int32) (x2 : Int32) (x3 : Int32) : Option (dc_HP) := (if x1 = nI 0 then (fn_X9_singPiece σ x2).bind (fun r38 => some r38) else if x1 = nI 1 then if x2 < 0 ∨ 8 ≤ x2.toNatClampNeg then none else if x2 < 0 ∨ 8 ≤ x2.toNatClampNeg then none else dc_let (dc_wI σ 57 x2.toNatClampNeg ((σ.1 57 x2.toNatClampNeg) + x3)) (fun s53 => some s53) else if x1 = nI 2 then dc_let (dc_wI σ 55 1 ((σ.1 55 1) ^^^ ((nI 1) <<< (x2 &&& 31)))) (fun s66 => some s66) else if x1 = nI 3 then if x3 < 0 ∨ 8 ≤ x3.toNatClampNeg then none else if x2 < 0 ∨ 8 ≤ x2.toNatClampNeg then none else if x3 < 0 ∨ 8 ≤ x3.toNatClampNeg then none else dc_let (dc_wI σ 57 x3.toNatClampNeg ((σ.1 57 x3.toNatClampNeg) + (σ.1 57 x2.toNatClampNeg))) (fun s86 => if x2 < 0 ∨ 8 ≤ x2.toNatClampNeg then none else dc_let (dc_wI s86 57 x2.toNatClampNeg (nI 0)) (fun s93 => some s93)) else if x1 = nI 4 then if x2 < 0 ∨ 8 ≤ x2.toNatClampNeg then none else dc_let (dc_wI σ 57 x2.toNatClampNeg (nI 0)) (fun s103 => some s103) else (fn_X9_endEvening σ).bind (fun r108 => some r108))
def fn_X9_leastOf_L2 (x0 : Int32) : Nat → Int32 → Option (Int32)
  | 0, _ => none
  | n + 1, x1 => (if ((x0 >>> (x1 &&& 31)) &&& (nI 1)) = 0 then fn_X9_leastOf_L2 x0 n (x1 + nI 1) else some x1)
def fn_X9_leastOf (x0 : Int32) : Option (Int32) := (fn_X9_leastOf_L2 x0 200 (nI 0)).bind (fun q2 => some q2)
def fn_X9_goOne (σ : dc_HP) (x1 : Int32) : Option (dc_HP) := (fn_X9_owing σ).bind (fun r1 => if x1 < 0 ∨ 60 ≤ x1.toNatClampNeg then none else if x1 < 0 ∨ 60 ≤ x1.toNatClampNeg then none else if x1 < 0 ∨ 60 ≤ x1.toNatClampNeg then none else (fn_X9_happen σ (σ.1 64 x1.toNatClampNeg) (σ.1 65 x1.toNatClampNeg) (σ.1 66 x1.toNatClampNeg)).bind (fun r24 => (fn_X9_owing r24).bind (fun r29 => (if (r1 &&& (r29 ^^^ ((-1 : Int32)))) = 0 then some r24 else (if 0 ≤ (r24.1 55 23) then some r24 else dc_let (dc_wI r24 55 23 x1) (fun s49 => (fn_X9_leastOf (r1 &&& (r29 ^^^ ((-1 : Int32))))).bind (fun r54 => some (dc_wI s49 55 24 r54))))))))
def fn_X9_goEvenings_L36  : Nat → Int32 → dc_HP → Option (dc_HP)
  | 0, _, _ => none
  | n + 1, x1, σ => (if (σ.1 55 17) ≤ x1 then some σ else (if 0 ≤ (σ.1 55 21) then some σ else if x1 < 0 ∨ 60 ≤ x1.toNatClampNeg then none else if x1 < 0 ∨ 60 ≤ x1.toNatClampNeg then none else if x1 < 0 ∨ 60 ≤ x1.toNatClampNeg then none else (fn_X9_whyNot σ (σ.1 64 x1.toNatClampNeg) (σ.1 65 x1.toNatClampNeg) (σ.1 66 x1.toNatClampNeg)).bind (fun r70 => ((if r70 ≤ 0 then some ((-6 : Int32)) else some x1)).bind (fun q76 => dc_let (dc_wI σ 55 21 q76) (fun s85 => ((if r70 ≤ 0 then some ((-6 : Int32)) else some r70)).bind (fun q90 => dc_let (dc_wI s85 55 22 q90) (fun s99 => (if r70 = 0 then (fn_X9_goOne s99 x1).bind (fun r108 => fn_X9_goEvenings_L36 n (x1 + nI 1) r108) else fn_X9_goEvenings_L36 n (x1 + nI 1) s99))))))))
def fn_X9_goEvenings (σ : dc_HP) : Option (dc_HP) := dc_let (dc_wI σ 55 18 (nI 0)) (fun s2 => dc_let (dc_wI s2 55 19 (nI 0)) (fun s7 => dc_let (dc_wI s7 55 21 ((-6 : Int32))) (fun s13 => dc_let (dc_wI s13 55 22 ((-6 : Int32))) (fun s19 => dc_let (dc_wI s19 55 23 ((-6 : Int32))) (fun s25 => dc_let (dc_wI s25 55 24 ((-6 : Int32))) (fun s31 => (fn_X9_goEvenings_L36 200 (nI 0) s31).bind (fun q36 => some q36)))))))
def fn_X9_refusal (σ : dc_HP) : Option (Int32 × dc_HP) := (fn_X9_keepNow σ).bind (fun r1 => (fn_X9_fault r1).bind (fun r5 => (if r5.1 < 0 then (fn_X9_goEvenings r5.2).bind (fun r15 => (if (r15.1 55 21) < 0 then some ((-6 : Int32), r15) else some ((-3 : Int32), r15))) else some ((-5 : Int32), r5.2))))
def fn_X9_back_L2 (x1 : Int32) : Nat → Int32 → dc_HP → Option (dc_HP)
  | 0, _, _ => none
  | n + 1, x2, σ => (if (nI 8) ≤ x2 then some σ else if x2 < 0 ∨ 11 ≤ x2.toNatClampNeg then none else if x2 < 0 ∨ 8 ≤ x2.toNatClampNeg then none else dc_let (dc_wI σ 57 x2.toNatClampNeg (σ.1 67 x2.toNatClampNeg)) (fun s19 => fn_X9_back_L2 x1 n (x2 + nI 1) s19))
def fn_X9_back (σ : dc_HP) (x1 : Int32) : Option (Int32 × dc_HP) := (fn_X9_back_L2 x1 200 (nI 0) σ).bind (fun q2 => dc_let (dc_wI q2 55 1 (q2.1 67 (nI 8).toNatClampNeg)) (fun s34 => dc_let (dc_wI s34 55 2 (s34.1 67 (nI 9).toNatClampNeg)) (fun s45 => dc_let (dc_wI s45 55 3 (s45.1 67 (nI 10).toNatClampNeg)) (fun s56 => some (x1, s56)))))
def fn_X9_judge (σ : dc_HP) (x1 : Int32) : Option (Int32 × dc_HP) := (fn_X9_in x1.toInt64 ((0 : Int64)) ((2 : Int64))).bind (fun r6 => (if r6 = 0 then some ((-2 : Int32), σ) else (fn_X9_refusal σ).bind (fun r17 => (fn_X9_back r17.2 r17.1).bind (fun r20 => (if r20.1 = ((-5 : Int32)) then some (r20.1, r20.2) else (if x1 ≤ (nI 1) then (if x1 = 0 then some (r20.2.1 55 21, r20.2) else (if x1 = (nI 1) then some (r20.2.1 55 22, r20.2) else some (r20.2.1 55 19, r20.2))) else (if r20.1 = ((-3 : Int32)) then some (r20.1, r20.2) else (if x1 = 0 then some (r20.2.1 55 21, r20.2) else (if x1 = (nI 1) then some (r20.2.1 55 22, r20.2) else some (r20.2.1 55 19, r20.2))))))))))
def fn_X9_behind (σ : dc_HP) (x1 : Int32) (x2 : Int32) : Option (Int32 × dc_HP) := (fn_X9_isSinger σ x1).bind (fun r2 => (if r2 = 0 then some ((-1 : Int32), σ) else (fn_X9_in x2.toInt64 ((0 : Int64)) ((2 : Int64))).bind (fun r16 => (if r16 = 0 then some ((-2 : Int32), σ) else (fn_X9_refusal σ).bind (fun r26 => ((if x2 = 0 then if x1 < 0 ∨ 8 ≤ x1.toNatClampNeg then none else some (r26.2.1 57 x1.toNatClampNeg) else ((if x2 = (nI 1) then some (r26.2.1 55 1) else some (r26.2.1 55 2))).bind (fun q45 => some ((q45 >>> (x1 &&& 31)) &&& (nI 1))))).bind (fun q31 => ((if r26.1 = ((-6 : Int32)) then some q31 else some r26.1)).bind (fun q69 => (fn_X9_back r26.2 q69).bind (fun r78 => some (r78.1, r78.2)))))))))
def fn_X9_allDebts_L4 (σ : dc_HP) : Nat → Int32 → Int32 → Option (Int32)
  | 0, _, _ => none
  | n + 1, x1, x2 => (if (nI 8) ≤ x2 then some x1 else (fn_X9_isSinger σ x2).bind (fun r13 => (if r13 = 0 then fn_X9_allDebts_L4 σ n (x1 + (nI 0)) (x2 + nI 1) else if x2 < 0 ∨ 8 ≤ x2.toNatClampNeg then none else fn_X9_allDebts_L4 σ n (x1 + (σ.1 57 x2.toNatClampNeg)) (x2 + nI 1))))
def fn_X9_allDebts (σ : dc_HP) : Option (Int32) := (fn_X9_allDebts_L4 σ 200 (nI 0) (nI 0)).bind (fun q4 => some q4)
def fn_X9_owed (σ : dc_HP) (x1 : Int32) : Option (Int32 × dc_HP) := (fn_X9_in x1.toInt64 ((0 : Int64)) ((1 : Int64))).bind (fun r4 => (if r4 = 0 then some ((-2 : Int32), σ) else (fn_X9_refusal σ).bind (fun r14 => ((if r14.1 = ((-6 : Int32)) then (if x1 = 0 then (fn_X9_allDebts r14.2).bind (fun r34 => some r34) else some (r14.2.1 55 18)) else some r14.1)).bind (fun q22 => (fn_X9_back r14.2 q22).bind (fun r44 => some (r44.1, r44.2))))))
def fn_X9_freed (σ : dc_HP) (x1 : Int32) : Option (Int32 × dc_HP) := (fn_X9_in x1.toInt64 ((0 : Int64)) ((1 : Int64))).bind (fun r4 => (if r4 = 0 then some ((-2 : Int32), σ) else (fn_X9_refusal σ).bind (fun r15 => (fn_X9_back r15.2 r15.1).bind (fun r18 => (if r18.1 = ((-6 : Int32)) then (if x1 = 0 then some (r18.2.1 55 23, r18.2) else some (r18.2.1 55 24, r18.2)) else some (r18.1, r18.2))))))
def fn_X9_done (σ : dc_HP) : Option (Int32 × dc_HP) := (fn_X9_refusal σ).bind (fun r1 => (if r1.1 = ((-6 : Int32)) then dc_let (dc_wI r1.2 55 13 (nI 0)) (fun s19 => some (s19.1 55 17, s19)) else (fn_X9_back r1.2 r1.1).bind (fun r13 => some (r13.1, r13.2))))
def fn_X9_may_L4 (σ : dc_HP) : Nat → Int32 → Int32 → Option (Int32)
  | 0, _, _ => none
  | n + 1, x1, x2 => (if (nI 6) ≤ x2 then some x1 else (fn_X9_canBeSung σ x2).bind (fun r13 => (if r13 = 0 then fn_X9_may_L4 σ n (x1 ||| (nI 0)) (x2 + nI 1) else fn_X9_may_L4 σ n (x1 ||| ((nI 1) <<< (x2 &&& 31))) (x2 + nI 1))))
def fn_X9_may (σ : dc_HP) : Option (Int32) := (fn_X9_may_L4 σ 200 (nI 0) (nI 0)).bind (fun q4 => some q4)
def fn_X9_isFor (σ : dc_HP) (x1 : Int32) (x2 : Int32) : Option (Int32) := if x2 < 0 ∨ 8 ≤ x2.toNatClampNeg then none else if (((nI 4) * x1) + (σ.1 56 x2.toNatClampNeg)) < 0 ∨ 24 ≤ (((nI 4) * x1) + (σ.1 56 x2.toNatClampNeg)).toNatClampNeg then none else (if (σ.1 58 (((nI 4) * x1) + (σ.1 56 x2.toNatClampNeg)).toNatClampNeg) ≤ 0 then some (nI 0) else some (nI 1))
def fn_X9_behindNight (x0 : Int32) (x1 : Int32) : Option (Int32) := (if x0 ≤ x1 then some ((nI 0) + ((nI 0) / (nI 10))) else some ((x0 - x1) + ((x0 - x1) / (nI 10))))
def fn_X9_bestOwed_L7 (σ : dc_HP) (x1 : Int32) (x2 : Int32) : Nat → Int32 → Int32 → Option (Int32)
  | 0, _, _ => none
  | n + 1, x3, x4 => (if (nI 6) ≤ x4 then some x3 else if (x2 &&& (((nI 1) <<< (x4 &&& 31)) ^^^ ((-1 : Int32)))) < 0 ∨ 64 ≤ (x2 &&& (((nI 1) <<< (x4 &&& 31)) ^^^ ((-1 : Int32)))).toNatClampNeg then none else ((if ((x2 >>> (x4 &&& 31)) &&& (nI 1)) = (nI 1) then (fn_X9_isFor σ x4 x1).bind (fun r43 => (if r43 = 0 then some (nI 0) else (if (nI 9990) ≤ (σ.1 68 (x2 &&& (((nI 1) <<< (x4 &&& 31)) ^^^ ((-1 : Int32)))).toNatClampNeg) then some (nI 0) else some (nI 1)))) else some (nI 0))).bind (fun q36 => ((if q36 = 0 then some (nI 9990) else if x4 < 0 ∨ 6 ≤ x4.toNatClampNeg then none else if x4 < 0 ∨ 6 ≤ x4.toNatClampNeg then none else (fn_X9_behindNight (σ.1 68 (x2 &&& (((nI 1) <<< (x4 &&& 31)) ^^^ ((-1 : Int32)))).toNatClampNeg) ((σ.1 59 x4.toNatClampNeg) * (σ.1 60 x4.toNatClampNeg))).bind (fun r86 => some r86))).bind (fun q66 => (if x3 ≤ q66 then fn_X9_bestOwed_L7 σ x1 x2 n x3 (x4 + nI 1) else fn_X9_bestOwed_L7 σ x1 x2 n q66 (x4 + nI 1)))))
def fn_X9_bestOwed (σ : dc_HP) (x1 : Int32) (x2 : Int32) : Option (Int32) := (fn_X9_bestOwed_L7 σ x1 x2 200 (nI 9990) (nI 0)).bind (fun q7 => some q7)
def fn_X9_fewestNights_L7 (x1 : Int32) (x2 : Int32) (x3 : Int32) : Nat → Int32 → Int32 → dc_HP → Option (Int32 × dc_HP)
  | 0, _, _, _ => none
  | n + 1, x4, x5, σ => (if (nI 64) ≤ x5 then some (x4, σ) else ((if (x5 &&& x2) = x2 then some (nI 1) else some (nI 0))).bind (fun q19 => ((if x5 = x2 then some x3 else some (nI 9990))).bind (fun q38 => if x5 < 0 ∨ 64 ≤ x5.toNatClampNeg then none else dc_let (dc_wI σ 68 x5.toNatClampNeg q38) (fun s48 => ((if q19 = 0 then some s48 else (if x5 = x2 then some s48 else (fn_X9_bestOwed s48 x1 x5).bind (fun r70 => if x5 < 0 ∨ 64 ≤ x5.toNatClampNeg then none else dc_let (dc_wI s48 68 x5.toNatClampNeg r70) (fun s73 => some s73))))).bind (fun q51 => ((if q19 = 0 then some (nI 0) else if x5 < 0 ∨ 64 ≤ x5.toNatClampNeg then none else (if (q51.1 68 x5.toNatClampNeg) = 0 then some (nI 1) else some (nI 0)))).bind (fun q76 => (if q76 = 0 then fn_X9_fewestNights_L7 x1 x2 x3 n x4 (x5 + nI 1) q51 else (if x4 < 0 then (fn_X9_bitsOf x5).bind (fun r118 => fn_X9_fewestNights_L7 x1 x2 x3 n r118 (x5 + nI 1) q51) else (fn_X9_bitsOf x5).bind (fun r108 => (if x4 ≤ r108 then fn_X9_fewestNights_L7 x1 x2 x3 n x4 (x5 + nI 1) q51 else (fn_X9_bitsOf x5).bind (fun r118 => fn_X9_fewestNights_L7 x1 x2 x3 n r118 (x5 + nI 1) q51)))))))))))
def fn_X9_fewestNights (σ : dc_HP) (x1 : Int32) (x2 : Int32) (x3 : Int32) : Option (Int32 × dc_HP) := (fn_X9_fewestNights_L7 x1 x2 x3 200 ((-6 : Int32)) (nI 0) σ).bind (fun q7 => some (q7.1, q7.2))
def fn_X9_firstNight_L2 (x1 : Int32) (x2 : Int32) : Nat → Int32 → dc_HP → Option ((Int32 × dc_HP) ⊕ (dc_HP))
  | 0, _, _ => none
  | n + 1, x3, σ => (if (nI 6) ≤ x3 then some (.inr σ) else if x1 < 0 ∨ 8 ≤ x1.toNatClampNeg then none else if x3 < 0 ∨ 6 ≤ x3.toNatClampNeg then none else if x3 < 0 ∨ 6 ≤ x3.toNatClampNeg then none else (fn_X9_behindNight (σ.1 57 x1.toNatClampNeg) ((σ.1 59 x3.toNatClampNeg) * (σ.1 60 x3.toNatClampNeg))).bind (fun r27 => (fn_X9_isFor σ x3 x1).bind (fun r35 => (if r35 = 0 then fn_X9_firstNight_L2 x1 x2 n (x3 + nI 1) σ else (fn_X9_fewestNights σ x1 ((nI 1) <<< (x3 &&& 31)) r27).bind (fun r48 => (if r48.1 = x2 then some (.inl (x3, r48.2)) else fn_X9_firstNight_L2 x1 x2 n (x3 + nI 1) r48.2))))))
def fn_X9_firstNight (σ : dc_HP) (x1 : Int32) (x2 : Int32) : Option (Int32 × dc_HP) := (fn_X9_firstNight_L2 x1 x2 200 (nI 0) σ).bind (Sum.elim (fun r => some r) (fun q2 => some ((-6 : Int32), q2)))
def fn_X9_nights (σ : dc_HP) (x1 : Int32) (x2 : Int32) : Option (Int32 × dc_HP) := (fn_X9_isSinger σ x1).bind (fun r2 => (if r2 = 0 then some ((-1 : Int32), σ) else (fn_X9_in x2.toInt64 ((0 : Int64)) ((1 : Int64))).bind (fun r14 => (if r14 = 0 then some ((-2 : Int32), σ) else if x1 < 0 ∨ 8 ≤ x1.toNatClampNeg then none else (fn_X9_fewestNights σ x1 (nI 0) (σ.1 57 x1.toNatClampNeg)).bind (fun r32 => (if x2 = 0 then (if x2 = 0 then some (r32.1, r32.2) else some ((-6 : Int32), r32.2)) else (if 0 < r32.1 then (fn_X9_firstNight r32.2 x1 r32.1).bind (fun r60 => some (r60.1, r60.2)) else (if x2 = 0 then some (r32.1, r32.2) else some ((-6 : Int32), r32.2)))))))))
def fn_X9_barsOf_L4 (σ : dc_HP) (x1 : Int32) : Nat → Int32 → Int32 → Option (Int32)
  | 0, _, _ => none
  | n + 1, x2, x3 => (if (nI 6) ≤ x3 then some x2 else (if ((x1 >>> (x3 &&& 31)) &&& (nI 1)) = (nI 1) then if x3 < 0 ∨ 6 ≤ x3.toNatClampNeg then none else fn_X9_barsOf_L4 σ x1 n (x2 + (σ.1 59 x3.toNatClampNeg)) (x3 + nI 1) else fn_X9_barsOf_L4 σ x1 n (x2 + (nI 0)) (x3 + nI 1)))
def fn_X9_barsOf (σ : dc_HP) (x1 : Int32) : Option (Int32) := (fn_X9_barsOf_L4 σ x1 200 (nI 0) (nI 0)).bind (fun q4 => some q4)
def fn_X9_needsOf (σ : dc_HP) (x1 : Int32) : Option (Int32) := if ((nI 4) * x1) < 0 ∨ 24 ≤ ((nI 4) * x1).toNatClampNeg then none else if (((nI 4) * x1) + (nI 1)) < 0 ∨ 24 ≤ (((nI 4) * x1) + (nI 1)).toNatClampNeg then none else if (((nI 4) * x1) + (nI 2)) < 0 ∨ 24 ≤ (((nI 4) * x1) + (nI 2)).toNatClampNeg then none else if (((nI 4) * x1) + (nI 3)) < 0 ∨ 24 ≤ (((nI 4) * x1) + (nI 3)).toNatClampNeg then none else some ((((σ.1 58 ((nI 4) * x1).toNatClampNeg) + (σ.1 58 (((nI 4) * x1) + (nI 1)).toNatClampNeg)) + (σ.1 58 (((nI 4) * x1) + (nI 2)).toNatClampNeg)) + (σ.1 58 (((nI 4) * x1) + (nI 3)).toNatClampNeg))
def fn_X9_paysOf_L4 (σ : dc_HP) (x1 : Int32) : Nat → Int32 → Int32 → Option (Int32)
  | 0, _, _ => none
  | n + 1, x2, x3 => (if (nI 6) ≤ x3 then some x2 else (if ((x1 >>> (x3 &&& 31)) &&& (nI 1)) = (nI 1) then if x3 < 0 ∨ 6 ≤ x3.toNatClampNeg then none else if x3 < 0 ∨ 6 ≤ x3.toNatClampNeg then none else (fn_X9_needsOf σ x3).bind (fun r35 => fn_X9_paysOf_L4 σ x1 n (x2 + (((σ.1 59 x3.toNatClampNeg) * (σ.1 60 x3.toNatClampNeg)) * r35)) (x3 + nI 1)) else fn_X9_paysOf_L4 σ x1 n (x2 + (nI 0)) (x3 + nI 1)))
def fn_X9_paysOf (σ : dc_HP) (x1 : Int32) : Option (Int32) := (fn_X9_paysOf_L4 σ x1 200 (nI 0) (nI 0)).bind (fun q4 => some q4)
def fn_X9_programme_L30 (σ : dc_HP) (x1 : Int32) (x2 : Int32) : Nat → Int32 → Int32 → Option (Int32)
  | 0, _, _ => none
  | n + 1, x3, x4 => (if (nI 64) ≤ x4 then some x3 else (fn_X9_barsOf σ x4).bind (fun r40 => (if x1 < r40 then fn_X9_programme_L30 σ x1 x2 n x3 (x4 + nI 1) else (fn_X9_paysOf σ x4).bind (fun r50 => (fn_X9_paysOf σ x3).bind (fun r55 => (if r50 ≤ r55 then fn_X9_programme_L30 σ x1 x2 n x3 (x4 + nI 1) else fn_X9_programme_L30 σ x1 x2 n x4 (x4 + nI 1)))))))
def fn_X9_programme (σ : dc_HP) (x1 : Int32) (x2 : Int32) : Option (Int32) := (fn_X9_in x1.toInt64 ((0 : Int64)) ((99 : Int64))).bind (fun r6 => (if r6 = 0 then some ((-2 : Int32)) else (fn_X9_in x2.toInt64 ((0 : Int64)) ((1 : Int64))).bind (fun r16 => (if r16 = 0 then some ((-2 : Int32)) else (fn_X9_programme_L30 σ x1 x2 200 (nI 0) (nI 1)).bind (fun q30 => (if x2 = 0 then (fn_X9_paysOf σ q30).bind (fun r80 => some r80) else some q30))))))
def fn_X9_ruined_L8 (σ : dc_HP) (x1 : Int32) : Nat → Int32 → Int32 → Int32 → Option (Int32 × Int32)
  | 0, _, _, _ => none
  | n + 1, x3, x4, x5 => (if (nI 8) ≤ x5 then some (x3, x4) else (if x4 ≤ 0 then some (x3, x4) else (fn_X9_mayHere σ x5 x1).bind (fun r24 => (if r24 = 0 then fn_X9_ruined_L8 σ x1 n x3 x4 (x5 + nI 1) else if x5 < 0 ∨ 8 ≤ x5.toNatClampNeg then none else (if (σ.1 57 x5.toNatClampNeg) = 0 then fn_X9_ruined_L8 σ x1 n (x3 ||| ((nI 1) <<< (x5 &&& 31))) (x4 + (-1 : Int32)) (x5 + nI 1) else fn_X9_ruined_L8 σ x1 n x3 x4 (x5 + nI 1))))))
def fn_X9_ruined (σ : dc_HP) (x1 : Int32) (x2 : Int32) : Option (Int32) := (fn_X9_ruined_L8 σ x1 200 (nI 0) x2 (nI 0)).bind (fun q8 => (if q8.2 ≤ 0 then some q8.1 else some ((-6 : Int32))))
def fn_X9_ruin_L32 (σ : dc_HP) (x1 : Int32) (x2 : Int32) : Nat → Int32 → Int32 → Option ((Int32) ⊕ (Int32))
  | 0, _, _ => none
  | n + 1, x3, x4 => (if (nI 4) ≤ x4 then some (.inr x3) else if (((nI 4) * x1) + x4) < 0 ∨ 24 ≤ (((nI 4) * x1) + x4).toNatClampNeg then none else (fn_X9_ready σ x4 (nI 1)).bind (fun r56 => (fn_X9_ruined σ x4 ((σ.1 58 (((nI 4) * x1) + x4).toNatClampNeg) - r56)).bind (fun r60 => (if 0 ≤ r60 then fn_X9_ruin_L32 σ x1 x2 n (x3 ||| r60) (x4 + nI 1) else some (.inl ((-6 : Int32)))))))
def fn_X9_ruin (σ : dc_HP) (x1 : Int32) (x2 : Int32) : Option (Int32) := (fn_X9_in x1.toInt64 ((0 : Int64)) ((5 : Int64))).bind (fun r6 => (if r6 = 0 then some ((-1 : Int32)) else (fn_X9_in x2.toInt64 ((0 : Int64)) ((1 : Int64))).bind (fun r18 => (if r18 = 0 then some ((-2 : Int32)) else (fn_X9_ruin_L32 σ x1 x2 200 (nI 0) (nI 0)).bind (Sum.elim (fun r => some r) (fun q32 => (if x2 = 0 then (fn_X9_bitsOf q32).bind (fun r89 => some r89) else some q32)))))))
def fn_X9_ahead_L4 (σ : dc_HP) (x1 : Int32) : Nat → Int32 → Int32 → Option (Int32)
  | 0, _, _ => none
  | n + 1, x2, x3 => (if (nI 6) ≤ x3 then some x2 else if x3 < 0 ∨ 6 ≤ x3.toNatClampNeg then none else if x1 < 0 ∨ 6 ≤ x1.toNatClampNeg then none else (if (σ.1 69 x1.toNatClampNeg) < (σ.1 69 x3.toNatClampNeg) then fn_X9_ahead_L4 σ x1 n (x2 + (nI 1)) (x3 + nI 1) else if x3 < 0 ∨ 6 ≤ x3.toNatClampNeg then none else if x1 < 0 ∨ 6 ≤ x1.toNatClampNeg then none else (if (σ.1 69 x3.toNatClampNeg) = (σ.1 69 x1.toNatClampNeg) then (if x1 ≤ x3 then fn_X9_ahead_L4 σ x1 n (x2 + (nI 0)) (x3 + nI 1) else fn_X9_ahead_L4 σ x1 n (x2 + (nI 1)) (x3 + nI 1)) else fn_X9_ahead_L4 σ x1 n (x2 + (nI 0)) (x3 + nI 1))))
def fn_X9_ahead (σ : dc_HP) (x1 : Int32) : Option (Int32) := (fn_X9_ahead_L4 σ x1 200 (nI 0) (nI 0)).bind (fun q4 => some q4)
def fn_X9_seats_L43 (x1 : Int32) (x3 : Int32) : Nat → Int32 → Int32 → dc_HP → Option (dc_HP)
  | 0, _, _, _ => none
  | n + 1, x4, x5, σ => (if x5 < 0 then some σ else if x5 < 0 ∨ 6 ≤ x5.toNatClampNeg then none else dc_let (dc_wI σ 69 x5.toNatClampNeg (x4 - x4 / (nI 10) * (nI 10))) (fun s59 => fn_X9_seats_L43 x1 x3 n (x4 / (nI 10)) (x5 + (-1 : Int32)) s59))
def fn_X9_seats_L82 (σ : dc_HP) (x1 : Int32) (x3 : Int32) : Nat → Int32 → Int32 → Int32 → Option (Int32 × Int32)
  | 0, _, _, _ => none
  | n + 1, x5, x6, x7 => (if (nI 6) ≤ x7 then some (x5, x6) else (fn_X9_ahead σ x7).bind (fun r94 => ((if x1 ≤ r94 then some (nI 0) else some ((nI 1) <<< (x7 &&& 31)))).bind (fun q98 => (fn_X9_ahead σ x7).bind (fun r115 => (if r115 = x1 then if x7 < 0 ∨ 6 ≤ x7.toNatClampNeg then none else fn_X9_seats_L82 σ x1 x3 n (x5 ||| q98) (σ.1 69 x7.toNatClampNeg) (x7 + nI 1) else fn_X9_seats_L82 σ x1 x3 n (x5 ||| q98) x6 (x7 + nI 1))))))
def fn_X9_seats (σ : dc_HP) (x1 : Int32) (x2 : Int32) (x3 : Int32) : Option (Int32 × dc_HP) := (fn_X9_in x1.toInt64 ((0 : Int64)) ((6 : Int64))).bind (fun r6 => (if r6 = 0 then some ((-2 : Int32), σ) else (fn_X9_in x2.toInt64 ((0 : Int64)) ((999999 : Int64))).bind (fun r18 => (if r18 = 0 then some ((-2 : Int32), σ) else (fn_X9_in x3.toInt64 ((0 : Int64)) ((1 : Int64))).bind (fun r28 => (if r28 = 0 then some ((-2 : Int32), σ) else (fn_X9_seats_L43 x1 x3 200 x2 (nI 5) σ).bind (fun q43 => (fn_X9_seats_L82 q43 x1 x3 200 (nI 0) (nI 0) (nI 0)).bind (fun q82 => (if x3 = 0 then some (q82.1, q43) else some (q82.2, q43))))))))))
def fn_X9_areRanks_L8 (x1 : Int32) (x2 : Int32) : Nat → Int32 → Int32 → Int32 → dc_HP → Option (Int32 × dc_HP)
  | 0, _, _, _, _ => none
  | n + 1, x3, x4, x5, σ => (if x5 < 0 then some (x4, σ) else if (((nI 4) * x1) + x5) < 0 ∨ 16 ≤ (((nI 4) * x1) + x5).toNatClampNeg then none else dc_let (dc_wI σ 70 (((nI 4) * x1) + x5).toNatClampNeg (x3 - x3 / (nI 10) * (nI 10))) (fun s27 => (if (nI 4) ≤ (x3 - x3 / (nI 10) * (nI 10)) then fn_X9_areRanks_L8 x1 x2 n (x3 / (nI 10)) (x4 ||| (nI 0)) (x5 + (-1 : Int32)) s27 else fn_X9_areRanks_L8 x1 x2 n (x3 / (nI 10)) (x4 ||| ((nI 1) <<< ((x3 - x3 / (nI 10) * (nI 10)) &&& 31))) (x5 + (-1 : Int32)) s27)))
def fn_X9_areRanks (σ : dc_HP) (x1 : Int32) (x2 : Int32) : Option (Int32 × dc_HP) := (fn_X9_areRanks_L8 x1 x2 200 x2 (nI 0) (nI 3) σ).bind (fun q8 => (fn_X9_in x2.toInt64 ((0 : Int64)) ((3210 : Int64))).bind (fun r68 => (if r68 = 0 then some (nI 0, q8.2) else (if q8.1 = (nI 15) then some (nI 1, q8.2) else some (nI 0, q8.2)))))
def fn_X9_pointsTo_L6 (σ : dc_HP) (x1 : Int32) (x2 : Int32) : Nat → Int32 → Int32 → Option (Int32)
  | 0, _, _ => none
  | n + 1, x3, x4 => (if x4 < 0 then some x3 else if (((nI 4) * x1) + x4) < 0 ∨ 16 ≤ (((nI 4) * x1) + x4).toNatClampNeg then none else (if ((x2 >>> ((σ.1 70 (((nI 4) * x1) + x4).toNatClampNeg) &&& 31)) &&& (nI 1)) = (nI 1) then if (((nI 4) * x1) + x4) < 0 ∨ 16 ≤ (((nI 4) * x1) + x4).toNatClampNeg then none else fn_X9_pointsTo_L6 σ x1 x2 n (σ.1 70 (((nI 4) * x1) + x4).toNatClampNeg) (x4 + (-1 : Int32)) else fn_X9_pointsTo_L6 σ x1 x2 n x3 (x4 + (-1 : Int32))))
def fn_X9_pointsTo (σ : dc_HP) (x1 : Int32) (x2 : Int32) : Option (Int32) := (fn_X9_pointsTo_L6 σ x1 x2 200 ((-6 : Int32)) (nI 3)).bind (fun q6 => some q6)
def fn_X9_ringed_L18 (σ : dc_HP) (x1 : Int32) (x2 : Int32) (x3 : Int32) : Nat → Int32 → Int32 → Int32 → Option (Int32)
  | 0, _, _, _ => none
  | n + 1, x4, x5, x6 => (if (nI 4) ≤ x6 then some x5 else (if ((x1 >>> (x3 &&& 31)) &&& (nI 1)) = (nI 1) then (fn_X9_pointsTo σ x4 x1).bind (fun r37 => (if x5 = 0 then (if r37 = x3 then fn_X9_ringed_L18 σ x1 x2 x3 n r37 (nI 1) (x6 + nI 1) else fn_X9_ringed_L18 σ x1 x2 x3 n r37 (nI 0) (x6 + nI 1)) else fn_X9_ringed_L18 σ x1 x2 x3 n r37 (nI 1) (x6 + nI 1))) else some x5))
def fn_X9_ringed_L4 (σ : dc_HP) (x1 : Int32) : Nat → Int32 → Int32 → Option (Int32)
  | 0, _, _ => none
  | n + 1, x2, x3 => (if (nI 4) ≤ x3 then some x2 else (fn_X9_ringed_L18 σ x1 x2 x3 200 x3 (nI 0) (nI 0)).bind (fun q18 => (if q18 = 0 then fn_X9_ringed_L4 σ x1 n (x2 ||| (nI 0)) (x3 + nI 1) else fn_X9_ringed_L4 σ x1 n (x2 ||| ((nI 1) <<< (x3 &&& 31))) (x3 + nI 1))))
def fn_X9_ringed (σ : dc_HP) (x1 : Int32) : Option (Int32) := (fn_X9_ringed_L4 σ x1 200 (nI 0) (nI 0)).bind (fun q4 => some q4)
def fn_X9_deal_L15 (x1 : Int32) (x2 : Int32) : Nat → Int32 → dc_HP → Option (dc_HP)
  | 0, _, _ => none
  | n + 1, x3, σ => (if (nI 4) ≤ x3 then some σ else (if ((x2 >>> (x3 &&& 31)) &&& (nI 1)) = (nI 1) then (fn_X9_pointsTo σ x3 x1).bind (fun r37 => if x3 < 0 ∨ 4 ≤ x3.toNatClampNeg then none else dc_let (dc_wI σ 71 x3.toNatClampNeg r37) (fun s49 => fn_X9_deal_L15 x1 x2 n (x3 + nI 1) s49)) else if x3 < 0 ∨ 4 ≤ x3.toNatClampNeg then none else if x3 < 0 ∨ 4 ≤ x3.toNatClampNeg then none else dc_let (dc_wI σ 71 x3.toNatClampNeg (σ.1 71 x3.toNatClampNeg)) (fun s49 => fn_X9_deal_L15 x1 x2 n (x3 + nI 1) s49)))
def fn_X9_deal_L3  : Nat → Int32 → dc_HP → Option (dc_HP)
  | 0, _, _ => none
  | n + 1, x1, σ => (if x1 = 0 then some σ else (fn_X9_ringed σ x1).bind (fun r9 => (fn_X9_deal_L15 x1 r9 200 (nI 0) σ).bind (fun q15 => fn_X9_deal_L3 n (x1 &&& (r9 ^^^ ((-1 : Int32)))) q15)))
def fn_X9_deal (σ : dc_HP) : Option (dc_HP) := (fn_X9_deal_L3 200 (nI 15) σ).bind (fun q3 => some q3)
def fn_X9_rings_L76 (σ : dc_HP) (x5 : Int32) : Nat → Int32 → Int32 → Int32 → Option (Int32 × Int32)
  | 0, _, _, _ => none
  | n + 1, x7, x8, x9 => (if (nI 4) ≤ x9 then some (x7, x8) else if x9 < 0 ∨ 4 ≤ x9.toNatClampNeg then none else ((if (σ.1 71 x9.toNatClampNeg) = x9 then some (nI 1) else some (nI 0))).bind (fun q93 => if x9 < 0 ∨ 4 ≤ x9.toNatClampNeg then none else fn_X9_rings_L76 σ x5 n (x7 + q93) (((nI 10) * x8) + (σ.1 71 x9.toNatClampNeg)) (x9 + nI 1)))
def fn_X9_rings (σ : dc_HP) (x1 : Int32) (x2 : Int32) (x3 : Int32) (x4 : Int32) (x5 : Int32) : Option (Int32 × dc_HP) := (fn_X9_areRanks σ (nI 0) x1).bind (fun r3 => ((if r3.1 = 0 then some (nI 0, r3.2) else (fn_X9_areRanks r3.2 (nI 1) x2).bind (fun r12 => (if r12.1 = 0 then some (nI 0, r12.2) else (fn_X9_areRanks r12.2 (nI 2) x3).bind (fun r21 => (if r21.1 = 0 then some (nI 0, r21.2) else (fn_X9_areRanks r21.2 (nI 3) x4).bind (fun r31 => (if r31.1 = 0 then some (nI 0, r31.2) else some (nI 1, r31.2))))))))).bind (fun q6 => (if q6.1 = 0 then some ((-2 : Int32), q6.2) else (fn_X9_in x5.toInt64 ((0 : Int64)) ((1 : Int64))).bind (fun r54 => (if r54 = 0 then some ((-2 : Int32), q6.2) else (fn_X9_deal q6.2).bind (fun r64 => (fn_X9_rings_L76 r64 x5 200 (nI 0) (nI 0) (nI 0)).bind (fun q76 => (if x5 = 0 then some (q76.2, r64) else some (q76.1, r64)))))))))
def fn_X9_seen (σ : dc_HP) (x1 : Int32) (x2 : Int32) : Option (Int32 × dc_HP) := (fn_X9_in x1.toInt64 ((1 : Int64)) ((9 : Int64))).bind (fun r6 => (if r6 = 0 then some ((-2 : Int32), σ) else (fn_X9_in x2.toInt64 ((0 : Int64)) ((18 : Int64))).bind (fun r18 => (if r18 = 0 then some ((-2 : Int32), σ) else (if (σ.1 55 11) = (nI 8) then some ((-4 : Int32), σ) else if (σ.1 55 11) < 0 ∨ 8 ≤ (σ.1 55 11).toNatClampNeg then none else dc_let (dc_wI σ 61 (σ.1 55 11).toNatClampNeg x1) (fun s48 => if (s48.1 55 11) < 0 ∨ 8 ≤ (s48.1 55 11).toNatClampNeg then none else dc_let (dc_wI s48 62 (s48.1 55 11).toNatClampNeg x2) (fun s58 => dc_let (dc_wI s58 55 11 ((s58.1 55 11) + (nI 1))) (fun s66 => some (s66.1 55 11, s66)))))))))
def fn_X9_forget (σ : dc_HP) : Option (Int32 × dc_HP) := dc_let (dc_wI σ 55 11 (nI 0)) (fun s7 => some (σ.1 55 11, s7))
def fn_X9_together (x0 : Int32) (x1 : Int32) : Option (Int32) := (if x1 ≤ (x0 / (nI 10)) then (if x1 ≤ (x0 - x0 / (nI 10) * (nI 10)) then some (x1 + x1) else some (x1 + (x0 - x0 / (nI 10) * (nI 10)))) else (if x1 ≤ (x0 - x0 / (nI 10) * (nI 10)) then some ((x0 / (nI 10)) + x1) else some ((x0 / (nI 10)) + (x0 - x0 / (nI 10) * (nI 10)))))
def fn_X9_fits_L4 (σ : dc_HP) (x1 : Int32) : Nat → Int32 → Int32 → Option (Int32)
  | 0, _, _ => none
  | n + 1, x2, x3 => (if (σ.1 55 11) ≤ x3 then some x2 else (if x2 = 0 then fn_X9_fits_L4 σ x1 n (nI 0) (x3 + nI 1) else if x3 < 0 ∨ 8 ≤ x3.toNatClampNeg then none else (fn_X9_together x1 (σ.1 61 x3.toNatClampNeg)).bind (fun r23 => if x3 < 0 ∨ 8 ≤ x3.toNatClampNeg then none else (if r23 = (σ.1 62 x3.toNatClampNeg) then fn_X9_fits_L4 σ x1 n (nI 1) (x3 + nI 1) else fn_X9_fits_L4 σ x1 n (nI 0) (x3 + nI 1)))))
def fn_X9_fits (σ : dc_HP) (x1 : Int32) : Option (Int32) := (fn_X9_fits_L4 σ x1 200 (nI 1) (nI 0)).bind (fun q4 => (if q4 = 0 ∨ q4 = 1 then some q4 else none))
def fn_X9_holds_L4 (σ : dc_HP) (x1 : Int32) : Nat → Int32 → Int32 → Option ((Int32) ⊕ (Int32))
  | 0, _, _ => none
  | n + 1, x2, x3 => (if (nI 100) ≤ x3 then some (.inr x2) else (fn_X9_fits σ x3).bind (fun r12 => (if r12 = 0 then fn_X9_holds_L4 σ x1 n x2 (x3 + nI 1) else (if x2 = x1 then some (.inl x3) else fn_X9_holds_L4 σ x1 n (x2 + nI 1) (x3 + nI 1)))))
def fn_X9_holds (σ : dc_HP) (x1 : Int32) : Option (Int32) := (fn_X9_holds_L4 σ x1 200 (nI 0) (nI 0)).bind (Sum.elim (fun r => some r) (fun q4 => (if x1 = ((-1 : Int32)) then some q4 else some ((-6 : Int32)))))
def fn_X9_mostLeft_L4 (x1 : Int32) (x2 : Int32) : Nat → Int32 → dc_HP → Option (dc_HP)
  | 0, _, _ => none
  | n + 1, x3, σ => (if (nI 19) ≤ x3 then some σ else if x3 < 0 ∨ 19 ≤ x3.toNatClampNeg then none else dc_let (dc_wI σ 72 x3.toNatClampNeg (nI 0)) (fun s16 => fn_X9_mostLeft_L4 x1 x2 n (x3 + nI 1) s16))
def fn_X9_mostLeft_L25 (x1 : Int32) : Nat → Int32 → Int32 → dc_HP → Option (Int32 × dc_HP)
  | 0, _, _, _ => none
  | n + 1, x2, x3, σ => (if (nI 100) ≤ x3 then some (x2, σ) else (fn_X9_fits σ x3).bind (fun r33 => (if r33 = 0 then fn_X9_mostLeft_L25 x1 n x2 (x3 + nI 1) σ else (fn_X9_together x3 x1).bind (fun r41 => if r41 < 0 ∨ 19 ≤ r41.toNatClampNeg then none else if r41 < 0 ∨ 19 ≤ r41.toNatClampNeg then none else dc_let (dc_wI σ 72 r41.toNatClampNeg ((σ.1 72 r41.toNatClampNeg) + (nI 1))) (fun s56 => if r41 < 0 ∨ 19 ≤ r41.toNatClampNeg then none else (if (s56.1 72 r41.toNatClampNeg) ≤ x2 then fn_X9_mostLeft_L25 x1 n x2 (x3 + nI 1) s56 else if r41 < 0 ∨ 19 ≤ r41.toNatClampNeg then none else fn_X9_mostLeft_L25 x1 n (s56.1 72 r41.toNatClampNeg) (x3 + nI 1) s56))))))
def fn_X9_mostLeft (σ : dc_HP) (x1 : Int32) : Option (Int32 × dc_HP) := (fn_X9_mostLeft_L4 x1 (nI 0) 200 (nI 0) σ).bind (fun q4 => (fn_X9_mostLeft_L25 x1 200 (nI 0) (nI 0) q4).bind (fun q25 => some (q25.1, q25.2)))
def fn_X9_ask_L24 (x1 : Int32) : Nat → Int32 → Int32 → Int32 → dc_HP → Option (Int32 × Int32 × dc_HP)
  | 0, _, _, _, _ => none
  | n + 1, x2, x3, x4, σ => (if (nI 9) < x4 then some (x2, x3, σ) else (fn_X9_mostLeft σ x4).bind (fun r34 => ((if x3 ≤ r34.1 then some x2 else some x4)).bind (fun q42 => (if x3 ≤ r34.1 then fn_X9_ask_L24 x1 n q42 x3 (x4 + nI 1) r34.2 else fn_X9_ask_L24 x1 n q42 r34.1 (x4 + nI 1) r34.2))))
def fn_X9_ask (σ : dc_HP) (x1 : Int32) : Option (Int32 × dc_HP) := (fn_X9_in x1.toInt64 ((0 : Int64)) ((1 : Int64))).bind (fun r4 => (if r4 = 0 then some ((-2 : Int32), σ) else (fn_X9_mostLeft σ (nI 1)).bind (fun r17 => (fn_X9_ask_L24 x1 200 (nI 1) r17.1 (nI 2) r17.2).bind (fun q24 => (if q24.2.1 = 0 then some ((-6 : Int32), q24.2.2) else (if x1 = 0 then some (q24.1, q24.2.2) else some (q24.2.1, q24.2.2)))))))
def fn_X9_fugueGood (x1 : Int32) (x2 : Int32) (x3 : Int32) (x4 : Int32) (x5 : Int32) : Option (Int32) := (fn_X9_in x1.toInt64 ((0 : Int64)) ((9 : Int64))).bind (fun r6 => (if r6 = 0 then some (nI 0) else (fn_X9_in x2.toInt64 ((0 : Int64)) ((8 : Int64))).bind (fun r18 => (if r18 = 0 then some (nI 0) else (fn_X9_in x3.toInt64 ((0 : Int64)) ((10 : Int64))).bind (fun r30 => (if r30 = 0 then some (nI 0) else (fn_X9_in x4.toInt64 ((0 : Int64)) ((9 : Int64))).bind (fun r43 => (if r43 = 0 then some (nI 0) else (fn_X9_in x5.toInt64 ((0 : Int64)) ((9 : Int64))).bind (fun r56 => (if r56 = 0 then some (nI 0) else some (nI 1)))))))))))
def fn_X9_sung (σ : dc_HP) (x1 : Int32) (x2 : Int32) : Option (Int64) := (if x1 = 0 then some (((10 : Int64)) * (σ.2 73 (nI 0).toNatClampNeg)) else if (x1 - (nI 1)) < 0 ∨ 10 ≤ (x1 - (nI 1)).toNatClampNeg then none else (if (nI 9) ≤ x1 then some ((x2.toInt64 * (σ.2 73 (x1 - (nI 1)).toNatClampNeg)) + ((((10 : Int64)) - x2.toInt64) * (σ.2 73 (nI 9).toNatClampNeg))) else if (x1 + (nI 1)) < 0 ∨ 10 ≤ (x1 + (nI 1)).toNatClampNeg then none else some ((x2.toInt64 * (σ.2 73 (x1 - (nI 1)).toNatClampNeg)) + ((((10 : Int64)) - x2.toInt64) * (σ.2 73 (x1 + (nI 1)).toNatClampNeg)))))
def fn_X9_size (x0 : Int64) : Option (Int64) := (if 0 ≤ (lg_cmp x0 ((0 : Int64))) then some x0 else some (-x0))
def fn_X9_lowest_L9 (x0 : Int64) (x2 : Int64) (x4 : Int32) : Nat → Int64 → Int64 → Option (Int64)
  | 0, _, _ => none
  | n + 1, x5, x7 => (if (lg_cmp x7 ((0 : Int64))) = 0 then some x5 else if x7 = 0 then none else fn_X9_lowest_L9 x0 x2 x4 n x7 (x5 - x5 / x7 * x7))
def fn_X9_lowest (x0 : Int64) (x2 : Int64) (x4 : Int32) : Option (Int64) := (fn_X9_size x0).bind (fun r4 => (fn_X9_lowest_L9 x0 x2 x4 200 x2 r4).bind (fun q9 => (if x4 = 0 then if q9 = 0 then none else some (x0 / q9) else if q9 = 0 then none else some (x2 / q9))))
def fn_X9_fugue_L43 (x1 : Int32) (x2 : Int32) (x3 : Int32) (x4 : Int32) (x5 : Int32) (x6 : Int32) (x7 : Int32) : Nat → Int32 → dc_HP → Option (dc_HP)
  | 0, _, _ => none
  | n + 1, x8, σ => (if (nI 9) < x8 then some σ else if x8 < 0 ∨ 10 ≤ x8.toNatClampNeg then none else dc_let (dc_wL σ 73 x8.toNatClampNeg (((-x5) * x8).toInt64)) (fun s63 => fn_X9_fugue_L43 x1 x2 x3 x4 x5 x6 x7 n (x8 + nI 1) s63))
def fn_X9_fugue_L96 (x1 : Int32) (x2 : Int32) (x3 : Int32) (x4 : Int32) (x6 : Int32) (x7 : Int32) (x8 : Int64) (x11 : Int32) : Nat → Int32 → Int32 → dc_HP → Option (Int32 × dc_HP)
  | 0, _, _, _ => none
  | n + 1, x10, x12, σ => (if (nI 9) < x12 then some (x10, σ) else (fn_X9_sung σ x12 x3).bind (fun r107 => ((if (nI 9) ≤ x12 then some r107 else (fn_X9_sung σ (x12 + (nI 1)) x3).bind (fun r131 => some ((x4.toInt64 * x8) + r131)))).bind (fun q116 => ((if x12 = x1 then (if (lg_cmp q116 r107) ≤ 0 then some (nI 0) else some (nI 1)) else some x10)).bind (fun q145 => (if (lg_cmp q116 r107) ≤ 0 then if x12 < 0 ∨ 10 ≤ x12.toNatClampNeg then none else dc_let (dc_wL σ 74 x12.toNatClampNeg r107) (fun s189 => fn_X9_fugue_L96 x1 x2 x3 x4 x6 x7 x8 x11 n q145 (x12 + nI 1) s189) else if x12 < 0 ∨ 10 ≤ x12.toNatClampNeg then none else dc_let (dc_wL σ 74 x12.toNatClampNeg q116) (fun s189 => fn_X9_fugue_L96 x1 x2 x3 x4 x6 x7 x8 x11 n q145 (x12 + nI 1) s189))))))
def fn_X9_fugue_L199 (x1 : Int32) (x2 : Int32) (x3 : Int32) (x4 : Int32) (x6 : Int32) (x7 : Int32) (x8 : Int64) (x10 : Int32) (x11 : Int32) : Nat → Int32 → dc_HP → Option (dc_HP)
  | 0, _, _ => none
  | n + 1, x12, σ => (if (nI 9) < x12 then some σ else if x12 < 0 ∨ 10 ≤ x12.toNatClampNeg then none else if x12 < 0 ∨ 10 ≤ x12.toNatClampNeg then none else dc_let (dc_wL σ 73 x12.toNatClampNeg (σ.2 74 x12.toNatClampNeg)) (fun s219 => fn_X9_fugue_L199 x1 x2 x3 x4 x6 x7 x8 x10 x11 n (x12 + nI 1) s219))
def fn_X9_fugue_L79 (x1 : Int32) (x2 : Int32) (x3 : Int32) (x4 : Int32) (x6 : Int32) (x7 : Int32) : Nat → Int64 → Int32 → Int32 → dc_HP → Option (Int64 × Int32 × dc_HP)
  | 0, _, _, _, _ => none
  | n + 1, x8, x10, x11, σ => (if x2 ≤ x11 then some (x8, x10, σ) else (fn_X9_fugue_L96 x1 x2 x3 x4 x6 x7 (x8 * ((10 : Int64))) x11 200 x10 (nI 0) σ).bind (fun q96 => (fn_X9_fugue_L199 x1 x2 x3 x4 x6 x7 (x8 * ((10 : Int64))) q96.1 x11 200 (nI 0) q96.2).bind (fun q199 => fn_X9_fugue_L79 x1 x2 x3 x4 x6 x7 n (x8 * ((10 : Int64))) q96.1 (x11 + nI 1) q199)))
def fn_X9_fugue (σ : dc_HP) (x1 : Int32) (x2 : Int32) (x3 : Int32) (x4 : Int32) (x5 : Int32) (x6 : Int32) (x7 : Int32) : Option (Int64 × dc_HP) := (fn_X9_fugueGood x1 x2 x3 x4 x5).bind (fun r8 => (if r8 = 0 then some ((-1000000000000000002 : Int64), σ) else (fn_X9_in x6.toInt64 ((0 : Int64)) ((1 : Int64))).bind (fun r19 => (if r19 = 0 then some ((-1000000000000000002 : Int64), σ) else (fn_X9_in x7.toInt64 ((0 : Int64)) ((1 : Int64))).bind (fun r30 => (if r30 = 0 then some ((-1000000000000000002 : Int64), σ) else (fn_X9_fugue_L43 x1 x2 x3 x4 x5 x6 x7 200 (nI 0) σ).bind (fun q43 => (fn_X9_fugue_L79 x1 x2 x3 x4 x6 x7 200 ((1 : Int64)) (nI 0) (nI 0) q43).bind (fun q79 => (if x6 = (nI 1) then (if q79.2.1 = 0 then some ((0 : Int64), q79.2.2) else some ((1 : Int64), q79.2.2)) else if x1 < 0 ∨ 10 ≤ x1.toNatClampNeg then none else (fn_X9_lowest (q79.2.2.2 73 x1.toNatClampNeg) q79.1 x7).bind (fun r261 => some (r261, q79.2.2)))))))))))
def fn_X9_actBy (x0 : Int32) : Option (Int32) := (if (nI 3) ≤ x0 then (if x0 = (nI 3) then some (nI 5) else (if (nI 6) ≤ x0 then (if x0 = (nI 6) then some (nI 2) else some (nI 3)) else some (nI 1))) else some (nI 0))
def fn_X9_year_L59 (x2 : Int32) (x3 : Int32) : Nat → Int32 → Int32 → dc_HP → Option (dc_HP)
  | 0, _, _, _ => none
  | n + 1, x4, x5, σ => (if x2 ≤ x5 then some σ else (fn_X9_actBy (((((((75 : Int64)) * x4.toInt64) + ((74 : Int64))) - ((((75 : Int64)) * x4.toInt64) + ((74 : Int64))) / ((65537 : Int64)) * ((65537 : Int64))).toInt32) - ((((((75 : Int64)) * x4.toInt64) + ((74 : Int64))) - ((((75 : Int64)) * x4.toInt64) + ((74 : Int64))) / ((65537 : Int64)) * ((65537 : Int64))).toInt32) / (nI 8) * (nI 8))).bind (fun r88 => ((if r88 = 0 then some (nI 6) else some (nI 8))).bind (fun q100 => if q100 = 0 then none else ((if r88 = (nI 1) then some ((nI 10) * ((nI 1) + ((((((((75 : Int64)) * x4.toInt64) + ((74 : Int64))) - ((((75 : Int64)) * x4.toInt64) + ((74 : Int64))) / ((65537 : Int64)) * ((65537 : Int64))).toInt32) / (nI 64)) - (((((((75 : Int64)) * x4.toInt64) + ((74 : Int64))) - ((((75 : Int64)) * x4.toInt64) + ((74 : Int64))) / ((65537 : Int64)) * ((65537 : Int64))).toInt32) / (nI 64)) / (nI 9) * (nI 9)))) else some ((((((((75 : Int64)) * x4.toInt64) + ((74 : Int64))) - ((((75 : Int64)) * x4.toInt64) + ((74 : Int64))) / ((65537 : Int64)) * ((65537 : Int64))).toInt32) / (nI 64)) - (((((((75 : Int64)) * x4.toInt64) + ((74 : Int64))) - ((((75 : Int64)) * x4.toInt64) + ((74 : Int64))) / ((65537 : Int64)) * ((65537 : Int64))).toInt32) / (nI 64)) / (nI 8) * (nI 8)))).bind (fun q116 => (fn_X9_whyNot σ r88 ((((((((75 : Int64)) * x4.toInt64) + ((74 : Int64))) - ((((75 : Int64)) * x4.toInt64) + ((74 : Int64))) / ((65537 : Int64)) * ((65537 : Int64))).toInt32) / (nI 8)) - (((((((75 : Int64)) * x4.toInt64) + ((74 : Int64))) - ((((75 : Int64)) * x4.toInt64) + ((74 : Int64))) / ((65537 : Int64)) * ((65537 : Int64))).toInt32) / (nI 8)) / q100 * q100) q116).bind (fun r152 => (if r152 = 0 then (fn_X9_happen σ r88 ((((((((75 : Int64)) * x4.toInt64) + ((74 : Int64))) - ((((75 : Int64)) * x4.toInt64) + ((74 : Int64))) / ((65537 : Int64)) * ((65537 : Int64))).toInt32) / (nI 8)) - (((((((75 : Int64)) * x4.toInt64) + ((74 : Int64))) - ((((75 : Int64)) * x4.toInt64) + ((74 : Int64))) / ((65537 : Int64)) * ((65537 : Int64))).toInt32) / (nI 8)) / q100 * q100) q116).bind (fun r165 => fn_X9_year_L59 x2 x3 n ((((((75 : Int64)) * x4.toInt64) + ((74 : Int64))) - ((((75 : Int64)) * x4.toInt64) + ((74 : Int64))) / ((65537 : Int64)) * ((65537 : Int64))).toInt32) (x5 + nI 1) r165) else fn_X9_year_L59 x2 x3 n ((((((75 : Int64)) * x4.toInt64) + ((74 : Int64))) - ((((75 : Int64)) * x4.toInt64) + ((74 : Int64))) / ((65537 : Int64)) * ((65537 : Int64))).toInt32) (x5 + nI 1) σ))))))
def fn_X9_year (σ : dc_HP) (x1 : Int32) (x2 : Int32) (x3 : Int32) : Option (Int32 × dc_HP) := (fn_X9_in x1.toInt64 ((0 : Int64)) ((9999 : Int64))).bind (fun r6 => (if r6 = 0 then some ((-2 : Int32), σ) else (fn_X9_in x2.toInt64 ((1 : Int64)) ((99 : Int64))).bind (fun r18 => (if r18 = 0 then some ((-2 : Int32), σ) else (fn_X9_in x3.toInt64 ((0 : Int64)) ((2 : Int64))).bind (fun r30 => (if r30 = 0 then some ((-2 : Int32), σ) else (fn_X9_keepNow σ).bind (fun r40 => dc_let (dc_wI r40 55 18 (nI 0)) (fun s45 => dc_let (dc_wI s45 55 19 (nI 0)) (fun s50 => (fn_X9_year_L59 x2 x3 200 x1 (nI 0) s50).bind (fun q59 => ((if x3 = 0 then (fn_X9_allDebts q59).bind (fun r179 => some r179) else (if x3 = (nI 1) then (fn_X9_owing q59).bind (fun r195 => (fn_X9_bitsOf ((q59.1 55 0) &&& (r195 ^^^ ((-1 : Int32))))).bind (fun r201 => some r201)) else some (q59.1 55 18)))).bind (fun q175 => (fn_X9_back q59 q175).bind (fun r216 => some (r216.1, r216.2)))))))))))))
def fn_X9_pass (σ : dc_HP) (x1 : Int32) : Option (Int32 × dc_HP) := ((if (σ.1 55 35) = 0 then if (σ.1 55 34) < 0 ∨ 180 ≤ (σ.1 55 34).toNatClampNeg then none else some (σ.1 75 (σ.1 55 34).toNatClampNeg) else some x1)).bind (fun q4 => if (σ.1 55 34) < 0 ∨ 180 ≤ (σ.1 55 34).toNatClampNeg then none else dc_let (dc_wI σ 75 (σ.1 55 34).toNatClampNeg q4) (fun s30 => dc_let (dc_wI s30 55 34 ((s30.1 55 34) + (nI 1))) (fun s38 => some (q4, s38))))
def fn_X9_passRow_L2 (q1 : Nat) (x2 : Int32) : Nat → Int32 → dc_HP → Option (dc_HP)
  | 0, _, _ => none
  | n + 1, x3, σ => (if x2 ≤ x3 then some σ else if x3 < 0 ∨ dc_len q1 ≤ x3.toNatClampNeg then none else (fn_X9_pass σ (σ.1 q1 x3.toNatClampNeg)).bind (fun r13 => if x3 < 0 ∨ dc_len q1 ≤ x3.toNatClampNeg then none else dc_let (dc_wI r13.2 q1 x3.toNatClampNeg r13.1) (fun s16 => fn_X9_passRow_L2 q1 x2 n (x3 + nI 1) s16)))
def fn_X9_passRow (σ : dc_HP) (q1 : Nat) (x2 : Int32) : Option (dc_HP) := (fn_X9_passRow_L2 q1 x2 200 (nI 0) σ).bind (fun q2 => some q2)
def fn_X9_passAll (σ : dc_HP) : Option (dc_HP) := (fn_X9_pass σ (σ.1 55 0)).bind (fun r6 => dc_let (dc_wI r6.2 55 0 r6.1) (fun s9 => (fn_X9_pass s9 (s9.1 55 1)).bind (fun r18 => dc_let (dc_wI r18.2 55 1 r18.1) (fun s21 => (fn_X9_pass s21 (s21.1 55 2)).bind (fun r30 => dc_let (dc_wI r30.2 55 2 r30.1) (fun s33 => (fn_X9_pass s33 (s33.1 55 3)).bind (fun r42 => dc_let (dc_wI r42.2 55 3 r42.1) (fun s45 => (fn_X9_pass s45 (s45.1 55 11)).bind (fun r54 => dc_let (dc_wI r54.2 55 11 r54.1) (fun s57 => (fn_X9_passRow s57 56 (nI 8)).bind (fun r67 => (fn_X9_passRow r67 57 (nI 8)).bind (fun r77 => (fn_X9_passRow r77 58 (nI 24)).bind (fun r87 => (fn_X9_passRow r87 59 (nI 6)).bind (fun r97 => (fn_X9_passRow r97 60 (nI 6)).bind (fun r107 => (fn_X9_passRow r107 61 (nI 8)).bind (fun r117 => (fn_X9_passRow r117 62 (nI 8)).bind (fun r127 => some r127)))))))))))))))))
def fn_X9_image (σ : dc_HP) (x1 : Int32) : Option (Int32 × dc_HP) := (fn_X9_in x1.toInt64 ((0 : Int64)) ((1 : Int64))).bind (fun r4 => (if r4 = 0 then some ((-2 : Int32), σ) else dc_let (dc_wI σ 55 34 ((nI 90) * x1)) (fun s18 => dc_let (dc_wI s18 55 35 (nI 1)) (fun s23 => (fn_X9_passAll s23).bind (fun r27 => if x1 < 0 ∨ 2 ≤ x1.toNatClampNeg then none else dc_let (dc_wI r27 76 x1.toNatClampNeg (nI 1)) (fun s36 => some (nI 1, s36)))))))
def fn_X9_restore (σ : dc_HP) (x1 : Int32) : Option (Int32 × dc_HP) := (fn_X9_in x1.toInt64 ((0 : Int64)) ((1 : Int64))).bind (fun r4 => (if r4 = 0 then some ((-2 : Int32), σ) else if x1 < 0 ∨ 2 ≤ x1.toNatClampNeg then none else (if (σ.1 76 x1.toNatClampNeg) = 0 then some ((-3 : Int32), σ) else dc_let (dc_wI σ 55 34 ((nI 90) * x1)) (fun s30 => dc_let (dc_wI s30 55 35 (nI 0)) (fun s35 => (fn_X9_passAll s35).bind (fun r39 => some (nI 1, r39)))))))
def fn_X9_toldOfSinger (σ : dc_HP) (x1 : Int32) (x2 : Int32) : Option (Int32) := (fn_X9_isSinger σ x1).bind (fun r2 => (if r2 = 0 then some ((-2 : Int32)) else (if x2 = 0 then if x1 < 0 ∨ 8 ≤ x1.toNatClampNeg then none else some (σ.1 56 x1.toNatClampNeg) else (if x2 = (nI 1) then if x1 < 0 ∨ 8 ≤ x1.toNatClampNeg then none else some (σ.1 57 x1.toNatClampNeg) else (if x2 = (nI 2) then some (((σ.1 55 1) >>> (x1 &&& 31)) &&& (nI 1)) else (if x2 = (nI 3) then some (((σ.1 55 2) >>> (x1 &&& 31)) &&& (nI 1)) else some ((-2 : Int32))))))))
def fn_X9_toldOfPiece (σ : dc_HP) (x1 : Int32) (x2 : Int32) : Option (Int32) := (if (nI 4) ≤ x2 then (if x2 = (nI 4) then if x1 < 0 ∨ 6 ≤ x1.toNatClampNeg then none else some (σ.1 59 x1.toNatClampNeg) else (if x2 = (nI 5) then if x1 < 0 ∨ 6 ≤ x1.toNatClampNeg then none else some (σ.1 60 x1.toNatClampNeg) else some ((-2 : Int32)))) else if (((nI 4) * x1) + x2) < 0 ∨ 24 ≤ (((nI 4) * x1) + x2).toNatClampNeg then none else some (σ.1 58 (((nI 4) * x1) + x2).toNatClampNeg))
def fn_X9_told (σ : dc_HP) (x1 : Int32) : Option (Int32) := (fn_X9_in x1.toInt64 ((100 : Int64)) ((159 : Int64))).bind (fun r8 => (if r8 = 0 then (fn_X9_in x1.toInt64 ((10 : Int64)) ((89 : Int64))).bind (fun r38 => (if r38 = 0 then (if x1 = nI 0 then some (σ.1 55 13) else if x1 = nI 1 then some (σ.1 55 0) else if x1 = nI 2 then some (σ.1 55 3) else if x1 = nI 3 then some (σ.1 55 11) else some ((-2 : Int32))) else (fn_X9_toldOfSinger σ ((x1 / (nI 10)) - (nI 1)) (x1 - x1 / (nI 10) * (nI 10))).bind (fun r55 => some r55))) else (fn_X9_toldOfPiece σ ((x1 - (nI 100)) / (nI 10)) (x1 - x1 / (nI 10) * (nI 10))).bind (fun r26 => some r26)))
end
