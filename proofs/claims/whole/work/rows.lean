section
-- ===== PART A: goes FIRST, ahead of the names: the tables' words, and 'selects' of the private methods out of them =====
/-- a private method of a class that the tables say can be made, by its rows of tables_1 -/
def lw_okq (q : MethodName × Nat) : Prop := (q.1.cls ≠ "java/lang/invoke/MethodHandle" ∧ q.1.cls ≠ "java/lang/invoke/VarHandle") ∧ Cond.instantiable q.1.cls q.2 ∈ tables_1 ∧ Cond.privateMethod q.1 ∈ tables_1 ∧ Cond.instanceMethod q.1 ∈ tables_1
theorem lw_p0 : lw_okq (⟨"DebtChoir$Pad", "faultIn", "(I)I"⟩, 2) := ⟨⟨by decide +kernel, by decide +kernel⟩, List.mem_of_getElem? (i := 93) (by decide +kernel), List.mem_of_getElem? (i := 329) (by decide +kernel), List.mem_of_getElem? (i := 330) (by decide +kernel)⟩
theorem lw_p1 : lw_okq (⟨"DebtChoir$Trial", "act", "(III)I"⟩, 7) := ⟨⟨by decide +kernel, by decide +kernel⟩, List.mem_of_getElem? (i := 108) (by decide +kernel), List.mem_of_getElem? (i := 374) (by decide +kernel), List.mem_of_getElem? (i := 375) (by decide +kernel)⟩
theorem lw_p2 : lw_okq (⟨"DebtChoir$Choir", "owe", "(II)V"⟩, 10) := ⟨⟨by decide +kernel, by decide +kernel⟩, List.mem_of_getElem? (i := 23) (by decide +kernel), List.mem_of_getElem? (i := 392) (by decide +kernel), List.mem_of_getElem? (i := 393) (by decide +kernel)⟩
theorem lw_p3 : lw_okq (⟨"DebtChoir$Choir", "withBreath", "(I)I"⟩, 10) := ⟨⟨by decide +kernel, by decide +kernel⟩, List.mem_of_getElem? (i := 23) (by decide +kernel), List.mem_of_getElem? (i := 409) (by decide +kernel), List.mem_of_getElem? (i := 410) (by decide +kernel)⟩
theorem lw_p4 : lw_okq (⟨"DebtChoir$Choir", "deepestOf", "(I)I"⟩, 10) := ⟨⟨by decide +kernel, by decide +kernel⟩, List.mem_of_getElem? (i := 23) (by decide +kernel), List.mem_of_getElem? (i := 419) (by decide +kernel), List.mem_of_getElem? (i := 420) (by decide +kernel)⟩
theorem lw_p5 : lw_okq (⟨"DebtChoir$Choir", "singOff", "(II)V"⟩, 10) := ⟨⟨by decide +kernel, by decide +kernel⟩, List.mem_of_getElem? (i := 23) (by decide +kernel), List.mem_of_getElem? (i := 432) (by decide +kernel), List.mem_of_getElem? (i := 433) (by decide +kernel)⟩
theorem lw_p6 : lw_okq (⟨"DebtChoir$Trial", "noteFreed", "(I)V"⟩, 7) := ⟨⟨by decide +kernel, by decide +kernel⟩, List.mem_of_getElem? (i := 108) (by decide +kernel), List.mem_of_getElem? (i := 452) (by decide +kernel), List.mem_of_getElem? (i := 453) (by decide +kernel)⟩
theorem lw_p7 : lw_okq (⟨"DebtChoir$Nights", "takePays", "(LDebtChoir$Choir;I)V"⟩, 4) := ⟨⟨by decide +kernel, by decide +kernel⟩, List.mem_of_getElem? (i := 145) (by decide +kernel), List.mem_of_getElem? (i := 502) (by decide +kernel), List.mem_of_getElem? (i := 503) (by decide +kernel)⟩
theorem lw_p8 : lw_okq (⟨"DebtChoir$Nights", "fewestFrom", "(II)I"⟩, 4) := ⟨⟨by decide +kernel, by decide +kernel⟩, List.mem_of_getElem? (i := 145) (by decide +kernel), List.mem_of_getElem? (i := 508) (by decide +kernel), List.mem_of_getElem? (i := 509) (by decide +kernel)⟩
theorem lw_p9 : lw_okq (⟨"DebtChoir$Nights", "afterPiece", "(II)I"⟩, 4) := ⟨⟨by decide +kernel, by decide +kernel⟩, List.mem_of_getElem? (i := 145) (by decide +kernel), List.mem_of_getElem? (i := 512) (by decide +kernel), List.mem_of_getElem? (i := 513) (by decide +kernel)⟩
theorem lw_p10 : lw_okq (⟨"DebtChoir$Nights", "leastLeft", "(II)I"⟩, 4) := ⟨⟨by decide +kernel, by decide +kernel⟩, List.mem_of_getElem? (i := 145) (by decide +kernel), List.mem_of_getElem? (i := 520) (by decide +kernel), List.mem_of_getElem? (i := 521) (by decide +kernel)⟩
theorem lw_p11 : lw_okq (⟨"DebtChoir$Rings", "bestLeft", "(I)I"⟩, 4) := ⟨⟨by decide +kernel, by decide +kernel⟩, List.mem_of_getElem? (i := 166) (by decide +kernel), List.mem_of_getElem? (i := 571) (by decide +kernel), List.mem_of_getElem? (i := 572) (by decide +kernel)⟩
theorem lw_p12 : lw_okq (⟨"DebtChoir$Rings", "isInRing", "(I)Z"⟩, 4) := ⟨⟨by decide +kernel, by decide +kernel⟩, List.mem_of_getElem? (i := 166) (by decide +kernel), List.mem_of_getElem? (i := 577) (by decide +kernel), List.mem_of_getElem? (i := 578) (by decide +kernel)⟩
theorem lw_p13 : lw_okq (⟨"DebtChoir$Sights", "fitsAll", "(I)Z"⟩, 6) := ⟨⟨by decide +kernel, by decide +kernel⟩, List.mem_of_getElem? (i := 66) (by decide +kernel), List.mem_of_getElem? (i := 611) (by decide +kernel), List.mem_of_getElem? (i := 612) (by decide +kernel)⟩
theorem lw_p14 : lw_okq (⟨"DebtChoir", "tellPiece", "(II)I"⟩, 9) := ⟨⟨by decide +kernel, by decide +kernel⟩, List.mem_of_getElem? (i := 15) (by decide +kernel), List.mem_of_getElem? (i := 691) (by decide +kernel), List.mem_of_getElem? (i := 692) (by decide +kernel)⟩
theorem lw_p15 : lw_okq (⟨"DebtChoir", "tellSinger", "(II)I"⟩, 9) := ⟨⟨by decide +kernel, by decide +kernel⟩, List.mem_of_getElem? (i := 15) (by decide +kernel), List.mem_of_getElem? (i := 696) (by decide +kernel), List.mem_of_getElem? (i := 697) (by decide +kernel)⟩
def lw_privs_1 : List (MethodName × Nat) := [(⟨"DebtChoir$Pad", "faultIn", "(I)I"⟩, 2), (⟨"DebtChoir$Trial", "act", "(III)I"⟩, 7), (⟨"DebtChoir$Choir", "owe", "(II)V"⟩, 10), (⟨"DebtChoir$Choir", "withBreath", "(I)I"⟩, 10), (⟨"DebtChoir$Choir", "deepestOf", "(I)I"⟩, 10), (⟨"DebtChoir$Choir", "singOff", "(II)V"⟩, 10), (⟨"DebtChoir$Trial", "noteFreed", "(I)V"⟩, 7), (⟨"DebtChoir$Nights", "takePays", "(LDebtChoir$Choir;I)V"⟩, 4), (⟨"DebtChoir$Nights", "fewestFrom", "(II)I"⟩, 4), (⟨"DebtChoir$Nights", "afterPiece", "(II)I"⟩, 4), (⟨"DebtChoir$Nights", "leastLeft", "(II)I"⟩, 4), (⟨"DebtChoir$Rings", "bestLeft", "(I)I"⟩, 4), (⟨"DebtChoir$Rings", "isInRing", "(I)Z"⟩, 4), (⟨"DebtChoir$Sights", "fitsAll", "(I)Z"⟩, 6), (⟨"DebtChoir", "tellPiece", "(II)I"⟩, 9), (⟨"DebtChoir", "tellSinger", "(II)I"⟩, 9)]
theorem lw_r1 : ∀ q ∈ lw_privs_1, lw_okq q := List.forall_mem_cons.mpr ⟨lw_p0, List.forall_mem_cons.mpr ⟨lw_p1, List.forall_mem_cons.mpr ⟨lw_p2, List.forall_mem_cons.mpr ⟨lw_p3, List.forall_mem_cons.mpr ⟨lw_p4, List.forall_mem_cons.mpr ⟨lw_p5, List.forall_mem_cons.mpr ⟨lw_p6, List.forall_mem_cons.mpr ⟨lw_p7, List.forall_mem_cons.mpr ⟨lw_p8, List.forall_mem_cons.mpr ⟨lw_p9, List.forall_mem_cons.mpr ⟨lw_p10, List.forall_mem_cons.mpr ⟨lw_p11, List.forall_mem_cons.mpr ⟨lw_p12, List.forall_mem_cons.mpr ⟨lw_p13, List.forall_mem_cons.mpr ⟨lw_p14, List.forall_mem_cons.mpr ⟨lw_p15, fun _ h => absurd h List.not_mem_nil⟩⟩⟩⟩⟩⟩⟩⟩⟩⟩⟩⟩⟩⟩⟩⟩
theorem lw_p16 : lw_okq (⟨"DebtChoirModel", "isSinger", "(I)Z"⟩, 36) := ⟨⟨by decide +kernel, by decide +kernel⟩, List.mem_of_getElem? (i := 701) (by decide +kernel), List.mem_of_getElem? (i := 834) (by decide +kernel), List.mem_of_getElem? (i := 835) (by decide +kernel)⟩
theorem lw_p17 : lw_okq (⟨"DebtChoirModel", "readOn", "(II)I"⟩, 36) := ⟨⟨by decide +kernel, by decide +kernel⟩, List.mem_of_getElem? (i := 701) (by decide +kernel), List.mem_of_getElem? (i := 863) (by decide +kernel), List.mem_of_getElem? (i := 864) (by decide +kernel)⟩
theorem lw_p18 : lw_okq (⟨"DebtChoirModel", "begin", "(I)I"⟩, 36) := ⟨⟨by decide +kernel, by decide +kernel⟩, List.mem_of_getElem? (i := 701) (by decide +kernel), List.mem_of_getElem? (i := 867) (by decide +kernel), List.mem_of_getElem? (i := 868) (by decide +kernel)⟩
theorem lw_p19 : lw_okq (⟨"DebtChoirModel", "close", "(II)I"⟩, 36) := ⟨⟨by decide +kernel, by decide +kernel⟩, List.mem_of_getElem? (i := 701) (by decide +kernel), List.mem_of_getElem? (i := 875) (by decide +kernel), List.mem_of_getElem? (i := 876) (by decide +kernel)⟩
theorem lw_p20 : lw_okq (⟨"DebtChoirModel", "refusal", "()I"⟩, 36) := ⟨⟨by decide +kernel, by decide +kernel⟩, List.mem_of_getElem? (i := 701) (by decide +kernel), List.mem_of_getElem? (i := 886) (by decide +kernel), List.mem_of_getElem? (i := 887) (by decide +kernel)⟩
theorem lw_p21 : lw_okq (⟨"DebtChoirModel", "keepNow", "()V"⟩, 36) := ⟨⟨by decide +kernel, by decide +kernel⟩, List.mem_of_getElem? (i := 701) (by decide +kernel), List.mem_of_getElem? (i := 890) (by decide +kernel), List.mem_of_getElem? (i := 891) (by decide +kernel)⟩
theorem lw_p22 : lw_okq (⟨"DebtChoirModel", "goEvenings", "()V"⟩, 36) := ⟨⟨by decide +kernel, by decide +kernel⟩, List.mem_of_getElem? (i := 701) (by decide +kernel), List.mem_of_getElem? (i := 895) (by decide +kernel), List.mem_of_getElem? (i := 896) (by decide +kernel)⟩
theorem lw_p23 : lw_okq (⟨"DebtChoirModel", "whyNot", "(III)I"⟩, 36) := ⟨⟨by decide +kernel, by decide +kernel⟩, List.mem_of_getElem? (i := 701) (by decide +kernel), List.mem_of_getElem? (i := 899) (by decide +kernel), List.mem_of_getElem? (i := 900) (by decide +kernel)⟩
theorem lw_p24 : lw_okq (⟨"DebtChoirModel", "canBeSung", "(I)Z"⟩, 36) := ⟨⟨by decide +kernel, by decide +kernel⟩, List.mem_of_getElem? (i := 701) (by decide +kernel), List.mem_of_getElem? (i := 903) (by decide +kernel), List.mem_of_getElem? (i := 904) (by decide +kernel)⟩
theorem lw_p25 : lw_okq (⟨"DebtChoirModel", "ready", "(IZ)I"⟩, 36) := ⟨⟨by decide +kernel, by decide +kernel⟩, List.mem_of_getElem? (i := 701) (by decide +kernel), List.mem_of_getElem? (i := 907) (by decide +kernel), List.mem_of_getElem? (i := 908) (by decide +kernel)⟩
theorem lw_p26 : lw_okq (⟨"DebtChoirModel", "mayHere", "(II)Z"⟩, 36) := ⟨⟨by decide +kernel, by decide +kernel⟩, List.mem_of_getElem? (i := 701) (by decide +kernel), List.mem_of_getElem? (i := 911) (by decide +kernel), List.mem_of_getElem? (i := 912) (by decide +kernel)⟩
theorem lw_p27 : lw_okq (⟨"DebtChoirModel", "whyNotTake", "(II)I"⟩, 36) := ⟨⟨by decide +kernel, by decide +kernel⟩, List.mem_of_getElem? (i := 701) (by decide +kernel), List.mem_of_getElem? (i := 915) (by decide +kernel), List.mem_of_getElem? (i := 916) (by decide +kernel)⟩
theorem lw_p28 : lw_okq (⟨"DebtChoirModel", "goOne", "(I)V"⟩, 36) := ⟨⟨by decide +kernel, by decide +kernel⟩, List.mem_of_getElem? (i := 701) (by decide +kernel), List.mem_of_getElem? (i := 919) (by decide +kernel), List.mem_of_getElem? (i := 920) (by decide +kernel)⟩
theorem lw_p29 : lw_okq (⟨"DebtChoirModel", "owing", "()I"⟩, 36) := ⟨⟨by decide +kernel, by decide +kernel⟩, List.mem_of_getElem? (i := 701) (by decide +kernel), List.mem_of_getElem? (i := 923) (by decide +kernel), List.mem_of_getElem? (i := 924) (by decide +kernel)⟩
theorem lw_p30 : lw_okq (⟨"DebtChoirModel", "happen", "(III)V"⟩, 36) := ⟨⟨by decide +kernel, by decide +kernel⟩, List.mem_of_getElem? (i := 701) (by decide +kernel), List.mem_of_getElem? (i := 927) (by decide +kernel), List.mem_of_getElem? (i := 928) (by decide +kernel)⟩
theorem lw_p31 : lw_okq (⟨"DebtChoirModel", "singPiece", "(I)V"⟩, 36) := ⟨⟨by decide +kernel, by decide +kernel⟩, List.mem_of_getElem? (i := 701) (by decide +kernel), List.mem_of_getElem? (i := 931) (by decide +kernel), List.mem_of_getElem? (i := 932) (by decide +kernel)⟩
def lw_privs_2 : List (MethodName × Nat) := [(⟨"DebtChoirModel", "isSinger", "(I)Z"⟩, 36), (⟨"DebtChoirModel", "readOn", "(II)I"⟩, 36), (⟨"DebtChoirModel", "begin", "(I)I"⟩, 36), (⟨"DebtChoirModel", "close", "(II)I"⟩, 36), (⟨"DebtChoirModel", "refusal", "()I"⟩, 36), (⟨"DebtChoirModel", "keepNow", "()V"⟩, 36), (⟨"DebtChoirModel", "goEvenings", "()V"⟩, 36), (⟨"DebtChoirModel", "whyNot", "(III)I"⟩, 36), (⟨"DebtChoirModel", "canBeSung", "(I)Z"⟩, 36), (⟨"DebtChoirModel", "ready", "(IZ)I"⟩, 36), (⟨"DebtChoirModel", "mayHere", "(II)Z"⟩, 36), (⟨"DebtChoirModel", "whyNotTake", "(II)I"⟩, 36), (⟨"DebtChoirModel", "goOne", "(I)V"⟩, 36), (⟨"DebtChoirModel", "owing", "()I"⟩, 36), (⟨"DebtChoirModel", "happen", "(III)V"⟩, 36), (⟨"DebtChoirModel", "singPiece", "(I)V"⟩, 36)]
theorem lw_r2 : ∀ q ∈ lw_privs_2, lw_okq q := List.forall_mem_cons.mpr ⟨lw_p16, List.forall_mem_cons.mpr ⟨lw_p17, List.forall_mem_cons.mpr ⟨lw_p18, List.forall_mem_cons.mpr ⟨lw_p19, List.forall_mem_cons.mpr ⟨lw_p20, List.forall_mem_cons.mpr ⟨lw_p21, List.forall_mem_cons.mpr ⟨lw_p22, List.forall_mem_cons.mpr ⟨lw_p23, List.forall_mem_cons.mpr ⟨lw_p24, List.forall_mem_cons.mpr ⟨lw_p25, List.forall_mem_cons.mpr ⟨lw_p26, List.forall_mem_cons.mpr ⟨lw_p27, List.forall_mem_cons.mpr ⟨lw_p28, List.forall_mem_cons.mpr ⟨lw_p29, List.forall_mem_cons.mpr ⟨lw_p30, List.forall_mem_cons.mpr ⟨lw_p31, fun _ h => absurd h List.not_mem_nil⟩⟩⟩⟩⟩⟩⟩⟩⟩⟩⟩⟩⟩⟩⟩⟩
theorem lw_p32 : lw_okq (⟨"DebtChoirModel", "singOne", "(II)V"⟩, 36) := ⟨⟨by decide +kernel, by decide +kernel⟩, List.mem_of_getElem? (i := 701) (by decide +kernel), List.mem_of_getElem? (i := 935) (by decide +kernel), List.mem_of_getElem? (i := 936) (by decide +kernel)⟩
theorem lw_p33 : lw_okq (⟨"DebtChoirModel", "endEvening", "()V"⟩, 36) := ⟨⟨by decide +kernel, by decide +kernel⟩, List.mem_of_getElem? (i := 701) (by decide +kernel), List.mem_of_getElem? (i := 939) (by decide +kernel), List.mem_of_getElem? (i := 940) (by decide +kernel)⟩
theorem lw_p34 : lw_okq (⟨"DebtChoirModel", "back", "(I)I"⟩, 36) := ⟨⟨by decide +kernel, by decide +kernel⟩, List.mem_of_getElem? (i := 701) (by decide +kernel), List.mem_of_getElem? (i := 946) (by decide +kernel), List.mem_of_getElem? (i := 947) (by decide +kernel)⟩
theorem lw_p35 : lw_okq (⟨"DebtChoirModel", "allDebts", "()I"⟩, 36) := ⟨⟨by decide +kernel, by decide +kernel⟩, List.mem_of_getElem? (i := 701) (by decide +kernel), List.mem_of_getElem? (i := 958) (by decide +kernel), List.mem_of_getElem? (i := 959) (by decide +kernel)⟩
theorem lw_p36 : lw_okq (⟨"DebtChoirModel", "fewestNights", "(III)I"⟩, 36) := ⟨⟨by decide +kernel, by decide +kernel⟩, List.mem_of_getElem? (i := 701) (by decide +kernel), List.mem_of_getElem? (i := 978) (by decide +kernel), List.mem_of_getElem? (i := 979) (by decide +kernel)⟩
theorem lw_p37 : lw_okq (⟨"DebtChoirModel", "bestOwed", "(II)I"⟩, 36) := ⟨⟨by decide +kernel, by decide +kernel⟩, List.mem_of_getElem? (i := 701) (by decide +kernel), List.mem_of_getElem? (i := 982) (by decide +kernel), List.mem_of_getElem? (i := 983) (by decide +kernel)⟩
theorem lw_p38 : lw_okq (⟨"DebtChoirModel", "isFor", "(II)Z"⟩, 36) := ⟨⟨by decide +kernel, by decide +kernel⟩, List.mem_of_getElem? (i := 701) (by decide +kernel), List.mem_of_getElem? (i := 986) (by decide +kernel), List.mem_of_getElem? (i := 987) (by decide +kernel)⟩
theorem lw_p39 : lw_okq (⟨"DebtChoirModel", "firstNight", "(II)I"⟩, 36) := ⟨⟨by decide +kernel, by decide +kernel⟩, List.mem_of_getElem? (i := 701) (by decide +kernel), List.mem_of_getElem? (i := 993) (by decide +kernel), List.mem_of_getElem? (i := 994) (by decide +kernel)⟩
theorem lw_p40 : lw_okq (⟨"DebtChoirModel", "barsOf", "(I)I"⟩, 36) := ⟨⟨by decide +kernel, by decide +kernel⟩, List.mem_of_getElem? (i := 701) (by decide +kernel), List.mem_of_getElem? (i := 1002) (by decide +kernel), List.mem_of_getElem? (i := 1003) (by decide +kernel)⟩
theorem lw_p41 : lw_okq (⟨"DebtChoirModel", "paysOf", "(I)I"⟩, 36) := ⟨⟨by decide +kernel, by decide +kernel⟩, List.mem_of_getElem? (i := 701) (by decide +kernel), List.mem_of_getElem? (i := 1006) (by decide +kernel), List.mem_of_getElem? (i := 1007) (by decide +kernel)⟩
theorem lw_p42 : lw_okq (⟨"DebtChoirModel", "needsOf", "(I)I"⟩, 36) := ⟨⟨by decide +kernel, by decide +kernel⟩, List.mem_of_getElem? (i := 701) (by decide +kernel), List.mem_of_getElem? (i := 1010) (by decide +kernel), List.mem_of_getElem? (i := 1011) (by decide +kernel)⟩
theorem lw_p43 : lw_okq (⟨"DebtChoirModel", "ruined", "(II)I"⟩, 36) := ⟨⟨by decide +kernel, by decide +kernel⟩, List.mem_of_getElem? (i := 701) (by decide +kernel), List.mem_of_getElem? (i := 1018) (by decide +kernel), List.mem_of_getElem? (i := 1019) (by decide +kernel)⟩
theorem lw_p44 : lw_okq (⟨"DebtChoirModel", "ahead", "(I)I"⟩, 36) := ⟨⟨by decide +kernel, by decide +kernel⟩, List.mem_of_getElem? (i := 701) (by decide +kernel), List.mem_of_getElem? (i := 1028) (by decide +kernel), List.mem_of_getElem? (i := 1029) (by decide +kernel)⟩
theorem lw_p45 : lw_okq (⟨"DebtChoirModel", "areRanks", "(II)Z"⟩, 36) := ⟨⟨by decide +kernel, by decide +kernel⟩, List.mem_of_getElem? (i := 701) (by decide +kernel), List.mem_of_getElem? (i := 1036) (by decide +kernel), List.mem_of_getElem? (i := 1037) (by decide +kernel)⟩
theorem lw_p46 : lw_okq (⟨"DebtChoirModel", "deal", "()V"⟩, 36) := ⟨⟨by decide +kernel, by decide +kernel⟩, List.mem_of_getElem? (i := 701) (by decide +kernel), List.mem_of_getElem? (i := 1041) (by decide +kernel), List.mem_of_getElem? (i := 1042) (by decide +kernel)⟩
theorem lw_p47 : lw_okq (⟨"DebtChoirModel", "ringed", "(I)I"⟩, 36) := ⟨⟨by decide +kernel, by decide +kernel⟩, List.mem_of_getElem? (i := 701) (by decide +kernel), List.mem_of_getElem? (i := 1045) (by decide +kernel), List.mem_of_getElem? (i := 1046) (by decide +kernel)⟩
def lw_privs_3 : List (MethodName × Nat) := [(⟨"DebtChoirModel", "singOne", "(II)V"⟩, 36), (⟨"DebtChoirModel", "endEvening", "()V"⟩, 36), (⟨"DebtChoirModel", "back", "(I)I"⟩, 36), (⟨"DebtChoirModel", "allDebts", "()I"⟩, 36), (⟨"DebtChoirModel", "fewestNights", "(III)I"⟩, 36), (⟨"DebtChoirModel", "bestOwed", "(II)I"⟩, 36), (⟨"DebtChoirModel", "isFor", "(II)Z"⟩, 36), (⟨"DebtChoirModel", "firstNight", "(II)I"⟩, 36), (⟨"DebtChoirModel", "barsOf", "(I)I"⟩, 36), (⟨"DebtChoirModel", "paysOf", "(I)I"⟩, 36), (⟨"DebtChoirModel", "needsOf", "(I)I"⟩, 36), (⟨"DebtChoirModel", "ruined", "(II)I"⟩, 36), (⟨"DebtChoirModel", "ahead", "(I)I"⟩, 36), (⟨"DebtChoirModel", "areRanks", "(II)Z"⟩, 36), (⟨"DebtChoirModel", "deal", "()V"⟩, 36), (⟨"DebtChoirModel", "ringed", "(I)I"⟩, 36)]
theorem lw_r3 : ∀ q ∈ lw_privs_3, lw_okq q := List.forall_mem_cons.mpr ⟨lw_p32, List.forall_mem_cons.mpr ⟨lw_p33, List.forall_mem_cons.mpr ⟨lw_p34, List.forall_mem_cons.mpr ⟨lw_p35, List.forall_mem_cons.mpr ⟨lw_p36, List.forall_mem_cons.mpr ⟨lw_p37, List.forall_mem_cons.mpr ⟨lw_p38, List.forall_mem_cons.mpr ⟨lw_p39, List.forall_mem_cons.mpr ⟨lw_p40, List.forall_mem_cons.mpr ⟨lw_p41, List.forall_mem_cons.mpr ⟨lw_p42, List.forall_mem_cons.mpr ⟨lw_p43, List.forall_mem_cons.mpr ⟨lw_p44, List.forall_mem_cons.mpr ⟨lw_p45, List.forall_mem_cons.mpr ⟨lw_p46, List.forall_mem_cons.mpr ⟨lw_p47, fun _ h => absurd h List.not_mem_nil⟩⟩⟩⟩⟩⟩⟩⟩⟩⟩⟩⟩⟩⟩⟩⟩
theorem lw_p48 : lw_okq (⟨"DebtChoirModel", "pointsTo", "(II)I"⟩, 36) := ⟨⟨by decide +kernel, by decide +kernel⟩, List.mem_of_getElem? (i := 701) (by decide +kernel), List.mem_of_getElem? (i := 1049) (by decide +kernel), List.mem_of_getElem? (i := 1050) (by decide +kernel)⟩
theorem lw_p49 : lw_okq (⟨"DebtChoirModel", "fits", "(I)Z"⟩, 36) := ⟨⟨by decide +kernel, by decide +kernel⟩, List.mem_of_getElem? (i := 701) (by decide +kernel), List.mem_of_getElem? (i := 1066) (by decide +kernel), List.mem_of_getElem? (i := 1067) (by decide +kernel)⟩
theorem lw_p50 : lw_okq (⟨"DebtChoirModel", "mostLeft", "(I)I"⟩, 36) := ⟨⟨by decide +kernel, by decide +kernel⟩, List.mem_of_getElem? (i := 701) (by decide +kernel), List.mem_of_getElem? (i := 1077) (by decide +kernel), List.mem_of_getElem? (i := 1078) (by decide +kernel)⟩
theorem lw_p51 : lw_okq (⟨"DebtChoirModel", "fugueGood", "(IIIII)Z"⟩, 36) := ⟨⟨by decide +kernel, by decide +kernel⟩, List.mem_of_getElem? (i := 701) (by decide +kernel), List.mem_of_getElem? (i := 1085) (by decide +kernel), List.mem_of_getElem? (i := 1086) (by decide +kernel)⟩
theorem lw_p52 : lw_okq (⟨"DebtChoirModel", "sung", "(II)J"⟩, 36) := ⟨⟨by decide +kernel, by decide +kernel⟩, List.mem_of_getElem? (i := 701) (by decide +kernel), List.mem_of_getElem? (i := 1092) (by decide +kernel), List.mem_of_getElem? (i := 1093) (by decide +kernel)⟩
theorem lw_p53 : lw_okq (⟨"DebtChoirModel", "passAll", "()V"⟩, 36) := ⟨⟨by decide +kernel, by decide +kernel⟩, List.mem_of_getElem? (i := 701) (by decide +kernel), List.mem_of_getElem? (i := 1117) (by decide +kernel), List.mem_of_getElem? (i := 1118) (by decide +kernel)⟩
theorem lw_p54 : lw_okq (⟨"DebtChoirModel", "pass", "(I)I"⟩, 36) := ⟨⟨by decide +kernel, by decide +kernel⟩, List.mem_of_getElem? (i := 701) (by decide +kernel), List.mem_of_getElem? (i := 1121) (by decide +kernel), List.mem_of_getElem? (i := 1122) (by decide +kernel)⟩
theorem lw_p55 : lw_okq (⟨"DebtChoirModel", "passRow", "([II)V"⟩, 36) := ⟨⟨by decide +kernel, by decide +kernel⟩, List.mem_of_getElem? (i := 701) (by decide +kernel), List.mem_of_getElem? (i := 1125) (by decide +kernel), List.mem_of_getElem? (i := 1126) (by decide +kernel)⟩
theorem lw_p56 : lw_okq (⟨"DebtChoirModel", "toldOfPiece", "(II)I"⟩, 36) := ⟨⟨by decide +kernel, by decide +kernel⟩, List.mem_of_getElem? (i := 701) (by decide +kernel), List.mem_of_getElem? (i := 1139) (by decide +kernel), List.mem_of_getElem? (i := 1140) (by decide +kernel)⟩
theorem lw_p57 : lw_okq (⟨"DebtChoirModel", "toldOfSinger", "(II)I"⟩, 36) := ⟨⟨by decide +kernel, by decide +kernel⟩, List.mem_of_getElem? (i := 701) (by decide +kernel), List.mem_of_getElem? (i := 1144) (by decide +kernel), List.mem_of_getElem? (i := 1145) (by decide +kernel)⟩
def lw_privs_4 : List (MethodName × Nat) := [(⟨"DebtChoirModel", "pointsTo", "(II)I"⟩, 36), (⟨"DebtChoirModel", "fits", "(I)Z"⟩, 36), (⟨"DebtChoirModel", "mostLeft", "(I)I"⟩, 36), (⟨"DebtChoirModel", "fugueGood", "(IIIII)Z"⟩, 36), (⟨"DebtChoirModel", "sung", "(II)J"⟩, 36), (⟨"DebtChoirModel", "passAll", "()V"⟩, 36), (⟨"DebtChoirModel", "pass", "(I)I"⟩, 36), (⟨"DebtChoirModel", "passRow", "([II)V"⟩, 36), (⟨"DebtChoirModel", "toldOfPiece", "(II)I"⟩, 36), (⟨"DebtChoirModel", "toldOfSinger", "(II)I"⟩, 36)]
theorem lw_r4 : ∀ q ∈ lw_privs_4, lw_okq q := List.forall_mem_cons.mpr ⟨lw_p48, List.forall_mem_cons.mpr ⟨lw_p49, List.forall_mem_cons.mpr ⟨lw_p50, List.forall_mem_cons.mpr ⟨lw_p51, List.forall_mem_cons.mpr ⟨lw_p52, List.forall_mem_cons.mpr ⟨lw_p53, List.forall_mem_cons.mpr ⟨lw_p54, List.forall_mem_cons.mpr ⟨lw_p55, List.forall_mem_cons.mpr ⟨lw_p56, List.forall_mem_cons.mpr ⟨lw_p57, fun _ h => absurd h List.not_mem_nil⟩⟩⟩⟩⟩⟩⟩⟩⟩⟩
def lw_privs : List (MethodName × Nat) := lw_privs_1 ++ (lw_privs_2 ++ (lw_privs_3 ++ (lw_privs_4)))
def lw_tbl : List Cond := k2_sels lw_privs ++ tables_1
theorem lw_privs_ok : ∀ q ∈ lw_privs, lw_okq q := by
  show ∀ q ∈ lw_privs_1 ++ (lw_privs_2 ++ (lw_privs_3 ++ (lw_privs_4))), lw_okq q
  exact List.forall_mem_append.mpr ⟨lw_r1, List.forall_mem_append.mpr ⟨lw_r2, List.forall_mem_append.mpr ⟨lw_r3, lw_r4⟩⟩⟩
end
section
def RX0 : String := "DebtChoir$Choir"
def TX0 : u_T := fun k => match k with
  | 0 => ("DebtChoir$Choir", "there", "I", false)
  | 1 => ("DebtChoir$Choir", "hoarse", "I", false)
  | 2 => ("DebtChoir$Choir", "sang", "I", false)
  | 3 => ("DebtChoir$Choir", "evenings", "I", false)
  | 4 => ("DebtChoir$Choir", "sungOff", "I", false)
  | 5 => ("DebtChoir$Choir", "voices", "[I", true)
  | 6 => ("DebtChoir$Choir", "debts", "[I", true)
  | 7 => ("DebtChoir$Choir", "needs", "[I", true)
  | 8 => ("DebtChoir$Choir", "bars", "[I", true)
  | _ => ("DebtChoir$Choir", "pays", "[I", true)
def tyX0 : Nat → FieldType := fun k => match k with
  | 0 => .int
  | 1 => .int
  | 2 => .int
  | 3 => .int
  | 4 => .int
  | 5 => .array .int
  | 6 => .array .int
  | 7 => .array .int
  | 8 => .array .int
  | _ => .array .int
abbrev wsX00 : List Cond := u_ws RX0 TX0 10
theorem nmX0 : ∀ a, a < 10 → ∀ b, b < 10 → a ≠ b → (TX0 a).2.1 ≠ (TX0 b).2.1 := by decide +kernel
theorem tyX0_ok : ∀ k, k < 10 → parseFieldDescriptor (TX0 k).2.2.1 = some (tyX0 k) := by decide +kernel
abbrev cX0_init : ByteArray := prog_2_method_1_code
def yX0_init : MethodName := ⟨RX0, "<init>", "()V"⟩
abbrev cX0_copyFrom : ByteArray := prog_2_method_2_code
def yX0_copyFrom : MethodName := ⟨RX0, "copyFrom", "(LDebtChoir$Choir;)V"⟩
abbrev cX0_has : ByteArray := prog_2_method_3_code
def yX0_has : MethodName := ⟨RX0, "has", "(I)Z"⟩
abbrev cX0_come : ByteArray := prog_2_method_4_code
def yX0_come : MethodName := ⟨RX0, "come", "(III)V"⟩
abbrev cX0_go : ByteArray := prog_2_method_5_code
def yX0_go : MethodName := ⟨RX0, "go", "(I)V"⟩
abbrev cX0_voiceOf : ByteArray := prog_2_method_6_code
def yX0_voiceOf : MethodName := ⟨RX0, "voiceOf", "(I)I"⟩
abbrev cX0_debtOf : ByteArray := prog_2_method_7_code
def yX0_debtOf : MethodName := ⟨RX0, "debtOf", "(I)I"⟩
abbrev cX0_owe : ByteArray := prog_2_method_8_code
def yX0_owe : MethodName := ⟨RX0, "owe", "(II)V"⟩
abbrev cX0_allDebts : ByteArray := prog_2_method_9_code
def yX0_allDebts : MethodName := ⟨RX0, "allDebts", "()I"⟩
abbrev cX0_freeSingers : ByteArray := prog_2_method_10_code
def yX0_freeSingers : MethodName := ⟨RX0, "freeSingers", "()I"⟩
abbrev cX0_write : ByteArray := prog_2_method_11_code
def yX0_write : MethodName := ⟨RX0, "write", "(IIII)V"⟩
abbrev cX0_needOf : ByteArray := prog_2_method_12_code
def yX0_needOf : MethodName := ⟨RX0, "needOf", "(II)I"⟩
abbrev cX0_barsOf : ByteArray := prog_2_method_13_code
def yX0_barsOf : MethodName := ⟨RX0, "barsOf", "(I)I"⟩
abbrev cX0_payOf : ByteArray := prog_2_method_14_code
def yX0_payOf : MethodName := ⟨RX0, "payOf", "(I)I"⟩
abbrev cX0_worthOf : ByteArray := prog_2_method_15_code
def yX0_worthOf : MethodName := ⟨RX0, "worthOf", "(I)I"⟩
abbrev cX0_barsOfSet : ByteArray := prog_2_method_16_code
def yX0_barsOfSet : MethodName := ⟨RX0, "barsOfSet", "(I)I"⟩
abbrev cX0_payOfSet : ByteArray := prog_2_method_17_code
def yX0_payOfSet : MethodName := ⟨RX0, "payOfSet", "(I)I"⟩
abbrev cX0_withBreath : ByteArray := prog_2_method_18_code
def yX0_withBreath : MethodName := ⟨RX0, "withBreath", "(I)I"⟩
abbrev cX0_readyIn : ByteArray := prog_2_method_19_code
def yX0_readyIn : MethodName := ⟨RX0, "readyIn", "(I)I"⟩
abbrev cX0_leastFree : ByteArray := prog_2_method_20_code
def yX0_leastFree : MethodName := ⟨RX0, "leastFree", "(II)I"⟩
abbrev cX0_canBeSung : ByteArray := prog_2_method_21_code
def yX0_canBeSung : MethodName := ⟨RX0, "canBeSung", "(I)Z"⟩
abbrev cX0_deepestOf : ByteArray := prog_2_method_22_code
def yX0_deepestOf : MethodName := ⟨RX0, "deepestOf", "(I)I"⟩
abbrev cX0_sing : ByteArray := prog_2_method_23_code
def yX0_sing : MethodName := ⟨RX0, "sing", "(I)I"⟩
abbrev cX0_singOff : ByteArray := prog_2_method_24_code
def yX0_singOff : MethodName := ⟨RX0, "singOff", "(II)V"⟩
abbrev cX0_borrow : ByteArray := prog_2_method_25_code
def yX0_borrow : MethodName := ⟨RX0, "borrow", "(II)I"⟩
abbrev cX0_turnHoarse : ByteArray := prog_2_method_26_code
def yX0_turnHoarse : MethodName := ⟨RX0, "turnHoarse", "(I)I"⟩
abbrev cX0_takeOver : ByteArray := prog_2_method_27_code
def yX0_takeOver : MethodName := ⟨RX0, "takeOver", "(II)I"⟩
abbrev cX0_letGo : ByteArray := prog_2_method_28_code
def yX0_letGo : MethodName := ⟨RX0, "letGo", "(I)I"⟩
abbrev cX0_endEvening : ByteArray := prog_2_method_29_code
def yX0_endEvening : MethodName := ⟨RX0, "endEvening", "()I"⟩
def RX1 : String := "DebtChoir$Fugue"
def TX1 : u_T := fun k => match k with
  | 0 => ("DebtChoir$Fugue", "unit", "J", false)
  | 1 => ("DebtChoir$Fugue", "borrowing", "I", false)
  | 2 => ("DebtChoir$Fugue", "best", "[J", true)
  | _ => ("DebtChoir$Fugue", "sung", "[J", true)
def tyX1 : Nat → FieldType := fun k => match k with
  | 0 => .long
  | 1 => .int
  | 2 => .array .long
  | _ => .array .long
abbrev wsX10 : List Cond := u_ws RX1 TX1 4
theorem nmX1 : ∀ a, a < 4 → ∀ b, b < 4 → a ≠ b → (TX1 a).2.1 ≠ (TX1 b).2.1 := by decide +kernel
theorem tyX1_ok : ∀ k, k < 4 → parseFieldDescriptor (TX1 k).2.2.1 = some (tyX1 k) := by decide +kernel
abbrev cX1_init : ByteArray := prog_3_method_1_code
def yX1_init : MethodName := ⟨RX1, "<init>", "()V"⟩
abbrev cX1_start : ByteArray := prog_3_method_2_code
def yX1_start : MethodName := ⟨RX1, "start", "(I)V"⟩
abbrev cX1_evening : ByteArray := prog_3_method_3_code
def yX1_evening : MethodName := ⟨RX1, "evening", "(II)V"⟩
abbrev cX1_bestOf : ByteArray := prog_3_method_4_code
def yX1_bestOf : MethodName := ⟨RX1, "bestOf", "(I)J"⟩
def RX2 : String := "DebtChoir$Image"
def TX2 : u_T := fun k => match k with
  | 0 => ("DebtChoir$Image", "choir", "LDebtChoir$Choir;", true)
  | 1 => ("DebtChoir$Image", "sights", "LDebtChoir$Sights;", true)
  | _ => ("DebtChoir$Image", "kept", "Z", false)
def tyX2 : Nat → FieldType := fun k => match k with
  | 0 => .object "DebtChoir$Choir"
  | 1 => .object "DebtChoir$Sights"
  | _ => .boolean
abbrev wsX20 : List Cond := u_ws RX2 TX2 3
theorem nmX2 : ∀ a, a < 3 → ∀ b, b < 3 → a ≠ b → (TX2 a).2.1 ≠ (TX2 b).2.1 := by decide +kernel
theorem tyX2_ok : ∀ k, k < 3 → parseFieldDescriptor (TX2 k).2.2.1 = some (tyX2 k) := by decide +kernel
abbrev cX2_init : ByteArray := prog_4_method_1_code
def yX2_init : MethodName := ⟨RX2, "<init>", "()V"⟩
def RX3 : String := "DebtChoir$Nights"
def TX3 : u_T := fun k => match k with
  | 0 => ("DebtChoir$Nights", "fewest", "I", false)
  | 1 => ("DebtChoir$Nights", "firstPiece", "I", false)
  | 2 => ("DebtChoir$Nights", "pays", "[I", true)
  | _ => ("DebtChoir$Nights", "left", "[I", true)
def tyX3 : Nat → FieldType := fun k => match k with
  | 0 => .int
  | 1 => .int
  | 2 => .array .int
  | _ => .array .int
abbrev wsX30 : List Cond := u_ws RX3 TX3 4
theorem nmX3 : ∀ a, a < 4 → ∀ b, b < 4 → a ≠ b → (TX3 a).2.1 ≠ (TX3 b).2.1 := by decide +kernel
theorem tyX3_ok : ∀ k, k < 4 → parseFieldDescriptor (TX3 k).2.2.1 = some (tyX3 k) := by decide +kernel
abbrev cX3_init : ByteArray := prog_5_method_1_code
def yX3_init : MethodName := ⟨RX3, "<init>", "()V"⟩
abbrev cX3_find : ByteArray := prog_5_method_2_code
def yX3_find : MethodName := ⟨RX3, "find", "(LDebtChoir$Choir;I)V"⟩
abbrev cX3_takePays : ByteArray := prog_5_method_3_code
def yX3_takePays : MethodName := ⟨RX3, "takePays", "(LDebtChoir$Choir;I)V"⟩
abbrev cX3_fewestFrom : ByteArray := prog_5_method_4_code
def yX3_fewestFrom : MethodName := ⟨RX3, "fewestFrom", "(II)I"⟩
abbrev cX3_leastLeft : ByteArray := prog_5_method_5_code
def yX3_leastLeft : MethodName := ⟨RX3, "leastLeft", "(II)I"⟩
abbrev cX3_afterPiece : ByteArray := prog_5_method_6_code
def yX3_afterPiece : MethodName := ⟨RX3, "afterPiece", "(II)I"⟩
def RX4 : String := "DebtChoir$Pad"
def TX4 : u_T := fun k => match k with
  | 0 => ("DebtChoir$Pad", "count", "I", false)
  | _ => ("DebtChoir$Pad", "signs", "[I", true)
def tyX4 : Nat → FieldType := fun k => match k with
  | 0 => .int
  | _ => .array .int
abbrev wsX40 : List Cond := u_ws RX4 TX4 2
theorem nmX4 : ∀ a, a < 2 → ∀ b, b < 2 → a ≠ b → (TX4 a).2.1 ≠ (TX4 b).2.1 := by decide +kernel
theorem tyX4_ok : ∀ k, k < 2 → parseFieldDescriptor (TX4 k).2.2.1 = some (tyX4 k) := by decide +kernel
abbrev cX4_init : ByteArray := prog_6_method_1_code
def yX4_init : MethodName := ⟨RX4, "<init>", "()V"⟩
abbrev cX4_add : ByteArray := prog_6_method_2_code
def yX4_add : MethodName := ⟨RX4, "add", "(I)Z"⟩
abbrev cX4_signAt : ByteArray := prog_6_method_3_code
def yX4_signAt : MethodName := ⟨RX4, "signAt", "(I)I"⟩
abbrev cX4_isPiece : ByteArray := prog_6_method_4_code
def yX4_isPiece : MethodName := ⟨RX4, "isPiece", "(I)Z"⟩
abbrev cX4_isLetter : ByteArray := prog_6_method_5_code
def yX4_isLetter : MethodName := ⟨RX4, "isLetter", "(I)Z"⟩
abbrev cX4_lengthOf : ByteArray := prog_6_method_6_code
def yX4_lengthOf : MethodName := ⟨RX4, "lengthOf", "(II)I"⟩
abbrev cX4_isMark : ByteArray := prog_6_method_7_code
def yX4_isMark : MethodName := ⟨RX4, "isMark", "(I)Z"⟩
abbrev cX4_faultIn : ByteArray := prog_6_method_8_code
def yX4_faultIn : MethodName := ⟨RX4, "faultIn", "(I)I"⟩
abbrev cX4_faultPlace : ByteArray := prog_6_method_9_code
def yX4_faultPlace : MethodName := ⟨RX4, "faultPlace", "()I"⟩
def RX5 : String := "DebtChoir$Rings"
def TX5 : u_T := fun k => match k with
  | 0 => ("DebtChoir$Rings", "ranks", "[I", true)
  | 1 => ("DebtChoir$Rings", "parts", "[I", true)
  | 2 => ("DebtChoir$Rings", "points", "[I", true)
  | _ => ("DebtChoir$Rings", "left", "I", false)
def tyX5 : Nat → FieldType := fun k => match k with
  | 0 => .array .int
  | 1 => .array .int
  | 2 => .array .int
  | _ => .int
abbrev wsX50 : List Cond := u_ws RX5 TX5 4
theorem nmX5 : ∀ a, a < 4 → ∀ b, b < 4 → a ≠ b → (TX5 a).2.1 ≠ (TX5 b).2.1 := by decide +kernel
theorem tyX5_ok : ∀ k, k < 4 → parseFieldDescriptor (TX5 k).2.2.1 = some (tyX5 k) := by decide +kernel
abbrev cX5_init : ByteArray := prog_7_method_1_code
def yX5_init : MethodName := ⟨RX5, "<init>", "()V"⟩
abbrev cX5_start : ByteArray := prog_7_method_2_code
def yX5_start : MethodName := ⟨RX5, "start", "(IIII)V"⟩
abbrev cX5_swap : ByteArray := prog_7_method_3_code
def yX5_swap : MethodName := ⟨RX5, "swap", "()V"⟩
abbrev cX5_bestLeft : ByteArray := prog_7_method_4_code
def yX5_bestLeft : MethodName := ⟨RX5, "bestLeft", "(I)I"⟩
abbrev cX5_isInRing : ByteArray := prog_7_method_5_code
def yX5_isInRing : MethodName := ⟨RX5, "isInRing", "(I)Z"⟩
abbrev cX5_partsAsDigits : ByteArray := prog_7_method_6_code
def yX5_partsAsDigits : MethodName := ⟨RX5, "partsAsDigits", "()I"⟩
abbrev cX5_countOwn : ByteArray := prog_7_method_7_code
def yX5_countOwn : MethodName := ⟨RX5, "countOwn", "()I"⟩
def RX6 : String := "DebtChoir$Sights"
def TX6 : u_T := fun k => match k with
  | 0 => ("DebtChoir$Sights", "count", "I", false)
  | 1 => ("DebtChoir$Sights", "found", "I", false)
  | 2 => ("DebtChoir$Sights", "pays", "[I", true)
  | 3 => ("DebtChoir$Sights", "sums", "[I", true)
  | 4 => ("DebtChoir$Sights", "rows", "[I", true)
  | _ => ("DebtChoir$Sights", "tally", "[I", true)
def tyX6 : Nat → FieldType := fun k => match k with
  | 0 => .int
  | 1 => .int
  | 2 => .array .int
  | 3 => .array .int
  | 4 => .array .int
  | _ => .array .int
abbrev wsX60 : List Cond := u_ws RX6 TX6 6
theorem nmX6 : ∀ a, a < 6 → ∀ b, b < 6 → a ≠ b → (TX6 a).2.1 ≠ (TX6 b).2.1 := by decide +kernel
theorem tyX6_ok : ∀ k, k < 6 → parseFieldDescriptor (TX6 k).2.2.1 = some (tyX6 k) := by decide +kernel
abbrev cX6_init : ByteArray := prog_8_method_1_code
def yX6_init : MethodName := ⟨RX6, "<init>", "()V"⟩
abbrev cX6_copyFrom : ByteArray := prog_8_method_2_code
def yX6_copyFrom : MethodName := ⟨RX6, "copyFrom", "(LDebtChoir$Sights;)V"⟩
abbrev cX6_add : ByteArray := prog_8_method_3_code
def yX6_add : MethodName := ⟨RX6, "add", "(II)Z"⟩
abbrev cX6_sumOf : ByteArray := prog_8_method_4_code
def yX6_sumOf : MethodName := ⟨RX6, "sumOf", "(II)I"⟩
abbrev cX6_fitsAll : ByteArray := prog_8_method_5_code
def yX6_fitsAll : MethodName := ⟨RX6, "fitsAll", "(I)Z"⟩
abbrev cX6_findRows : ByteArray := prog_8_method_6_code
def yX6_findRows : MethodName := ⟨RX6, "findRows", "()V"⟩
abbrev cX6_rowAt : ByteArray := prog_8_method_7_code
def yX6_rowAt : MethodName := ⟨RX6, "rowAt", "(I)I"⟩
abbrev cX6_mostLeft : ByteArray := prog_8_method_8_code
def yX6_mostLeft : MethodName := ⟨RX6, "mostLeft", "(I)I"⟩
def RX7 : String := "DebtChoir$Trial"
def TX7 : u_T := fun k => match k with
  | 0 => ("DebtChoir$Trial", "choir", "LDebtChoir$Choir;", true)
  | 1 => ("DebtChoir$Trial", "acts", "I", false)
  | 2 => ("DebtChoir$Trial", "badAct", "I", false)
  | 3 => ("DebtChoir$Trial", "why", "I", false)
  | 4 => ("DebtChoir$Trial", "piecesSung", "I", false)
  | 5 => ("DebtChoir$Trial", "freeingAct", "I", false)
  | _ => ("DebtChoir$Trial", "firstFreed", "I", false)
def tyX7 : Nat → FieldType := fun k => match k with
  | 0 => .object "DebtChoir$Choir"
  | 1 => .int
  | 2 => .int
  | 3 => .int
  | 4 => .int
  | 5 => .int
  | _ => .int
abbrev wsX70 : List Cond := u_ws RX7 TX7 7
theorem nmX7 : ∀ a, a < 7 → ∀ b, b < 7 → a ≠ b → (TX7 a).2.1 ≠ (TX7 b).2.1 := by decide +kernel
theorem tyX7_ok : ∀ k, k < 7 → parseFieldDescriptor (TX7 k).2.2.1 = some (tyX7 k) := by decide +kernel
abbrev cX7_init : ByteArray := prog_9_method_1_code
def yX7_init : MethodName := ⟨RX7, "<init>", "()V"⟩
abbrev cX7_start : ByteArray := prog_9_method_2_code
def yX7_start : MethodName := ⟨RX7, "start", "(LDebtChoir$Choir;)V"⟩
abbrev cX7_play : ByteArray := prog_9_method_3_code
def yX7_play : MethodName := ⟨RX7, "play", "(LDebtChoir$Pad;LDebtChoir$Choir;)I"⟩
abbrev cX7_noteFreed : ByteArray := prog_9_method_4_code
def yX7_noteFreed : MethodName := ⟨RX7, "noteFreed", "(I)V"⟩
abbrev cX7_act : ByteArray := prog_9_method_5_code
def yX7_act : MethodName := ⟨RX7, "act", "(III)I"⟩
abbrev cX7_draw : ByteArray := prog_9_method_6_code
def yX7_draw : MethodName := ⟨RX7, "draw", "(I)V"⟩
def RX8 : String := "DebtChoir"
def TX8 : u_T := fun k => match k with
  | 0 => ("DebtChoir", "choir", "LDebtChoir$Choir;", true)
  | 1 => ("DebtChoir", "sights", "LDebtChoir$Sights;", true)
  | 2 => ("DebtChoir", "pad", "LDebtChoir$Pad;", true)
  | 3 => ("DebtChoir", "trial", "LDebtChoir$Trial;", true)
  | 4 => ("DebtChoir", "row", "LDebtChoir$Nights;", true)
  | 5 => ("DebtChoir", "circle", "LDebtChoir$Rings;", true)
  | 6 => ("DebtChoir", "borrower", "LDebtChoir$Fugue;", true)
  | 7 => ("DebtChoir", "firstImage", "LDebtChoir$Image;", true)
  | _ => ("DebtChoir", "secondImage", "LDebtChoir$Image;", true)
def tyX8 : Nat → FieldType := fun k => match k with
  | 0 => .object "DebtChoir$Choir"
  | 1 => .object "DebtChoir$Sights"
  | 2 => .object "DebtChoir$Pad"
  | 3 => .object "DebtChoir$Trial"
  | 4 => .object "DebtChoir$Nights"
  | 5 => .object "DebtChoir$Rings"
  | 6 => .object "DebtChoir$Fugue"
  | 7 => .object "DebtChoir$Image"
  | _ => .object "DebtChoir$Image"
abbrev wsX80 : List Cond := u_ws RX8 TX8 9
theorem nmX8 : ∀ a, a < 9 → ∀ b, b < 9 → a ≠ b → (TX8 a).2.1 ≠ (TX8 b).2.1 := by decide +kernel
theorem tyX8_ok : ∀ k, k < 9 → parseFieldDescriptor (TX8 k).2.2.1 = some (tyX8 k) := by decide +kernel
abbrev cX8_init : ByteArray := prog_1_method_1_code
def yX8_init : MethodName := ⟨RX8, "<init>", "()V"⟩
abbrev cX8_singer : ByteArray := prog_1_method_2_code
def yX8_singer : MethodName := ⟨RX8, "singer", "(III)I"⟩
abbrev cX8_leave : ByteArray := prog_1_method_3_code
def yX8_leave : MethodName := ⟨RX8, "leave", "(I)I"⟩
abbrev cX8_piece : ByteArray := prog_1_method_4_code
def yX8_piece : MethodName := ⟨RX8, "piece", "(IIII)I"⟩
abbrev cX8_say : ByteArray := prog_1_method_5_code
def yX8_say : MethodName := ⟨RX8, "say", "(I)I"⟩
abbrev cX8_wipe : ByteArray := prog_1_method_6_code
def yX8_wipe : MethodName := ⟨RX8, "wipe", "()I"⟩
abbrev cX8_fault : ByteArray := prog_1_method_7_code
def yX8_fault : MethodName := ⟨RX8, "fault", "()I"⟩
abbrev cX8_judge : ByteArray := prog_1_method_8_code
def yX8_judge : MethodName := ⟨RX8, "judge", "(I)I"⟩
abbrev cX8_behind : ByteArray := prog_1_method_9_code
def yX8_behind : MethodName := ⟨RX8, "behind", "(II)I"⟩
abbrev cX8_owed : ByteArray := prog_1_method_10_code
def yX8_owed : MethodName := ⟨RX8, "owed", "(I)I"⟩
abbrev cX8_freed : ByteArray := prog_1_method_11_code
def yX8_freed : MethodName := ⟨RX8, "freed", "(I)I"⟩
abbrev cX8_done : ByteArray := prog_1_method_12_code
def yX8_done : MethodName := ⟨RX8, "done", "()I"⟩
abbrev cX8_may : ByteArray := prog_1_method_13_code
def yX8_may : MethodName := ⟨RX8, "may", "()I"⟩
abbrev cX8_nights : ByteArray := prog_1_method_14_code
def yX8_nights : MethodName := ⟨RX8, "nights", "(II)I"⟩
abbrev cX8_programme : ByteArray := prog_1_method_15_code
def yX8_programme : MethodName := ⟨RX8, "programme", "(II)I"⟩
abbrev cX8_ruin : ByteArray := prog_1_method_16_code
def yX8_ruin : MethodName := ⟨RX8, "ruin", "(II)I"⟩
abbrev cX8_seats : ByteArray := prog_1_method_17_code
def yX8_seats : MethodName := ⟨RX8, "seats", "(III)I"⟩
abbrev cX8_rings : ByteArray := prog_1_method_18_code
def yX8_rings : MethodName := ⟨RX8, "rings", "(IIIII)I"⟩
abbrev cX8_seen : ByteArray := prog_1_method_19_code
def yX8_seen : MethodName := ⟨RX8, "seen", "(II)I"⟩
abbrev cX8_forget : ByteArray := prog_1_method_20_code
def yX8_forget : MethodName := ⟨RX8, "forget", "()I"⟩
abbrev cX8_holds : ByteArray := prog_1_method_21_code
def yX8_holds : MethodName := ⟨RX8, "holds", "(I)I"⟩
abbrev cX8_ask : ByteArray := prog_1_method_22_code
def yX8_ask : MethodName := ⟨RX8, "ask", "(I)I"⟩
abbrev cX8_fugue : ByteArray := prog_1_method_23_code
def yX8_fugue : MethodName := ⟨RX8, "fugue", "(IIIIIII)J"⟩
abbrev cX8_year : ByteArray := prog_1_method_24_code
def yX8_year : MethodName := ⟨RX8, "year", "(III)I"⟩
abbrev cX8_image : ByteArray := prog_1_method_25_code
def yX8_image : MethodName := ⟨RX8, "image", "(I)I"⟩
abbrev cX8_restore : ByteArray := prog_1_method_26_code
def yX8_restore : MethodName := ⟨RX8, "restore", "(I)I"⟩
abbrev cX8_told : ByteArray := prog_1_method_27_code
def yX8_told : MethodName := ⟨RX8, "told", "(I)I"⟩
abbrev cX8_tellSinger : ByteArray := prog_1_method_28_code
def yX8_tellSinger : MethodName := ⟨RX8, "tellSinger", "(II)I"⟩
abbrev cX8_tellPiece : ByteArray := prog_1_method_29_code
def yX8_tellPiece : MethodName := ⟨RX8, "tellPiece", "(II)I"⟩
abbrev cX8_placeOfBid : ByteArray := prog_1_method_30_code
def yX8_placeOfBid : MethodName := ⟨RX8, "placeOfBid", "(II)I"⟩
abbrev cX8_areNeeds : ByteArray := prog_1_method_31_code
def yX8_areNeeds : MethodName := ⟨RX8, "areNeeds", "(I)Z"⟩
abbrev cX8_areRanks : ByteArray := prog_1_method_32_code
def yX8_areRanks : MethodName := ⟨RX8, "areRanks", "(I)Z"⟩
abbrev cX8_digitOf : ByteArray := prog_1_method_33_code
def yX8_digitOf : MethodName := ⟨RX8, "digitOf", "(II)I"⟩
abbrev cX8_within : ByteArray := prog_1_method_34_code
def yX8_within : MethodName := ⟨RX8, "within", "(III)Z"⟩
abbrev cX8_bit : ByteArray := prog_1_method_35_code
def yX8_bit : MethodName := ⟨RX8, "bit", "(II)I"⟩
abbrev cX8_commonDivisor : ByteArray := prog_1_method_36_code
def yX8_commonDivisor : MethodName := ⟨RX8, "commonDivisor", "(JJ)J"⟩
def RX9 : String := "DebtChoirModel"
def TX9 : u_T := fun k => match k with
  | 0 => ("DebtChoirModel", "there", "I", false)
  | 1 => ("DebtChoirModel", "hoarse", "I", false)
  | 2 => ("DebtChoirModel", "sang", "I", false)
  | 3 => ("DebtChoirModel", "evenings", "I", false)
  | 4 => ("DebtChoirModel", "voice", "[I", true)
  | 5 => ("DebtChoirModel", "debt", "[I", true)
  | 6 => ("DebtChoirModel", "need", "[I", true)
  | 7 => ("DebtChoirModel", "bars", "[I", true)
  | 8 => ("DebtChoirModel", "pay", "[I", true)
  | 9 => ("DebtChoirModel", "sightPay", "[I", true)
  | 10 => ("DebtChoirModel", "sightSum", "[I", true)
  | 11 => ("DebtChoirModel", "sights", "I", false)
  | 12 => ("DebtChoirModel", "pad", "[I", true)
  | 13 => ("DebtChoirModel", "padMany", "I", false)
  | 14 => ("DebtChoirModel", "act", "[I", true)
  | 15 => ("DebtChoirModel", "who", "[I", true)
  | 16 => ("DebtChoirModel", "much", "[I", true)
  | 17 => ("DebtChoirModel", "acts", "I", false)
  | 18 => ("DebtChoirModel", "sungOff", "I", false)
  | 19 => ("DebtChoirModel", "sungMany", "I", false)
  | 20 => ("DebtChoirModel", "had", "[I", true)
  | 21 => ("DebtChoirModel", "badAct", "I", false)
  | 22 => ("DebtChoirModel", "badWhy", "I", false)
  | 23 => ("DebtChoirModel", "freedAct", "I", false)
  | 24 => ("DebtChoirModel", "freedWho", "I", false)
  | 25 => ("DebtChoirModel", "leastOwed", "[I", true)
  | 26 => ("DebtChoirModel", "bid", "[I", true)
  | 27 => ("DebtChoirModel", "likes", "[I", true)
  | 28 => ("DebtChoirModel", "gets", "[I", true)
  | 29 => ("DebtChoirModel", "bySum", "[I", true)
  | 30 => ("DebtChoirModel", "worth", "[J", true)
  | 31 => ("DebtChoirModel", "worthThen", "[J", true)
  | 32 => ("DebtChoirModel", "kept", "[I", true)
  | 33 => ("DebtChoirModel", "isKept", "[Z", true)
  | 34 => ("DebtChoirModel", "keptAt", "I", false)
  | _ => ("DebtChoirModel", "isWriting", "Z", false)
def tyX9 : Nat → FieldType := fun k => match k with
  | 0 => .int
  | 1 => .int
  | 2 => .int
  | 3 => .int
  | 4 => .array .int
  | 5 => .array .int
  | 6 => .array .int
  | 7 => .array .int
  | 8 => .array .int
  | 9 => .array .int
  | 10 => .array .int
  | 11 => .int
  | 12 => .array .int
  | 13 => .int
  | 14 => .array .int
  | 15 => .array .int
  | 16 => .array .int
  | 17 => .int
  | 18 => .int
  | 19 => .int
  | 20 => .array .int
  | 21 => .int
  | 22 => .int
  | 23 => .int
  | 24 => .int
  | 25 => .array .int
  | 26 => .array .int
  | 27 => .array .int
  | 28 => .array .int
  | 29 => .array .int
  | 30 => .array .long
  | 31 => .array .long
  | 32 => .array .int
  | 33 => .array .boolean
  | 34 => .int
  | _ => .boolean
abbrev wsX90 : List Cond := u_ws RX9 TX9 36
theorem nmX9 : ∀ a, a < 36 → ∀ b, b < 36 → a ≠ b → (TX9 a).2.1 ≠ (TX9 b).2.1 := by decide +kernel
theorem tyX9_ok : ∀ k, k < 36 → parseFieldDescriptor (TX9 k).2.2.1 = some (tyX9 k) := by decide +kernel
abbrev cX9_init : ByteArray := prog_11_method_1_code
def yX9_init : MethodName := ⟨RX9, "<init>", "()V"⟩
abbrev cX9_in : ByteArray := prog_11_method_3_code
def yX9_in : MethodName := ⟨RX9, "in", "(JJJ)Z"⟩
abbrev cX9_bitsOf : ByteArray := prog_11_method_4_code
def yX9_bitsOf : MethodName := ⟨RX9, "bitsOf", "(I)I"⟩
abbrev cX9_isSinger : ByteArray := prog_11_method_5_code
def yX9_isSinger : MethodName := ⟨RX9, "isSinger", "(I)Z"⟩
abbrev cX9_singer : ByteArray := prog_11_method_6_code
def yX9_singer : MethodName := ⟨RX9, "singer", "(III)I"⟩
abbrev cX9_leave : ByteArray := prog_11_method_7_code
def yX9_leave : MethodName := ⟨RX9, "leave", "(I)I"⟩
abbrev cX9_areNeeds : ByteArray := prog_11_method_8_code
def yX9_areNeeds : MethodName := ⟨RX9, "areNeeds", "(I)Z"⟩
abbrev cX9_piece : ByteArray := prog_11_method_9_code
def yX9_piece : MethodName := ⟨RX9, "piece", "(IIII)I"⟩
abbrev cX9_say : ByteArray := prog_11_method_10_code
def yX9_say : MethodName := ⟨RX9, "say", "(I)I"⟩
abbrev cX9_wipe : ByteArray := prog_11_method_11_code
def yX9_wipe : MethodName := ⟨RX9, "wipe", "()I"⟩
abbrev cX9_close : ByteArray := prog_11_method_12_code
def yX9_close : MethodName := ⟨RX9, "close", "(II)I"⟩
abbrev cX9_begin : ByteArray := prog_11_method_13_code
def yX9_begin : MethodName := ⟨RX9, "begin", "(I)I"⟩
abbrev cX9_readOn : ByteArray := prog_11_method_14_code
def yX9_readOn : MethodName := ⟨RX9, "readOn", "(II)I"⟩
abbrev cX9_fault : ByteArray := prog_11_method_15_code
def yX9_fault : MethodName := ⟨RX9, "fault", "()I"⟩
abbrev cX9_mayHere : ByteArray := prog_11_method_16_code
def yX9_mayHere : MethodName := ⟨RX9, "mayHere", "(II)Z"⟩
abbrev cX9_ready : ByteArray := prog_11_method_17_code
def yX9_ready : MethodName := ⟨RX9, "ready", "(IZ)I"⟩
abbrev cX9_canBeSung : ByteArray := prog_11_method_18_code
def yX9_canBeSung : MethodName := ⟨RX9, "canBeSung", "(I)Z"⟩
abbrev cX9_whyNotTake : ByteArray := prog_11_method_19_code
def yX9_whyNotTake : MethodName := ⟨RX9, "whyNotTake", "(II)I"⟩
abbrev cX9_whyNot : ByteArray := prog_11_method_20_code
def yX9_whyNot : MethodName := ⟨RX9, "whyNot", "(III)I"⟩
abbrev cX9_singOne : ByteArray := prog_11_method_21_code
def yX9_singOne : MethodName := ⟨RX9, "singOne", "(II)V"⟩
abbrev cX9_singPiece : ByteArray := prog_11_method_22_code
def yX9_singPiece : MethodName := ⟨RX9, "singPiece", "(I)V"⟩
abbrev cX9_endEvening : ByteArray := prog_11_method_23_code
def yX9_endEvening : MethodName := ⟨RX9, "endEvening", "()V"⟩
abbrev cX9_happen : ByteArray := prog_11_method_24_code
def yX9_happen : MethodName := ⟨RX9, "happen", "(III)V"⟩
abbrev cX9_keepNow : ByteArray := prog_11_method_25_code
def yX9_keepNow : MethodName := ⟨RX9, "keepNow", "()V"⟩
abbrev cX9_back : ByteArray := prog_11_method_26_code
def yX9_back : MethodName := ⟨RX9, "back", "(I)I"⟩
abbrev cX9_owing : ByteArray := prog_11_method_27_code
def yX9_owing : MethodName := ⟨RX9, "owing", "()I"⟩
abbrev cX9_leastOf : ByteArray := prog_11_method_28_code
def yX9_leastOf : MethodName := ⟨RX9, "leastOf", "(I)I"⟩
abbrev cX9_goEvenings : ByteArray := prog_11_method_29_code
def yX9_goEvenings : MethodName := ⟨RX9, "goEvenings", "()V"⟩
abbrev cX9_goOne : ByteArray := prog_11_method_30_code
def yX9_goOne : MethodName := ⟨RX9, "goOne", "(I)V"⟩
abbrev cX9_refusal : ByteArray := prog_11_method_31_code
def yX9_refusal : MethodName := ⟨RX9, "refusal", "()I"⟩
abbrev cX9_judge : ByteArray := prog_11_method_32_code
def yX9_judge : MethodName := ⟨RX9, "judge", "(I)I"⟩
abbrev cX9_behind : ByteArray := prog_11_method_33_code
def yX9_behind : MethodName := ⟨RX9, "behind", "(II)I"⟩
abbrev cX9_allDebts : ByteArray := prog_11_method_34_code
def yX9_allDebts : MethodName := ⟨RX9, "allDebts", "()I"⟩
abbrev cX9_owed : ByteArray := prog_11_method_35_code
def yX9_owed : MethodName := ⟨RX9, "owed", "(I)I"⟩
abbrev cX9_freed : ByteArray := prog_11_method_36_code
def yX9_freed : MethodName := ⟨RX9, "freed", "(I)I"⟩
abbrev cX9_done : ByteArray := prog_11_method_37_code
def yX9_done : MethodName := ⟨RX9, "done", "()I"⟩
abbrev cX9_may : ByteArray := prog_11_method_38_code
def yX9_may : MethodName := ⟨RX9, "may", "()I"⟩
abbrev cX9_behindNight : ByteArray := prog_11_method_39_code
def yX9_behindNight : MethodName := ⟨RX9, "behindNight", "(II)I"⟩
abbrev cX9_isFor : ByteArray := prog_11_method_40_code
def yX9_isFor : MethodName := ⟨RX9, "isFor", "(II)Z"⟩
abbrev cX9_bestOwed : ByteArray := prog_11_method_41_code
def yX9_bestOwed : MethodName := ⟨RX9, "bestOwed", "(II)I"⟩
abbrev cX9_fewestNights : ByteArray := prog_11_method_42_code
def yX9_fewestNights : MethodName := ⟨RX9, "fewestNights", "(III)I"⟩
abbrev cX9_firstNight : ByteArray := prog_11_method_43_code
def yX9_firstNight : MethodName := ⟨RX9, "firstNight", "(II)I"⟩
abbrev cX9_nights : ByteArray := prog_11_method_44_code
def yX9_nights : MethodName := ⟨RX9, "nights", "(II)I"⟩
abbrev cX9_needsOf : ByteArray := prog_11_method_45_code
def yX9_needsOf : MethodName := ⟨RX9, "needsOf", "(I)I"⟩
abbrev cX9_barsOf : ByteArray := prog_11_method_46_code
def yX9_barsOf : MethodName := ⟨RX9, "barsOf", "(I)I"⟩
abbrev cX9_paysOf : ByteArray := prog_11_method_47_code
def yX9_paysOf : MethodName := ⟨RX9, "paysOf", "(I)I"⟩
abbrev cX9_programme : ByteArray := prog_11_method_48_code
def yX9_programme : MethodName := ⟨RX9, "programme", "(II)I"⟩
abbrev cX9_ruined : ByteArray := prog_11_method_49_code
def yX9_ruined : MethodName := ⟨RX9, "ruined", "(II)I"⟩
abbrev cX9_ruin : ByteArray := prog_11_method_50_code
def yX9_ruin : MethodName := ⟨RX9, "ruin", "(II)I"⟩
abbrev cX9_ahead : ByteArray := prog_11_method_51_code
def yX9_ahead : MethodName := ⟨RX9, "ahead", "(I)I"⟩
abbrev cX9_seats : ByteArray := prog_11_method_52_code
def yX9_seats : MethodName := ⟨RX9, "seats", "(III)I"⟩
abbrev cX9_areRanks : ByteArray := prog_11_method_53_code
def yX9_areRanks : MethodName := ⟨RX9, "areRanks", "(II)Z"⟩
abbrev cX9_pointsTo : ByteArray := prog_11_method_54_code
def yX9_pointsTo : MethodName := ⟨RX9, "pointsTo", "(II)I"⟩
abbrev cX9_ringed : ByteArray := prog_11_method_55_code
def yX9_ringed : MethodName := ⟨RX9, "ringed", "(I)I"⟩
abbrev cX9_deal : ByteArray := prog_11_method_56_code
def yX9_deal : MethodName := ⟨RX9, "deal", "()V"⟩
abbrev cX9_rings : ByteArray := prog_11_method_57_code
def yX9_rings : MethodName := ⟨RX9, "rings", "(IIIII)I"⟩
abbrev cX9_seen : ByteArray := prog_11_method_58_code
def yX9_seen : MethodName := ⟨RX9, "seen", "(II)I"⟩
abbrev cX9_forget : ByteArray := prog_11_method_59_code
def yX9_forget : MethodName := ⟨RX9, "forget", "()I"⟩
abbrev cX9_together : ByteArray := prog_11_method_60_code
def yX9_together : MethodName := ⟨RX9, "together", "(II)I"⟩
abbrev cX9_fits : ByteArray := prog_11_method_61_code
def yX9_fits : MethodName := ⟨RX9, "fits", "(I)Z"⟩
abbrev cX9_holds : ByteArray := prog_11_method_62_code
def yX9_holds : MethodName := ⟨RX9, "holds", "(I)I"⟩
abbrev cX9_mostLeft : ByteArray := prog_11_method_63_code
def yX9_mostLeft : MethodName := ⟨RX9, "mostLeft", "(I)I"⟩
abbrev cX9_ask : ByteArray := prog_11_method_64_code
def yX9_ask : MethodName := ⟨RX9, "ask", "(I)I"⟩
abbrev cX9_size : ByteArray := prog_11_method_65_code
def yX9_size : MethodName := ⟨RX9, "size", "(J)J"⟩
abbrev cX9_lowest : ByteArray := prog_11_method_66_code
def yX9_lowest : MethodName := ⟨RX9, "lowest", "(JJI)J"⟩
abbrev cX9_sung : ByteArray := prog_11_method_67_code
def yX9_sung : MethodName := ⟨RX9, "sung", "(II)J"⟩
abbrev cX9_fugueGood : ByteArray := prog_11_method_68_code
def yX9_fugueGood : MethodName := ⟨RX9, "fugueGood", "(IIIII)Z"⟩
abbrev cX9_fugue : ByteArray := prog_11_method_69_code
def yX9_fugue : MethodName := ⟨RX9, "fugue", "(IIIIIII)J"⟩
abbrev cX9_actBy : ByteArray := prog_11_method_70_code
def yX9_actBy : MethodName := ⟨RX9, "actBy", "(I)I"⟩
abbrev cX9_year : ByteArray := prog_11_method_71_code
def yX9_year : MethodName := ⟨RX9, "year", "(III)I"⟩
abbrev cX9_pass : ByteArray := prog_11_method_72_code
def yX9_pass : MethodName := ⟨RX9, "pass", "(I)I"⟩
abbrev cX9_passRow : ByteArray := prog_11_method_73_code
def yX9_passRow : MethodName := ⟨RX9, "passRow", "([II)V"⟩
abbrev cX9_passAll : ByteArray := prog_11_method_74_code
def yX9_passAll : MethodName := ⟨RX9, "passAll", "()V"⟩
abbrev cX9_image : ByteArray := prog_11_method_75_code
def yX9_image : MethodName := ⟨RX9, "image", "(I)I"⟩
abbrev cX9_restore : ByteArray := prog_11_method_76_code
def yX9_restore : MethodName := ⟨RX9, "restore", "(I)I"⟩
abbrev cX9_toldOfSinger : ByteArray := prog_11_method_77_code
def yX9_toldOfSinger : MethodName := ⟨RX9, "toldOfSinger", "(II)I"⟩
abbrev cX9_toldOfPiece : ByteArray := prog_11_method_78_code
def yX9_toldOfPiece : MethodName := ⟨RX9, "toldOfPiece", "(II)I"⟩
abbrev cX9_told : ByteArray := prog_11_method_79_code
def yX9_told : MethodName := ⟨RX9, "told", "(I)I"⟩
def RJ6 : String := "java/lang/Integer"
def TJ6 : u_T := fun k => match k with
  | _ => ("", "", "", false)
def tyJ6 : Nat → FieldType := fun k => match k with
  | _ => .int
abbrev cJ6_numberOfTrailingZeros_0f7a4 : ByteArray := prog_12_method_48_code
def yJ6_numberOfTrailingZeros_0f7a4 : MethodName := ⟨RJ6, "numberOfTrailingZeros", "(I)I"⟩
abbrev cJ6_bitCount_0f7a4 : ByteArray := prog_12_method_49_code
def yJ6_bitCount_0f7a4 : MethodName := ⟨RJ6, "bitCount", "(I)I"⟩
def RJ9 : String := "java/lang/Math"
def TJ9 : u_T := fun k => match k with
  | _ => ("", "", "", false)
def tyJ9 : Nat → FieldType := fun k => match k with
  | _ => .int
abbrev cJ9_abs_067f4 : ByteArray := prog_13_method_61_code
def yJ9_abs_067f4 : MethodName := ⟨RJ9, "abs", "(J)J"⟩
abbrev cJ9_max_7cf53 : ByteArray := prog_13_method_65_code
def yJ9_max_7cf53 : MethodName := ⟨RJ9, "max", "(II)I"⟩
abbrev cJ9_max_f86c9 : ByteArray := prog_13_method_66_code
def yJ9_max_f86c9 : MethodName := ⟨RJ9, "max", "(JJ)J"⟩
abbrev cJ9_min_7cf53 : ByteArray := prog_13_method_69_code
def yJ9_min_7cf53 : MethodName := ⟨RJ9, "min", "(II)I"⟩
def RJ10 : String := "java/lang/System"
def TJ10 : u_T := fun k => match k with
  | _ => ("", "", "", false)
def tyJ10 : Nat → FieldType := fun k => match k with
  | _ => .int
def RL : String := "DebtChoirLaw"
abbrev cL_law : ByteArray := code
def yL_law : MethodName := ⟨RL, "law", "([I)Z"⟩
end
section
/-- the classes whose objects the world holds -/
abbrev dc_cl : List vw_C := [(RX0, TX0, 10), (RX1, TX1, 4), (RX2, TX2, 3), (RX3, TX3, 4), (RX4, TX4, 2), (RX5, TX5, 4), (RX6, TX6, 6), (RX7, TX7, 7), (RX8, TX8, 9), (RX9, TX9, 36)]
/-- the cells: objects (class, kinds of fields: 0 int, 1 long, 2 boolean, 3 + a cell), arrays (0 int, 1 long, 2 boolean; length) -/
def dc_lay : List ((Nat × List Nat) ⊕ (Nat × Nat)) := [.inl (8, [4, 10, 15, 17, 24, 27, 31, 34, 46]), .inl (0, [0, 0, 0, 0, 0, 5, 6, 7, 8, 9]), .inr (0, 8), .inr (0, 8), .inr (0, 24), .inr (0, 6), .inr (0, 6), .inl (6, [0, 0, 11, 12, 13, 14]), .inr (0, 8), .inr (0, 8), .inr (0, 100), .inr (0, 19), .inl (4, [0, 16]), .inr (0, 60), .inl (7, [18, 0, 0, 0, 0, 0, 0]), .inl (0, [0, 0, 0, 0, 0, 19, 20, 21, 22, 23]), .inr (0, 8), .inr (0, 8), .inr (0, 24), .inr (0, 6), .inr (0, 6), .inl (3, [0, 0, 25, 26]), .inr (0, 6), .inr (0, 64), .inl (5, [28, 29, 30, 0]), .inr (0, 4), .inr (0, 4), .inr (0, 4), .inl (1, [1, 0, 32, 33]), .inr (1, 10), .inr (1, 10), .inl (2, [35, 41, 2]), .inl (0, [0, 0, 0, 0, 0, 36, 37, 38, 39, 40]), .inr (0, 8), .inr (0, 8), .inr (0, 24), .inr (0, 6), .inr (0, 6), .inl (6, [0, 0, 42, 43, 44, 45]), .inr (0, 8), .inr (0, 8), .inr (0, 100), .inr (0, 19), .inl (2, [47, 53, 2]), .inl (0, [0, 0, 0, 0, 0, 48, 49, 50, 51, 52]), .inr (0, 8), .inr (0, 8), .inr (0, 24), .inr (0, 6), .inr (0, 6), .inl (6, [0, 0, 54, 55, 56, 57]), .inr (0, 8), .inr (0, 8), .inr (0, 100), .inr (0, 19), .inl (9, [0, 0, 0, 0, 59, 60, 61, 62, 63, 64, 65, 0, 66, 0, 67, 68, 69, 0, 0, 0, 70, 0, 0, 0, 0, 71, 72, 73, 74, 75, 76, 77, 78, 79, 0, 2]), .inr (0, 8), .inr (0, 8), .inr (0, 24), .inr (0, 6), .inr (0, 6), .inr (0, 8), .inr (0, 8), .inr (0, 60), .inr (0, 60), .inr (0, 60), .inr (0, 60), .inr (0, 11), .inr (0, 64), .inr (0, 6), .inr (0, 16), .inr (0, 4), .inr (0, 19), .inr (1, 10), .inr (1, 10), .inr (0, 180), .inr (2, 2)]
/-- the words of the tables that every warm state keeps -/
def dc_tb : List Cond := lw_tbl.filter goodWord
/-- the links to a nest mate's private methods -/
def dc_nest : List (String × Nat × MethodName × String) := [("DebtChoir$Choir", 49, ⟨"DebtChoir", "within", "(III)Z"⟩, "DebtChoir"), ("DebtChoir$Choir", 65, ⟨"DebtChoir", "digitOf", "(II)I"⟩, "DebtChoir"), ("DebtChoir$Pad", 19, ⟨"DebtChoir", "within", "(III)Z"⟩, "DebtChoir"), ("DebtChoir$Choir", 75, ⟨"DebtChoir", "bit", "(II)I"⟩, "DebtChoir"), ("DebtChoir$Nights", 62, ⟨"DebtChoir", "within", "(III)Z"⟩, "DebtChoir"), ("DebtChoir$Nights", 59, ⟨"DebtChoir", "bit", "(II)I"⟩, "DebtChoir"), ("DebtChoir$Rings", 37, ⟨"DebtChoir", "digitOf", "(II)I"⟩, "DebtChoir"), ("DebtChoir$Rings", 29, ⟨"DebtChoir", "bit", "(II)I"⟩, "DebtChoir"), ("DebtChoir$Rings", 40, ⟨"DebtChoir", "within", "(III)Z"⟩, "DebtChoir"), ("DebtChoir$Sights", 34, ⟨"DebtChoir", "within", "(III)Z"⟩, "DebtChoir"), ("DebtChoir$Fugue", 36, ⟨"DebtChoir", "within", "(III)Z"⟩, "DebtChoir")]
end
section
/-! the numbers of the heap: int places and long places of each cell; the cells' shapes never change behind the constructors -/
abbrev dc_HP : Type := (Nat → Nat → Int32) × (Nat → Nat → Int64)
def dc_wI (σ : dc_HP) (k j : Nat) (v : Int32) : dc_HP := (fun a b => if a = k ∧ b = j then v else σ.1 a b, σ.2)
def dc_wL (σ : dc_HP) (k j : Nat) (v : Int64) : dc_HP := (σ.1, fun a b => if a = k ∧ b = j then v else σ.2 a b)
def dc_cp (σ : dc_HP) (src dst n : Nat) : dc_HP := (fun a b => if a = dst ∧ b < n then σ.1 src b else σ.1 a b, σ.2)
abbrev dc_L : Type := (Nat × List Nat) ⊕ (Nat × Nat)
def dc_ty : Nat → FieldType := fun t => match t with
  | 0 => .int
  | 1 => .long
  | _ => .boolean
def dc_cv (ad : Nat → Nat) (v : Value) : Value := match v with
  | .ref a => .ref (ad a)
  | w => w
def dc_val (σ : dc_HP) (k j kd : Nat) : Value := match kd with
  | 0 => .int (σ.1 k j)
  | 1 => .long (σ.2 k j)
  | 2 => .int (σ.1 k j)
  | r + 3 => .ref r
def dc_arr (σ : dc_HP) (k t : Nat) : (Nat → Int32) ⊕ (Nat → Int64) ⊕ (Nat → UInt32) ⊕ (Nat → UInt64) ⊕ (Nat → Option Nat) := match t with
  | 1 => .inr (.inl (σ.2 k))
  | _ => .inl (σ.1 k)
def dc_ent (cA : Nat → ClassId) (ad : Nat → Nat) (σ : dc_HP) (k : Nat) (L : dc_L) : va_E := match L with
  | .inl (ci, ks) => .inr (ci, ks.mapIdx (fun j kd => dc_cv ad (dc_val σ k j kd)))
  | .inr (t, n) => .inl (cA t, n, dc_arr σ k t)
def dc_ws (cA : Nat → ClassId) (ad : Nat → Nat) (σ : dc_HP) : va_W := dc_lay.mapIdx (fun k L => (ad k, dc_ent cA ad σ k L))
def dc_tys (cA : Nat → ClassId) : List (ClassId × FieldType) := [(cA 0, .int), (cA 1, .long), (cA 2, .boolean)]
/-- the cells' addresses: apart, and of a kind -/
def dc_ap (ad : Nat → Nat) (A : Nat → Prop) : Prop := (∀ i j : Nat, i < dc_lay.length → j < dc_lay.length → ad i = ad j → i = j) ∧ ∀ k : Nat, k < dc_lay.length → A (ad k)
theorem dc_ws_get {cA : Nat → ClassId} {ad : Nat → Nat} {σ : dc_HP} {k : Nat} {L : dc_L} (h : dc_lay[k]? = some L) : (dc_ws cA ad σ)[k]? = some (ad k, dc_ent cA ad σ k L) := by
  simp [dc_ws, List.getElem?_mapIdx, h]
theorem dc_ws_inv {cA : Nat → ClassId} {ad : Nat → Nat} {σ : dc_HP} {k : Nat} {q : Nat × va_E} (h : (dc_ws cA ad σ)[k]? = some q) : ∃ L, dc_lay[k]? = some L ∧ q = (ad k, dc_ent cA ad σ k L) := by
  simp only [dc_ws, List.getElem?_mapIdx, Option.map_eq_some_iff] at h
  obtain ⟨L, h1, h2⟩ := h
  exact ⟨L, h1, h2.symm⟩
theorem dc_D {cA : Nat → ClassId} {ad : Nat → Nat} {A : Nat → Prop} (h : dc_ap ad A) (σ : dc_HP) : va_D A (dc_ws cA ad σ) := by
  refine ⟨fun i j p q hp hq e => ?_, fun k q hq => ?_⟩
  · obtain ⟨L, h1, rfl⟩ := dc_ws_inv hp
    obtain ⟨L', h2, rfl⟩ := dc_ws_inv hq
    exact h.1 i j (List.getElem?_eq_some_iff.mp h1).1 (List.getElem?_eq_some_iff.mp h2).1 e
  · obtain ⟨L, h1, rfl⟩ := dc_ws_inv hq
    exact h.2 k (List.getElem?_eq_some_iff.mp h1).1
theorem dc_ent_eq {cA : Nat → ClassId} {ad : Nat → Nat} {σ τ : dc_HP} {k : Nat} (h : ∀ b, σ.1 k b = τ.1 k b ∧ σ.2 k b = τ.2 k b) (L : dc_L) : dc_ent cA ad σ k L = dc_ent cA ad τ k L := by
  have h1 : σ.1 k = τ.1 k := funext fun b => (h b).1
  have h2 : σ.2 k = τ.2 k := funext fun b => (h b).2
  have hv : ∀ j kd, dc_val σ k j kd = dc_val τ k j kd := by
    intro j kd
    match kd with
    | 0 => simp [dc_val, h1]
    | 1 => simp [dc_val, h2]
    | 2 => simp [dc_val, h1]
    | r + 3 => rfl
  have ha : ∀ t, dc_arr σ k t = dc_arr τ k t := by
    intro t
    match t with
    | 0 => simp [dc_arr, h1]
    | 1 => simp [dc_arr, h2]
    | r + 2 => simp [dc_arr, h1]
  cases L with
  | inl o => obtain ⟨ci, ks⟩ := o; simp [dc_ent, hv]
  | inr o => obtain ⟨t, n⟩ := o; simp [dc_ent, ha]
theorem dc_ws_upd {cA : Nat → ClassId} {ad : Nat → Nat} {σ τ : dc_HP} {k : Nat} {L : dc_L} {E : va_E} (hk : dc_lay[k]? = some L) (h : ∀ i, i ≠ k → ∀ b, σ.1 i b = τ.1 i b ∧ σ.2 i b = τ.2 i b) (hE : dc_ent cA ad τ k L = E) : (dc_ws cA ad σ).set k (ad k, E) = dc_ws cA ad τ := by
  have hlt : k < dc_lay.length := (List.getElem?_eq_some_iff.mp hk).1
  refine List.ext_getElem? fun i => ?_
  rw [List.getElem?_set]
  by_cases e : k = i
  · subst e
    have hl : k < (dc_ws cA ad σ).length := by simp [dc_ws]; exact hlt
    rw [if_pos rfl, if_pos hl, dc_ws_get hk, hE]
  · rw [if_neg e]
    simp only [dc_ws, List.getElem?_mapIdx]
    cases hx : dc_lay[i]? with
    | none => rfl
    | some L' =>
      simp only [Option.map_some]
      rw [dc_ent_eq (h i (fun q => e q.symm)) L']

theorem dc_val_wI {σ : dc_HP} {k j i kd : Nat} {v : Int32} (h : i ≠ j) : dc_val (dc_wI σ k j v) k i kd = dc_val σ k i kd := by
  match kd with
  | 0 => simp [dc_val, dc_wI, h]
  | 1 => rfl
  | 2 => simp [dc_val, dc_wI, h]
  | r + 3 => rfl
theorem dc_val_wL {σ : dc_HP} {k j i kd : Nat} {v : Int64} (h : i ≠ j) : dc_val (dc_wL σ k j v) k i kd = dc_val σ k i kd := by
  match kd with
  | 0 => rfl
  | 1 => simp [dc_val, dc_wL, h]
  | 2 => rfl
  | r + 3 => rfl
theorem dc_map_set {f g : Nat → Nat → Value} {ks : List Nat} {j kd : Nat} {w : Value} (hj : ks[j]? = some kd) (hw : f j kd = w) (hn : ∀ i x, i ≠ j → f i x = g i x) : ks.mapIdx f = (ks.mapIdx g).set j w := by
  refine List.ext_getElem? fun i => ?_
  rw [List.getElem?_set, List.getElem?_mapIdx, List.getElem?_mapIdx]
  by_cases e : j = i
  · subst e
    have hl : j < (ks.mapIdx g).length := by simp; exact (List.getElem?_eq_some_iff.mp hj).1
    rw [if_pos rfl, if_pos hl, hj]
    simp [hw]
  · rw [if_neg e]
    cases hx : ks[i]? with
    | none => rfl
    | some x => simp [hn i x (fun q => e q.symm)]
theorem dc_set_I {cA : Nat → ClassId} {ad : Nat → Nat} {σ : dc_HP} {k j ci kd : Nat} {ks : List Nat} (hk : dc_lay[k]? = some (.inl (ci, ks))) (hj : ks[j]? = some kd) (h0 : kd = 0 ∨ kd = 2) (v : Int32) : (dc_ws cA ad σ).set k (ad k, .inr (ci, (ks.mapIdx (fun j kd => dc_cv ad (dc_val σ k j kd))).set j (.int v))) = dc_ws cA ad (dc_wI σ k j v) := by
  refine dc_ws_upd hk (fun i hi b => ⟨by simp [dc_wI, hi], rfl⟩) ?_
  have h := dc_map_set (f := fun j kd => dc_cv ad (dc_val (dc_wI σ k j v) k j kd)) (g := fun j kd => dc_cv ad (dc_val σ k j kd)) (w := .int v) hj (by rcases h0 with rfl | rfl <;> simp [dc_val, dc_wI, dc_cv])
  refine congrArg (fun x => (Sum.inr (ci, x) : va_E)) (dc_map_set hj ?_ (fun i x hi => by rw [dc_val_wI hi]))
  rcases h0 with rfl | rfl <;> simp [dc_val, dc_wI, dc_cv]
theorem dc_set_L {cA : Nat → ClassId} {ad : Nat → Nat} {σ : dc_HP} {k j ci : Nat} {ks : List Nat} (hk : dc_lay[k]? = some (.inl (ci, ks))) (hj : ks[j]? = some 1) (v : Int64) : (dc_ws cA ad σ).set k (ad k, .inr (ci, (ks.mapIdx (fun j kd => dc_cv ad (dc_val σ k j kd))).set j (.long v))) = dc_ws cA ad (dc_wL σ k j v) := by
  refine dc_ws_upd hk (fun i hi b => ⟨rfl, by simp [dc_wL, hi]⟩) ?_
  refine congrArg (fun x => (Sum.inr (ci, x) : va_E)) (dc_map_set hj ?_ (fun i x hi => by rw [dc_val_wL hi]))
  simp [dc_val, dc_wL, dc_cv]
theorem dc_put_I {cA : Nat → ClassId} {ad : Nat → Nat} {σ : dc_HP} {k j n : Nat} {t : Nat} (hk : dc_lay[k]? = some (.inr (t, n))) (ht : t ≠ 1) (v : Int32) : (dc_ws cA ad σ).set k (ad k, .inl (cA t, n, .inl (upd (σ.1 k) j v))) = dc_ws cA ad (dc_wI σ k j v) := by
  refine dc_ws_upd hk (fun i hi b => ⟨by simp [dc_wI, hi], rfl⟩) ?_
  have e : (dc_wI σ k j v).1 k = upd (σ.1 k) j v := by
    funext b
    simp [dc_wI, upd]
  show (Sum.inl (cA t, n, dc_arr (dc_wI σ k j v) k t) : va_E) = _
  have : dc_arr (dc_wI σ k j v) k t = .inl ((dc_wI σ k j v).1 k) := by
    match t, ht with
    | 0, _ => rfl
    | 1, h => exact absurd rfl h
    | r + 2, _ => rfl
  rw [this, e]
theorem dc_put_L {cA : Nat → ClassId} {ad : Nat → Nat} {σ : dc_HP} {k j n : Nat} (hk : dc_lay[k]? = some (.inr (1, n))) (v : Int64) : (dc_ws cA ad σ).set k (ad k, .inl (cA 1, n, .inr (.inl (vp_updL (σ.2 k) j v)))) = dc_ws cA ad (dc_wL σ k j v) := by
  refine dc_ws_upd hk (fun i hi b => ⟨rfl, by simp [dc_wL, hi]⟩) ?_
  have e : (dc_wL σ k j v).2 k = vp_updL (σ.2 k) j v := by
    funext b
    simp [dc_wL, vp_updL]
  show (Sum.inl (cA 1, n, Sum.inr (Sum.inl ((dc_wL σ k j v).2 k))) : va_E) = _
  rw [e]
theorem dc_put_C {cA : Nat → ClassId} {ad : Nat → Nat} {σ : dc_HP} {k0 k m n : Nat} (hk : dc_lay[k]? = some (.inr (0, n))) : (dc_ws cA ad σ).set k (ad k, .inl (cA 0, n, .inl (va_cpy (σ.1 k0) (σ.1 k) 0 0 m))) = dc_ws cA ad (dc_cp σ k0 k m) := by
  refine dc_ws_upd hk (fun i hi b => ⟨by simp [dc_cp, hi], rfl⟩) ?_
  have e : (dc_cp σ k0 k m).1 k = va_cpy (σ.1 k0) (σ.1 k) 0 0 m := by
    funext b
    simp [dc_cp, va_cpy]
  show (Sum.inl (cA 0, n, Sum.inl ((dc_cp σ k0 k m).1 k)) : va_E) = _
  rw [e]
/-! locals -/
def dc_LH (ad : Nat → Nat) (la : Array Slot) (nL : Nat) (ls : List (Option Value)) : Prop := la.size = nL ∧ lv_wf la ∧ ∀ (i : Nat) (v : Value), ls[i]? = some (some v) → la[i]? = some (Slot.val (dc_cv ad v))
def dc_loc (ad : Nat → Nat) (ls : List (Option Value)) : List (Nat × Value) := (List.range ls.length).filterMap (fun i => match ls[i]? with
  | some (some v) => some (i, dc_cv ad v)
  | _ => none)
theorem dc_loc_mem {ad : Nat → Nat} {ls : List (Option Value)} {q : Nat × Value} : q ∈ dc_loc ad ls ↔ ∃ v, ls[q.1]? = some (some v) ∧ q.2 = dc_cv ad v := by
  simp only [dc_loc, List.mem_filterMap, List.mem_range]
  constructor
  · rintro ⟨i, hi, h⟩
    split at h
    next v hv => cases h; exact ⟨v, hv, rfl⟩
    next => cases h
  · rintro ⟨v, h1, h2⟩
    refine ⟨q.1, (List.getElem?_eq_some_iff.mp h1).1, ?_⟩
    rw [h1]
    exact congrArg some (Prod.ext rfl h2.symm)
theorem dc_LH.has {ad : Nat → Nat} {la : Array Slot} {nL : Nat} {ls : List (Option Value)} (h : dc_LH ad la nL ls) : lv_has la nL (dc_loc ad ls) := by
  refine ⟨h.1, h.2.1, fun q hq => ?_⟩
  obtain ⟨v, h1, h2⟩ := dc_loc_mem.mp hq
  rw [h2]
  exact h.2.2 _ _ h1
theorem dc_cv_cat (ad : Nat → Nat) (v : Value) : (dc_cv ad v).category = v.category := by cases v <;> rfl
/-- a value of one word into a local: a long just below it is lost -/
def dc_st1 : List (Option Value) → Nat → Value → List (Option Value)
  | [], _, _ => []
  | _ :: r, 0, v => some v :: r
  | a :: r, 1, v => (match a with
    | some (.long _) => none
    | some (.double _) => none
    | x => x) :: dc_st1 r 0 v
  | a :: r, i + 2, v => a :: dc_st1 r (i + 1) v
/-- a long into two locals -/
def dc_st2 (ls : List (Option Value)) (i : Nat) (v : Value) : List (Option Value) := (dc_st1 ls i v).set (i + 1) none
theorem dc_st1_get : ∀ (ls : List (Option Value)) (i : Nat) (v : Value) (j : Nat) (w : Value), (dc_st1 ls i v)[j]? = some (some w) → (j = i ∧ w = v) ∨ (j ≠ i ∧ ls[j]? = some (some w) ∧ ¬ (j + 1 = i ∧ w.category = 2)) := by
  intro ls
  induction ls with
  | nil => intro i v j w h; simp [dc_st1] at h
  | cons a r ih =>
    intro i v j w h
    match i, j with
    | 0, 0 => simp [dc_st1] at h; exact Or.inl ⟨rfl, h.symm⟩
    | 0, j + 1 => exact Or.inr ⟨by omega, by simpa [dc_st1] using h, by omega⟩
    | 1, 0 =>
      right
      refine ⟨by omega, ?_, ?_⟩
      · revert h
        simp only [dc_st1]
        split <;> simp
      · rintro ⟨-, hc⟩
        revert h
        simp only [dc_st1]
        split
        · simp
        · simp
        · next x h1 h2 =>
          intro h
          simp at h
          subst h
          cases w with
          | long y => exact h1 y rfl
          | double y => exact h2 y rfl
          | _ => simp [Value.category] at hc
    | 1, j + 1 =>
      have h' : (dc_st1 r 0 v)[j]? = some (some w) := by simpa [dc_st1] using h
      rcases ih 0 v j w h' with ⟨h1, h2⟩ | ⟨h1, h2, h3⟩
      · exact Or.inl ⟨by omega, h2⟩
      · exact Or.inr ⟨by omega, by simpa using h2, by omega⟩
    | i + 2, 0 => exact Or.inr ⟨by omega, by simpa [dc_st1] using h, by omega⟩
    | i + 2, j + 1 =>
      have h' : (dc_st1 r (i + 1) v)[j]? = some (some w) := by simpa [dc_st1] using h
      rcases ih (i + 1) v j w h' with ⟨h1, h2⟩ | ⟨h1, h2, h3⟩
      · exact Or.inl ⟨by omega, h2⟩
      · exact Or.inr ⟨by omega, by simpa using h2, fun q => h3 ⟨by omega, q.2⟩⟩
theorem dc_st2_get : ∀ (ls : List (Option Value)) (i : Nat) (v : Value) (j : Nat) (w : Value), (dc_st2 ls i v)[j]? = some (some w) → (j = i ∧ w = v) ∨ (j ≠ i ∧ j ≠ i + 1 ∧ ls[j]? = some (some w) ∧ ¬ (j + 1 = i ∧ w.category = 2)) := by
  intro ls i v j w h
  unfold dc_st2 at h
  rw [List.getElem?_set] at h
  by_cases e : i + 1 = j
  · rw [if_pos e] at h
    split at h <;> cases h
  · rw [if_neg e] at h
    rcases dc_st1_get ls i v j w h with h1 | ⟨h1, h2, h3⟩
    · exact Or.inl h1
    · exact Or.inr ⟨h1, fun q => e q.symm, h2, h3⟩
theorem dc_LH.st1 {ad : Nat → Nat} {la : Array Slot} {nL i : Nat} {ls : List (Option Value)} {v : Value} (h : lv_has la nL ((i, dc_cv ad v) :: (dc_loc ad ls).filter (fun q => !(q.1 == i) && !(q.1 + 1 == i && q.2.category == 2)))) : dc_LH ad la nL (dc_st1 ls i v) := by
  refine ⟨h.1, h.2.1, fun j w hw => ?_⟩
  rcases dc_st1_get ls i v j w hw with ⟨rfl, rfl⟩ | ⟨h1, h2, h3⟩
  · exact h.2.2 (j, dc_cv ad w) List.mem_cons_self
  · refine h.2.2 (j, dc_cv ad w) (List.mem_cons_of_mem _ (List.mem_filter.mpr ⟨dc_loc_mem.mpr ⟨w, h2, rfl⟩, ?_⟩))
    simp only [dc_cv_cat]
    by_cases e : j + 1 = i
    · have h4 : ¬ w.category = 2 := fun q => h3 ⟨e, q⟩
      simp [h1, h4]
    · simp [h1, e]
theorem dc_LH.st2 {ad : Nat → Nat} {la : Array Slot} {nL i : Nat} {ls : List (Option Value)} {v : Value} (h : lv_has la nL ((i, dc_cv ad v) :: (dc_loc ad ls).filter (fun q => !(q.1 == i) && (!(q.1 == i + 1) && !(q.1 + 1 == i && q.2.category == 2))))) : dc_LH ad la nL (dc_st2 ls i v) := by
  refine ⟨h.1, h.2.1, fun j w hw => ?_⟩
  rcases dc_st2_get ls i v j w hw with ⟨rfl, rfl⟩ | ⟨h1, h0, h2, h3⟩
  · exact h.2.2 (j, dc_cv ad w) List.mem_cons_self
  · refine h.2.2 (j, dc_cv ad w) (List.mem_cons_of_mem _ (List.mem_filter.mpr ⟨dc_loc_mem.mpr ⟨w, h2, rfl⟩, ?_⟩))
    simp only [dc_cv_cat]
    by_cases e : j + 1 = i
    · have h4 : ¬ w.category = 2 := fun q => h3 ⟨e, q⟩
      simp [h1, h0, h4]
    · simp [h1, h0, e]
def dc_ini : List Value → List (Option Value)
  | [] => []
  | v :: vs => if v.category = 2 then some v :: none :: dc_ini vs else some v :: dc_ini vs
theorem dc_ini_get (ad : Nat → Nat) : ∀ (vs : List Value) (i0 i : Nat) (v : Value), (dc_ini vs)[i]? = some (some v) → (i0 + i, dc_cv ad v) ∈ lv_args i0 (vs.map (dc_cv ad)) := by
  intro vs
  induction vs with
  | nil => intro i0 i v h; simp [dc_ini] at h
  | cons a r ih =>
    intro i0 i v h
    simp only [List.map_cons, lv_args, dc_cv_cat]
    by_cases hc : a.category = 2
    · simp only [dc_ini, hc, if_true] at h ⊢
      match i with
      | 0 => simp at h; subst h; exact List.mem_cons_self
      | 1 => simp at h
      | i + 2 =>
        have := ih (i0 + 2) i v (by simpa using h)
        rw [show i0 + 2 + i = i0 + (i + 2) by omega] at this
        exact List.mem_cons_of_mem _ this
    · simp only [dc_ini, hc, if_false] at h ⊢
      match i with
      | 0 => simp at h; subst h; exact List.mem_cons_self
      | i + 1 =>
        have := ih (i0 + 1) i v (by simpa using h)
        rw [show i0 + 1 + i = i0 + (i + 1) by omega] at this
        exact List.mem_cons_of_mem _ this
/-- the locals with which a method begins -/
def dc_pad (nL : Nat) (vs : List Value) : List (Option Value) := dc_ini vs ++ List.replicate (nL - (dc_ini vs).length) none
theorem dc_pad_get {nL : Nat} {vs : List Value} {i : Nat} {v : Value} (h : (dc_pad nL vs)[i]? = some (some v)) : (dc_ini vs)[i]? = some (some v) := by
  unfold dc_pad at h
  rw [List.getElem?_append] at h
  split at h
  · exact h
  · have := List.eq_of_mem_replicate (List.mem_of_getElem? h)
    cases this
end
section
/-! the judgement: a state of the machine over the world, and what a method has at hand -/
abbrev dc_KX : Type := Program × Launch × Env × Room × State × MethodId × Array Value × List Frame × Method × Code × Nat × Nat × (State → Prop) × va_G × (Nat → ClassId) × (Nat → Nat) × (Nat → Prop) × Heap
def dc_X (κ : dc_KX) (pc : Nat) (ls : List (Option Value)) (st : List Value) (σ : dc_HP) : Prop := match κ with
  | (p, l, e, R, s, m, args, below, meth, c, cells, slots, Z, D, cA, ad, A, H0) => ∀ (H : Heap) (locs : List Loc) (la : Array Slot), va_P D dc_cl (dc_ws cA ad σ) H → va_S A H0 H locs → dc_LH ad la c.maxLocals ls → W p l e R s m args below meth c H locs cells slots Z (F0 m pc la (st.map (dc_cv ad)))
def dc_NW (U : State) : Prop := ∀ q ∈ dc_nest, va_Nw (.methodLinkNest q.1 q.2.1 q.2.2.1 q.2.2.2) U
def dc_Cx (κ : dc_KX) (own : String) (b : ByteArray) (nL fr lo : Nat) : Prop := match κ with
  | (p, l, e, R, s, m, args, below, meth, c, cells, slots, Z, D, cA, ad, A, H0) => p.tables.exec = Jvm.exec ∧ c.code = b ∧ c.maxLocals = nL ∧ s.vm.findClass own = some m.cls ∧ (∀ w ∈ dc_tb, w.before args s = true) ∧ dc_NW s ∧ va_K D dc_cl (dc_tys cA) s ∧ dc_ap ad A ∧ (fr ≤ R.frames ∧ lo ≤ R.locals ∧ cells ≤ R.cells ∧ slots ≤ R.slots)
abbrev dc_M : Type := String × ByteArray × MethodName × Nat × Option FieldType × Nat × Nat
def dc_rm (M : dc_M) : Room := { frames := M.2.2.2.2.2.1, cells := 0, slots := 0, locals := M.2.2.2.2.2.2 }
def dc_wsM (M : dc_M) : List Cond := .code M.2.2.1 M.2.1 M.2.2.2.1 M.2.2.2.2.1 :: dc_tb
def dc_Pc (D : va_G) (cA : Nat → ClassId) (ad : Nat → Nat) (σ : dc_HP) (av : List Value) : Array Value → State → Prop := va_Pc (av.map (dc_cv ad)) (fun U => va_P D dc_cl (dc_ws cA ad σ) U.heap ∧ va_K D dc_cl (dc_tys cA) U ∧ dc_NW U)
def dc_Qc (D : va_G) (cA : Nat → ClassId) (ad : Nat → Nat) (A : Nat → Prop) (Q : Option Value → dc_HP → Prop) : Array Value → State → Outcome → State → Prop := fun _ st o t => (∃ (r : Option Value) (σ' : dc_HP), o = .returned (r.map (dc_cv ad)) ∧ Q r σ' ∧ va_P D dc_cl (dc_ws cA ad σ') t.heap) ∧ va_F A st t
def dc_Ok (κ : dc_KX) (M : dc_M) (Q : Option Value → dc_HP → Prop) : Prop := dc_Cx κ M.1 M.2.1 M.2.2.2.1 M.2.2.2.2.2.1 M.2.2.2.2.2.2 ∧ match κ with
  | (p, l, e, R, s, m, args, below, meth, c, cells, slots, Z, D, cA, ad, A, H0) => meth.sig.returnType = M.2.2.2.2.1 ∧ meth.locks = false ∧ cells = 0 ∧ slots = 0 ∧ Z = MQ below (dc_Qc D cA ad A Q) args s 0 0 A ∧ H0 = s.heap
/-- a method begun over the world σ with the arguments av comes to its end, and Q holds there -/
def dc_G (M : dc_M) (av : List Value) (σ : dc_HP) (Q : Option Value → dc_HP → Prop) : Prop := ∀ κ, dc_Ok κ M Q → dc_X κ 0 (dc_pad M.2.2.2.1 av) [] σ
def dc_qi (q : Int32 → dc_HP → Prop) : Option Value → dc_HP → Prop := fun r σ' => ∃ x, r = some (.int x) ∧ q x σ'
def dc_ql (q : Int64 → dc_HP → Prop) : Option Value → dc_HP → Prop := fun r σ' => ∃ x, r = some (.long x) ∧ q x σ'
def dc_qv (q : dc_HP → Prop) : Option Value → dc_HP → Prop := fun r σ' => r = none ∧ q σ'
theorem dc_G.mono {M : dc_M} {av : List Value} {σ : dc_HP} {Q Q' : Option Value → dc_HP → Prop} (h : dc_G M av σ Q) (hq : ∀ r τ, Q r τ → Q' r τ) : dc_G M av σ Q' := by
  rintro ⟨p, l, e, R, s, m, args, below, meth, c, cells, slots, Z, D, cA, ad, A, H0⟩ ⟨⟨c1, c2, c3, c4, c5, c6, c7, c8, c9⟩, h1, h2, h3, h4, h5, h6⟩ H locs la hP hS hL
  subst h5
  have h9 := h (p, l, e, R, s, m, args, below, meth, c, cells, slots, MQ below (dc_Qc D cA ad A Q) args s 0 0 A, D, cA, ad, A, H0) ⟨⟨c1, c2, c3, c4, c5, c6, c7, c8, c9⟩, h1, h2, h3, h4, rfl, h6⟩ H locs la hP hS hL
  intro T hT X
  obtain ⟨t, a, o, b1, b2, ⟨⟨r, σ', c1, c2, c3⟩, c4⟩, b4⟩ := h9 T hT X
  exact ⟨t, a, o, b1, b2, ⟨⟨r, σ', c1, hq r σ' c2, c3⟩, c4⟩, b4⟩
theorem dc_tb_good : ∀ w ∈ dc_tb, (w.onTables && w.keeps) = true ∨ ∃ ty, w = .arrayClass ty := fun w h => good_of_word (List.mem_filter.mp h).2
theorem dc_goodIn (M : dc_M) (hc : Cond.code M.2.2.1 M.2.1 M.2.2.2.1 M.2.2.2.2.1 ∈ dc_tb) : GoodIn dc_tb (dc_wsM M) := by
  intro w hw
  rcases List.mem_cons.mp hw with rfl | h
  · exact ⟨hc, dc_tb_good _ hc⟩
  · exact ⟨h, dc_tb_good _ h⟩
theorem dc_met {M : dc_M} {av : List Value} {σ : dc_HP} {Q : Option Value → dc_HP → Prop} (h : dc_G M av σ Q) (hy : plainName M.2.2.1.cls = true) (hown : M.2.2.1.cls = M.1) (hlen : (lg_sl (av.map (dc_cv (fun q => q)))).length ≤ M.2.2.2.1) (l : Launch) {D : va_G} {cA : Nat → ClassId} {ad : Nat → Nat} {A : Nat → Prop} (hap : dc_ap ad A) :
    Met l M.2.2.1 (dc_wsM M) (dc_rm M) (dc_Pc D cA ad σ av) (dc_Qc D cA ad A Q) 0 0 A := by
  refine Met.ofW (cc := M.2.1) (maxL := M.2.2.2.1) (ret := M.2.2.2.2.1) hy rfl ?_
  intro p e s m args below meth c s₁ B hml hv
  obtain ⟨rfl, hP, hK, hN⟩ := hv
  have hts := atoms_spec (ws := dc_wsM M) B.pre
  have hfc : s.vm.findClass M.1 = some m.cls := by rw [← hown]; exact findClass_of_methodNamed B.named
  have key := h (p, l, e, dc_rm M, s, m, (av.map (dc_cv ad)).toArray, below, meth, c, 0, 0, MQ below (dc_Qc D cA ad A Q) (av.map (dc_cv ad)).toArray s 0 0 A, D, cA, ad, A, s.heap)
    ⟨⟨B.exec, B.bytes, hml, hfc, fun w hw => hts w (List.mem_cons_of_mem _ hw), hN, hK, hap, Nat.le_refl _, Nat.le_refl _, Nat.le_refl _, Nat.le_refl _⟩, B.returns, B.notSynchronized, rfl, rfl, rfl, rfl⟩
  have hsl : ∀ (f g : Nat → Nat) (vs : List Value), (lg_sl (vs.map (dc_cv f))).length = (lg_sl (vs.map (dc_cv g))).length := by
    intro f g vs
    induction vs with
    | nil => rfl
    | cons a r ih =>
      simp only [lg_sl, List.map_cons, List.flatMap_cons, List.length_append, dc_cv_cat] at ih ⊢
      rw [ih]
      split <;> rfl
  have hle : (lg_sl (av.map (dc_cv ad))).length ≤ M.2.2.2.1 := by rw [hsl ad (fun q => q)]; exact hlen
  have hl := lv_entry (av.map (dc_cv ad)) (n := M.2.2.2.1) hle
  rw [lg_entry_eq]
  generalize (lg_sl (av.map (dc_cv ad)) ++ List.replicate (M.2.2.2.1 - (lg_sl (av.map (dc_cv ad))).length) Slot.unset).toArray = la at hl ⊢
  refine key s.heap [] la hP va_S.rf ⟨?_, hl.2.1, fun i v hv => ?_⟩
  · rw [hml]; exact hl.1
  · have h1 := dc_ini_get ad av 0 i v (dc_pad_get hv)
    rw [Nat.zero_add] at h1
    exact hl.2.2 _ h1
section DX
variable {κ : dc_KX} {own : String} {b : ByteArray} {nL fr lo pc : Nat} {ls : List (Option Value)} {st : List Value} {σ : dc_HP}
theorem dx_iconst (hC : dc_Cx κ own b nL fr lo) {n : Int} {v : Int32} (hd : decode b pc = .ok (.iconst n, 1)) (hv : Int32.ofInt n = v) (k : dc_X κ (pc + 1) ls (.int v :: st) σ) : dc_X κ pc ls st σ := by
  obtain ⟨p, l, e, R, s, m, args, below, meth, c, cells, slots, Z, D, cA, ad, A, H0⟩ := κ
  obtain ⟨hx, hb, hml, hown, hts, hnw, hK, hap, hR⟩ := hC
  intro H locs la hP hS hL
  exact lv_iconst hx hb hd hv (k H locs la hP hS hL)
theorem dx_bipush (hC : dc_Cx κ own b nL fr lo) {n : Int} {v : Int32} (hd : decode b pc = .ok (.bipush n, 2)) (hv : (Int8.ofInt n).toInt32 = v) (k : dc_X κ (pc + 2) ls (.int v :: st) σ) : dc_X κ pc ls st σ := by
  obtain ⟨p, l, e, R, s, m, args, below, meth, c, cells, slots, Z, D, cA, ad, A, H0⟩ := κ
  obtain ⟨hx, hb, hml, hown, hts, hnw, hK, hap, hR⟩ := hC
  intro H locs la hP hS hL
  exact lv_bipush hx hb hd hv (k H locs la hP hS hL)
theorem dx_sipush (hC : dc_Cx κ own b nL fr lo) {n : Int} {v : Int32} (hd : decode b pc = .ok (.sipush n, 3)) (hv : (Int16.ofInt n).toInt32 = v) (k : dc_X κ (pc + 3) ls (.int v :: st) σ) : dc_X κ pc ls st σ := by
  obtain ⟨p, l, e, R, s, m, args, below, meth, c, cells, slots, Z, D, cA, ad, A, H0⟩ := κ
  obtain ⟨hx, hb, hml, hown, hts, hnw, hK, hap, hR⟩ := hC
  intro H locs la hP hS hL
  exact lv_sipush hx hb hd hv (k H locs la hP hS hL)
theorem dx_lconst (hC : dc_Cx κ own b nL fr lo) {n : Fin 2} {v : Int64} (hd : decode b pc = .ok (.lconst n, 1)) (hv : Int64.ofNat (n : Nat) = v) (k : dc_X κ (pc + 1) ls (.long v :: st) σ) : dc_X κ pc ls st σ := by
  obtain ⟨p, l, e, R, s, m, args, below, meth, c, cells, slots, Z, D, cA, ad, A, H0⟩ := κ
  obtain ⟨hx, hb, hml, hown, hts, hnw, hK, hap, hR⟩ := hC
  intro H locs la hP hS hL
  exact lv_lconst hx hb hd hv (k H locs la hP hS hL)
theorem dx_ldc (hC : dc_Cx κ own b nL fr lo) {index : Nat} {v : Int32} (hd : decode b pc = .ok (.ldc index, 2)) (hw : Cond.constant own index v ∈ dc_tb) (k : dc_X κ (pc + 2) ls (.int v :: st) σ) : dc_X κ pc ls st σ := by
  obtain ⟨p, l, e, R, s, m, args, below, meth, c, cells, slots, Z, D, cA, ad, A, H0⟩ := κ
  obtain ⟨hx, hb, hml, hown, hts, hnw, hK, hap, hR⟩ := hC
  intro H locs la hP hS hL
  exact lv_ldc hx hb hown (hts _ hw) hd (k H locs la hP hS hL)
theorem dx_ldcw (hC : dc_Cx κ own b nL fr lo) {index : Nat} {v : Int32} (hd : decode b pc = .ok (.ldc_w index, 3)) (hw : Cond.constant own index v ∈ dc_tb) (k : dc_X κ (pc + 3) ls (.int v :: st) σ) : dc_X κ pc ls st σ := by
  obtain ⟨p, l, e, R, s, m, args, below, meth, c, cells, slots, Z, D, cA, ad, A, H0⟩ := κ
  obtain ⟨hx, hb, hml, hown, hts, hnw, hK, hap, hR⟩ := hC
  intro H locs la hP hS hL
  exact lv_ldcw hx hb hown (hts _ hw) hd (k H locs la hP hS hL)
theorem dx_ldc2 (hC : dc_Cx κ own b nL fr lo) {index : Nat} {v : Int64} (hd : decode b pc = .ok (.ldc2_w index, 3)) (hw : Cond.constantLong own index v ∈ dc_tb) (k : dc_X κ (pc + 3) ls (.long v :: st) σ) : dc_X κ pc ls st σ := by
  obtain ⟨p, l, e, R, s, m, args, below, meth, c, cells, slots, Z, D, cA, ad, A, H0⟩ := κ
  obtain ⟨hx, hb, hml, hown, hts, hnw, hK, hap, hR⟩ := hC
  intro H locs la hP hS hL
  exact lv_ldc2 hx hb hown (hts _ hw) hd (k H locs la hP hS hL)
theorem dx_iload_n (hC : dc_Cx κ own b nL fr lo) {j : Fin 4} {x : Int32} (hd : decode b pc = .ok (.iload_n j, 1)) (hl : ls[(j : Nat)]? = some (some (.int x))) (k : dc_X κ (pc + 1) ls (.int x :: st) σ) : dc_X κ pc ls st σ := by
  obtain ⟨p, l, e, R, s, m, args, below, meth, c, cells, slots, Z, D, cA, ad, A, H0⟩ := κ
  obtain ⟨hx, hb, hml, hown, hts, hnw, hK, hap, hR⟩ := hC
  intro H locs la hP hS hL
  exact lv_iload_n hx hb hd rfl (hL.2.2 _ _ hl) (k H locs la hP hS hL)
theorem dx_iload (hC : dc_Cx κ own b nL fr lo) {j : Nat} {x : Int32} (hd : decode b pc = .ok (.iload j, 2)) (hl : ls[j]? = some (some (.int x))) (k : dc_X κ (pc + 2) ls (.int x :: st) σ) : dc_X κ pc ls st σ := by
  obtain ⟨p, l, e, R, s, m, args, below, meth, c, cells, slots, Z, D, cA, ad, A, H0⟩ := κ
  obtain ⟨hx, hb, hml, hown, hts, hnw, hK, hap, hR⟩ := hC
  intro H locs la hP hS hL
  exact lv_iload hx hb hd (hL.2.2 _ _ hl) (k H locs la hP hS hL)
theorem dx_lload_n (hC : dc_Cx κ own b nL fr lo) {j : Fin 4} {x : Int64} (hd : decode b pc = .ok (.lload_n j, 1)) (hl : ls[(j : Nat)]? = some (some (.long x))) (k : dc_X κ (pc + 1) ls (.long x :: st) σ) : dc_X κ pc ls st σ := by
  obtain ⟨p, l, e, R, s, m, args, below, meth, c, cells, slots, Z, D, cA, ad, A, H0⟩ := κ
  obtain ⟨hx, hb, hml, hown, hts, hnw, hK, hap, hR⟩ := hC
  intro H locs la hP hS hL
  exact lv_lload_n hx hb hd rfl (hL.2.2 _ _ hl) (k H locs la hP hS hL)
theorem dx_lload (hC : dc_Cx κ own b nL fr lo) {j : Nat} {x : Int64} (hd : decode b pc = .ok (.lload j, 2)) (hl : ls[j]? = some (some (.long x))) (k : dc_X κ (pc + 2) ls (.long x :: st) σ) : dc_X κ pc ls st σ := by
  obtain ⟨p, l, e, R, s, m, args, below, meth, c, cells, slots, Z, D, cA, ad, A, H0⟩ := κ
  obtain ⟨hx, hb, hml, hown, hts, hnw, hK, hap, hR⟩ := hC
  intro H locs la hP hS hL
  exact lv_lload hx hb hd (hL.2.2 _ _ hl) (k H locs la hP hS hL)
theorem dx_aload_n (hC : dc_Cx κ own b nL fr lo) {j : Fin 4} {x : Nat} (hd : decode b pc = .ok (.aload_n j, 1)) (hl : ls[(j : Nat)]? = some (some (.ref x))) (k : dc_X κ (pc + 1) ls (.ref x :: st) σ) : dc_X κ pc ls st σ := by
  obtain ⟨p, l, e, R, s, m, args, below, meth, c, cells, slots, Z, D, cA, ad, A, H0⟩ := κ
  obtain ⟨hx, hb, hml, hown, hts, hnw, hK, hap, hR⟩ := hC
  intro H locs la hP hS hL
  exact lv_aload_n hx hb hd rfl (hL.2.2 _ _ hl) (k H locs la hP hS hL)
theorem dx_aload (hC : dc_Cx κ own b nL fr lo) {j : Nat} {x : Nat} (hd : decode b pc = .ok (.aload j, 2)) (hl : ls[j]? = some (some (.ref x))) (k : dc_X κ (pc + 2) ls (.ref x :: st) σ) : dc_X κ pc ls st σ := by
  obtain ⟨p, l, e, R, s, m, args, below, meth, c, cells, slots, Z, D, cA, ad, A, H0⟩ := κ
  obtain ⟨hx, hb, hml, hown, hts, hnw, hK, hap, hR⟩ := hC
  intro H locs la hP hS hL
  exact lv_aload hx hb hd (hL.2.2 _ _ hl) (k H locs la hP hS hL)
theorem dx_istore_n (hC : dc_Cx κ own b nL fr lo) {j : Fin 4} {x : Int32} {ls' : List (Option Value)} (hd : decode b pc = .ok (.istore_n j, 1)) (hn : (j : Nat) < nL) (hl : dc_st1 ls (j : Nat) (.int x) = ls') (k : dc_X κ (pc + 1) ls' st σ) : dc_X κ pc ls (.int x :: st) σ := by
  obtain ⟨p, l, e, R, s, m, args, below, meth, c, cells, slots, Z, D, cA, ad, A, H0⟩ := κ
  obtain ⟨hx, hb, hml, hown, hts, hnw, hK, hap, hR⟩ := hC
  intro H locs la hP hS hL
  subst hl
  exact lv_istore_n hx hb hd rfl hL.has (by rw [hml]; exact hn) rfl (fun la' hL' => k H locs la' hP hS (dc_LH.st1 (v := .int x) hL'))
theorem dx_istore (hC : dc_Cx κ own b nL fr lo) {j : Nat} {x : Int32} {ls' : List (Option Value)} (hd : decode b pc = .ok (.istore j, 2)) (hn : j < nL) (hl : dc_st1 ls j (.int x) = ls') (k : dc_X κ (pc + 2) ls' st σ) : dc_X κ pc ls (.int x :: st) σ := by
  obtain ⟨p, l, e, R, s, m, args, below, meth, c, cells, slots, Z, D, cA, ad, A, H0⟩ := κ
  obtain ⟨hx, hb, hml, hown, hts, hnw, hK, hap, hR⟩ := hC
  intro H locs la hP hS hL
  subst hl
  exact lv_istore hx hb hd hL.has (by rw [hml]; exact hn) rfl (fun la' hL' => k H locs la' hP hS (dc_LH.st1 (v := .int x) hL'))
theorem dx_lstore_n (hC : dc_Cx κ own b nL fr lo) {j : Fin 4} {x : Int64} {ls' : List (Option Value)} (hd : decode b pc = .ok (.lstore_n j, 1)) (hn : (j : Nat) + 1 < nL) (hl : dc_st2 ls (j : Nat) (.long x) = ls') (k : dc_X κ (pc + 1) ls' st σ) : dc_X κ pc ls (.long x :: st) σ := by
  obtain ⟨p, l, e, R, s, m, args, below, meth, c, cells, slots, Z, D, cA, ad, A, H0⟩ := κ
  obtain ⟨hx, hb, hml, hown, hts, hnw, hK, hap, hR⟩ := hC
  intro H locs la hP hS hL
  subst hl
  exact lv_lstore_n hx hb hd rfl hL.has (by rw [hml]; exact hn) rfl (fun la' hL' => k H locs la' hP hS (dc_LH.st2 (v := .long x) hL'))
theorem dx_lstore (hC : dc_Cx κ own b nL fr lo) {j : Nat} {x : Int64} {ls' : List (Option Value)} (hd : decode b pc = .ok (.lstore j, 2)) (hn : j + 1 < nL) (hl : dc_st2 ls j (.long x) = ls') (k : dc_X κ (pc + 2) ls' st σ) : dc_X κ pc ls (.long x :: st) σ := by
  obtain ⟨p, l, e, R, s, m, args, below, meth, c, cells, slots, Z, D, cA, ad, A, H0⟩ := κ
  obtain ⟨hx, hb, hml, hown, hts, hnw, hK, hap, hR⟩ := hC
  intro H locs la hP hS hL
  subst hl
  exact lv_lstore hx hb hd hL.has (by rw [hml]; exact hn) rfl (fun la' hL' => k H locs la' hP hS (dc_LH.st2 (v := .long x) hL'))
theorem dx_astore_n (hC : dc_Cx κ own b nL fr lo) {j : Fin 4} {x : Nat} {ls' : List (Option Value)} (hd : decode b pc = .ok (.astore_n j, 1)) (hn : (j : Nat) < nL) (hl : dc_st1 ls (j : Nat) (.ref x) = ls') (k : dc_X κ (pc + 1) ls' st σ) : dc_X κ pc ls (.ref x :: st) σ := by
  obtain ⟨p, l, e, R, s, m, args, below, meth, c, cells, slots, Z, D, cA, ad, A, H0⟩ := κ
  obtain ⟨hx, hb, hml, hown, hts, hnw, hK, hap, hR⟩ := hC
  intro H locs la hP hS hL
  subst hl
  exact lv_astore_n hx hb hd rfl hL.has (by rw [hml]; exact hn) rfl (fun la' hL' => k H locs la' hP hS (dc_LH.st1 (v := .ref x) hL'))
theorem dx_astore (hC : dc_Cx κ own b nL fr lo) {j : Nat} {x : Nat} {ls' : List (Option Value)} (hd : decode b pc = .ok (.astore j, 2)) (hn : j < nL) (hl : dc_st1 ls j (.ref x) = ls') (k : dc_X κ (pc + 2) ls' st σ) : dc_X κ pc ls (.ref x :: st) σ := by
  obtain ⟨p, l, e, R, s, m, args, below, meth, c, cells, slots, Z, D, cA, ad, A, H0⟩ := κ
  obtain ⟨hx, hb, hml, hown, hts, hnw, hK, hap, hR⟩ := hC
  intro H locs la hP hS hL
  subst hl
  exact lv_astore hx hb hd hL.has (by rw [hml]; exact hn) rfl (fun la' hL' => k H locs la' hP hS (dc_LH.st1 (v := .ref x) hL'))
theorem dx_iinc (hC : dc_Cx κ own b nL fr lo) {j : Nat} {n : Int} {x v : Int32} {ls' : List (Option Value)} (hd : decode b pc = .ok (.iinc j n, 3)) (hg : ls[j]? = some (some (.int x))) (hv : x + Int32.ofInt n = v) (hn : j < nL) (hl : dc_st1 ls j (.int v) = ls') (k : dc_X κ (pc + 3) ls' st σ) : dc_X κ pc ls st σ := by
  obtain ⟨p, l, e, R, s, m, args, below, meth, c, cells, slots, Z, D, cA, ad, A, H0⟩ := κ
  obtain ⟨hx, hb, hml, hown, hts, hnw, hK, hap, hR⟩ := hC
  intro H locs la hP hS hL
  subst hl
  have hm : (j, Value.int x) ∈ dc_loc ad ls := dc_loc_mem.mpr ⟨.int x, hg, rfl⟩
  obtain ⟨i0, hi0⟩ := List.getElem?_of_mem hm
  exact lv_iinc hx hb hd hL.has hi0 hv (by rw [hml]; exact hn) rfl (fun la' hL' => k H locs la' hP hS (dc_LH.st1 (v := .int v) hL'))
theorem dx_iadd (hC : dc_Cx κ own b nL fr lo) {x y : Int32} (hd : decode b pc = .ok (.iadd, 1)) (k : dc_X κ (pc + 1) ls (.int (x + y) :: st) σ) : dc_X κ pc ls (.int y :: .int x :: st) σ := by
  obtain ⟨p, l, e, R, s, m, args, below, meth, c, cells, slots, Z, D, cA, ad, A, H0⟩ := κ
  obtain ⟨hx, hb, hml, hown, hts, hnw, hK, hap, hR⟩ := hC
  intro H locs la hP hS hL
  exact lv_iadd hx hb hd (k H locs la hP hS hL)
theorem dx_isub (hC : dc_Cx κ own b nL fr lo) {x y : Int32} (hd : decode b pc = .ok (.isub, 1)) (k : dc_X κ (pc + 1) ls (.int (x - y) :: st) σ) : dc_X κ pc ls (.int y :: .int x :: st) σ := by
  obtain ⟨p, l, e, R, s, m, args, below, meth, c, cells, slots, Z, D, cA, ad, A, H0⟩ := κ
  obtain ⟨hx, hb, hml, hown, hts, hnw, hK, hap, hR⟩ := hC
  intro H locs la hP hS hL
  exact lv_isub hx hb hd (k H locs la hP hS hL)
theorem dx_imul (hC : dc_Cx κ own b nL fr lo) {x y : Int32} (hd : decode b pc = .ok (.imul, 1)) (k : dc_X κ (pc + 1) ls (.int (x * y) :: st) σ) : dc_X κ pc ls (.int y :: .int x :: st) σ := by
  obtain ⟨p, l, e, R, s, m, args, below, meth, c, cells, slots, Z, D, cA, ad, A, H0⟩ := κ
  obtain ⟨hx, hb, hml, hown, hts, hnw, hK, hap, hR⟩ := hC
  intro H locs la hP hS hL
  exact lv_imul hx hb hd (k H locs la hP hS hL)
theorem dx_iand (hC : dc_Cx κ own b nL fr lo) {x y : Int32} (hd : decode b pc = .ok (.iand, 1)) (k : dc_X κ (pc + 1) ls (.int (x &&& y) :: st) σ) : dc_X κ pc ls (.int y :: .int x :: st) σ := by
  obtain ⟨p, l, e, R, s, m, args, below, meth, c, cells, slots, Z, D, cA, ad, A, H0⟩ := κ
  obtain ⟨hx, hb, hml, hown, hts, hnw, hK, hap, hR⟩ := hC
  intro H locs la hP hS hL
  exact lv_iand hx hb hd (k H locs la hP hS hL)
theorem dx_ior (hC : dc_Cx κ own b nL fr lo) {x y : Int32} (hd : decode b pc = .ok (.ior, 1)) (k : dc_X κ (pc + 1) ls (.int (x ||| y) :: st) σ) : dc_X κ pc ls (.int y :: .int x :: st) σ := by
  obtain ⟨p, l, e, R, s, m, args, below, meth, c, cells, slots, Z, D, cA, ad, A, H0⟩ := κ
  obtain ⟨hx, hb, hml, hown, hts, hnw, hK, hap, hR⟩ := hC
  intro H locs la hP hS hL
  exact lv_ior hx hb hd (k H locs la hP hS hL)
theorem dx_ixor (hC : dc_Cx κ own b nL fr lo) {x y : Int32} (hd : decode b pc = .ok (.ixor, 1)) (k : dc_X κ (pc + 1) ls (.int (x ^^^ y) :: st) σ) : dc_X κ pc ls (.int y :: .int x :: st) σ := by
  obtain ⟨p, l, e, R, s, m, args, below, meth, c, cells, slots, Z, D, cA, ad, A, H0⟩ := κ
  obtain ⟨hx, hb, hml, hown, hts, hnw, hK, hap, hR⟩ := hC
  intro H locs la hP hS hL
  exact lv_ixor hx hb hd (k H locs la hP hS hL)
theorem dx_ishl (hC : dc_Cx κ own b nL fr lo) {x y : Int32} (hd : decode b pc = .ok (.ishl, 1)) (k : dc_X κ (pc + 1) ls (.int (x <<< (y &&& 31)) :: st) σ) : dc_X κ pc ls (.int y :: .int x :: st) σ := by
  obtain ⟨p, l, e, R, s, m, args, below, meth, c, cells, slots, Z, D, cA, ad, A, H0⟩ := κ
  obtain ⟨hx, hb, hml, hown, hts, hnw, hK, hap, hR⟩ := hC
  intro H locs la hP hS hL
  exact lv_ishl hx hb hd (k H locs la hP hS hL)
theorem dx_ishr (hC : dc_Cx κ own b nL fr lo) {x y : Int32} (hd : decode b pc = .ok (.ishr, 1)) (k : dc_X κ (pc + 1) ls (.int (x >>> (y &&& 31)) :: st) σ) : dc_X κ pc ls (.int y :: .int x :: st) σ := by
  obtain ⟨p, l, e, R, s, m, args, below, meth, c, cells, slots, Z, D, cA, ad, A, H0⟩ := κ
  obtain ⟨hx, hb, hml, hown, hts, hnw, hK, hap, hR⟩ := hC
  intro H locs la hP hS hL
  exact lv_ishr hx hb hd (k H locs la hP hS hL)
theorem dx_iushr (hC : dc_Cx κ own b nL fr lo) {x y : Int32} (hd : decode b pc = .ok (.iushr, 1)) (k : dc_X κ (pc + 1) ls (.int ((x.toUInt32 >>> (y.toUInt32 &&& Int32.toUInt32 31)).toInt32) :: st) σ) : dc_X κ pc ls (.int y :: .int x :: st) σ := by
  obtain ⟨p, l, e, R, s, m, args, below, meth, c, cells, slots, Z, D, cA, ad, A, H0⟩ := κ
  obtain ⟨hx, hb, hml, hown, hts, hnw, hK, hap, hR⟩ := hC
  intro H locs la hP hS hL
  exact lv_iushr hx hb hd rfl (k H locs la hP hS hL)
theorem dx_idiv (hC : dc_Cx κ own b nL fr lo) {x y : Int32} (hd : decode b pc = .ok (.idiv, 1)) (hne : ¬ y = 0) (k : dc_X κ (pc + 1) ls (.int (x / y) :: st) σ) : dc_X κ pc ls (.int y :: .int x :: st) σ := by
  obtain ⟨p, l, e, R, s, m, args, below, meth, c, cells, slots, Z, D, cA, ad, A, H0⟩ := κ
  obtain ⟨hx, hb, hml, hown, hts, hnw, hK, hap, hR⟩ := hC
  intro H locs la hP hS hL
  exact lv_idiv hx hb hd hne (k H locs la hP hS hL)
theorem dx_irem (hC : dc_Cx κ own b nL fr lo) {x y : Int32} (hd : decode b pc = .ok (.irem, 1)) (hne : ¬ y = 0) (k : dc_X κ (pc + 1) ls (.int (x - x / y * y) :: st) σ) : dc_X κ pc ls (.int y :: .int x :: st) σ := by
  obtain ⟨p, l, e, R, s, m, args, below, meth, c, cells, slots, Z, D, cA, ad, A, H0⟩ := κ
  obtain ⟨hx, hb, hml, hown, hts, hnw, hK, hap, hR⟩ := hC
  intro H locs la hP hS hL
  exact lv_irem hx hb hd hne (k H locs la hP hS hL)
theorem dx_ineg (hC : dc_Cx κ own b nL fr lo) {x : Int32} (hd : decode b pc = .ok (.ineg, 1)) (k : dc_X κ (pc + 1) ls (.int (-x) :: st) σ) : dc_X κ pc ls (.int x :: st) σ := by
  obtain ⟨p, l, e, R, s, m, args, below, meth, c, cells, slots, Z, D, cA, ad, A, H0⟩ := κ
  obtain ⟨hx, hb, hml, hown, hts, hnw, hK, hap, hR⟩ := hC
  intro H locs la hP hS hL
  exact lv_ineg hx hb hd (k H locs la hP hS hL)
theorem dx_ladd (hC : dc_Cx κ own b nL fr lo) {x y : Int64} (hd : decode b pc = .ok (.ladd, 1)) (k : dc_X κ (pc + 1) ls (.long (x + y) :: st) σ) : dc_X κ pc ls (.long y :: .long x :: st) σ := by
  obtain ⟨p, l, e, R, s, m, args, below, meth, c, cells, slots, Z, D, cA, ad, A, H0⟩ := κ
  obtain ⟨hx, hb, hml, hown, hts, hnw, hK, hap, hR⟩ := hC
  intro H locs la hP hS hL
  exact lv_ladd hx hb hd (k H locs la hP hS hL)
theorem dx_lsub (hC : dc_Cx κ own b nL fr lo) {x y : Int64} (hd : decode b pc = .ok (.lsub, 1)) (k : dc_X κ (pc + 1) ls (.long (x - y) :: st) σ) : dc_X κ pc ls (.long y :: .long x :: st) σ := by
  obtain ⟨p, l, e, R, s, m, args, below, meth, c, cells, slots, Z, D, cA, ad, A, H0⟩ := κ
  obtain ⟨hx, hb, hml, hown, hts, hnw, hK, hap, hR⟩ := hC
  intro H locs la hP hS hL
  exact lv_lsub hx hb hd (k H locs la hP hS hL)
theorem dx_lmul (hC : dc_Cx κ own b nL fr lo) {x y : Int64} (hd : decode b pc = .ok (.lmul, 1)) (k : dc_X κ (pc + 1) ls (.long (x * y) :: st) σ) : dc_X κ pc ls (.long y :: .long x :: st) σ := by
  obtain ⟨p, l, e, R, s, m, args, below, meth, c, cells, slots, Z, D, cA, ad, A, H0⟩ := κ
  obtain ⟨hx, hb, hml, hown, hts, hnw, hK, hap, hR⟩ := hC
  intro H locs la hP hS hL
  exact lv_lmul hx hb hd (k H locs la hP hS hL)
theorem dx_ldiv (hC : dc_Cx κ own b nL fr lo) {x y : Int64} (hd : decode b pc = .ok (.ldiv, 1)) (hne : ¬ y = 0) (k : dc_X κ (pc + 1) ls (.long (x / y) :: st) σ) : dc_X κ pc ls (.long y :: .long x :: st) σ := by
  obtain ⟨p, l, e, R, s, m, args, below, meth, c, cells, slots, Z, D, cA, ad, A, H0⟩ := κ
  obtain ⟨hx, hb, hml, hown, hts, hnw, hK, hap, hR⟩ := hC
  intro H locs la hP hS hL
  exact lv_ldiv hx hb hd hne (k H locs la hP hS hL)
theorem dx_lrem (hC : dc_Cx κ own b nL fr lo) {x y : Int64} (hd : decode b pc = .ok (.lrem, 1)) (hne : ¬ y = 0) (k : dc_X κ (pc + 1) ls (.long (x - x / y * y) :: st) σ) : dc_X κ pc ls (.long y :: .long x :: st) σ := by
  obtain ⟨p, l, e, R, s, m, args, below, meth, c, cells, slots, Z, D, cA, ad, A, H0⟩ := κ
  obtain ⟨hx, hb, hml, hown, hts, hnw, hK, hap, hR⟩ := hC
  intro H locs la hP hS hL
  exact lv_lrem hx hb hd hne (k H locs la hP hS hL)
theorem dx_lneg (hC : dc_Cx κ own b nL fr lo) {x : Int64} (hd : decode b pc = .ok (.lneg, 1)) (k : dc_X κ (pc + 1) ls (.long (-x) :: st) σ) : dc_X κ pc ls (.long x :: st) σ := by
  obtain ⟨p, l, e, R, s, m, args, below, meth, c, cells, slots, Z, D, cA, ad, A, H0⟩ := κ
  obtain ⟨hx, hb, hml, hown, hts, hnw, hK, hap, hR⟩ := hC
  intro H locs la hP hS hL
  exact lv_lneg hx hb hd (k H locs la hP hS hL)
theorem dx_lcmp (hC : dc_Cx κ own b nL fr lo) {x y : Int64} (hd : decode b pc = .ok (.lcmp, 1)) (k : dc_X κ (pc + 1) ls (.int (lg_cmp x y) :: st) σ) : dc_X κ pc ls (.long y :: .long x :: st) σ := by
  obtain ⟨p, l, e, R, s, m, args, below, meth, c, cells, slots, Z, D, cA, ad, A, H0⟩ := κ
  obtain ⟨hx, hb, hml, hown, hts, hnw, hK, hap, hR⟩ := hC
  intro H locs la hP hS hL
  exact W.lcmp hx hb hd (k H locs la hP hS hL)
theorem dx_i2l (hC : dc_Cx κ own b nL fr lo) {x : Int32} (hd : decode b pc = .ok (.i2l, 1)) (k : dc_X κ (pc + 1) ls (.long x.toInt64 :: st) σ) : dc_X κ pc ls (.int x :: st) σ := by
  obtain ⟨p, l, e, R, s, m, args, below, meth, c, cells, slots, Z, D, cA, ad, A, H0⟩ := κ
  obtain ⟨hx, hb, hml, hown, hts, hnw, hK, hap, hR⟩ := hC
  intro H locs la hP hS hL
  exact lv_i2l hx hb hd rfl (k H locs la hP hS hL)
theorem dx_l2i (hC : dc_Cx κ own b nL fr lo) {x : Int64} (hd : decode b pc = .ok (.l2i, 1)) (k : dc_X κ (pc + 1) ls (.int x.toInt32 :: st) σ) : dc_X κ pc ls (.long x :: st) σ := by
  obtain ⟨p, l, e, R, s, m, args, below, meth, c, cells, slots, Z, D, cA, ad, A, H0⟩ := κ
  obtain ⟨hx, hb, hml, hown, hts, hnw, hK, hap, hR⟩ := hC
  intro H locs la hP hS hL
  exact lv_l2i hx hb hd rfl (k H locs la hP hS hL)
theorem dx_dup (hC : dc_Cx κ own b nL fr lo) {v : Value} (hd : decode b pc = .ok (.dup, 1)) (hv : v.category = 1) (k : dc_X κ (pc + 1) ls (v :: v :: st) σ) : dc_X κ pc ls (v :: st) σ := by
  obtain ⟨p, l, e, R, s, m, args, below, meth, c, cells, slots, Z, D, cA, ad, A, H0⟩ := κ
  obtain ⟨hx, hb, hml, hown, hts, hnw, hK, hap, hR⟩ := hC
  intro H locs la hP hS hL
  exact lv_dup hx hb hd ((dc_cv_cat ad v).trans hv) (k H locs la hP hS hL)
theorem dx_pop (hC : dc_Cx κ own b nL fr lo) {v : Value} (hd : decode b pc = .ok (.pop, 1)) (hv : v.category = 1) (k : dc_X κ (pc + 1) ls st σ) : dc_X κ pc ls (v :: st) σ := by
  obtain ⟨p, l, e, R, s, m, args, below, meth, c, cells, slots, Z, D, cA, ad, A, H0⟩ := κ
  obtain ⟨hx, hb, hml, hown, hts, hnw, hK, hap, hR⟩ := hC
  intro H locs la hP hS hL
  exact lv_pop hx hb hd ((dc_cv_cat ad v).trans hv) (k H locs la hP hS hL)
theorem dx_dup2 (hC : dc_Cx κ own b nL fr lo) {v w : Value} (hd : decode b pc = .ok (.dup2, 1)) (hv : v.category = 1) (hw : w.category = 1) (k : dc_X κ (pc + 1) ls (v :: w :: v :: w :: st) σ) : dc_X κ pc ls (v :: w :: st) σ := by
  obtain ⟨p, l, e, R, s, m, args, below, meth, c, cells, slots, Z, D, cA, ad, A, H0⟩ := κ
  obtain ⟨hx, hb, hml, hown, hts, hnw, hK, hap, hR⟩ := hC
  intro H locs la hP hS hL
  exact lv_dup2_11 hx hb hd ((dc_cv_cat ad v).trans hv) ((dc_cv_cat ad w).trans hw) (k H locs la hP hS hL)
theorem dx_if_eq (hC : dc_Cx κ own b nL fr lo) {x : Int32} {off : Int} {tgt : Nat} (hd : decode b pc = .ok (.ifCond .eq off, 3)) (ht : (pc : Int) + off = (tgt : Int)) (kt : x = 0 → dc_X κ tgt ls st σ) (kf : ¬ x = 0 → dc_X κ (pc + 3) ls st σ) : dc_X κ pc ls (.int x :: st) σ := by
  obtain ⟨p, l, e, R, s, m, args, below, meth, c, cells, slots, Z, D, cA, ad, A, H0⟩ := κ
  obtain ⟨hx, hb, hml, hown, hts, hnw, hK, hap, hR⟩ := hC
  intro H locs la hP hS hL
  exact lv_if_eq hx hb hd ht (fun q => kt q H locs la hP hS hL) (fun q => kf q H locs la hP hS hL)
theorem dx_if_ne (hC : dc_Cx κ own b nL fr lo) {x : Int32} {off : Int} {tgt : Nat} (hd : decode b pc = .ok (.ifCond .ne off, 3)) (ht : (pc : Int) + off = (tgt : Int)) (kt : ¬ x = 0 → dc_X κ tgt ls st σ) (kf : x = 0 → dc_X κ (pc + 3) ls st σ) : dc_X κ pc ls (.int x :: st) σ := by
  obtain ⟨p, l, e, R, s, m, args, below, meth, c, cells, slots, Z, D, cA, ad, A, H0⟩ := κ
  obtain ⟨hx, hb, hml, hown, hts, hnw, hK, hap, hR⟩ := hC
  intro H locs la hP hS hL
  exact lv_if_ne hx hb hd ht (fun q => kt q H locs la hP hS hL) (fun q => kf q H locs la hP hS hL)
theorem dx_if_lt (hC : dc_Cx κ own b nL fr lo) {x : Int32} {off : Int} {tgt : Nat} (hd : decode b pc = .ok (.ifCond .lt off, 3)) (ht : (pc : Int) + off = (tgt : Int)) (kt : x < 0 → dc_X κ tgt ls st σ) (kf : ¬ x < 0 → dc_X κ (pc + 3) ls st σ) : dc_X κ pc ls (.int x :: st) σ := by
  obtain ⟨p, l, e, R, s, m, args, below, meth, c, cells, slots, Z, D, cA, ad, A, H0⟩ := κ
  obtain ⟨hx, hb, hml, hown, hts, hnw, hK, hap, hR⟩ := hC
  intro H locs la hP hS hL
  exact lv_if_lt hx hb hd ht (fun q => kt q H locs la hP hS hL) (fun q => kf q H locs la hP hS hL)
theorem dx_if_ge (hC : dc_Cx κ own b nL fr lo) {x : Int32} {off : Int} {tgt : Nat} (hd : decode b pc = .ok (.ifCond .ge off, 3)) (ht : (pc : Int) + off = (tgt : Int)) (kt : 0 ≤ x → dc_X κ tgt ls st σ) (kf : ¬ 0 ≤ x → dc_X κ (pc + 3) ls st σ) : dc_X κ pc ls (.int x :: st) σ := by
  obtain ⟨p, l, e, R, s, m, args, below, meth, c, cells, slots, Z, D, cA, ad, A, H0⟩ := κ
  obtain ⟨hx, hb, hml, hown, hts, hnw, hK, hap, hR⟩ := hC
  intro H locs la hP hS hL
  exact lv_if_ge hx hb hd ht (fun q => kt q H locs la hP hS hL) (fun q => kf q H locs la hP hS hL)
theorem dx_if_gt (hC : dc_Cx κ own b nL fr lo) {x : Int32} {off : Int} {tgt : Nat} (hd : decode b pc = .ok (.ifCond .gt off, 3)) (ht : (pc : Int) + off = (tgt : Int)) (kt : 0 < x → dc_X κ tgt ls st σ) (kf : ¬ 0 < x → dc_X κ (pc + 3) ls st σ) : dc_X κ pc ls (.int x :: st) σ := by
  obtain ⟨p, l, e, R, s, m, args, below, meth, c, cells, slots, Z, D, cA, ad, A, H0⟩ := κ
  obtain ⟨hx, hb, hml, hown, hts, hnw, hK, hap, hR⟩ := hC
  intro H locs la hP hS hL
  exact lv_if_gt hx hb hd ht (fun q => kt q H locs la hP hS hL) (fun q => kf q H locs la hP hS hL)
theorem dx_if_le (hC : dc_Cx κ own b nL fr lo) {x : Int32} {off : Int} {tgt : Nat} (hd : decode b pc = .ok (.ifCond .le off, 3)) (ht : (pc : Int) + off = (tgt : Int)) (kt : x ≤ 0 → dc_X κ tgt ls st σ) (kf : ¬ x ≤ 0 → dc_X κ (pc + 3) ls st σ) : dc_X κ pc ls (.int x :: st) σ := by
  obtain ⟨p, l, e, R, s, m, args, below, meth, c, cells, slots, Z, D, cA, ad, A, H0⟩ := κ
  obtain ⟨hx, hb, hml, hown, hts, hnw, hK, hap, hR⟩ := hC
  intro H locs la hP hS hL
  exact lv_if_le hx hb hd ht (fun q => kt q H locs la hP hS hL) (fun q => kf q H locs la hP hS hL)
theorem dx_icmp_eq (hC : dc_Cx κ own b nL fr lo) {x y : Int32} {off : Int} {tgt : Nat} (hd : decode b pc = .ok (.if_icmp .eq off, 3)) (ht : (pc : Int) + off = (tgt : Int)) (kt : x = y → dc_X κ tgt ls st σ) (kf : ¬ x = y → dc_X κ (pc + 3) ls st σ) : dc_X κ pc ls (.int y :: .int x :: st) σ := by
  obtain ⟨p, l, e, R, s, m, args, below, meth, c, cells, slots, Z, D, cA, ad, A, H0⟩ := κ
  obtain ⟨hx, hb, hml, hown, hts, hnw, hK, hap, hR⟩ := hC
  intro H locs la hP hS hL
  exact lv_icmp_eq hx hb hd ht (fun q => kt q H locs la hP hS hL) (fun q => kf q H locs la hP hS hL)
theorem dx_icmp_ne (hC : dc_Cx κ own b nL fr lo) {x y : Int32} {off : Int} {tgt : Nat} (hd : decode b pc = .ok (.if_icmp .ne off, 3)) (ht : (pc : Int) + off = (tgt : Int)) (kt : ¬ x = y → dc_X κ tgt ls st σ) (kf : x = y → dc_X κ (pc + 3) ls st σ) : dc_X κ pc ls (.int y :: .int x :: st) σ := by
  obtain ⟨p, l, e, R, s, m, args, below, meth, c, cells, slots, Z, D, cA, ad, A, H0⟩ := κ
  obtain ⟨hx, hb, hml, hown, hts, hnw, hK, hap, hR⟩ := hC
  intro H locs la hP hS hL
  exact lv_icmp_ne hx hb hd ht (fun q => kt q H locs la hP hS hL) (fun q => kf q H locs la hP hS hL)
theorem dx_icmp_lt (hC : dc_Cx κ own b nL fr lo) {x y : Int32} {off : Int} {tgt : Nat} (hd : decode b pc = .ok (.if_icmp .lt off, 3)) (ht : (pc : Int) + off = (tgt : Int)) (kt : x < y → dc_X κ tgt ls st σ) (kf : ¬ x < y → dc_X κ (pc + 3) ls st σ) : dc_X κ pc ls (.int y :: .int x :: st) σ := by
  obtain ⟨p, l, e, R, s, m, args, below, meth, c, cells, slots, Z, D, cA, ad, A, H0⟩ := κ
  obtain ⟨hx, hb, hml, hown, hts, hnw, hK, hap, hR⟩ := hC
  intro H locs la hP hS hL
  exact lv_icmp_lt hx hb hd ht (fun q => kt q H locs la hP hS hL) (fun q => kf q H locs la hP hS hL)
theorem dx_icmp_ge (hC : dc_Cx κ own b nL fr lo) {x y : Int32} {off : Int} {tgt : Nat} (hd : decode b pc = .ok (.if_icmp .ge off, 3)) (ht : (pc : Int) + off = (tgt : Int)) (kt : y ≤ x → dc_X κ tgt ls st σ) (kf : ¬ y ≤ x → dc_X κ (pc + 3) ls st σ) : dc_X κ pc ls (.int y :: .int x :: st) σ := by
  obtain ⟨p, l, e, R, s, m, args, below, meth, c, cells, slots, Z, D, cA, ad, A, H0⟩ := κ
  obtain ⟨hx, hb, hml, hown, hts, hnw, hK, hap, hR⟩ := hC
  intro H locs la hP hS hL
  exact lv_icmp_ge hx hb hd ht (fun q => kt q H locs la hP hS hL) (fun q => kf q H locs la hP hS hL)
theorem dx_icmp_gt (hC : dc_Cx κ own b nL fr lo) {x y : Int32} {off : Int} {tgt : Nat} (hd : decode b pc = .ok (.if_icmp .gt off, 3)) (ht : (pc : Int) + off = (tgt : Int)) (kt : y < x → dc_X κ tgt ls st σ) (kf : ¬ y < x → dc_X κ (pc + 3) ls st σ) : dc_X κ pc ls (.int y :: .int x :: st) σ := by
  obtain ⟨p, l, e, R, s, m, args, below, meth, c, cells, slots, Z, D, cA, ad, A, H0⟩ := κ
  obtain ⟨hx, hb, hml, hown, hts, hnw, hK, hap, hR⟩ := hC
  intro H locs la hP hS hL
  exact lv_icmp_gt hx hb hd ht (fun q => kt q H locs la hP hS hL) (fun q => kf q H locs la hP hS hL)
theorem dx_icmp_le (hC : dc_Cx κ own b nL fr lo) {x y : Int32} {off : Int} {tgt : Nat} (hd : decode b pc = .ok (.if_icmp .le off, 3)) (ht : (pc : Int) + off = (tgt : Int)) (kt : x ≤ y → dc_X κ tgt ls st σ) (kf : ¬ x ≤ y → dc_X κ (pc + 3) ls st σ) : dc_X κ pc ls (.int y :: .int x :: st) σ := by
  obtain ⟨p, l, e, R, s, m, args, below, meth, c, cells, slots, Z, D, cA, ad, A, H0⟩ := κ
  obtain ⟨hx, hb, hml, hown, hts, hnw, hK, hap, hR⟩ := hC
  intro H locs la hP hS hL
  exact lv_icmp_le hx hb hd ht (fun q => kt q H locs la hP hS hL) (fun q => kf q H locs la hP hS hL)
theorem dx_goto (hC : dc_Cx κ own b nL fr lo) {off : Int} {tgt : Nat} (hd : decode b pc = .ok (.goto off, 3)) (ht : (pc : Int) + off = (tgt : Int)) (k : dc_X κ tgt ls st σ) : dc_X κ pc ls st σ := by
  obtain ⟨p, l, e, R, s, m, args, below, meth, c, cells, slots, Z, D, cA, ad, A, H0⟩ := κ
  obtain ⟨hx, hb, hml, hown, hts, hnw, hK, hap, hR⟩ := hC
  intro H locs la hP hS hL
  exact lv_goto hx hb hd ht (k H locs la hP hS hL)
theorem dx_lookup (hC : dc_Cx κ own b nL fr lo) {dflt : Int} {ps : Array (Int × Int)} {len : Nat} {x : Int32} {off : Int} {tgt : Nat} (hd : decode b pc = .ok (.lookupswitch dflt ps, len)) (hp : (ps.toList.zip (ps.toList.drop 1)).all (fun (a, next) => a.1 < next.1) = true) (ho : Op.lookupswitch.offset ps.toList dflt x.toInt = off) (ht : (pc : Int) + off = (tgt : Int)) (k : dc_X κ tgt ls st σ) : dc_X κ pc ls (.int x :: st) σ := by
  obtain ⟨p, l, e, R, s, m, args, below, meth, c, cells, slots, Z, D, cA, ad, A, H0⟩ := κ
  obtain ⟨hx, hb, hml, hown, hts, hnw, hK, hap, hR⟩ := hC
  intro H locs la hP hS hL
  exact lv_lookup hx hb hd hp ho ht (k H locs la hP hS hL)
theorem dx_tableOut (hC : dc_Cx κ own b nL fr lo) {dflt lo1 hi : Int} {offs : Array Int} {len : Nat} {x : Int32} {tgt : Nat} (hd : decode b pc = .ok (.tableswitch dflt lo1 hi offs, len)) (h : x.toInt < lo1 ∨ hi < x.toInt) (ht : (pc : Int) + dflt = (tgt : Int)) (k : dc_X κ tgt ls st σ) : dc_X κ pc ls (.int x :: st) σ := by
  obtain ⟨p, l, e, R, s, m, args, below, meth, c, cells, slots, Z, D, cA, ad, A, H0⟩ := κ
  obtain ⟨hx, hb, hml, hown, hts, hnw, hK, hap, hR⟩ := hC
  intro H locs la hP hS hL
  exact lv_tableOut hx hb hd h ht (k H locs la hP hS hL)
theorem dx_tableIn (hC : dc_Cx κ own b nL fr lo) {dflt lo1 hi : Int} {offs : Array Int} {len : Nat} {x : Int32} {off : Int} {tgt : Nat} (hd : decode b pc = .ok (.tableswitch dflt lo1 hi offs, len)) (h1 : ¬ x.toInt < lo1) (h2 : ¬ hi < x.toInt) (ho : offs[(x.toInt - lo1).toNat]? = some off) (ht : (pc : Int) + off = (tgt : Int)) (k : dc_X κ tgt ls st σ) : dc_X κ pc ls (.int x :: st) σ := by
  obtain ⟨p, l, e, R, s, m, args, below, meth, c, cells, slots, Z, D, cA, ad, A, H0⟩ := κ
  obtain ⟨hx, hb, hml, hown, hts, hnw, hK, hap, hR⟩ := hC
  intro H locs la hP hS hL
  exact lv_tableIn hx hb hd h1 h2 ho ht (k H locs la hP hS hL)
/-- a field of a class, as its link has it -/
def dc_fl (own : String) (idx ci j : Nat) (q : vw_C) : Prop := dc_cl[ci]? = some q ∧ j < q.2.2 ∧ Cond.fieldLink own idx (q.2.1 j).1 (q.2.1 j).2.1 (q.2.1 j).2.2.1 ∈ dc_tb ∧ (∀ w ∈ u_ws q.1 q.2.1 q.2.2, w ∈ dc_tb) ∧ ∀ a, a < q.2.2 → ∀ b, b < q.2.2 → a ≠ b → (q.2.1 a).2.1 ≠ (q.2.1 b).2.1
theorem dx_get (hC : dc_Cx κ own b nL fr lo) {idx ci j kd q1 : Nat} {ks : List Nat} {v : Value} {q : vw_C} (hd : decode b pc = .ok (.getfield idx, 3)) (hf : dc_fl own idx ci j q) (hk : dc_lay[q1]? = some (.inl (ci, ks))) (hj : ks[j]? = some kd) (hv : dc_val σ q1 j kd = v) (k : dc_X κ (pc + 3) ls (v :: st) σ) : dc_X κ pc ls (.ref q1 :: st) σ := by
  obtain ⟨p, l, e, R, s, m, args, below, meth, c, cells, slots, Z, D, cA, ad, A, H0⟩ := κ
  obtain ⟨hx, hb, hml, hown, hts, hnw, hK, hap, hR⟩ := hC
  intro H locs la hP hS hL
  obtain ⟨f1, f2, f3, f4, -⟩ := hf
  subst hv
  exact va_get (own := own) (C := q.1) (T := q.2.1) (N := q.2.2) hx hb hts f4 hown hK hP q1 (dc_ws_get hk) f1 j f2 (hts _ f3) (fun _ h9 => h9) (v := dc_cv ad (dc_val σ q1 j kd)) (by simp [List.getElem?_mapIdx, hj]) hd (k H locs la hP hS hL)
theorem dx_putI (hC : dc_Cx κ own b nL fr lo) {idx ci j kd q1 : Nat} {ks : List Nat} {v : Int32} {q : vw_C} {tyf : Nat → FieldType} (hd : decode b pc = .ok (.putfield idx, 3)) (hf : dc_fl own idx ci j q) (hk : dc_lay[q1]? = some (.inl (ci, ks))) (hj : ks[j]? = some kd) (hty : ∀ k, k < q.2.2 → parseFieldDescriptor (q.2.1 k).2.2.1 = some (tyf k)) (hfin : (q.2.1 j).2.2.2 = false) (h0 : kd = 0 ∧ tyf j = .int ∨ kd = 2 ∧ tyf j = .boolean ∧ (v = 0 ∨ v = 1)) (k : dc_X κ (pc + 3) ls st (dc_wI σ q1 j v)) : dc_X κ pc ls (.int v :: .ref q1 :: st) σ := by
  obtain ⟨p, l, e, R, s, m, args, below, meth, c, cells, slots, Z, D, cA, ad, A, H0⟩ := κ
  obtain ⟨hx, hb, hml, hown, hts, hnw, hK, hap, hR⟩ := hC
  intro H locs la hP hS hL
  obtain ⟨f1, f2, f3, f4, f5⟩ := hf
  have h01 : kd = 0 ∨ kd = 2 := h0.elim (fun h => Or.inl h.1) (fun h => Or.inr h.1)
  have hn : narrow (tyf j) (.int v) = .int v ∧ Jvm.fits (tyf j) (.int v) = true := by
    rcases h0 with ⟨-, h⟩ | ⟨-, h, rfl | rfl⟩ <;> rw [h]
    · exact ⟨rfl, rfl⟩
    · exact ⟨by decide, by decide⟩
    · exact ⟨by decide, by decide⟩
  refine va_put (own := own) (C := q.1) (T := q.2.1) (N := q.2.2) hx hb hts f4 tyf hty f5 hown hK hP (dc_D hap σ) hS q1 (dc_ws_get hk) f1 j f2 (hts _ f3) (fun _ h9 => h9) hfin (ty := tyf j) (v := .int v) (hty j f2) hn.1 hn.2 (by simp; exact (List.getElem?_eq_some_iff.mp hj).1) hd (fun H1 locs1 hP1 hD1 hS1 => ?_)
  exact k H1 locs1 la (by rw [dc_set_I hk hj h01] at hP1; exact hP1) hS1 hL
theorem dx_putL (hC : dc_Cx κ own b nL fr lo) {idx ci j q1 : Nat} {ks : List Nat} {v : Int64} {q : vw_C} {tyf : Nat → FieldType} (hd : decode b pc = .ok (.putfield idx, 3)) (hf : dc_fl own idx ci j q) (hk : dc_lay[q1]? = some (.inl (ci, ks))) (hj : ks[j]? = some 1) (hty : ∀ k, k < q.2.2 → parseFieldDescriptor (q.2.1 k).2.2.1 = some (tyf k)) (hfin : (q.2.1 j).2.2.2 = false) (h0 : tyf j = .long) (k : dc_X κ (pc + 3) ls st (dc_wL σ q1 j v)) : dc_X κ pc ls (.long v :: .ref q1 :: st) σ := by
  obtain ⟨p, l, e, R, s, m, args, below, meth, c, cells, slots, Z, D, cA, ad, A, H0⟩ := κ
  obtain ⟨hx, hb, hml, hown, hts, hnw, hK, hap, hR⟩ := hC
  intro H locs la hP hS hL
  obtain ⟨f1, f2, f3, f4, f5⟩ := hf
  refine va_put (own := own) (C := q.1) (T := q.2.1) (N := q.2.2) hx hb hts f4 tyf hty f5 hown hK hP (dc_D hap σ) hS q1 (dc_ws_get hk) f1 j f2 (hts _ f3) (fun _ h9 => h9) hfin (ty := tyf j) (v := .long v) (hty j f2) (by rw [h0]; rfl) (by rw [h0]; rfl) (by simp; exact (List.getElem?_eq_some_iff.mp hj).1) hd (fun H1 locs1 hP1 hD1 hS1 => ?_)
  exact k H1 locs1 la (by rw [dc_set_L hk hj] at hP1; exact hP1) hS1 hL
theorem dx_iald (hC : dc_Cx κ own b nL fr lo) {q1 n : Nat} {i : Int32} (hd : decode b pc = .ok (.iaload, 1)) (hk : dc_lay[q1]? = some (.inr (0, n))) (hi : vp_in i n) (k : dc_X κ (pc + 1) ls (.int (σ.1 q1 i.toNatClampNeg) :: st) σ) : dc_X κ pc ls (.int i :: .ref q1 :: st) σ := by
  obtain ⟨p, l, e, R, s, m, args, below, meth, c, cells, slots, Z, D, cA, ad, A, H0⟩ := κ
  obtain ⟨hx, hb, hml, hown, hts, hnw, hK, hap, hR⟩ := hC
  intro H locs la hP hS hL
  exact va_iald hx hb hK hP q1 0 (dc_ws_get hk) rfl hi hd (k H locs la hP hS hL)
theorem dx_zald (hC : dc_Cx κ own b nL fr lo) {q1 n : Nat} {i : Int32} (hd : decode b pc = .ok (.baload, 1)) (hk : dc_lay[q1]? = some (.inr (2, n))) (hi : vp_in i n) (k : dc_X κ (pc + 1) ls (.int (σ.1 q1 i.toNatClampNeg) :: st) σ) : dc_X κ pc ls (.int i :: .ref q1 :: st) σ := by
  obtain ⟨p, l, e, R, s, m, args, below, meth, c, cells, slots, Z, D, cA, ad, A, H0⟩ := κ
  obtain ⟨hx, hb, hml, hown, hts, hnw, hK, hap, hR⟩ := hC
  intro H locs la hP hS hL
  exact va_zald hx hb hK hP q1 2 (dc_ws_get hk) rfl hi hd (k H locs la hP hS hL)
theorem dx_lald (hC : dc_Cx κ own b nL fr lo) {q1 n : Nat} {i : Int32} (hd : decode b pc = .ok (.laload, 1)) (hk : dc_lay[q1]? = some (.inr (1, n))) (hi : vp_in i n) (k : dc_X κ (pc + 1) ls (.long (σ.2 q1 i.toNatClampNeg) :: st) σ) : dc_X κ pc ls (.int i :: .ref q1 :: st) σ := by
  obtain ⟨p, l, e, R, s, m, args, below, meth, c, cells, slots, Z, D, cA, ad, A, H0⟩ := κ
  obtain ⟨hx, hb, hml, hown, hts, hnw, hK, hap, hR⟩ := hC
  intro H locs la hP hS hL
  exact va_lald hx hb hK hP q1 1 (dc_ws_get hk) rfl hi hd (k H locs la hP hS hL)
theorem dx_iast (hC : dc_Cx κ own b nL fr lo) {q1 n : Nat} {i v : Int32} (hd : decode b pc = .ok (.iastore, 1)) (hk : dc_lay[q1]? = some (.inr (0, n))) (hi : vp_in i n) (k : dc_X κ (pc + 1) ls st (dc_wI σ q1 i.toNatClampNeg v)) : dc_X κ pc ls (.int v :: .int i :: .ref q1 :: st) σ := by
  obtain ⟨p, l, e, R, s, m, args, below, meth, c, cells, slots, Z, D, cA, ad, A, H0⟩ := κ
  obtain ⟨hx, hb, hml, hown, hts, hnw, hK, hap, hR⟩ := hC
  intro H locs la hP hS hL
  refine va_iast hx hb hK hP (dc_D hap σ) hS q1 0 (dc_ws_get hk) rfl hi hd (fun H1 locs1 hP1 hD1 hS1 => ?_)
  exact k H1 locs1 la (by rw [dc_put_I hk (by decide)] at hP1; exact hP1) hS1 hL
theorem dx_zast (hC : dc_Cx κ own b nL fr lo) {q1 n : Nat} {i v : Int32} (hd : decode b pc = .ok (.bastore, 1)) (hk : dc_lay[q1]? = some (.inr (2, n))) (hi : vp_in i n) (hv : vp_nar .boolean v = v) (k : dc_X κ (pc + 1) ls st (dc_wI σ q1 i.toNatClampNeg v)) : dc_X κ pc ls (.int v :: .int i :: .ref q1 :: st) σ := by
  obtain ⟨p, l, e, R, s, m, args, below, meth, c, cells, slots, Z, D, cA, ad, A, H0⟩ := κ
  obtain ⟨hx, hb, hml, hown, hts, hnw, hK, hap, hR⟩ := hC
  intro H locs la hP hS hL
  refine va_zast hx hb hK hP (dc_D hap σ) hS q1 2 (dc_ws_get hk) rfl hi hd (fun H1 locs1 hP1 hD1 hS1 => ?_)
  rw [hv] at hP1
  exact k H1 locs1 la (by rw [dc_put_I hk (by decide)] at hP1; exact hP1) hS1 hL
theorem dx_last (hC : dc_Cx κ own b nL fr lo) {q1 n : Nat} {i : Int32} {v : Int64} (hd : decode b pc = .ok (.lastore, 1)) (hk : dc_lay[q1]? = some (.inr (1, n))) (hi : vp_in i n) (k : dc_X κ (pc + 1) ls st (dc_wL σ q1 i.toNatClampNeg v)) : dc_X κ pc ls (.long v :: .int i :: .ref q1 :: st) σ := by
  obtain ⟨p, l, e, R, s, m, args, below, meth, c, cells, slots, Z, D, cA, ad, A, H0⟩ := κ
  obtain ⟨hx, hb, hml, hown, hts, hnw, hK, hap, hR⟩ := hC
  intro H locs la hP hS hL
  refine va_last hx hb hK hP (dc_D hap σ) hS q1 1 (dc_ws_get hk) rfl hi hd (fun H1 locs1 hP1 hD1 hS1 => ?_)
  exact k H1 locs1 la (by rw [dc_put_L hk] at hP1; exact hP1) hS1 hL
theorem dx_alen (hC : dc_Cx κ own b nL fr lo) {q1 t n : Nat} {v : Int32} (hd : decode b pc = .ok (.arraylength, 1)) (hk : dc_lay[q1]? = some (.inr (t, n))) (ht : t < 3) (hv : Int32.ofNat n = v) (k : dc_X κ (pc + 1) ls (.int v :: st) σ) : dc_X κ pc ls (.ref q1 :: st) σ := by
  obtain ⟨p, l, e, R, s, m, args, below, meth, c, cells, slots, Z, D, cA, ad, A, H0⟩ := κ
  obtain ⟨hx, hb, hml, hown, hts, hnw, hK, hap, hR⟩ := hC
  intro H locs la hP hS hL
  have h3 : (dc_tys cA)[t]? = some (cA t, dc_ty t) := by
    match t, ht with
    | 0, _ => rfl
    | 1, _ => rfl
    | 2, _ => rfl
  exact va_alen hx hb hK hP q1 t (dc_ws_get hk) h3 hv hd (k H locs la hP hS hL)
def dc_lkCp (own : String) (idx : Nat) : Prop := Cond.methodLink own idx arraycopyName ∈ dc_tb ∧ Cond.native arraycopyName ∈ dc_tb ∧ Cond.static arraycopyName ∈ dc_tb ∧ Cond.initialized "java/lang/System" ∈ dc_tb
theorem dx_copy (hC : dc_Cx κ own b nL fr lo) {idx q0 q1 n0 n1 n : Nat} {v : Int32} (hd : decode b pc = .ok (.invokestatic idx, 3)) (hw : dc_lkCp own idx) (hk0 : dc_lay[q0]? = some (.inr (0, n0))) (hk1 : dc_lay[q1]? = some (.inr (0, n1))) (hv : v.toNatClampNeg = n) (hv0 : ¬ v < 0) (h4 : n ≤ n0) (h5 : n ≤ n1) (hf1 : 1 ≤ fr) (hl1 : (st.map fun v => v.category).sum + 40 ≤ lo) (k : dc_X κ (pc + 3) ls st (dc_cp σ q0 q1 n)) : dc_X κ pc ls (.int v :: .int 0 :: .ref q1 :: .int 0 :: .ref q0 :: st) σ := by
  obtain ⟨p, l, e, R, s, m, args, below, meth, c, cells, slots, Z, D, cA, ad, A, H0⟩ := κ
  obtain ⟨hx, hb, hml, hown, hts, hnw, hK, hap, hR⟩ := hC
  intro H locs la hP hS hL
  obtain ⟨w1, w2, w3, w4⟩ := hw
  subst hv
  have z0 : (0 : Int32).toNatClampNeg = 0 := by decide
  have hcat : ((st.map (dc_cv ad)).map fun v => v.category).sum = (st.map fun v => v.category).sum := by
    rw [List.map_map]
    exact congrArg List.sum (List.map_congr_left fun v _ => dc_cv_cat ad v)
  refine va_copyi hx hb (hL.1.symm) hown (hts _ w1) (hts _ w2) (hts _ w3) (hts _ w4) hK hP (dc_D hap σ) hS q0 q1 0 0 (dc_ws_get hk0) (dc_ws_get hk1) rfl rfl rfl (by decide) (by decide) hv0 (by rw [z0]; omega) (by rw [z0]; omega) (fun _ _ => rfl) (Nat.le_trans hf1 hR.1) ?_ hd (fun H1 locs1 hP1 hD1 hS1 => ?_)
  · rw [hcat]
    have : nativeFrameWords "java/lang/System" "arraycopy" 5 = 7 := by decide
    have := hR.2.1
    omega
  · exact k H1 locs1 la (by rw [show (0 : Int32).toNatClampNeg = 0 by decide, dc_put_C hk1] at hP1; exact hP1) hS1 hL
theorem dc_cat (ad : Nat → Nat) (st : List Value) : ((st.map (dc_cv ad)).map fun v => v.category).sum = (st.map fun v => v.category).sum := by
  rw [List.map_map]
  exact congrArg List.sum (List.map_congr_left fun v _ => dc_cv_cat ad v)
theorem dc_NW.calling {U : State} (h : dc_NW U) (g : JFrame) (mk : MethodId) (a : Array Value) : dc_NW (U.calling g mk a) := fun q hq => va_Nw.same (u := U) rfl rfl (h q hq)
theorem dc_blind {D : va_G} {cA : Nat → ClassId} {ad : Nat → Nat} {σ : dc_HP} {av : List Value} : FrameBlind (dc_Pc D cA ad σ av) := fun a U g mk q => ⟨q.1, q.2.1, va_K.moved (u := U) (U := U.calling g mk a) (Vm.Alike.refl U.vm) q.2.2.1, q.2.2.2.calling g mk a⟩
theorem dc_NW.warm {s U : State} (hW : s.WarmedH U.vm) (h : dc_NW s) : dc_NW U := fun q hq => va_Nw.warmM hW (h q hq)
/-- a method that a call reaches: its own words -/
def dc_mOk (M : dc_M) (n : Nat) : Prop := Cond.code M.2.2.1 M.2.1 M.2.2.2.1 M.2.2.2.2.1 ∈ dc_tb ∧ Cond.initialized M.2.2.1.cls ∈ dc_tb ∧ plainName M.2.2.1.cls = true ∧ M.2.2.1.cls = M.1 ∧ (M.2.2.1.cls ≠ "java/lang/invoke/MethodHandle" ∧ M.2.2.1.cls ≠ "java/lang/invoke/VarHandle" ∧ (parseMethodDescriptor M.2.2.1.desc).map (fun d => d.parameters.length) = some n)
def dc_lkV (own : String) (idx : Nat) (M : dc_M) (n : Nat) : Prop := dc_mOk M n ∧ Cond.methodLink own idx M.2.2.1 ∈ dc_tb ∧ Cond.instanceMethod M.2.2.1 ∈ dc_tb ∧ Cond.selects M.2.2.1.cls M.2.2.1 M.2.2.1 ∈ dc_tb
def dc_lkS (own : String) (idx : Nat) (M : dc_M) (n : Nat) : Prop := dc_mOk M n ∧ Cond.methodLink own idx M.2.2.1 ∈ dc_tb ∧ Cond.static M.2.2.1 ∈ dc_tb
def dc_lkN (own : String) (idx : Nat) (M : dc_M) (n : Nat) (host : String) : Prop := dc_mOk M n ∧ (own, idx, M.2.2.1, host) ∈ dc_nest ∧ Cond.static M.2.2.1 ∈ dc_tb
theorem dc_go {p : Program} {l : Launch} {e : Env} {R : Room} {s : State} {m : MethodId} {args : Array Value} {below : List Frame} {meth : Method} {c : Code} {H : Heap} {locs : List Loc} {cells slots : Nat} {Z : State → Prop} {D : va_G} {cA : Nat → ClassId} {ad : Nat → Nat} {A : Nat → Prop} {H0 : Heap} {pc : Nat} {la : Array Slot} {st0 rest : List Value} {Q : Option Value → dc_HP → Prop} {a : Array Value}
    (hr : va_Run p l e R s m args below meth c H locs cells slots 0 0 (F0 m pc la st0) rest (dc_Qc D cA ad A Q a) A) (hS : va_S A H0 H locs)
    (kk : ∀ (r : Option Value) (σ' : dc_HP) (H1 : Heap) (locs1 : List Loc), Q r σ' → va_P D dc_cl (dc_ws cA ad σ') H1 → va_S A H0 H1 locs1 → W p l e R s m args below meth c H1 locs1 cells slots Z (F0 m (pc + 3) la ((r.map (dc_cv ad)).toList ++ rest))) : W p l e R s m args below meth c H locs cells slots Z (F0 m pc la st0) := by
  intro T hT X
  obtain ⟨v, st₀, t, T', L, h0, X', hL, e1, e2, ⟨⟨r, σ', hv, hp, hb⟩, hz, hk⟩, st⟩ := hr T hT X
  cases hv
  rw [h0] at hz hk
  obtain ⟨t2, a1, b1⟩ := kk r σ' T'.heap (locs ++ L) hp (by rw [e1]; exact hb)
    ⟨Nat.le_trans hS.1 (by rw [e1]; exact hz), fun q h1 h2 => by rw [e1, hk q (Nat.lt_of_lt_of_le h1 hS.1) h2]; exact hS.2.1 q h1 h2, fun q hq => by
      rcases List.mem_append.mp hq with h | h
      · exact hS.2.2 q h
      · exact hL q h⟩ T' rfl X'
  exact ⟨t2, st t2 a1, b1⟩
theorem dc_res {ad : Nat → Nat} {r : Option Value} {st : List Value} : (r.map (dc_cv ad)).toList ++ st.map (dc_cv ad) = (r.toList ++ st).map (dc_cv ad) := by
  cases r <;> simp
theorem dc_rev {ad : Nat → Nat} {As st : List Value} : (As.reverse ++ st).map (dc_cv ad) = (As.map (dc_cv ad)).reverse ++ st.map (dc_cv ad) := by
  simp
theorem dx_callV (hC : dc_Cx κ own b nL fr lo) {idx n : Nat} {M : dc_M} {As rest : List Value} {Q : Option Value → dc_HP → Prop} (hd : decode b pc = .ok (.invokevirtual idx, 3)) (hw : dc_lkV own idx M n) (hn : As.length = n) {q1 ci : Nat} {ks : List Nat} {q : vw_C} (hk : dc_lay[q1]? = some (.inl (ci, ks))) (hci : dc_cl[ci]? = some q) (hqc : q.1 = M.2.2.1.cls) (hR1 : M.2.2.2.2.2.1 + 1 ≤ fr) (hR2 : 8 + (M.2.2.2.1 + 11) + M.2.2.2.2.2.2 ≤ lo) (hlen : (lg_sl ((.ref q1 :: As).map (dc_cv (fun q => q)))).length ≤ M.2.2.2.1) (hcat : (rest.map fun v => v.category).sum ≤ 8) (hst : st = As.reverse ++ .ref q1 :: rest) (hg : dc_G M (.ref q1 :: As) σ Q) (kk : ∀ r σ', Q r σ' → dc_X κ (pc + 3) ls (r.toList ++ rest) σ') : dc_X κ pc ls st σ := by
  obtain ⟨p, l, e, R, s, m, args, below, meth, c, cells, slots, Z, D, cA, ad, A, H0⟩ := κ
  obtain ⟨hx, hb, hml, hown, hts, hnw, hK, hap, hR⟩ := hC
  intro H locs la hP hS hL
  obtain ⟨⟨w1, w2, w3, w4, w5⟩, w6, w7, w8⟩ := hw
  subst hst
  refine dc_go (Q := Q) (a := ((.ref q1 :: As).map (dc_cv ad)).toArray) (rest := rest.map (dc_cv ad)) (va_runV (cc := b) (nL := nL) (As := As.map (dc_cv ad)) (b := ad q1) (C := M.2.2.1.cls) (Ts := dc_tb) (own := own) ⟨hx, hb, hml, hown, hts⟩ (dc_met hg w3 w4 hlen l hap) ⟨callB_of n hts (dc_goodIn M w1) rfl rfl rfl (hts _ w2) (hts _ w6) w5 ⟨Nat.le_trans hR1 hR.1, Nat.le_trans hR2 hR.2.1⟩, hts _ w7, hts _ w8⟩ ⟨dc_blind, ?_, fun U hU hW => ⟨rfl, by rw [hU]; exact hP, va_K.moved hW.alike hK, hnw.warm hW⟩⟩ rfl (by simp [hn]) (hL.1.trans hml) ?_ ?_ hd ⟨hR.2.2.1, hR.2.2.2⟩) hS ?_
  · have h9 := va_recv (ci := ci) (q0 := q1) hK hP hci (dc_ws_get hk)
    rw [hqc] at h9
    exact h9
  · rw [dc_rev]; rfl
  · rw [dc_cat]; exact Nat.le_trans (Nat.le_of_eq (Nat.zero_add _)) hcat
  · exact fun r σ' H1 locs1 hq hP1 hS1 => by rw [dc_res]; exact kk r σ' hq H1 locs1 la hP1 hS1 hL
theorem dx_callS (hC : dc_Cx κ own b nL fr lo) {idx n : Nat} {M : dc_M} {As rest : List Value} {Q : Option Value → dc_HP → Prop} (hd : decode b pc = .ok (.invokestatic idx, 3)) (hw : dc_lkS own idx M n) (hn : As.length = n) (hR1 : M.2.2.2.2.2.1 + 1 ≤ fr) (hR2 : 8 + (M.2.2.2.1 + 11) + M.2.2.2.2.2.2 ≤ lo) (hlen : (lg_sl (As.map (dc_cv (fun q => q)))).length ≤ M.2.2.2.1) (hcat : (rest.map fun v => v.category).sum ≤ 8) (hst : st = As.reverse ++ rest) (hg : dc_G M As σ Q) (kk : ∀ r σ', Q r σ' → dc_X κ (pc + 3) ls (r.toList ++ rest) σ') : dc_X κ pc ls st σ := by
  obtain ⟨p, l, e, R, s, m, args, below, meth, c, cells, slots, Z, D, cA, ad, A, H0⟩ := κ
  obtain ⟨hx, hb, hml, hown, hts, hnw, hK, hap, hR⟩ := hC
  intro H locs la hP hS hL
  obtain ⟨⟨w1, w2, w3, w4, w5⟩, w6, w7⟩ := hw
  subst hst
  refine dc_go (Q := Q) (a := (As.map (dc_cv ad)).toArray) (rest := rest.map (dc_cv ad)) (va_runS (cc := b) (nL := nL) (As := As.map (dc_cv ad)) (Ts := dc_tb) (own := own) ⟨hx, hb, hml, hown, hts⟩ (dc_met hg w3 w4 hlen l hap) ⟨callB_of n hts (dc_goodIn M w1) rfl rfl rfl (hts _ w2) (hts _ w6) w5 ⟨Nat.le_trans hR1 hR.1, Nat.le_trans hR2 hR.2.1⟩, hts _ w7⟩ ⟨dc_blind, fun U hU hW => ⟨rfl, by rw [hU]; exact hP, va_K.moved hW.alike hK, hnw.warm hW⟩⟩ rfl (by simp [hn]) (hL.1.trans hml) ?_ ?_ hd ⟨hR.2.2.1, hR.2.2.2⟩) hS ?_
  · exact dc_rev
  · rw [dc_cat]; exact Nat.le_trans (Nat.le_of_eq (Nat.zero_add _)) hcat
  · exact fun r σ' H1 locs1 hq hP1 hS1 => by rw [dc_res]; exact kk r σ' hq H1 locs1 la hP1 hS1 hL
theorem dx_callN (hC : dc_Cx κ own b nL fr lo) {idx n : Nat} {host : String} {M : dc_M} {As rest : List Value} {Q : Option Value → dc_HP → Prop} (hd : decode b pc = .ok (.invokestatic idx, 3)) (hw : dc_lkN own idx M n host) (hn : As.length = n) (hR1 : M.2.2.2.2.2.1 + 1 ≤ fr) (hR2 : 8 + (M.2.2.2.1 + 11) + M.2.2.2.2.2.2 ≤ lo) (hlen : (lg_sl (As.map (dc_cv (fun q => q)))).length ≤ M.2.2.2.1) (hcat : (rest.map fun v => v.category).sum ≤ 8) (hst : st = As.reverse ++ rest) (hg : dc_G M As σ Q) (kk : ∀ r σ', Q r σ' → dc_X κ (pc + 3) ls (r.toList ++ rest) σ') : dc_X κ pc ls st σ := by
  obtain ⟨p, l, e, R, s, m, args, below, meth, c, cells, slots, Z, D, cA, ad, A, H0⟩ := κ
  obtain ⟨hx, hb, hml, hown, hts, hnw, hK, hap, hR⟩ := hC
  intro H locs la hP hS hL
  obtain ⟨⟨w1, w2, w3, w4, w5⟩, w6, w7⟩ := hw
  subst hst
  refine dc_go (Q := Q) (a := (As.map (dc_cv ad)).toArray) (rest := rest.map (dc_cv ad)) (va_runSN (cc := b) (nL := nL) (As := As.map (dc_cv ad)) (Ts := dc_tb) (own := own) (host := host) ⟨hx, hb, hml, hown, hts⟩ (dc_met hg w3 w4 hlen l hap) ⟨va_cnB n hts (dc_goodIn M w1) rfl rfl rfl (hnw _ w6) (hts _ w2) w5 ⟨Nat.le_trans hR1 hR.1, Nat.le_trans hR2 hR.2.1⟩, hts _ w7, trivial⟩ ⟨dc_blind, fun U hU hW => ⟨rfl, by rw [hU]; exact hP, va_K.moved hW.alike hK, hnw.warm hW⟩⟩ rfl (by simp [hn]) (hL.1.trans hml) ?_ ?_ hd ⟨hR.2.2.1, hR.2.2.2⟩) hS ?_
  · exact dc_rev
  · rw [dc_cat]; exact Nat.le_trans (Nat.le_of_eq (Nat.zero_add _)) hcat
  · exact fun r σ' H1 locs1 hq hP1 hS1 => by rw [dc_res]; exact kk r σ' hq H1 locs1 la hP1 hS1 hL
def dc_lk_mmax (own : String) (idx : Nat) : Prop := Cond.methodLink own idx Lib.Math.max.name ∈ dc_tb ∧ Cond.static Lib.Math.max.name ∈ dc_tb ∧ Cond.initialized "java/lang/Math" ∈ dc_tb ∧ Cond.code Lib.Math.max.name Lib.Math.max.code 2 (some .int) ∈ dc_tb
theorem dx_mmax (hC : dc_Cx κ own b nL fr lo) {idx : Nat} {x y : Int32} (hd : decode b pc = .ok (.invokestatic idx, 3)) (hw : dc_lk_mmax own idx) (hf1 : 1 ≤ fr) (hl1 : (st.map fun v => v.category).sum + 13 ≤ lo) (k : dc_X κ (pc + 3) ls (.int (if x < y then y else x) :: st) σ) : dc_X κ pc ls (.int y :: .int x :: st) σ := by
  obtain ⟨p, l, e, R, s, m, args, below, meth, c, cells, slots, Z, D, cA, ad, A, H0⟩ := κ
  obtain ⟨hx, hb, hml, hown, hts, hnw, hK, hap, hR⟩ := hC
  intro H locs la hP hS hL
  obtain ⟨w1, w2, w3, w4⟩ := hw
  exact va_mmax hx hb (hL.1.symm) hown (hts _ w1) (hts _ w2) (hts _ w3) (hts _ w4) (Nat.le_trans hf1 hR.1) (by rw [dc_cat]; exact Nat.le_trans hl1 hR.2.1) hR.2.2.1 hR.2.2.2 hd (k H locs la hP hS hL)
def dc_lk_mmin (own : String) (idx : Nat) : Prop := Cond.methodLink own idx Lib.Math.min.name ∈ dc_tb ∧ Cond.static Lib.Math.min.name ∈ dc_tb ∧ Cond.initialized "java/lang/Math" ∈ dc_tb ∧ Cond.code Lib.Math.min.name Lib.Math.min.code 2 (some .int) ∈ dc_tb
theorem dx_mmin (hC : dc_Cx κ own b nL fr lo) {idx : Nat} {x y : Int32} (hd : decode b pc = .ok (.invokestatic idx, 3)) (hw : dc_lk_mmin own idx) (hf1 : 1 ≤ fr) (hl1 : (st.map fun v => v.category).sum + 13 ≤ lo) (k : dc_X κ (pc + 3) ls (.int (if y < x then y else x) :: st) σ) : dc_X κ pc ls (.int y :: .int x :: st) σ := by
  obtain ⟨p, l, e, R, s, m, args, below, meth, c, cells, slots, Z, D, cA, ad, A, H0⟩ := κ
  obtain ⟨hx, hb, hml, hown, hts, hnw, hK, hap, hR⟩ := hC
  intro H locs la hP hS hL
  obtain ⟨w1, w2, w3, w4⟩ := hw
  exact va_mmin hx hb (hL.1.symm) hown (hts _ w1) (hts _ w2) (hts _ w3) (hts _ w4) (Nat.le_trans hf1 hR.1) (by rw [dc_cat]; exact Nat.le_trans hl1 hR.2.1) hR.2.2.1 hR.2.2.2 hd (k H locs la hP hS hL)
def dc_lk_lmax (own : String) (idx : Nat) : Prop := Cond.methodLink own idx Lib.MathLoose.max_long.x ∈ dc_tb ∧ Cond.static Lib.MathLoose.max_long.x ∈ dc_tb ∧ Cond.initialized "java/lang/Math" ∈ dc_tb ∧ Cond.code Lib.MathLoose.max_long.x Lib.MathLoose.max_long.code 4 (some .long) ∈ dc_tb
theorem dx_lmax (hC : dc_Cx κ own b nL fr lo) {idx : Nat} {x y : Int64} (hd : decode b pc = .ok (.invokestatic idx, 3)) (hw : dc_lk_lmax own idx) (hf1 : 1 ≤ fr) (hl1 : (st.map fun v => v.category).sum + 15 ≤ lo) (k : dc_X κ (pc + 3) ls (.long (if y < x then x else y) :: st) σ) : dc_X κ pc ls (.long y :: .long x :: st) σ := by
  obtain ⟨p, l, e, R, s, m, args, below, meth, c, cells, slots, Z, D, cA, ad, A, H0⟩ := κ
  obtain ⟨hx, hb, hml, hown, hts, hnw, hK, hap, hR⟩ := hC
  intro H locs la hP hS hL
  obtain ⟨w1, w2, w3, w4⟩ := hw
  exact va_mmax_long hx hb (hL.1.symm) hown (hts _ w1) (hts _ w2) (hts _ w3) (hts _ w4) (Nat.le_trans hf1 hR.1) (by rw [dc_cat]; exact Nat.le_trans hl1 hR.2.1) hR.2.2.1 hR.2.2.2 hd (k H locs la hP hS hL)
def dc_lk_labs (own : String) (idx : Nat) : Prop := Cond.methodLink own idx Lib.MathLoose.abs_long.x ∈ dc_tb ∧ Cond.static Lib.MathLoose.abs_long.x ∈ dc_tb ∧ Cond.initialized "java/lang/Math" ∈ dc_tb ∧ Cond.code Lib.MathLoose.abs_long.x Lib.MathLoose.abs_long.code 2 (some .long) ∈ dc_tb
theorem dx_labs (hC : dc_Cx κ own b nL fr lo) {idx : Nat} {x : Int64} (hd : decode b pc = .ok (.invokestatic idx, 3)) (hw : dc_lk_labs own idx) (hf1 : 1 ≤ fr) (hl1 : (st.map fun v => v.category).sum + 13 ≤ lo) (k : dc_X κ (pc + 3) ls (.long (if 0 < x then x else -x) :: st) σ) : dc_X κ pc ls (.long x :: st) σ := by
  obtain ⟨p, l, e, R, s, m, args, below, meth, c, cells, slots, Z, D, cA, ad, A, H0⟩ := κ
  obtain ⟨hx, hb, hml, hown, hts, hnw, hK, hap, hR⟩ := hC
  intro H locs la hP hS hL
  obtain ⟨w1, w2, w3, w4⟩ := hw
  exact va_mabs_long hx hb (hL.1.symm) hown (hts _ w1) (hts _ w2) (hts _ w3) (hts _ w4) (Nat.le_trans hf1 hR.1) (by rw [dc_cat]; exact Nat.le_trans hl1 hR.2.1) hR.2.2.1 hR.2.2.2 hd (k H locs la hP hS hL)
end DX
section DR
variable {κ : dc_KX} {M : dc_M} {Q : Option Value → dc_HP → Prop} {pc : Nat} {ls : List (Option Value)} {σ : dc_HP}
theorem dx_iret (hO : dc_Ok κ M Q) {v : Int32} (hd : decode M.2.1 pc = .ok (.ireturn, 1)) (hr : M.2.2.2.2.1 = some .int) (hq : Q (some (.int v)) σ) : dc_X κ pc ls [.int v] σ := by
  obtain ⟨p, l, e, R, s, m, args, below, meth, c, cells, slots, Z, D, cA, ad, A, H0⟩ := κ
  obtain ⟨⟨hx, hb, -⟩, h1, h2, h3, h4, h5, h6⟩ := hO
  intro H locs la hP hS hL
  cases h3
  cases h4
  subst h5
  subst h6
  exact W.iret hx hb (h1.trans hr) (fun t ht hW => ⟨⟨some (.int v), σ, rfl, hq, by rw [ht]; exact hP⟩, hS.F ht⟩) hS.2.2 hd h2
theorem dx_zret (hO : dc_Ok κ M Q) {v : Int32} (hd : decode M.2.1 pc = .ok (.ireturn, 1)) (hr : M.2.2.2.2.1 = some .boolean) (hn : narrow .boolean (.int v) = .int v) (hq : Q (some (.int v)) σ) : dc_X κ pc ls [.int v] σ := by
  obtain ⟨p, l, e, R, s, m, args, below, meth, c, cells, slots, Z, D, cA, ad, A, H0⟩ := κ
  obtain ⟨⟨hx, hb, -⟩, h1, h2, h3, h4, h5, h6⟩ := hO
  intro H locs la hP hS hL
  cases h3
  cases h4
  subst h5
  subst h6
  exact W.zret hx hb (h1.trans hr) hn (fun t ht hW => ⟨⟨some (.int v), σ, rfl, hq, by rw [ht]; exact hP⟩, hS.F ht⟩) hS.2.2 hd h2
theorem dx_vret (hO : dc_Ok κ M Q) (hd : decode M.2.1 pc = .ok (.return_, 1)) (hr : M.2.2.2.2.1 = none) (hq : Q none σ) : dc_X κ pc ls [] σ := by
  obtain ⟨p, l, e, R, s, m, args, below, meth, c, cells, slots, Z, D, cA, ad, A, H0⟩ := κ
  obtain ⟨⟨hx, hb, -⟩, h1, h2, h3, h4, h5, h6⟩ := hO
  intro H locs la hP hS hL
  cases h3
  cases h4
  subst h5
  subst h6
  exact W.vret hx hb (h1.trans hr) (fun t ht hW => ⟨⟨none, σ, rfl, hq, by rw [ht]; exact hP⟩, hS.F ht⟩) hS.2.2 hd h2
theorem dx_lret (hO : dc_Ok κ M Q) {v : Int64} (hd : decode M.2.1 pc = .ok (.lreturn, 1)) (hr : M.2.2.2.2.1 = some .long) (hq : Q (some (.long v)) σ) : dc_X κ pc ls [.long v] σ := by
  obtain ⟨p, l, e, R, s, m, args, below, meth, c, cells, slots, Z, D, cA, ad, A, H0⟩ := κ
  obtain ⟨⟨hx, hb, -⟩, h1, h2, h3, h4, h5, h6⟩ := hO
  intro H locs la hP hS hL
  cases h3
  cases h4
  subst h5
  subst h6
  exact W.lret hx hb (h1.trans hr) (fun t ht hW => ⟨⟨some (.long v), σ, rfl, hq, by rw [ht]; exact hP⟩, hS.F ht⟩) hS.2.2 hd h2
end DR
end
