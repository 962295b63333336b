-- ===== PART A: goes FIRST, ahead of the names: the tables' words, and 'selects' of the private methods out of them =====
/-- a private method of a class that the tables say can be made, by its rows of tables_1 -/
def lw_okq (q : MethodName × Nat) : Prop := (q.1.cls ≠ "java/lang/invoke/MethodHandle" ∧ q.1.cls ≠ "java/lang/invoke/VarHandle") ∧ Cond.instantiable q.1.cls q.2 ∈ tables_1 ∧ Cond.privateMethod q.1 ∈ tables_1 ∧ Cond.instanceMethod q.1 ∈ tables_1
theorem lw_p0 : lw_okq (⟨"StairTunes$Reader", "readLaw", "()Z"⟩, 6) := ⟨⟨by decide +kernel, by decide +kernel⟩, List.mem_of_getElem? (i := 38) (by decide +kernel), List.mem_of_getElem? (i := 275) (by decide +kernel), List.mem_of_getElem? (i := 276) (by decide +kernel)⟩
theorem lw_p1 : lw_okq (⟨"StairTunes$Reader", "readSign", "(I)Z"⟩, 6) := ⟨⟨by decide +kernel, by decide +kernel⟩, List.mem_of_getElem? (i := 38) (by decide +kernel), List.mem_of_getElem? (i := 279) (by decide +kernel), List.mem_of_getElem? (i := 280) (by decide +kernel)⟩
theorem lw_p2 : lw_okq (⟨"StairTunes$Reader", "letter", "()I"⟩, 6) := ⟨⟨by decide +kernel, by decide +kernel⟩, List.mem_of_getElem? (i := 38) (by decide +kernel), List.mem_of_getElem? (i := 283) (by decide +kernel), List.mem_of_getElem? (i := 284) (by decide +kernel)⟩
theorem lw_p3 : lw_okq (⟨"StairTunes$Reader", "fail", "(I)Z"⟩, 6) := ⟨⟨by decide +kernel, by decide +kernel⟩, List.mem_of_getElem? (i := 38) (by decide +kernel), List.mem_of_getElem? (i := 288) (by decide +kernel), List.mem_of_getElem? (i := 289) (by decide +kernel)⟩
theorem lw_p4 : lw_okq (⟨"StairTunes$Reader", "readNumber", "(II)I"⟩, 6) := ⟨⟨by decide +kernel, by decide +kernel⟩, List.mem_of_getElem? (i := 38) (by decide +kernel), List.mem_of_getElem? (i := 292) (by decide +kernel), List.mem_of_getElem? (i := 293) (by decide +kernel)⟩
theorem lw_p5 : lw_okq (⟨"StairTunes$Reader", "readTreads", "()Z"⟩, 6) := ⟨⟨by decide +kernel, by decide +kernel⟩, List.mem_of_getElem? (i := 38) (by decide +kernel), List.mem_of_getElem? (i := 300) (by decide +kernel), List.mem_of_getElem? (i := 301) (by decide +kernel)⟩
theorem lw_p6 : lw_okq (⟨"StairTunes$Reader", "readWalkers", "()Z"⟩, 6) := ⟨⟨by decide +kernel, by decide +kernel⟩, List.mem_of_getElem? (i := 38) (by decide +kernel), List.mem_of_getElem? (i := 311) (by decide +kernel), List.mem_of_getElem? (i := 312) (by decide +kernel)⟩
theorem lw_p7 : lw_okq (⟨"StairTunes$Reader", "readWalker", "(I)Z"⟩, 6) := ⟨⟨by decide +kernel, by decide +kernel⟩, List.mem_of_getElem? (i := 38) (by decide +kernel), List.mem_of_getElem? (i := 315) (by decide +kernel), List.mem_of_getElem? (i := 316) (by decide +kernel)⟩
theorem lw_p8 : lw_okq (⟨"StairTunes$Past", "townAt", "(I)LStairTunes$Town;"⟩, 3) := ⟨⟨by decide +kernel, by decide +kernel⟩, List.mem_of_getElem? (i := 99) (by decide +kernel), List.mem_of_getElem? (i := 374) (by decide +kernel), List.mem_of_getElem? (i := 375) (by decide +kernel)⟩
theorem lw_p9 : lw_okq (⟨"StairTunes", "changed", "(IIII)I"⟩, 8) := ⟨⟨by decide +kernel, by decide +kernel⟩, List.mem_of_getElem? (i := 13) (by decide +kernel), List.mem_of_getElem? (i := 474) (by decide +kernel), List.mem_of_getElem? (i := 475) (by decide +kernel)⟩
theorem lw_p10 : lw_okq (⟨"StairTunes", "seerOfNow", "()LStairTunes$Seer;"⟩, 8) := ⟨⟨by decide +kernel, by decide +kernel⟩, List.mem_of_getElem? (i := 13) (by decide +kernel), List.mem_of_getElem? (i := 556) (by decide +kernel), List.mem_of_getElem? (i := 557) (by decide +kernel)⟩
theorem lw_p11 : lw_okq (⟨"StairTunes$Seer", "numberTunes", "()I"⟩, 5) := ⟨⟨by decide +kernel, by decide +kernel⟩, List.mem_of_getElem? (i := 118) (by decide +kernel), List.mem_of_getElem? (i := 609) (by decide +kernel), List.mem_of_getElem? (i := 610) (by decide +kernel)⟩
theorem lw_p12 : lw_okq (⟨"StairTunes$Seer", "isUnheard", "(III)Z"⟩, 5) := ⟨⟨by decide +kernel, by decide +kernel⟩, List.mem_of_getElem? (i := 118) (by decide +kernel), List.mem_of_getElem? (i := 639) (by decide +kernel), List.mem_of_getElem? (i := 640) (by decide +kernel)⟩
theorem lw_p13 : lw_okq (⟨"StairTunes$Seer", "doorsHearing", "(I)I"⟩, 5) := ⟨⟨by decide +kernel, by decide +kernel⟩, List.mem_of_getElem? (i := 118) (by decide +kernel), List.mem_of_getElem? (i := 665) (by decide +kernel), List.mem_of_getElem? (i := 666) (by decide +kernel)⟩
theorem lw_p14 : lw_okq (⟨"StairTunes$Seer", "hearAll", "(II)Z"⟩, 5) := ⟨⟨by decide +kernel, by decide +kernel⟩, List.mem_of_getElem? (i := 118) (by decide +kernel), List.mem_of_getElem? (i := 669) (by decide +kernel), List.mem_of_getElem? (i := 670) (by decide +kernel)⟩
theorem lw_p15 : lw_okq (⟨"StairTunes$Seer", "isRise", "(III)Z"⟩, 5) := ⟨⟨by decide +kernel, by decide +kernel⟩, List.mem_of_getElem? (i := 118) (by decide +kernel), List.mem_of_getElem? (i := 695) (by decide +kernel), List.mem_of_getElem? (i := 696) (by decide +kernel)⟩
def lw_privs_1 : List (MethodName × Nat) := [(⟨"StairTunes$Reader", "readLaw", "()Z"⟩, 6), (⟨"StairTunes$Reader", "readSign", "(I)Z"⟩, 6), (⟨"StairTunes$Reader", "letter", "()I"⟩, 6), (⟨"StairTunes$Reader", "fail", "(I)Z"⟩, 6), (⟨"StairTunes$Reader", "readNumber", "(II)I"⟩, 6), (⟨"StairTunes$Reader", "readTreads", "()Z"⟩, 6), (⟨"StairTunes$Reader", "readWalkers", "()Z"⟩, 6), (⟨"StairTunes$Reader", "readWalker", "(I)Z"⟩, 6), (⟨"StairTunes$Past", "townAt", "(I)LStairTunes$Town;"⟩, 3), (⟨"StairTunes", "changed", "(IIII)I"⟩, 8), (⟨"StairTunes", "seerOfNow", "()LStairTunes$Seer;"⟩, 8), (⟨"StairTunes$Seer", "numberTunes", "()I"⟩, 5), (⟨"StairTunes$Seer", "isUnheard", "(III)Z"⟩, 5), (⟨"StairTunes$Seer", "doorsHearing", "(I)I"⟩, 5), (⟨"StairTunes$Seer", "hearAll", "(II)Z"⟩, 5), (⟨"StairTunes$Seer", "isRise", "(III)Z"⟩, 5)]
theorem lw_r1 : ∀ q ∈ lw_privs_1, lw_okq q := List.forall_mem_cons.mpr ⟨lw_p0, List.forall_mem_cons.mpr ⟨lw_p1, List.forall_mem_cons.mpr ⟨lw_p2, List.forall_mem_cons.mpr ⟨lw_p3, List.forall_mem_cons.mpr ⟨lw_p4, List.forall_mem_cons.mpr ⟨lw_p5, List.forall_mem_cons.mpr ⟨lw_p6, List.forall_mem_cons.mpr ⟨lw_p7, List.forall_mem_cons.mpr ⟨lw_p8, List.forall_mem_cons.mpr ⟨lw_p9, List.forall_mem_cons.mpr ⟨lw_p10, List.forall_mem_cons.mpr ⟨lw_p11, List.forall_mem_cons.mpr ⟨lw_p12, List.forall_mem_cons.mpr ⟨lw_p13, List.forall_mem_cons.mpr ⟨lw_p14, List.forall_mem_cons.mpr ⟨lw_p15, fun _ h => absurd h List.not_mem_nil⟩⟩⟩⟩⟩⟩⟩⟩⟩⟩⟩⟩⟩⟩⟩⟩
theorem lw_p16 : lw_okq (⟨"StairTunes", "isTelling", "(IIII)Z"⟩, 8) := ⟨⟨by decide +kernel, by decide +kernel⟩, List.mem_of_getElem? (i := 13) (by decide +kernel), List.mem_of_getElem? (i := 705) (by decide +kernel), List.mem_of_getElem? (i := 706) (by decide +kernel)⟩
theorem lw_p17 : lw_okq (⟨"StairTunes", "seerOfRow", "(III)LStairTunes$Seer;"⟩, 8) := ⟨⟨by decide +kernel, by decide +kernel⟩, List.mem_of_getElem? (i := 13) (by decide +kernel), List.mem_of_getElem? (i := 709) (by decide +kernel), List.mem_of_getElem? (i := 710) (by decide +kernel)⟩
theorem lw_p18 : lw_okq (⟨"StairTunes$Seer", "isHeardSo", "(II)Z"⟩, 5) := ⟨⟨by decide +kernel, by decide +kernel⟩, List.mem_of_getElem? (i := 118) (by decide +kernel), List.mem_of_getElem? (i := 729) (by decide +kernel), List.mem_of_getElem? (i := 730) (by decide +kernel)⟩
theorem lw_p19 : lw_okq (⟨"StairTunes$Seer", "soundingSteps", "()I"⟩, 5) := ⟨⟨by decide +kernel, by decide +kernel⟩, List.mem_of_getElem? (i := 118) (by decide +kernel), List.mem_of_getElem? (i := 776) (by decide +kernel), List.mem_of_getElem? (i := 777) (by decide +kernel)⟩
theorem lw_p20 : lw_okq (⟨"StairTunes$Asks", "sizeAsked", "(I)I"⟩, 6) := ⟨⟨by decide +kernel, by decide +kernel⟩, List.mem_of_getElem? (i := 143) (by decide +kernel), List.mem_of_getElem? (i := 819) (by decide +kernel), List.mem_of_getElem? (i := 820) (by decide +kernel)⟩
theorem lw_p21 : lw_okq (⟨"StairTunes$Asks", "nearest", "([I)I"⟩, 6) := ⟨⟨by decide +kernel, by decide +kernel⟩, List.mem_of_getElem? (i := 143) (by decide +kernel), List.mem_of_getElem? (i := 825) (by decide +kernel), List.mem_of_getElem? (i := 826) (by decide +kernel)⟩
theorem lw_p22 : lw_okq (⟨"StairTunes$Asks", "body", "(II)I"⟩, 6) := ⟨⟨by decide +kernel, by decide +kernel⟩, List.mem_of_getElem? (i := 143) (by decide +kernel), List.mem_of_getElem? (i := 829) (by decide +kernel), List.mem_of_getElem? (i := 830) (by decide +kernel)⟩
theorem lw_p23 : lw_okq (⟨"StairTunes$Asks", "begin", "(I)V"⟩, 6) := ⟨⟨by decide +kernel, by decide +kernel⟩, List.mem_of_getElem? (i := 143) (by decide +kernel), List.mem_of_getElem? (i := 833) (by decide +kernel), List.mem_of_getElem? (i := 834) (by decide +kernel)⟩
theorem lw_p24 : lw_okq (⟨"StairTunes$Asks", "markAsked", "(I)I"⟩, 6) := ⟨⟨by decide +kernel, by decide +kernel⟩, List.mem_of_getElem? (i := 143) (by decide +kernel), List.mem_of_getElem? (i := 837) (by decide +kernel), List.mem_of_getElem? (i := 838) (by decide +kernel)⟩
theorem lw_p25 : lw_okq (⟨"StairTunesModel", "find", "(I)I"⟩, 24) := ⟨⟨by decide +kernel, by decide +kernel⟩, List.mem_of_getElem? (i := 874) (by decide +kernel), List.mem_of_getElem? (i := 967) (by decide +kernel), List.mem_of_getElem? (i := 968) (by decide +kernel)⟩
theorem lw_p26 : lw_okq (⟨"StairTunesModel", "well", "(I)I"⟩, 24) := ⟨⟨by decide +kernel, by decide +kernel⟩, List.mem_of_getElem? (i := 874) (by decide +kernel), List.mem_of_getElem? (i := 972) (by decide +kernel), List.mem_of_getElem? (i := 973) (by decide +kernel)⟩
theorem lw_p27 : lw_okq (⟨"StairTunesModel", "readTown", "()Z"⟩, 24) := ⟨⟨by decide +kernel, by decide +kernel⟩, List.mem_of_getElem? (i := 874) (by decide +kernel), List.mem_of_getElem? (i := 1001) (by decide +kernel), List.mem_of_getElem? (i := 1002) (by decide +kernel)⟩
theorem lw_p28 : lw_okq (⟨"StairTunesModel", "nextToken", "()V"⟩, 24) := ⟨⟨by decide +kernel, by decide +kernel⟩, List.mem_of_getElem? (i := 874) (by decide +kernel), List.mem_of_getElem? (i := 1005) (by decide +kernel), List.mem_of_getElem? (i := 1006) (by decide +kernel)⟩
theorem lw_p29 : lw_okq (⟨"StairTunesModel", "takes", "(I)Z"⟩, 24) := ⟨⟨by decide +kernel, by decide +kernel⟩, List.mem_of_getElem? (i := 874) (by decide +kernel), List.mem_of_getElem? (i := 1013) (by decide +kernel), List.mem_of_getElem? (i := 1014) (by decide +kernel)⟩
theorem lw_p30 : lw_okq (⟨"StairTunesModel", "isLetter", "(I)Z"⟩, 24) := ⟨⟨by decide +kernel, by decide +kernel⟩, List.mem_of_getElem? (i := 874) (by decide +kernel), List.mem_of_getElem? (i := 1017) (by decide +kernel), List.mem_of_getElem? (i := 1018) (by decide +kernel)⟩
theorem lw_p31 : lw_okq (⟨"StairTunesModel", "faults", "(I)Z"⟩, 24) := ⟨⟨by decide +kernel, by decide +kernel⟩, List.mem_of_getElem? (i := 874) (by decide +kernel), List.mem_of_getElem? (i := 1021) (by decide +kernel), List.mem_of_getElem? (i := 1022) (by decide +kernel)⟩
def lw_privs_2 : List (MethodName × Nat) := [(⟨"StairTunes", "isTelling", "(IIII)Z"⟩, 8), (⟨"StairTunes", "seerOfRow", "(III)LStairTunes$Seer;"⟩, 8), (⟨"StairTunes$Seer", "isHeardSo", "(II)Z"⟩, 5), (⟨"StairTunes$Seer", "soundingSteps", "()I"⟩, 5), (⟨"StairTunes$Asks", "sizeAsked", "(I)I"⟩, 6), (⟨"StairTunes$Asks", "nearest", "([I)I"⟩, 6), (⟨"StairTunes$Asks", "body", "(II)I"⟩, 6), (⟨"StairTunes$Asks", "begin", "(I)V"⟩, 6), (⟨"StairTunes$Asks", "markAsked", "(I)I"⟩, 6), (⟨"StairTunesModel", "find", "(I)I"⟩, 24), (⟨"StairTunesModel", "well", "(I)I"⟩, 24), (⟨"StairTunesModel", "readTown", "()Z"⟩, 24), (⟨"StairTunesModel", "nextToken", "()V"⟩, 24), (⟨"StairTunesModel", "takes", "(I)Z"⟩, 24), (⟨"StairTunesModel", "isLetter", "(I)Z"⟩, 24), (⟨"StairTunesModel", "faults", "(I)Z"⟩, 24)]
theorem lw_r2 : ∀ q ∈ lw_privs_2, lw_okq q := List.forall_mem_cons.mpr ⟨lw_p16, List.forall_mem_cons.mpr ⟨lw_p17, List.forall_mem_cons.mpr ⟨lw_p18, List.forall_mem_cons.mpr ⟨lw_p19, List.forall_mem_cons.mpr ⟨lw_p20, List.forall_mem_cons.mpr ⟨lw_p21, List.forall_mem_cons.mpr ⟨lw_p22, List.forall_mem_cons.mpr ⟨lw_p23, List.forall_mem_cons.mpr ⟨lw_p24, List.forall_mem_cons.mpr ⟨lw_p25, List.forall_mem_cons.mpr ⟨lw_p26, List.forall_mem_cons.mpr ⟨lw_p27, List.forall_mem_cons.mpr ⟨lw_p28, List.forall_mem_cons.mpr ⟨lw_p29, List.forall_mem_cons.mpr ⟨lw_p30, List.forall_mem_cons.mpr ⟨lw_p31, fun _ h => absurd h List.not_mem_nil⟩⟩⟩⟩⟩⟩⟩⟩⟩⟩⟩⟩⟩⟩⟩⟩
theorem lw_p32 : lw_okq (⟨"StairTunesModel", "takesNumber", "(IIII)Z"⟩, 24) := ⟨⟨by decide +kernel, by decide +kernel⟩, List.mem_of_getElem? (i := 874) (by decide +kernel), List.mem_of_getElem? (i := 1025) (by decide +kernel), List.mem_of_getElem? (i := 1026) (by decide +kernel)⟩
theorem lw_p33 : lw_okq (⟨"StairTunesModel", "readTread", "(I)Z"⟩, 24) := ⟨⟨by decide +kernel, by decide +kernel⟩, List.mem_of_getElem? (i := 874) (by decide +kernel), List.mem_of_getElem? (i := 1032) (by decide +kernel), List.mem_of_getElem? (i := 1033) (by decide +kernel)⟩
theorem lw_p34 : lw_okq (⟨"StairTunesModel", "readWalker", "()Z"⟩, 24) := ⟨⟨by decide +kernel, by decide +kernel⟩, List.mem_of_getElem? (i := 874) (by decide +kernel), List.mem_of_getElem? (i := 1036) (by decide +kernel), List.mem_of_getElem? (i := 1037) (by decide +kernel)⟩
theorem lw_p35 : lw_okq (⟨"StairTunesModel", "note", "()V"⟩, 24) := ⟨⟨by decide +kernel, by decide +kernel⟩, List.mem_of_getElem? (i := 874) (by decide +kernel), List.mem_of_getElem? (i := 1055) (by decide +kernel), List.mem_of_getElem? (i := 1056) (by decide +kernel)⟩
theorem lw_p36 : lw_okq (⟨"StairTunesModel", "oneDay", "()V"⟩, 24) := ⟨⟨by decide +kernel, by decide +kernel⟩, List.mem_of_getElem? (i := 874) (by decide +kernel), List.mem_of_getElem? (i := 1059) (by decide +kernel), List.mem_of_getElem? (i := 1060) (by decide +kernel)⟩
theorem lw_p37 : lw_okq (⟨"StairTunesModel", "longOf", "(I)I"⟩, 24) := ⟨⟨by decide +kernel, by decide +kernel⟩, List.mem_of_getElem? (i := 874) (by decide +kernel), List.mem_of_getElem? (i := 1063) (by decide +kernel), List.mem_of_getElem? (i := 1064) (by decide +kernel)⟩
theorem lw_p38 : lw_okq (⟨"StairTunesModel", "treadOf", "(II)I"⟩, 24) := ⟨⟨by decide +kernel, by decide +kernel⟩, List.mem_of_getElem? (i := 874) (by decide +kernel), List.mem_of_getElem? (i := 1070) (by decide +kernel), List.mem_of_getElem? (i := 1071) (by decide +kernel)⟩
theorem lw_p39 : lw_okq (⟨"StairTunesModel", "allWorn", "()I"⟩, 24) := ⟨⟨by decide +kernel, by decide +kernel⟩, List.mem_of_getElem? (i := 874) (by decide +kernel), List.mem_of_getElem? (i := 1074) (by decide +kernel), List.mem_of_getElem? (i := 1075) (by decide +kernel)⟩
theorem lw_p40 : lw_okq (⟨"StairTunesModel", "isTread", "(I)Z"⟩, 24) := ⟨⟨by decide +kernel, by decide +kernel⟩, List.mem_of_getElem? (i := 874) (by decide +kernel), List.mem_of_getElem? (i := 1082) (by decide +kernel), List.mem_of_getElem? (i := 1083) (by decide +kernel)⟩
theorem lw_p41 : lw_okq (⟨"StairTunesModel", "toneOf", "(I)I"⟩, 24) := ⟨⟨by decide +kernel, by decide +kernel⟩, List.mem_of_getElem? (i := 874) (by decide +kernel), List.mem_of_getElem? (i := 1087) (by decide +kernel), List.mem_of_getElem? (i := 1088) (by decide +kernel)⟩
theorem lw_p42 : lw_okq (⟨"StairTunesModel", "planeTo", "(II)V"⟩, 24) := ⟨⟨by decide +kernel, by decide +kernel⟩, List.mem_of_getElem? (i := 874) (by decide +kernel), List.mem_of_getElem? (i := 1091) (by decide +kernel), List.mem_of_getElem? (i := 1092) (by decide +kernel)⟩
theorem lw_p43 : lw_okq (⟨"StairTunesModel", "isWalker", "(I)Z"⟩, 24) := ⟨⟨by decide +kernel, by decide +kernel⟩, List.mem_of_getElem? (i := 874) (by decide +kernel), List.mem_of_getElem? (i := 1103) (by decide +kernel), List.mem_of_getElem? (i := 1104) (by decide +kernel)⟩
theorem lw_p44 : lw_okq (⟨"StairTunesModel", "whoSteps", "(I)I"⟩, 24) := ⟨⟨by decide +kernel, by decide +kernel⟩, List.mem_of_getElem? (i := 874) (by decide +kernel), List.mem_of_getElem? (i := 1117) (by decide +kernel), List.mem_of_getElem? (i := 1118) (by decide +kernel)⟩
theorem lw_p45 : lw_okq (⟨"StairTunesModel", "tuneOf", "(II)I"⟩, 24) := ⟨⟨by decide +kernel, by decide +kernel⟩, List.mem_of_getElem? (i := 874) (by decide +kernel), List.mem_of_getElem? (i := 1129) (by decide +kernel), List.mem_of_getElem? (i := 1130) (by decide +kernel)⟩
theorem lw_p46 : lw_okq (⟨"StairTunesModel", "sound", "(II)I"⟩, 24) := ⟨⟨by decide +kernel, by decide +kernel⟩, List.mem_of_getElem? (i := 874) (by decide +kernel), List.mem_of_getElem? (i := 1133) (by decide +kernel), List.mem_of_getElem? (i := 1134) (by decide +kernel)⟩
theorem lw_p47 : lw_okq (⟨"StairTunesModel", "isWet", "()Z"⟩, 24) := ⟨⟨by decide +kernel, by decide +kernel⟩, List.mem_of_getElem? (i := 874) (by decide +kernel), List.mem_of_getElem? (i := 1137) (by decide +kernel), List.mem_of_getElem? (i := 1138) (by decide +kernel)⟩
def lw_privs_3 : List (MethodName × Nat) := [(⟨"StairTunesModel", "takesNumber", "(IIII)Z"⟩, 24), (⟨"StairTunesModel", "readTread", "(I)Z"⟩, 24), (⟨"StairTunesModel", "readWalker", "()Z"⟩, 24), (⟨"StairTunesModel", "note", "()V"⟩, 24), (⟨"StairTunesModel", "oneDay", "()V"⟩, 24), (⟨"StairTunesModel", "longOf", "(I)I"⟩, 24), (⟨"StairTunesModel", "treadOf", "(II)I"⟩, 24), (⟨"StairTunesModel", "allWorn", "()I"⟩, 24), (⟨"StairTunesModel", "isTread", "(I)Z"⟩, 24), (⟨"StairTunesModel", "toneOf", "(I)I"⟩, 24), (⟨"StairTunesModel", "planeTo", "(II)V"⟩, 24), (⟨"StairTunesModel", "isWalker", "(I)Z"⟩, 24), (⟨"StairTunesModel", "whoSteps", "(I)I"⟩, 24), (⟨"StairTunesModel", "tuneOf", "(II)I"⟩, 24), (⟨"StairTunesModel", "sound", "(II)I"⟩, 24), (⟨"StairTunesModel", "isWet", "()Z"⟩, 24)]
theorem lw_r3 : ∀ q ∈ lw_privs_3, lw_okq q := List.forall_mem_cons.mpr ⟨lw_p32, List.forall_mem_cons.mpr ⟨lw_p33, List.forall_mem_cons.mpr ⟨lw_p34, List.forall_mem_cons.mpr ⟨lw_p35, List.forall_mem_cons.mpr ⟨lw_p36, List.forall_mem_cons.mpr ⟨lw_p37, List.forall_mem_cons.mpr ⟨lw_p38, List.forall_mem_cons.mpr ⟨lw_p39, List.forall_mem_cons.mpr ⟨lw_p40, List.forall_mem_cons.mpr ⟨lw_p41, List.forall_mem_cons.mpr ⟨lw_p42, List.forall_mem_cons.mpr ⟨lw_p43, List.forall_mem_cons.mpr ⟨lw_p44, List.forall_mem_cons.mpr ⟨lw_p45, List.forall_mem_cons.mpr ⟨lw_p46, List.forall_mem_cons.mpr ⟨lw_p47, fun _ h => absurd h List.not_mem_nil⟩⟩⟩⟩⟩⟩⟩⟩⟩⟩⟩⟩⟩⟩⟩⟩
theorem lw_p48 : lw_okq (⟨"StairTunesModel", "at", "(II)I"⟩, 24) := ⟨⟨by decide +kernel, by decide +kernel⟩, List.mem_of_getElem? (i := 874) (by decide +kernel), List.mem_of_getElem? (i := 1153) (by decide +kernel), List.mem_of_getElem? (i := 1154) (by decide +kernel)⟩
theorem lw_p49 : lw_okq (⟨"StairTunesModel", "heardAt", "(II)I"⟩, 24) := ⟨⟨by decide +kernel, by decide +kernel⟩, List.mem_of_getElem? (i := 874) (by decide +kernel), List.mem_of_getElem? (i := 1161) (by decide +kernel), List.mem_of_getElem? (i := 1162) (by decide +kernel)⟩
theorem lw_p50 : lw_okq (⟨"StairTunesModel", "putAside", "()V"⟩, 24) := ⟨⟨by decide +kernel, by decide +kernel⟩, List.mem_of_getElem? (i := 874) (by decide +kernel), List.mem_of_getElem? (i := 1173) (by decide +kernel), List.mem_of_getElem? (i := 1174) (by decide +kernel)⟩
theorem lw_p51 : lw_okq (⟨"StairTunesModel", "takeBack", "()V"⟩, 24) := ⟨⟨by decide +kernel, by decide +kernel⟩, List.mem_of_getElem? (i := 874) (by decide +kernel), List.mem_of_getElem? (i := 1177) (by decide +kernel), List.mem_of_getElem? (i := 1178) (by decide +kernel)⟩
theorem lw_p52 : lw_okq (⟨"StairTunesModel", "allIn", "(I)I"⟩, 24) := ⟨⟨by decide +kernel, by decide +kernel⟩, List.mem_of_getElem? (i := 874) (by decide +kernel), List.mem_of_getElem? (i := 1193) (by decide +kernel), List.mem_of_getElem? (i := 1194) (by decide +kernel)⟩
theorem lw_p53 : lw_okq (⟨"StairTunesModel", "twinsMany", "()I"⟩, 24) := ⟨⟨by decide +kernel, by decide +kernel⟩, List.mem_of_getElem? (i := 874) (by decide +kernel), List.mem_of_getElem? (i := 1204) (by decide +kernel), List.mem_of_getElem? (i := 1205) (by decide +kernel)⟩
theorem lw_p54 : lw_okq (⟨"StairTunesModel", "areTwins", "(II)Z"⟩, 24) := ⟨⟨by decide +kernel, by decide +kernel⟩, List.mem_of_getElem? (i := 874) (by decide +kernel), List.mem_of_getElem? (i := 1208) (by decide +kernel), List.mem_of_getElem? (i := 1209) (by decide +kernel)⟩
theorem lw_p55 : lw_okq (⟨"StairTunesModel", "isHeard", "(II)Z"⟩, 24) := ⟨⟨by decide +kernel, by decide +kernel⟩, List.mem_of_getElem? (i := 874) (by decide +kernel), List.mem_of_getElem? (i := 1216) (by decide +kernel), List.mem_of_getElem? (i := 1217) (by decide +kernel)⟩
theorem lw_p56 : lw_okq (⟨"StairTunesModel", "areHeard", "(I)Z"⟩, 24) := ⟨⟨by decide +kernel, by decide +kernel⟩, List.mem_of_getElem? (i := 874) (by decide +kernel), List.mem_of_getElem? (i := 1224) (by decide +kernel), List.mem_of_getElem? (i := 1225) (by decide +kernel)⟩
theorem lw_p57 : lw_okq (⟨"StairTunesModel", "isRise", "(III)Z"⟩, 24) := ⟨⟨by decide +kernel, by decide +kernel⟩, List.mem_of_getElem? (i := 874) (by decide +kernel), List.mem_of_getElem? (i := 1236) (by decide +kernel), List.mem_of_getElem? (i := 1237) (by decide +kernel)⟩
theorem lw_p58 : lw_okq (⟨"StairTunesModel", "lacks", "(III)I"⟩, 24) := ⟨⟨by decide +kernel, by decide +kernel⟩, List.mem_of_getElem? (i := 874) (by decide +kernel), List.mem_of_getElem? (i := 1245) (by decide +kernel), List.mem_of_getElem? (i := 1246) (by decide +kernel)⟩
theorem lw_p59 : lw_okq (⟨"StairTunesModel", "fits", "(IIIIIII)I"⟩, 24) := ⟨⟨by decide +kernel, by decide +kernel⟩, List.mem_of_getElem? (i := 874) (by decide +kernel), List.mem_of_getElem? (i := 1249) (by decide +kernel), List.mem_of_getElem? (i := 1250) (by decide +kernel)⟩
theorem lw_p60 : lw_okq (⟨"StairTunesModel", "isSo", "(IIII)Z"⟩, 24) := ⟨⟨by decide +kernel, by decide +kernel⟩, List.mem_of_getElem? (i := 874) (by decide +kernel), List.mem_of_getElem? (i := 1253) (by decide +kernel), List.mem_of_getElem? (i := 1254) (by decide +kernel)⟩
theorem lw_p61 : lw_okq (⟨"StairTunesModel", "soundsMany", "()I"⟩, 24) := ⟨⟨by decide +kernel, by decide +kernel⟩, List.mem_of_getElem? (i := 874) (by decide +kernel), List.mem_of_getElem? (i := 1276) (by decide +kernel), List.mem_of_getElem? (i := 1277) (by decide +kernel)⟩
theorem lw_p62 : lw_okq (⟨"StairTunesModel", "allTones", "()I"⟩, 24) := ⟨⟨by decide +kernel, by decide +kernel⟩, List.mem_of_getElem? (i := 874) (by decide +kernel), List.mem_of_getElem? (i := 1280) (by decide +kernel), List.mem_of_getElem? (i := 1281) (by decide +kernel)⟩
theorem lw_p63 : lw_okq (⟨"StairTunesModel", "sizeOf", "(I)I"⟩, 24) := ⟨⟨by decide +kernel, by decide +kernel⟩, List.mem_of_getElem? (i := 874) (by decide +kernel), List.mem_of_getElem? (i := 1308) (by decide +kernel), List.mem_of_getElem? (i := 1309) (by decide +kernel)⟩
def lw_privs_4 : List (MethodName × Nat) := [(⟨"StairTunesModel", "at", "(II)I"⟩, 24), (⟨"StairTunesModel", "heardAt", "(II)I"⟩, 24), (⟨"StairTunesModel", "putAside", "()V"⟩, 24), (⟨"StairTunesModel", "takeBack", "()V"⟩, 24), (⟨"StairTunesModel", "allIn", "(I)I"⟩, 24), (⟨"StairTunesModel", "twinsMany", "()I"⟩, 24), (⟨"StairTunesModel", "areTwins", "(II)Z"⟩, 24), (⟨"StairTunesModel", "isHeard", "(II)Z"⟩, 24), (⟨"StairTunesModel", "areHeard", "(I)Z"⟩, 24), (⟨"StairTunesModel", "isRise", "(III)Z"⟩, 24), (⟨"StairTunesModel", "lacks", "(III)I"⟩, 24), (⟨"StairTunesModel", "fits", "(IIIIIII)I"⟩, 24), (⟨"StairTunesModel", "isSo", "(IIII)Z"⟩, 24), (⟨"StairTunesModel", "soundsMany", "()I"⟩, 24), (⟨"StairTunesModel", "allTones", "()I"⟩, 24), (⟨"StairTunesModel", "sizeOf", "(I)I"⟩, 24)]
theorem lw_r4 : ∀ q ∈ lw_privs_4, lw_okq q := List.forall_mem_cons.mpr ⟨lw_p48, List.forall_mem_cons.mpr ⟨lw_p49, List.forall_mem_cons.mpr ⟨lw_p50, List.forall_mem_cons.mpr ⟨lw_p51, List.forall_mem_cons.mpr ⟨lw_p52, List.forall_mem_cons.mpr ⟨lw_p53, List.forall_mem_cons.mpr ⟨lw_p54, List.forall_mem_cons.mpr ⟨lw_p55, List.forall_mem_cons.mpr ⟨lw_p56, List.forall_mem_cons.mpr ⟨lw_p57, List.forall_mem_cons.mpr ⟨lw_p58, List.forall_mem_cons.mpr ⟨lw_p59, List.forall_mem_cons.mpr ⟨lw_p60, List.forall_mem_cons.mpr ⟨lw_p61, List.forall_mem_cons.mpr ⟨lw_p62, List.forall_mem_cons.mpr ⟨lw_p63, fun _ h => absurd h List.not_mem_nil⟩⟩⟩⟩⟩⟩⟩⟩⟩⟩⟩⟩⟩⟩⟩⟩
theorem lw_p64 : lw_okq (⟨"StairTunesModel", "begin", "(I)V"⟩, 24) := ⟨⟨by decide +kernel, by decide +kernel⟩, List.mem_of_getElem? (i := 874) (by decide +kernel), List.mem_of_getElem? (i := 1312) (by decide +kernel), List.mem_of_getElem? (i := 1313) (by decide +kernel)⟩
theorem lw_p65 : lw_okq (⟨"StairTunesModel", "plainSize", "(I)I"⟩, 24) := ⟨⟨by decide +kernel, by decide +kernel⟩, List.mem_of_getElem? (i := 874) (by decide +kernel), List.mem_of_getElem? (i := 1316) (by decide +kernel), List.mem_of_getElem? (i := 1317) (by decide +kernel)⟩
theorem lw_p66 : lw_okq (⟨"StairTunesModel", "lent", "(II)I"⟩, 24) := ⟨⟨by decide +kernel, by decide +kernel⟩, List.mem_of_getElem? (i := 874) (by decide +kernel), List.mem_of_getElem? (i := 1320) (by decide +kernel), List.mem_of_getElem? (i := 1321) (by decide +kernel)⟩
theorem lw_p67 : lw_okq (⟨"StairTunesModel", "markOf", "(I)I"⟩, 24) := ⟨⟨by decide +kernel, by decide +kernel⟩, List.mem_of_getElem? (i := 874) (by decide +kernel), List.mem_of_getElem? (i := 1324) (by decide +kernel), List.mem_of_getElem? (i := 1325) (by decide +kernel)⟩
theorem lw_p68 : lw_okq (⟨"StairTunesModel", "plainMark", "(I)I"⟩, 24) := ⟨⟨by decide +kernel, by decide +kernel⟩, List.mem_of_getElem? (i := 874) (by decide +kernel), List.mem_of_getElem? (i := 1328) (by decide +kernel), List.mem_of_getElem? (i := 1329) (by decide +kernel)⟩
theorem lw_p69 : lw_okq (⟨"StairTunesModel", "sizeOfRotten", "(I)I"⟩, 24) := ⟨⟨by decide +kernel, by decide +kernel⟩, List.mem_of_getElem? (i := 874) (by decide +kernel), List.mem_of_getElem? (i := 1332) (by decide +kernel), List.mem_of_getElem? (i := 1333) (by decide +kernel)⟩
theorem lw_p70 : lw_okq (⟨"StairTunesModel", "rottenSize", "(I)I"⟩, 24) := ⟨⟨by decide +kernel, by decide +kernel⟩, List.mem_of_getElem? (i := 874) (by decide +kernel), List.mem_of_getElem? (i := 1336) (by decide +kernel), List.mem_of_getElem? (i := 1337) (by decide +kernel)⟩
def lw_privs_5 : List (MethodName × Nat) := [(⟨"StairTunesModel", "begin", "(I)V"⟩, 24), (⟨"StairTunesModel", "plainSize", "(I)I"⟩, 24), (⟨"StairTunesModel", "lent", "(II)I"⟩, 24), (⟨"StairTunesModel", "markOf", "(I)I"⟩, 24), (⟨"StairTunesModel", "plainMark", "(I)I"⟩, 24), (⟨"StairTunesModel", "sizeOfRotten", "(I)I"⟩, 24), (⟨"StairTunesModel", "rottenSize", "(I)I"⟩, 24)]
theorem lw_r5 : ∀ q ∈ lw_privs_5, lw_okq q := List.forall_mem_cons.mpr ⟨lw_p64, List.forall_mem_cons.mpr ⟨lw_p65, List.forall_mem_cons.mpr ⟨lw_p66, List.forall_mem_cons.mpr ⟨lw_p67, List.forall_mem_cons.mpr ⟨lw_p68, List.forall_mem_cons.mpr ⟨lw_p69, List.forall_mem_cons.mpr ⟨lw_p70, fun _ h => absurd h List.not_mem_nil⟩⟩⟩⟩⟩⟩⟩
def lw_privs : List (MethodName × Nat) := lw_privs_1 ++ (lw_privs_2 ++ (lw_privs_3 ++ (lw_privs_4 ++ (lw_privs_5))))
def lw_tbl : List Cond := k2_sels lw_privs ++ tables_1
theorem lw_privs_ok : ∀ q ∈ lw_privs, lw_okq q := by
  show ∀ q ∈ lw_privs_1 ++ (lw_privs_2 ++ (lw_privs_3 ++ (lw_privs_4 ++ (lw_privs_5)))), lw_okq q
  exact List.forall_mem_append.mpr ⟨lw_r1, List.forall_mem_append.mpr ⟨lw_r2, List.forall_mem_append.mpr ⟨lw_r3, List.forall_mem_append.mpr ⟨lw_r4, lw_r5⟩⟩⟩⟩

def RX0 : String := "StairTunes$Asks"
def TX0 : u_T := fun k => match k with
  | 0 => ("StairTunes$Asks", "bodies", "[I", true)
  | 1 => ("StairTunes$Asks", "begun", "I", false)
  | 2 => ("StairTunes$Asks", "number", "I", false)
  | 3 => ("StairTunes$Asks", "kind", "I", false)
  | 4 => ("StairTunes$Asks", "note", "I", false)
  | _ => ("StairTunes$Asks", "worn", "I", false)
def tyX0 : Nat → FieldType := fun k => match k with
  | 0 => .array .int
  | 1 => .int
  | 2 => .int
  | 3 => .int
  | 4 => .int
  | _ => .int
theorem nmX0 : ∀ a, a < 6 → ∀ b, b < 6 → a ≠ b → (TX0 a).2.1 ≠ (TX0 b).2.1 := by decide +kernel
theorem tyX0_ok : ∀ k, k < 6 → parseFieldDescriptor (TX0 k).2.2.1 = some (tyX0 k) := by decide +kernel
abbrev cX0_init : ByteArray := prog_2_method_1_code
def yX0_init : MethodName := ⟨RX0, "<init>", "()V"⟩
abbrev cX0_isA : ByteArray := prog_2_method_2_code
def yX0_isA : MethodName := ⟨RX0, "isA", "(II)Z"⟩
abbrev cX0_answerOf : ByteArray := prog_2_method_3_code
def yX0_answerOf : MethodName := ⟨RX0, "answerOf", "(LStairTunes$Town;II)I"⟩
abbrev cX0_traceAt : ByteArray := prog_2_method_4_code
def yX0_traceAt : MethodName := ⟨RX0, "traceAt", "(I)I"⟩
abbrev cX0_sizeAsked : ByteArray := prog_2_method_5_code
def yX0_sizeAsked : MethodName := ⟨RX0, "sizeAsked", "(I)I"⟩
abbrev cX0_markAsked : ByteArray := prog_2_method_6_code
def yX0_markAsked : MethodName := ⟨RX0, "markAsked", "(I)I"⟩
abbrev cX0_nearest : ByteArray := prog_2_method_7_code
def yX0_nearest : MethodName := ⟨RX0, "nearest", "([I)I"⟩
abbrev cX0_body : ByteArray := prog_2_method_8_code
def yX0_body : MethodName := ⟨RX0, "body", "(II)I"⟩
abbrev cX0_begin : ByteArray := prog_2_method_9_code
def yX0_begin : MethodName := ⟨RX0, "begin", "(I)V"⟩
def RX1 : String := "StairTunes$Past"
def TX1 : u_T := fun k => match k with
  | 0 => ("StairTunes$Past", "towns", "[LStairTunes$Town;", true)
  | 1 => ("StairTunes$Past", "next", "I", false)
  | _ => ("StairTunes$Past", "kept", "I", false)
def tyX1 : Nat → FieldType := fun k => match k with
  | 0 => .array (.object "StairTunes$Town")
  | 1 => .int
  | _ => .int
theorem nmX1 : ∀ a, a < 3 → ∀ b, b < 3 → a ≠ b → (TX1 a).2.1 ≠ (TX1 b).2.1 := by decide +kernel
theorem tyX1_ok : ∀ k, k < 3 → parseFieldDescriptor (TX1 k).2.2.1 = some (tyX1 k) := by decide +kernel
abbrev cX1_init : ByteArray := prog_3_method_1_code
def yX1_init : MethodName := ⟨RX1, "<init>", "()V"⟩
abbrev cX1_forget : ByteArray := prog_3_method_2_code
def yX1_forget : MethodName := ⟨RX1, "forget", "()V"⟩
abbrev cX1_keptCount : ByteArray := prog_3_method_3_code
def yX1_keptCount : MethodName := ⟨RX1, "keptCount", "()I"⟩
abbrev cX1_keep : ByteArray := prog_3_method_4_code
def yX1_keep : MethodName := ⟨RX1, "keep", "(LStairTunes$Town;)V"⟩
abbrev cX1_takeBack : ByteArray := prog_3_method_5_code
def yX1_takeBack : MethodName := ⟨RX1, "takeBack", "(LStairTunes$Town;)I"⟩
abbrev cX1_townAt : ByteArray := prog_3_method_6_code
def yX1_townAt : MethodName := ⟨RX1, "townAt", "(I)LStairTunes$Town;"⟩
def RX2 : String := "StairTunes$Reader"
def TX2 : u_T := fun k => match k with
  | 0 => ("StairTunes$Reader", "tape", "[I", true)
  | 1 => ("StairTunes$Reader", "draft", "LStairTunes$Town;", true)
  | 2 => ("StairTunes$Reader", "bytes", "I", false)
  | 3 => ("StairTunes$Reader", "at", "I", false)
  | 4 => ("StairTunes$Reader", "fault", "I", false)
  | _ => ("StairTunes$Reader", "place", "I", false)
def tyX2 : Nat → FieldType := fun k => match k with
  | 0 => .array .int
  | 1 => .object "StairTunes$Town"
  | 2 => .int
  | 3 => .int
  | 4 => .int
  | _ => .int
theorem nmX2 : ∀ a, a < 6 → ∀ b, b < 6 → a ≠ b → (TX2 a).2.1 ≠ (TX2 b).2.1 := by decide +kernel
theorem tyX2_ok : ∀ k, k < 6 → parseFieldDescriptor (TX2 k).2.2.1 = some (tyX2 k) := by decide +kernel
abbrev cX2_init : ByteArray := prog_4_method_1_code
def yX2_init : MethodName := ⟨RX2, "<init>", "()V"⟩
abbrev cX2_add : ByteArray := prog_4_method_2_code
def yX2_add : MethodName := ⟨RX2, "add", "(I)I"⟩
abbrev cX2_byteCount : ByteArray := prog_4_method_3_code
def yX2_byteCount : MethodName := ⟨RX2, "byteCount", "()I"⟩
abbrev cX2_faultNumber : ByteArray := prog_4_method_4_code
def yX2_faultNumber : MethodName := ⟨RX2, "faultNumber", "()I"⟩
abbrev cX2_faultPlace : ByteArray := prog_4_method_5_code
def yX2_faultPlace : MethodName := ⟨RX2, "faultPlace", "()I"⟩
abbrev cX2_readTape : ByteArray := prog_4_method_6_code
def yX2_readTape : MethodName := ⟨RX2, "readTape", "()LStairTunes$Town;"⟩
abbrev cX2_readLaw : ByteArray := prog_4_method_7_code
def yX2_readLaw : MethodName := ⟨RX2, "readLaw", "()Z"⟩
abbrev cX2_readTreads : ByteArray := prog_4_method_8_code
def yX2_readTreads : MethodName := ⟨RX2, "readTreads", "()Z"⟩
abbrev cX2_readWalkers : ByteArray := prog_4_method_9_code
def yX2_readWalkers : MethodName := ⟨RX2, "readWalkers", "()Z"⟩
abbrev cX2_readWalker : ByteArray := prog_4_method_10_code
def yX2_readWalker : MethodName := ⟨RX2, "readWalker", "(I)Z"⟩
abbrev cX2_kindOfSort : ByteArray := prog_4_method_11_code
def yX2_kindOfSort : MethodName := ⟨RX2, "kindOfSort", "(I)I"⟩
abbrev cX2_readSign : ByteArray := prog_4_method_12_code
def yX2_readSign : MethodName := ⟨RX2, "readSign", "(I)Z"⟩
abbrev cX2_readNumber : ByteArray := prog_4_method_13_code
def yX2_readNumber : MethodName := ⟨RX2, "readNumber", "(II)I"⟩
abbrev cX2_letter : ByteArray := prog_4_method_14_code
def yX2_letter : MethodName := ⟨RX2, "letter", "()I"⟩
abbrev cX2_fail : ByteArray := prog_4_method_15_code
def yX2_fail : MethodName := ⟨RX2, "fail", "(I)Z"⟩
def RX3 : String := "StairTunes$Seer"
def TX3 : u_T := fun k => match k with
  | 0 => ("StairTunes$Seer", "town", "LStairTunes$Town;", true)
  | 1 => ("StairTunes$Seer", "heardItems", "[I", true)
  | 2 => ("StairTunes$Seer", "doorsOf", "[I", true)
  | 3 => ("StairTunes$Seer", "tuneNumbers", "[J", true)
  | _ => ("StairTunes$Seer", "heardCount", "I", false)
def tyX3 : Nat → FieldType := fun k => match k with
  | 0 => .object "StairTunes$Town"
  | 1 => .array .int
  | 2 => .array .int
  | 3 => .array .long
  | _ => .int
theorem nmX3 : ∀ a, a < 5 → ∀ b, b < 5 → a ≠ b → (TX3 a).2.1 ≠ (TX3 b).2.1 := by decide +kernel
theorem tyX3_ok : ∀ k, k < 5 → parseFieldDescriptor (TX3 k).2.2.1 = some (tyX3 k) := by decide +kernel
abbrev cX3_init : ByteArray := prog_5_method_1_code
def yX3_init : MethodName := ⟨RX3, "<init>", "()V"⟩
abbrev cX3_lookAt : ByteArray := prog_5_method_2_code
def yX3_lookAt : MethodName := ⟨RX3, "lookAt", "(LStairTunes$Town;)V"⟩
abbrev cX3_hearFrom : ByteArray := prog_5_method_3_code
def yX3_hearFrom : MethodName := ⟨RX3, "hearFrom", "(I)V"⟩
abbrev cX3_treadIn : ByteArray := prog_5_method_4_code
def yX3_treadIn : MethodName := ⟨RX3, "treadIn", "(III)I"⟩
abbrev cX3_meetingOf : ByteArray := prog_5_method_5_code
def yX3_meetingOf : MethodName := ⟨RX3, "meetingOf", "(II)I"⟩
abbrev cX3_fullestMinute : ByteArray := prog_5_method_6_code
def yX3_fullestMinute : MethodName := ⟨RX3, "fullestMinute", "(I)I"⟩
abbrev cX3_twinCount : ByteArray := prog_5_method_7_code
def yX3_twinCount : MethodName := ⟨RX3, "twinCount", "()I"⟩
abbrev cX3_firstTwins : ByteArray := prog_5_method_8_code
def yX3_firstTwins : MethodName := ⟨RX3, "firstTwins", "()I"⟩
abbrev cX3_numberTunes : ByteArray := prog_5_method_9_code
def yX3_numberTunes : MethodName := ⟨RX3, "numberTunes", "()I"⟩
abbrev cX3_fewestFelts : ByteArray := prog_5_method_10_code
def yX3_fewestFelts : MethodName := ⟨RX3, "fewestFelts", "(III)I"⟩
abbrev cX3_fewestDoors : ByteArray := prog_5_method_11_code
def yX3_fewestDoors : MethodName := ⟨RX3, "fewestDoors", "(I)I"⟩
abbrev cX3_hearAll : ByteArray := prog_5_method_12_code
def yX3_hearAll : MethodName := ⟨RX3, "hearAll", "(II)Z"⟩
abbrev cX3_doorsHearing : ByteArray := prog_5_method_13_code
def yX3_doorsHearing : MethodName := ⟨RX3, "doorsHearing", "(I)I"⟩
abbrev cX3_isUnheard : ByteArray := prog_5_method_14_code
def yX3_isUnheard : MethodName := ⟨RX3, "isUnheard", "(III)Z"⟩
abbrev cX3_isSmaller : ByteArray := prog_5_method_15_code
def yX3_isSmaller : MethodName := ⟨RX3, "isSmaller", "(II)Z"⟩
abbrev cX3_sizeOf : ByteArray := prog_5_method_16_code
def yX3_sizeOf : MethodName := ⟨RX3, "sizeOf", "(I)I"⟩
abbrev cX3_bestPlaning : ByteArray := prog_5_method_17_code
def yX3_bestPlaning : MethodName := ⟨RX3, "bestPlaning", "(I)I"⟩
abbrev cX3_risesOf : ByteArray := prog_5_method_18_code
def yX3_risesOf : MethodName := ⟨RX3, "risesOf", "(IIII)I"⟩
abbrev cX3_isRise : ByteArray := prog_5_method_19_code
def yX3_isRise : MethodName := ⟨RX3, "isRise", "(III)Z"⟩
abbrev cX3_kindsBy : ByteArray := prog_5_method_20_code
def yX3_kindsBy : MethodName := ⟨RX3, "kindsBy", "(III)I"⟩
abbrev cX3_notesBy : ByteArray := prog_5_method_21_code
def yX3_notesBy : MethodName := ⟨RX3, "notesBy", "(III)I"⟩
abbrev cX3_partsBy : ByteArray := prog_5_method_22_code
def yX3_partsBy : MethodName := ⟨RX3, "partsBy", "(IIII)I"⟩
abbrev cX3_isHeardSo : ByteArray := prog_5_method_23_code
def yX3_isHeardSo : MethodName := ⟨RX3, "isHeardSo", "(II)Z"⟩
abbrev cX3_likelihood : ByteArray := prog_5_method_24_code
def yX3_likelihood : MethodName := ⟨RX3, "likelihood", "(IIII)J"⟩
abbrev cX3_commonDivisor : ByteArray := prog_5_method_25_code
def yX3_commonDivisor : MethodName := ⟨RX3, "commonDivisor", "(JJ)J"⟩
abbrev cX3_weeksBy : ByteArray := prog_5_method_26_code
def yX3_weeksBy : MethodName := ⟨RX3, "weeksBy", "(III)I"⟩
abbrev cX3_soundingSteps : ByteArray := prog_5_method_27_code
def yX3_soundingSteps : MethodName := ⟨RX3, "soundingSteps", "()I"⟩
def RX4 : String := "StairTunes$Shelf"
def TX4 : u_T := fun k => match k with
  | 0 => ("StairTunes$Shelf", "items", "[I", true)
  | 1 => ("StairTunes$Shelf", "lanes", "[I", true)
  | _ => ("StairTunes$Shelf", "sizes", "[I", true)
def tyX4 : Nat → FieldType := fun k => match k with
  | 0 => .array .int
  | 1 => .array .int
  | _ => .array .int
theorem nmX4 : ∀ a, a < 3 → ∀ b, b < 3 → a ≠ b → (TX4 a).2.1 ≠ (TX4 b).2.1 := by decide +kernel
theorem tyX4_ok : ∀ k, k < 3 → parseFieldDescriptor (TX4 k).2.2.1 = some (tyX4 k) := by decide +kernel
abbrev cX4_init : ByteArray := prog_6_method_1_code
def yX4_init : MethodName := ⟨RX4, "<init>", "()V"⟩
abbrev cX4_isRow : ByteArray := prog_6_method_2_code
def yX4_isRow : MethodName := ⟨RX4, "isRow", "(I)Z"⟩
abbrev cX4_isLane : ByteArray := prog_6_method_3_code
def yX4_isLane : MethodName := ⟨RX4, "isLane", "(I)Z"⟩
abbrev cX4_isMissing : ByteArray := prog_6_method_4_code
def yX4_isMissing : MethodName := ⟨RX4, "isMissing", "(I)Z"⟩
abbrev cX4_rowCount : ByteArray := prog_6_method_5_code
def yX4_rowCount : MethodName := ⟨RX4, "rowCount", "()I"⟩
abbrev cX4_findingOf : ByteArray := prog_6_method_6_code
def yX4_findingOf : MethodName := ⟨RX4, "findingOf", "(III)I"⟩
abbrev cX4_findingOfCopy : ByteArray := prog_6_method_7_code
def yX4_findingOfCopy : MethodName := ⟨RX4, "findingOfCopy", "(IIIII)I"⟩
abbrev cX4_lay : ByteArray := prog_6_method_8_code
def yX4_lay : MethodName := ⟨RX4, "lay", "(III)I"⟩
abbrev cX4_put : ByteArray := prog_6_method_9_code
def yX4_put : MethodName := ⟨RX4, "put", "(III)I"⟩
abbrev cX4_itemAt : ByteArray := prog_6_method_10_code
def yX4_itemAt : MethodName := ⟨RX4, "itemAt", "(II)I"⟩
abbrev cX4_move : ByteArray := prog_6_method_11_code
def yX4_move : MethodName := ⟨RX4, "move", "(IIIII)I"⟩
abbrev cX4_takeAway : ByteArray := prog_6_method_12_code
def yX4_takeAway : MethodName := ⟨RX4, "takeAway", "(I)I"⟩
def RX5 : String := "StairTunes$Town"
def TX5 : u_T := fun k => match k with
  | 0 => ("StairTunes$Town", "kinds", "[I", true)
  | 1 => ("StairTunes$Town", "notes", "[I", true)
  | 2 => ("StairTunes$Town", "wears", "[I", true)
  | 3 => ("StairTunes$Town", "parts", "[I", true)
  | 4 => ("StairTunes$Town", "treads", "I", false)
  | 5 => ("StairTunes$Town", "walkers", "I", false)
  | 6 => ("StairTunes$Town", "wet", "I", false)
  | 7 => ("StairTunes$Town", "reach", "I", false)
  | _ => ("StairTunes$Town", "day", "I", false)
def tyX5 : Nat → FieldType := fun k => match k with
  | 0 => .array .int
  | 1 => .array .int
  | 2 => .array .int
  | 3 => .array .int
  | 4 => .int
  | 5 => .int
  | 6 => .int
  | 7 => .int
  | _ => .int
theorem nmX5 : ∀ a, a < 9 → ∀ b, b < 9 → a ≠ b → (TX5 a).2.1 ≠ (TX5 b).2.1 := by decide +kernel
theorem tyX5_ok : ∀ k, k < 9 → parseFieldDescriptor (TX5 k).2.2.1 = some (tyX5 k) := by decide +kernel
abbrev cX5_init : ByteArray := prog_7_method_1_code
def yX5_init : MethodName := ⟨RX5, "<init>", "()V"⟩
abbrev cX5_take : ByteArray := prog_7_method_2_code
def yX5_take : MethodName := ⟨RX5, "take", "(LStairTunes$Town;)V"⟩
abbrev cX5_begin : ByteArray := prog_7_method_3_code
def yX5_begin : MethodName := ⟨RX5, "begin", "(II)V"⟩
abbrev cX5_addTread : ByteArray := prog_7_method_4_code
def yX5_addTread : MethodName := ⟨RX5, "addTread", "(II)V"⟩
abbrev cX5_addWalker : ByteArray := prog_7_method_5_code
def yX5_addWalker : MethodName := ⟨RX5, "addWalker", "()V"⟩
abbrev cX5_stands : ByteArray := prog_7_method_6_code
def yX5_stands : MethodName := ⟨RX5, "stands", "()Z"⟩
abbrev cX5_hasTread : ByteArray := prog_7_method_7_code
def yX5_hasTread : MethodName := ⟨RX5, "hasTread", "(I)Z"⟩
abbrev cX5_hasWalker : ByteArray := prog_7_method_8_code
def yX5_hasWalker : MethodName := ⟨RX5, "hasWalker", "(I)Z"⟩
abbrev cX5_treadCount : ByteArray := prog_7_method_9_code
def yX5_treadCount : MethodName := ⟨RX5, "treadCount", "()I"⟩
abbrev cX5_walkerCount : ByteArray := prog_7_method_10_code
def yX5_walkerCount : MethodName := ⟨RX5, "walkerCount", "()I"⟩
abbrev cX5_reachNow : ByteArray := prog_7_method_11_code
def yX5_reachNow : MethodName := ⟨RX5, "reachNow", "()I"⟩
abbrev cX5_dayNumber : ByteArray := prog_7_method_12_code
def yX5_dayNumber : MethodName := ⟨RX5, "dayNumber", "()I"⟩
abbrev cX5_isWet : ByteArray := prog_7_method_13_code
def yX5_isWet : MethodName := ⟨RX5, "isWet", "()Z"⟩
abbrev cX5_leastOf : ByteArray := prog_7_method_14_code
def yX5_leastOf : MethodName := ⟨RX5, "leastOf", "(I)I"⟩
abbrev cX5_mostOf : ByteArray := prog_7_method_15_code
def yX5_mostOf : MethodName := ⟨RX5, "mostOf", "(I)I"⟩
abbrev cX5_canBe : ByteArray := prog_7_method_16_code
def yX5_canBe : MethodName := ⟨RX5, "canBe", "(II)Z"⟩
abbrev cX5_partOf : ByteArray := prog_7_method_17_code
def yX5_partOf : MethodName := ⟨RX5, "partOf", "(II)I"⟩
abbrev cX5_setPart : ByteArray := prog_7_method_18_code
def yX5_setPart : MethodName := ⟨RX5, "setPart", "(III)V"⟩
abbrev cX5_setReach : ByteArray := prog_7_method_19_code
def yX5_setReach : MethodName := ⟨RX5, "setReach", "(I)V"⟩
abbrev cX5_kindOf : ByteArray := prog_7_method_20_code
def yX5_kindOf : MethodName := ⟨RX5, "kindOf", "(I)I"⟩
abbrev cX5_setKind : ByteArray := prog_7_method_21_code
def yX5_setKind : MethodName := ⟨RX5, "setKind", "(II)V"⟩
abbrev cX5_noteOf : ByteArray := prog_7_method_22_code
def yX5_noteOf : MethodName := ⟨RX5, "noteOf", "(I)I"⟩
abbrev cX5_setNote : ByteArray := prog_7_method_23_code
def yX5_setNote : MethodName := ⟨RX5, "setNote", "(II)V"⟩
abbrev cX5_wornOf : ByteArray := prog_7_method_24_code
def yX5_wornOf : MethodName := ⟨RX5, "wornOf", "(I)I"⟩
abbrev cX5_setWorn : ByteArray := prog_7_method_25_code
def yX5_setWorn : MethodName := ⟨RX5, "setWorn", "(II)V"⟩
abbrev cX5_planeTo : ByteArray := prog_7_method_26_code
def yX5_planeTo : MethodName := ⟨RX5, "planeTo", "(II)V"⟩
abbrev cX5_wornTogether : ByteArray := prog_7_method_27_code
def yX5_wornTogether : MethodName := ⟨RX5, "wornTogether", "()I"⟩
abbrev cX5_tonesTogether : ByteArray := prog_7_method_28_code
def yX5_tonesTogether : MethodName := ⟨RX5, "tonesTogether", "()I"⟩
abbrev cX5_toneOf : ByteArray := prog_7_method_29_code
def yX5_toneOf : MethodName := ⟨RX5, "toneOf", "(I)I"⟩
abbrev cX5_soundAs : ByteArray := prog_7_method_30_code
def yX5_soundAs : MethodName := ⟨RX5, "soundAs", "(III)I"⟩
abbrev cX5_treadOf : ByteArray := prog_7_method_31_code
def yX5_treadOf : MethodName := ⟨RX5, "treadOf", "(II)I"⟩
abbrev cX5_soundOf : ByteArray := prog_7_method_32_code
def yX5_soundOf : MethodName := ⟨RX5, "soundOf", "(II)I"⟩
abbrev cX5_longOf : ByteArray := prog_7_method_33_code
def yX5_longOf : MethodName := ⟨RX5, "longOf", "(I)I"⟩
abbrev cX5_placeIn : ByteArray := prog_7_method_34_code
def yX5_placeIn : MethodName := ⟨RX5, "placeIn", "(II)I"⟩
abbrev cX5_isNear : ByteArray := prog_7_method_35_code
def yX5_isNear : MethodName := ⟨RX5, "isNear", "(II)Z"⟩
abbrev cX5_heardAt : ByteArray := prog_7_method_36_code
def yX5_heardAt : MethodName := ⟨RX5, "heardAt", "(II)I"⟩
abbrev cX5_soundsIn : ByteArray := prog_7_method_37_code
def yX5_soundsIn : MethodName := ⟨RX5, "soundsIn", "(III)I"⟩
abbrev cX5_tuneNumber : ByteArray := prog_7_method_38_code
def yX5_tuneNumber : MethodName := ⟨RX5, "tuneNumber", "(I)J"⟩
abbrev cX5_walkersOn : ByteArray := prog_7_method_39_code
def yX5_walkersOn : MethodName := ⟨RX5, "walkersOn", "(I)I"⟩
abbrev cX5_passDay : ByteArray := prog_7_method_40_code
def yX5_passDay : MethodName := ⟨RX5, "passDay", "()V"⟩
def RX6 : String := "StairTunes"
def TX6 : u_T := fun k => match k with
  | 0 => ("StairTunes", "shelf", "LStairTunes$Shelf;", true)
  | 1 => ("StairTunes", "reader", "LStairTunes$Reader;", true)
  | 2 => ("StairTunes", "town", "LStairTunes$Town;", true)
  | 3 => ("StairTunes", "past", "LStairTunes$Past;", true)
  | 4 => ("StairTunes", "images", "[LStairTunes$Town;", true)
  | 5 => ("StairTunes", "seer", "LStairTunes$Seer;", true)
  | 6 => ("StairTunes", "asks", "LStairTunes$Asks;", true)
  | _ => ("StairTunes", "finding", "I", false)
def tyX6 : Nat → FieldType := fun k => match k with
  | 0 => .object "StairTunes$Shelf"
  | 1 => .object "StairTunes$Reader"
  | 2 => .object "StairTunes$Town"
  | 3 => .object "StairTunes$Past"
  | 4 => .array (.object "StairTunes$Town")
  | 5 => .object "StairTunes$Seer"
  | 6 => .object "StairTunes$Asks"
  | _ => .int
theorem nmX6 : ∀ a, a < 8 → ∀ b, b < 8 → a ≠ b → (TX6 a).2.1 ≠ (TX6 b).2.1 := by decide +kernel
theorem tyX6_ok : ∀ k, k < 8 → parseFieldDescriptor (TX6 k).2.2.1 = some (tyX6 k) := by decide +kernel
abbrev cX6_init : ByteArray := prog_1_method_1_code
def yX6_init : MethodName := ⟨RX6, "<init>", "()V"⟩
abbrev cX6_row : ByteArray := prog_1_method_2_code
def yX6_row : MethodName := ⟨RX6, "row", "(III)I"⟩
abbrev cX6_set : ByteArray := prog_1_method_3_code
def yX6_set : MethodName := ⟨RX6, "set", "(III)I"⟩
abbrev cX6_copy : ByteArray := prog_1_method_4_code
def yX6_copy : MethodName := ⟨RX6, "copy", "(IIIII)I"⟩
abbrev cX6_drop : ByteArray := prog_1_method_5_code
def yX6_drop : MethodName := ⟨RX6, "drop", "(I)I"⟩
abbrev cX6_feed : ByteArray := prog_1_method_6_code
def yX6_feed : MethodName := ⟨RX6, "feed", "(I)I"⟩
abbrev cX6_town : ByteArray := prog_1_method_7_code
def yX6_town : MethodName := ⟨RX6, "town", "()I"⟩
abbrev cX6_fault : ByteArray := prog_1_method_8_code
def yX6_fault : MethodName := ⟨RX6, "fault", "()I"⟩
abbrev cX6_undo : ByteArray := prog_1_method_9_code
def yX6_undo : MethodName := ⟨RX6, "undo", "()I"⟩
abbrev cX6_days : ByteArray := prog_1_method_10_code
def yX6_days : MethodName := ⟨RX6, "days", "(I)I"⟩
abbrev cX6_plane : ByteArray := prog_1_method_11_code
def yX6_plane : MethodName := ⟨RX6, "plane", "(II)I"⟩
abbrev cX6_reach : ByteArray := prog_1_method_12_code
def yX6_reach : MethodName := ⟨RX6, "reach", "(I)I"⟩
abbrev cX6_way : ByteArray := prog_1_method_13_code
def yX6_way : MethodName := ⟨RX6, "way", "(III)I"⟩
abbrev cX6_gait : ByteArray := prog_1_method_14_code
def yX6_gait : MethodName := ⟨RX6, "gait", "(III)I"⟩
abbrev cX6_tread : ByteArray := prog_1_method_15_code
def yX6_tread : MethodName := ⟨RX6, "tread", "(II)I"⟩
abbrev cX6_walker : ByteArray := prog_1_method_16_code
def yX6_walker : MethodName := ⟨RX6, "walker", "(II)I"⟩
abbrev cX6_tune : ByteArray := prog_1_method_17_code
def yX6_tune : MethodName := ⟨RX6, "tune", "(II)I"⟩
abbrev cX6_where : ByteArray := prog_1_method_18_code
def yX6_where : MethodName := ⟨RX6, "where", "(II)I"⟩
abbrev cX6_heard : ByteArray := prog_1_method_19_code
def yX6_heard : MethodName := ⟨RX6, "heard", "(II)I"⟩
abbrev cX6_ahead : ByteArray := prog_1_method_20_code
def yX6_ahead : MethodName := ⟨RX6, "ahead", "(III)I"⟩
abbrev cX6_length : ByteArray := prog_1_method_21_code
def yX6_length : MethodName := ⟨RX6, "length", "(I)I"⟩
abbrev cX6_meet : ByteArray := prog_1_method_22_code
def yX6_meet : MethodName := ⟨RX6, "meet", "(II)I"⟩
abbrev cX6_choir : ByteArray := prog_1_method_23_code
def yX6_choir : MethodName := ⟨RX6, "choir", "(I)I"⟩
abbrev cX6_twins : ByteArray := prog_1_method_24_code
def yX6_twins : MethodName := ⟨RX6, "twins", "(I)I"⟩
abbrev cX6_felt : ByteArray := prog_1_method_25_code
def yX6_felt : MethodName := ⟨RX6, "felt", "(III)I"⟩
abbrev cX6_doors : ByteArray := prog_1_method_26_code
def yX6_doors : MethodName := ⟨RX6, "doors", "(I)I"⟩
abbrev cX6_planed : ByteArray := prog_1_method_27_code
def yX6_planed : MethodName := ⟨RX6, "planed", "(I)I"⟩
abbrev cX6_rise : ByteArray := prog_1_method_28_code
def yX6_rise : MethodName := ⟨RX6, "rise", "(IIII)I"⟩
abbrev cX6_what : ByteArray := prog_1_method_29_code
def yX6_what : MethodName := ⟨RX6, "what", "(IIIIIII)I"⟩
abbrev cX6_who : ByteArray := prog_1_method_30_code
def yX6_who : MethodName := ⟨RX6, "who", "(IIIIIII)I"⟩
abbrev cX6_rots : ByteArray := prog_1_method_31_code
def yX6_rots : MethodName := ⟨RX6, "rots", "(IIII)J"⟩
abbrev cX6_drawn : ByteArray := prog_1_method_32_code
def yX6_drawn : MethodName := ⟨RX6, "drawn", "(III)I"⟩
abbrev cX6_image : ByteArray := prog_1_method_33_code
def yX6_image : MethodName := ⟨RX6, "image", "(I)I"⟩
abbrev cX6_restore : ByteArray := prog_1_method_34_code
def yX6_restore : MethodName := ⟨RX6, "restore", "(I)I"⟩
abbrev cX6_kind : ByteArray := prog_1_method_35_code
def yX6_kind : MethodName := ⟨RX6, "kind", "(I)I"⟩
abbrev cX6_as : ByteArray := prog_1_method_36_code
def yX6_as : MethodName := ⟨RX6, "as", "(II)I"⟩
abbrev cX6_ask : ByteArray := prog_1_method_37_code
def yX6_ask : MethodName := ⟨RX6, "ask", "(II)I"⟩
abbrev cX6_trace : ByteArray := prog_1_method_38_code
def yX6_trace : MethodName := ⟨RX6, "trace", "(I)I"⟩
abbrev cX6_count : ByteArray := prog_1_method_39_code
def yX6_count : MethodName := ⟨RX6, "count", "(I)I"⟩
abbrev cX6_status : ByteArray := prog_1_method_40_code
def yX6_status : MethodName := ⟨RX6, "status", "()I"⟩
abbrev cX6_changed : ByteArray := prog_1_method_41_code
def yX6_changed : MethodName := ⟨RX6, "changed", "(IIII)I"⟩
abbrev cX6_isTelling : ByteArray := prog_1_method_42_code
def yX6_isTelling : MethodName := ⟨RX6, "isTelling", "(IIII)Z"⟩
abbrev cX6_seerOfNow : ByteArray := prog_1_method_43_code
def yX6_seerOfNow : MethodName := ⟨RX6, "seerOfNow", "()LStairTunes$Seer;"⟩
abbrev cX6_seerOfRow : ByteArray := prog_1_method_44_code
def yX6_seerOfRow : MethodName := ⟨RX6, "seerOfRow", "(III)LStairTunes$Seer;"⟩
abbrev cX6_isMinute : ByteArray := prog_1_method_45_code
def yX6_isMinute : MethodName := ⟨RX6, "isMinute", "(I)Z"⟩
abbrev cX6_isFirstOrSecond : ByteArray := prog_1_method_46_code
def yX6_isFirstOrSecond : MethodName := ⟨RX6, "isFirstOrSecond", "(I)Z"⟩
abbrev cX6_isWithin : ByteArray := prog_1_method_47_code
def yX6_isWithin : MethodName := ⟨RX6, "isWithin", "(III)Z"⟩
def RX7 : String := "StairTunesModel"
def TX7 : u_T := fun k => match k with
  | 0 => ("StairTunesModel", "lanes", "[I", true)
  | 1 => ("StairTunesModel", "sizes", "[I", true)
  | 2 => ("StairTunesModel", "items", "[I", true)
  | 3 => ("StairTunesModel", "status", "I", false)
  | 4 => ("StairTunesModel", "isThere", "Z", false)
  | 5 => ("StairTunesModel", "st", "[I", true)
  | 6 => ("StairTunesModel", "moved", "[I", true)
  | 7 => ("StairTunesModel", "tape", "[I", true)
  | 8 => ("StairTunesModel", "bytes", "I", false)
  | 9 => ("StairTunesModel", "latest", "I", false)
  | 10 => ("StairTunesModel", "place", "I", false)
  | 11 => ("StairTunesModel", "token", "I", false)
  | 12 => ("StairTunesModel", "value", "I", false)
  | 13 => ("StairTunesModel", "begins", "I", false)
  | 14 => ("StairTunesModel", "wrong", "I", false)
  | 15 => ("StairTunesModel", "read", "[I", true)
  | 16 => ("StairTunesModel", "acts", "[I", true)
  | 17 => ("StairTunesModel", "actMany", "I", false)
  | 18 => ("StairTunesModel", "aside", "[I", true)
  | 19 => ("StairTunesModel", "firstPair", "I", false)
  | 20 => ("StairTunesModel", "isKept", "[Z", true)
  | 21 => ("StairTunesModel", "kept", "[I", true)
  | 22 => ("StairTunesModel", "trace", "[I", true)
  | _ => ("StairTunesModel", "traced", "I", false)
def tyX7 : Nat → FieldType := fun k => match k with
  | 0 => .array .int
  | 1 => .array .int
  | 2 => .array .int
  | 3 => .int
  | 4 => .boolean
  | 5 => .array .int
  | 6 => .array .int
  | 7 => .array .int
  | 8 => .int
  | 9 => .int
  | 10 => .int
  | 11 => .int
  | 12 => .int
  | 13 => .int
  | 14 => .int
  | 15 => .array .int
  | 16 => .array .int
  | 17 => .int
  | 18 => .array .int
  | 19 => .int
  | 20 => .array .boolean
  | 21 => .array .int
  | 22 => .array .int
  | _ => .int
theorem nmX7 : ∀ a, a < 24 → ∀ b, b < 24 → a ≠ b → (TX7 a).2.1 ≠ (TX7 b).2.1 := by decide +kernel
theorem tyX7_ok : ∀ k, k < 24 → parseFieldDescriptor (TX7 k).2.2.1 = some (tyX7 k) := by decide +kernel
abbrev cX7_init : ByteArray := prog_9_method_1_code
def yX7_init : MethodName := ⟨RX7, "<init>", "()V"⟩
abbrev cX7_in : ByteArray := prog_9_method_2_code
def yX7_in : MethodName := ⟨RX7, "in", "(JJJ)Z"⟩
abbrev cX7_has : ByteArray := prog_9_method_3_code
def yX7_has : MethodName := ⟨RX7, "has", "(II)Z"⟩
abbrev cX7_ones : ByteArray := prog_9_method_4_code
def yX7_ones : MethodName := ⟨RX7, "ones", "(I)I"⟩
abbrev cX7_find : ByteArray := prog_9_method_5_code
def yX7_find : MethodName := ⟨RX7, "find", "(I)I"⟩
abbrev cX7_well : ByteArray := prog_9_method_6_code
def yX7_well : MethodName := ⟨RX7, "well", "(I)I"⟩
abbrev cX7_isRow : ByteArray := prog_9_method_7_code
def yX7_isRow : MethodName := ⟨RX7, "isRow", "(I)Z"⟩
abbrev cX7_row : ByteArray := prog_9_method_8_code
def yX7_row : MethodName := ⟨RX7, "row", "(III)I"⟩
abbrev cX7_asLane : ByteArray := prog_9_method_9_code
def yX7_asLane : MethodName := ⟨RX7, "asLane", "(II)I"⟩
abbrev cX7_set : ByteArray := prog_9_method_10_code
def yX7_set : MethodName := ⟨RX7, "set", "(III)I"⟩
abbrev cX7_copy : ByteArray := prog_9_method_11_code
def yX7_copy : MethodName := ⟨RX7, "copy", "(IIIII)I"⟩
abbrev cX7_drop : ByteArray := prog_9_method_12_code
def yX7_drop : MethodName := ⟨RX7, "drop", "(I)I"⟩
abbrev cX7_feed : ByteArray := prog_9_method_13_code
def yX7_feed : MethodName := ⟨RX7, "feed", "(I)I"⟩
abbrev cX7_nextToken : ByteArray := prog_9_method_14_code
def yX7_nextToken : MethodName := ⟨RX7, "nextToken", "()V"⟩
abbrev cX7_faults : ByteArray := prog_9_method_15_code
def yX7_faults : MethodName := ⟨RX7, "faults", "(I)Z"⟩
abbrev cX7_isLetter : ByteArray := prog_9_method_16_code
def yX7_isLetter : MethodName := ⟨RX7, "isLetter", "(I)Z"⟩
abbrev cX7_takes : ByteArray := prog_9_method_17_code
def yX7_takes : MethodName := ⟨RX7, "takes", "(I)Z"⟩
abbrev cX7_takesNumber : ByteArray := prog_9_method_18_code
def yX7_takesNumber : MethodName := ⟨RX7, "takesNumber", "(IIII)Z"⟩
abbrev cX7_readTread : ByteArray := prog_9_method_19_code
def yX7_readTread : MethodName := ⟨RX7, "readTread", "(I)Z"⟩
abbrev cX7_readWalker : ByteArray := prog_9_method_20_code
def yX7_readWalker : MethodName := ⟨RX7, "readWalker", "()Z"⟩
abbrev cX7_kindBy : ByteArray := prog_9_method_21_code
def yX7_kindBy : MethodName := ⟨RX7, "kindBy", "(I)I"⟩
abbrev cX7_readTown : ByteArray := prog_9_method_22_code
def yX7_readTown : MethodName := ⟨RX7, "readTown", "()Z"⟩
abbrev cX7_town : ByteArray := prog_9_method_23_code
def yX7_town : MethodName := ⟨RX7, "town", "()I"⟩
abbrev cX7_fault : ByteArray := prog_9_method_24_code
def yX7_fault : MethodName := ⟨RX7, "fault", "()I"⟩
abbrev cX7_isTread : ByteArray := prog_9_method_25_code
def yX7_isTread : MethodName := ⟨RX7, "isTread", "(I)Z"⟩
abbrev cX7_isWalker : ByteArray := prog_9_method_26_code
def yX7_isWalker : MethodName := ⟨RX7, "isWalker", "(I)Z"⟩
abbrev cX7_isMinute : ByteArray := prog_9_method_27_code
def yX7_isMinute : MethodName := ⟨RX7, "isMinute", "(I)Z"⟩
abbrev cX7_size : ByteArray := prog_9_method_28_code
def yX7_size : MethodName := ⟨RX7, "size", "(I)I"⟩
abbrev cX7_longOf : ByteArray := prog_9_method_29_code
def yX7_longOf : MethodName := ⟨RX7, "longOf", "(I)I"⟩
abbrev cX7_treadOf : ByteArray := prog_9_method_30_code
def yX7_treadOf : MethodName := ⟨RX7, "treadOf", "(II)I"⟩
abbrev cX7_at : ByteArray := prog_9_method_31_code
def yX7_at : MethodName := ⟨RX7, "at", "(II)I"⟩
abbrev cX7_toneOf : ByteArray := prog_9_method_32_code
def yX7_toneOf : MethodName := ⟨RX7, "toneOf", "(I)I"⟩
abbrev cX7_isWet : ByteArray := prog_9_method_33_code
def yX7_isWet : MethodName := ⟨RX7, "isWet", "()Z"⟩
abbrev cX7_sound : ByteArray := prog_9_method_34_code
def yX7_sound : MethodName := ⟨RX7, "sound", "(II)I"⟩
abbrev cX7_heardAt : ByteArray := prog_9_method_35_code
def yX7_heardAt : MethodName := ⟨RX7, "heardAt", "(II)I"⟩
abbrev cX7_oneDay : ByteArray := prog_9_method_36_code
def yX7_oneDay : MethodName := ⟨RX7, "oneDay", "()V"⟩
abbrev cX7_note : ByteArray := prog_9_method_37_code
def yX7_note : MethodName := ⟨RX7, "note", "()V"⟩
abbrev cX7_undo : ByteArray := prog_9_method_38_code
def yX7_undo : MethodName := ⟨RX7, "undo", "()I"⟩
abbrev cX7_allWorn : ByteArray := prog_9_method_39_code
def yX7_allWorn : MethodName := ⟨RX7, "allWorn", "()I"⟩
abbrev cX7_days : ByteArray := prog_9_method_40_code
def yX7_days : MethodName := ⟨RX7, "days", "(I)I"⟩
abbrev cX7_planeTo : ByteArray := prog_9_method_41_code
def yX7_planeTo : MethodName := ⟨RX7, "planeTo", "(II)V"⟩
abbrev cX7_plane : ByteArray := prog_9_method_42_code
def yX7_plane : MethodName := ⟨RX7, "plane", "(II)I"⟩
abbrev cX7_reach : ByteArray := prog_9_method_43_code
def yX7_reach : MethodName := ⟨RX7, "reach", "(I)I"⟩
abbrev cX7_way : ByteArray := prog_9_method_44_code
def yX7_way : MethodName := ⟨RX7, "way", "(III)I"⟩
abbrev cX7_gait : ByteArray := prog_9_method_45_code
def yX7_gait : MethodName := ⟨RX7, "gait", "(III)I"⟩
abbrev cX7_whoSteps : ByteArray := prog_9_method_46_code
def yX7_whoSteps : MethodName := ⟨RX7, "whoSteps", "(I)I"⟩
abbrev cX7_tread : ByteArray := prog_9_method_47_code
def yX7_tread : MethodName := ⟨RX7, "tread", "(II)I"⟩
abbrev cX7_walker : ByteArray := prog_9_method_48_code
def yX7_walker : MethodName := ⟨RX7, "walker", "(II)I"⟩
abbrev cX7_tuneOf : ByteArray := prog_9_method_49_code
def yX7_tuneOf : MethodName := ⟨RX7, "tuneOf", "(II)I"⟩
abbrev cX7_tune : ByteArray := prog_9_method_50_code
def yX7_tune : MethodName := ⟨RX7, "tune", "(II)I"⟩
abbrev cX7_where : ByteArray := prog_9_method_51_code
def yX7_where : MethodName := ⟨RX7, "where", "(II)I"⟩
abbrev cX7_heard : ByteArray := prog_9_method_52_code
def yX7_heard : MethodName := ⟨RX7, "heard", "(II)I"⟩
abbrev cX7_putAside : ByteArray := prog_9_method_53_code
def yX7_putAside : MethodName := ⟨RX7, "putAside", "()V"⟩
abbrev cX7_takeBack : ByteArray := prog_9_method_54_code
def yX7_takeBack : MethodName := ⟨RX7, "takeBack", "()V"⟩
abbrev cX7_isWhat : ByteArray := prog_9_method_55_code
def yX7_isWhat : MethodName := ⟨RX7, "isWhat", "(I)Z"⟩
abbrev cX7_ahead : ByteArray := prog_9_method_56_code
def yX7_ahead : MethodName := ⟨RX7, "ahead", "(III)I"⟩
abbrev cX7_length : ByteArray := prog_9_method_57_code
def yX7_length : MethodName := ⟨RX7, "length", "(I)I"⟩
abbrev cX7_meet : ByteArray := prog_9_method_58_code
def yX7_meet : MethodName := ⟨RX7, "meet", "(II)I"⟩
abbrev cX7_allIn : ByteArray := prog_9_method_59_code
def yX7_allIn : MethodName := ⟨RX7, "allIn", "(I)I"⟩
abbrev cX7_choir : ByteArray := prog_9_method_60_code
def yX7_choir : MethodName := ⟨RX7, "choir", "(I)I"⟩
abbrev cX7_areTwins : ByteArray := prog_9_method_61_code
def yX7_areTwins : MethodName := ⟨RX7, "areTwins", "(II)Z"⟩
abbrev cX7_twinsMany : ByteArray := prog_9_method_62_code
def yX7_twinsMany : MethodName := ⟨RX7, "twinsMany", "()I"⟩
abbrev cX7_twins : ByteArray := prog_9_method_63_code
def yX7_twins : MethodName := ⟨RX7, "twins", "(I)I"⟩
abbrev cX7_isHeard : ByteArray := prog_9_method_64_code
def yX7_isHeard : MethodName := ⟨RX7, "isHeard", "(II)Z"⟩
abbrev cX7_felt : ByteArray := prog_9_method_65_code
def yX7_felt : MethodName := ⟨RX7, "felt", "(III)I"⟩
abbrev cX7_areHeard : ByteArray := prog_9_method_66_code
def yX7_areHeard : MethodName := ⟨RX7, "areHeard", "(I)Z"⟩
abbrev cX7_doors : ByteArray := prog_9_method_67_code
def yX7_doors : MethodName := ⟨RX7, "doors", "(I)I"⟩
abbrev cX7_planed : ByteArray := prog_9_method_68_code
def yX7_planed : MethodName := ⟨RX7, "planed", "(I)I"⟩
abbrev cX7_isRise : ByteArray := prog_9_method_69_code
def yX7_isRise : MethodName := ⟨RX7, "isRise", "(III)Z"⟩
abbrev cX7_rise : ByteArray := prog_9_method_70_code
def yX7_rise : MethodName := ⟨RX7, "rise", "(IIII)I"⟩
abbrev cX7_lacks : ByteArray := prog_9_method_71_code
def yX7_lacks : MethodName := ⟨RX7, "lacks", "(III)I"⟩
abbrev cX7_isSo : ByteArray := prog_9_method_72_code
def yX7_isSo : MethodName := ⟨RX7, "isSo", "(IIII)Z"⟩
abbrev cX7_fits : ByteArray := prog_9_method_73_code
def yX7_fits : MethodName := ⟨RX7, "fits", "(IIIIIII)I"⟩
abbrev cX7_what : ByteArray := prog_9_method_74_code
def yX7_what : MethodName := ⟨RX7, "what", "(IIIIIII)I"⟩
abbrev cX7_who : ByteArray := prog_9_method_75_code
def yX7_who : MethodName := ⟨RX7, "who", "(IIIIIII)I"⟩
abbrev cX7_rots : ByteArray := prog_9_method_76_code
def yX7_rots : MethodName := ⟨RX7, "rots", "(IIII)J"⟩
abbrev cX7_soundsMany : ByteArray := prog_9_method_77_code
def yX7_soundsMany : MethodName := ⟨RX7, "soundsMany", "()I"⟩
abbrev cX7_allTones : ByteArray := prog_9_method_78_code
def yX7_allTones : MethodName := ⟨RX7, "allTones", "()I"⟩
abbrev cX7_drawn : ByteArray := prog_9_method_79_code
def yX7_drawn : MethodName := ⟨RX7, "drawn", "(III)I"⟩
abbrev cX7_image : ByteArray := prog_9_method_80_code
def yX7_image : MethodName := ⟨RX7, "image", "(I)I"⟩
abbrev cX7_restore : ByteArray := prog_9_method_81_code
def yX7_restore : MethodName := ⟨RX7, "restore", "(I)I"⟩
abbrev cX7_kind : ByteArray := prog_9_method_82_code
def yX7_kind : MethodName := ⟨RX7, "kind", "(I)I"⟩
abbrev cX7_isKind : ByteArray := prog_9_method_83_code
def yX7_isKind : MethodName := ⟨RX7, "isKind", "(II)Z"⟩
abbrev cX7_as : ByteArray := prog_9_method_84_code
def yX7_as : MethodName := ⟨RX7, "as", "(II)I"⟩
abbrev cX7_begin : ByteArray := prog_9_method_85_code
def yX7_begin : MethodName := ⟨RX7, "begin", "(I)V"⟩
abbrev cX7_lent : ByteArray := prog_9_method_86_code
def yX7_lent : MethodName := ⟨RX7, "lent", "(II)I"⟩
abbrev cX7_plainMark : ByteArray := prog_9_method_87_code
def yX7_plainMark : MethodName := ⟨RX7, "plainMark", "(I)I"⟩
abbrev cX7_rottenSize : ByteArray := prog_9_method_88_code
def yX7_rottenSize : MethodName := ⟨RX7, "rottenSize", "(I)I"⟩
abbrev cX7_sizeOfRotten : ByteArray := prog_9_method_89_code
def yX7_sizeOfRotten : MethodName := ⟨RX7, "sizeOfRotten", "(I)I"⟩
abbrev cX7_markOf : ByteArray := prog_9_method_90_code
def yX7_markOf : MethodName := ⟨RX7, "markOf", "(I)I"⟩
abbrev cX7_plainSize : ByteArray := prog_9_method_91_code
def yX7_plainSize : MethodName := ⟨RX7, "plainSize", "(I)I"⟩
abbrev cX7_sizeOf : ByteArray := prog_9_method_92_code
def yX7_sizeOf : MethodName := ⟨RX7, "sizeOf", "(I)I"⟩
abbrev cX7_ask : ByteArray := prog_9_method_93_code
def yX7_ask : MethodName := ⟨RX7, "ask", "(II)I"⟩
abbrev cX7_trace : ByteArray := prog_9_method_94_code
def yX7_trace : MethodName := ⟨RX7, "trace", "(I)I"⟩
abbrev cX7_count : ByteArray := prog_9_method_95_code
def yX7_count : MethodName := ⟨RX7, "count", "(I)I"⟩
abbrev cX7_status : ByteArray := prog_9_method_96_code
def yX7_status : MethodName := ⟨RX7, "status", "()I"⟩
def RJ6 : String := "java/lang/Integer"
abbrev cJ6_bitCount_0f7a4 : ByteArray := prog_10_method_49_code
def yJ6_bitCount_0f7a4 : MethodName := ⟨RJ6, "bitCount", "(I)I"⟩
def RJ9 : String := "java/lang/Math"
abbrev cJ9_abs_0f7a4 : ByteArray := prog_11_method_59_code
def yJ9_abs_0f7a4 : MethodName := ⟨RJ9, "abs", "(I)I"⟩
abbrev cJ9_max_7cf53 : ByteArray := prog_11_method_65_code
def yJ9_max_7cf53 : MethodName := ⟨RJ9, "max", "(II)I"⟩
abbrev cJ9_min_7cf53 : ByteArray := prog_11_method_69_code
def yJ9_min_7cf53 : MethodName := ⟨RJ9, "min", "(II)I"⟩
def RJ10 : String := "java/lang/System"
def RL : String := "StairTunesLaw"
abbrev cL_law : ByteArray := code
def yL_law : MethodName := ⟨RL, "law", "([I)Z"⟩
abbrev vwCl : List vw_C := [(RX0, TX0, 6), (RX1, TX1, 3), (RX2, TX2, 6), (RX3, TX3, 5), (RX4, TX4, 3), (RX5, TX5, 9), (RX6, TX6, 8), (RX7, TX7, 24)]
