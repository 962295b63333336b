section
-- ===== PART A: goes FIRST, ahead of the names: the tables' words, and 'selects' of the private methods out of them =====
/-- a private method of a class that the tables say can be made, by its rows of tables_1 -/
def lw_okq (q : MethodName × Nat) : Prop := (q.1.cls ≠ "java/lang/invoke/MethodHandle" ∧ q.1.cls ≠ "java/lang/invoke/VarHandle") ∧ Cond.instantiable q.1.cls q.2 ∈ tables_1 ∧ Cond.privateMethod q.1 ∈ tables_1 ∧ Cond.instanceMethod q.1 ∈ tables_1
theorem lw_p0 : lw_okq (⟨"StairTunes$Reader", "readLaw", "()Z"⟩, 6) := ⟨⟨by decide +kernel, by decide +kernel⟩, List.mem_of_getElem? (i := 38) (by decide +kernel), List.mem_of_getElem? (i := 275) (by decide +kernel), List.mem_of_getElem? (i := 276) (by decide +kernel)⟩
theorem lw_p1 : lw_okq (⟨"StairTunes$Reader", "readSign", "(I)Z"⟩, 6) := ⟨⟨by decide +kernel, by decide +kernel⟩, List.mem_of_getElem? (i := 38) (by decide +kernel), List.mem_of_getElem? (i := 279) (by decide +kernel), List.mem_of_getElem? (i := 280) (by decide +kernel)⟩
theorem lw_p2 : lw_okq (⟨"StairTunes$Reader", "letter", "()I"⟩, 6) := ⟨⟨by decide +kernel, by decide +kernel⟩, List.mem_of_getElem? (i := 38) (by decide +kernel), List.mem_of_getElem? (i := 283) (by decide +kernel), List.mem_of_getElem? (i := 284) (by decide +kernel)⟩
theorem lw_p3 : lw_okq (⟨"StairTunes$Reader", "fail", "(I)Z"⟩, 6) := ⟨⟨by decide +kernel, by decide +kernel⟩, List.mem_of_getElem? (i := 38) (by decide +kernel), List.mem_of_getElem? (i := 288) (by decide +kernel), List.mem_of_getElem? (i := 289) (by decide +kernel)⟩
theorem lw_p4 : lw_okq (⟨"StairTunes$Reader", "readNumber", "(II)I"⟩, 6) := ⟨⟨by decide +kernel, by decide +kernel⟩, List.mem_of_getElem? (i := 38) (by decide +kernel), List.mem_of_getElem? (i := 292) (by decide +kernel), List.mem_of_getElem? (i := 293) (by decide +kernel)⟩
theorem lw_p5 : lw_okq (⟨"StairTunes$Reader", "readTreads", "()Z"⟩, 6) := ⟨⟨by decide +kernel, by decide +kernel⟩, List.mem_of_getElem? (i := 38) (by decide +kernel), List.mem_of_getElem? (i := 300) (by decide +kernel), List.mem_of_getElem? (i := 301) (by decide +kernel)⟩
theorem lw_p6 : lw_okq (⟨"StairTunes$Reader", "readWalkers", "()Z"⟩, 6) := ⟨⟨by decide +kernel, by decide +kernel⟩, List.mem_of_getElem? (i := 38) (by decide +kernel), List.mem_of_getElem? (i := 311) (by decide +kernel), List.mem_of_getElem? (i := 312) (by decide +kernel)⟩
theorem lw_p7 : lw_okq (⟨"StairTunes$Reader", "readWalker", "(I)Z"⟩, 6) := ⟨⟨by decide +kernel, by decide +kernel⟩, List.mem_of_getElem? (i := 38) (by decide +kernel), List.mem_of_getElem? (i := 315) (by decide +kernel), List.mem_of_getElem? (i := 316) (by decide +kernel)⟩
theorem lw_p8 : lw_okq (⟨"StairTunes$Past", "townAt", "(I)LStairTunes$Town;"⟩, 3) := ⟨⟨by decide +kernel, by decide +kernel⟩, List.mem_of_getElem? (i := 99) (by decide +kernel), List.mem_of_getElem? (i := 374) (by decide +kernel), List.mem_of_getElem? (i := 375) (by decide +kernel)⟩
theorem lw_p9 : lw_okq (⟨"StairTunes", "changed", "(IIII)I"⟩, 8) := ⟨⟨by decide +kernel, by decide +kernel⟩, List.mem_of_getElem? (i := 13) (by decide +kernel), List.mem_of_getElem? (i := 474) (by decide +kernel), List.mem_of_getElem? (i := 475) (by decide +kernel)⟩
theorem lw_p10 : lw_okq (⟨"StairTunes", "seerOfNow", "()LStairTunes$Seer;"⟩, 8) := ⟨⟨by decide +kernel, by decide +kernel⟩, List.mem_of_getElem? (i := 13) (by decide +kernel), List.mem_of_getElem? (i := 556) (by decide +kernel), List.mem_of_getElem? (i := 557) (by decide +kernel)⟩
theorem lw_p11 : lw_okq (⟨"StairTunes$Seer", "numberTunes", "()I"⟩, 5) := ⟨⟨by decide +kernel, by decide +kernel⟩, List.mem_of_getElem? (i := 118) (by decide +kernel), List.mem_of_getElem? (i := 609) (by decide +kernel), List.mem_of_getElem? (i := 610) (by decide +kernel)⟩
theorem lw_p12 : lw_okq (⟨"StairTunes$Seer", "isUnheard", "(III)Z"⟩, 5) := ⟨⟨by decide +kernel, by decide +kernel⟩, List.mem_of_getElem? (i := 118) (by decide +kernel), List.mem_of_getElem? (i := 639) (by decide +kernel), List.mem_of_getElem? (i := 640) (by decide +kernel)⟩
theorem lw_p13 : lw_okq (⟨"StairTunes$Seer", "doorsHearing", "(I)I"⟩, 5) := ⟨⟨by decide +kernel, by decide +kernel⟩, List.mem_of_getElem? (i := 118) (by decide +kernel), List.mem_of_getElem? (i := 665) (by decide +kernel), List.mem_of_getElem? (i := 666) (by decide +kernel)⟩
theorem lw_p14 : lw_okq (⟨"StairTunes$Seer", "hearAll", "(II)Z"⟩, 5) := ⟨⟨by decide +kernel, by decide +kernel⟩, List.mem_of_getElem? (i := 118) (by decide +kernel), List.mem_of_getElem? (i := 669) (by decide +kernel), List.mem_of_getElem? (i := 670) (by decide +kernel)⟩
theorem lw_p15 : lw_okq (⟨"StairTunes$Seer", "isRise", "(III)Z"⟩, 5) := ⟨⟨by decide +kernel, by decide +kernel⟩, List.mem_of_getElem? (i := 118) (by decide +kernel), List.mem_of_getElem? (i := 695) (by decide +kernel), List.mem_of_getElem? (i := 696) (by decide +kernel)⟩
def lw_privs_1 : List (MethodName × Nat) := [(⟨"StairTunes$Reader", "readLaw", "()Z"⟩, 6), (⟨"StairTunes$Reader", "readSign", "(I)Z"⟩, 6), (⟨"StairTunes$Reader", "letter", "()I"⟩, 6), (⟨"StairTunes$Reader", "fail", "(I)Z"⟩, 6), (⟨"StairTunes$Reader", "readNumber", "(II)I"⟩, 6), (⟨"StairTunes$Reader", "readTreads", "()Z"⟩, 6), (⟨"StairTunes$Reader", "readWalkers", "()Z"⟩, 6), (⟨"StairTunes$Reader", "readWalker", "(I)Z"⟩, 6), (⟨"StairTunes$Past", "townAt", "(I)LStairTunes$Town;"⟩, 3), (⟨"StairTunes", "changed", "(IIII)I"⟩, 8), (⟨"StairTunes", "seerOfNow", "()LStairTunes$Seer;"⟩, 8), (⟨"StairTunes$Seer", "numberTunes", "()I"⟩, 5), (⟨"StairTunes$Seer", "isUnheard", "(III)Z"⟩, 5), (⟨"StairTunes$Seer", "doorsHearing", "(I)I"⟩, 5), (⟨"StairTunes$Seer", "hearAll", "(II)Z"⟩, 5), (⟨"StairTunes$Seer", "isRise", "(III)Z"⟩, 5)]
theorem lw_r1 : ∀ q ∈ lw_privs_1, lw_okq q := List.forall_mem_cons.mpr ⟨lw_p0, List.forall_mem_cons.mpr ⟨lw_p1, List.forall_mem_cons.mpr ⟨lw_p2, List.forall_mem_cons.mpr ⟨lw_p3, List.forall_mem_cons.mpr ⟨lw_p4, List.forall_mem_cons.mpr ⟨lw_p5, List.forall_mem_cons.mpr ⟨lw_p6, List.forall_mem_cons.mpr ⟨lw_p7, List.forall_mem_cons.mpr ⟨lw_p8, List.forall_mem_cons.mpr ⟨lw_p9, List.forall_mem_cons.mpr ⟨lw_p10, List.forall_mem_cons.mpr ⟨lw_p11, List.forall_mem_cons.mpr ⟨lw_p12, List.forall_mem_cons.mpr ⟨lw_p13, List.forall_mem_cons.mpr ⟨lw_p14, List.forall_mem_cons.mpr ⟨lw_p15, fun _ h => absurd h List.not_mem_nil⟩⟩⟩⟩⟩⟩⟩⟩⟩⟩⟩⟩⟩⟩⟩⟩
theorem lw_p16 : lw_okq (⟨"StairTunes", "isTelling", "(IIII)Z"⟩, 8) := ⟨⟨by decide +kernel, by decide +kernel⟩, List.mem_of_getElem? (i := 13) (by decide +kernel), List.mem_of_getElem? (i := 705) (by decide +kernel), List.mem_of_getElem? (i := 706) (by decide +kernel)⟩
theorem lw_p17 : lw_okq (⟨"StairTunes", "seerOfRow", "(III)LStairTunes$Seer;"⟩, 8) := ⟨⟨by decide +kernel, by decide +kernel⟩, List.mem_of_getElem? (i := 13) (by decide +kernel), List.mem_of_getElem? (i := 709) (by decide +kernel), List.mem_of_getElem? (i := 710) (by decide +kernel)⟩
theorem lw_p18 : lw_okq (⟨"StairTunes$Seer", "isHeardSo", "(II)Z"⟩, 5) := ⟨⟨by decide +kernel, by decide +kernel⟩, List.mem_of_getElem? (i := 118) (by decide +kernel), List.mem_of_getElem? (i := 729) (by decide +kernel), List.mem_of_getElem? (i := 730) (by decide +kernel)⟩
theorem lw_p19 : lw_okq (⟨"StairTunes$Seer", "soundingSteps", "()I"⟩, 5) := ⟨⟨by decide +kernel, by decide +kernel⟩, List.mem_of_getElem? (i := 118) (by decide +kernel), List.mem_of_getElem? (i := 776) (by decide +kernel), List.mem_of_getElem? (i := 777) (by decide +kernel)⟩
theorem lw_p20 : lw_okq (⟨"StairTunes$Asks", "sizeAsked", "(I)I"⟩, 6) := ⟨⟨by decide +kernel, by decide +kernel⟩, List.mem_of_getElem? (i := 143) (by decide +kernel), List.mem_of_getElem? (i := 819) (by decide +kernel), List.mem_of_getElem? (i := 820) (by decide +kernel)⟩
theorem lw_p21 : lw_okq (⟨"StairTunes$Asks", "nearest", "([I)I"⟩, 6) := ⟨⟨by decide +kernel, by decide +kernel⟩, List.mem_of_getElem? (i := 143) (by decide +kernel), List.mem_of_getElem? (i := 825) (by decide +kernel), List.mem_of_getElem? (i := 826) (by decide +kernel)⟩
theorem lw_p22 : lw_okq (⟨"StairTunes$Asks", "body", "(II)I"⟩, 6) := ⟨⟨by decide +kernel, by decide +kernel⟩, List.mem_of_getElem? (i := 143) (by decide +kernel), List.mem_of_getElem? (i := 829) (by decide +kernel), List.mem_of_getElem? (i := 830) (by decide +kernel)⟩
theorem lw_p23 : lw_okq (⟨"StairTunes$Asks", "begin", "(I)V"⟩, 6) := ⟨⟨by decide +kernel, by decide +kernel⟩, List.mem_of_getElem? (i := 143) (by decide +kernel), List.mem_of_getElem? (i := 833) (by decide +kernel), List.mem_of_getElem? (i := 834) (by decide +kernel)⟩
theorem lw_p24 : lw_okq (⟨"StairTunes$Asks", "markAsked", "(I)I"⟩, 6) := ⟨⟨by decide +kernel, by decide +kernel⟩, List.mem_of_getElem? (i := 143) (by decide +kernel), List.mem_of_getElem? (i := 837) (by decide +kernel), List.mem_of_getElem? (i := 838) (by decide +kernel)⟩
theorem lw_p25 : lw_okq (⟨"StairTunesModel", "find", "(I)I"⟩, 24) := ⟨⟨by decide +kernel, by decide +kernel⟩, List.mem_of_getElem? (i := 874) (by decide +kernel), List.mem_of_getElem? (i := 967) (by decide +kernel), List.mem_of_getElem? (i := 968) (by decide +kernel)⟩
theorem lw_p26 : lw_okq (⟨"StairTunesModel", "well", "(I)I"⟩, 24) := ⟨⟨by decide +kernel, by decide +kernel⟩, List.mem_of_getElem? (i := 874) (by decide +kernel), List.mem_of_getElem? (i := 972) (by decide +kernel), List.mem_of_getElem? (i := 973) (by decide +kernel)⟩
theorem lw_p27 : lw_okq (⟨"StairTunesModel", "readTown", "()Z"⟩, 24) := ⟨⟨by decide +kernel, by decide +kernel⟩, List.mem_of_getElem? (i := 874) (by decide +kernel), List.mem_of_getElem? (i := 1001) (by decide +kernel), List.mem_of_getElem? (i := 1002) (by decide +kernel)⟩
theorem lw_p28 : lw_okq (⟨"StairTunesModel", "nextToken", "()V"⟩, 24) := ⟨⟨by decide +kernel, by decide +kernel⟩, List.mem_of_getElem? (i := 874) (by decide +kernel), List.mem_of_getElem? (i := 1005) (by decide +kernel), List.mem_of_getElem? (i := 1006) (by decide +kernel)⟩
theorem lw_p29 : lw_okq (⟨"StairTunesModel", "takes", "(I)Z"⟩, 24) := ⟨⟨by decide +kernel, by decide +kernel⟩, List.mem_of_getElem? (i := 874) (by decide +kernel), List.mem_of_getElem? (i := 1013) (by decide +kernel), List.mem_of_getElem? (i := 1014) (by decide +kernel)⟩
theorem lw_p30 : lw_okq (⟨"StairTunesModel", "isLetter", "(I)Z"⟩, 24) := ⟨⟨by decide +kernel, by decide +kernel⟩, List.mem_of_getElem? (i := 874) (by decide +kernel), List.mem_of_getElem? (i := 1017) (by decide +kernel), List.mem_of_getElem? (i := 1018) (by decide +kernel)⟩
theorem lw_p31 : lw_okq (⟨"StairTunesModel", "faults", "(I)Z"⟩, 24) := ⟨⟨by decide +kernel, by decide +kernel⟩, List.mem_of_getElem? (i := 874) (by decide +kernel), List.mem_of_getElem? (i := 1021) (by decide +kernel), List.mem_of_getElem? (i := 1022) (by decide +kernel)⟩
def lw_privs_2 : List (MethodName × Nat) := [(⟨"StairTunes", "isTelling", "(IIII)Z"⟩, 8), (⟨"StairTunes", "seerOfRow", "(III)LStairTunes$Seer;"⟩, 8), (⟨"StairTunes$Seer", "isHeardSo", "(II)Z"⟩, 5), (⟨"StairTunes$Seer", "soundingSteps", "()I"⟩, 5), (⟨"StairTunes$Asks", "sizeAsked", "(I)I"⟩, 6), (⟨"StairTunes$Asks", "nearest", "([I)I"⟩, 6), (⟨"StairTunes$Asks", "body", "(II)I"⟩, 6), (⟨"StairTunes$Asks", "begin", "(I)V"⟩, 6), (⟨"StairTunes$Asks", "markAsked", "(I)I"⟩, 6), (⟨"StairTunesModel", "find", "(I)I"⟩, 24), (⟨"StairTunesModel", "well", "(I)I"⟩, 24), (⟨"StairTunesModel", "readTown", "()Z"⟩, 24), (⟨"StairTunesModel", "nextToken", "()V"⟩, 24), (⟨"StairTunesModel", "takes", "(I)Z"⟩, 24), (⟨"StairTunesModel", "isLetter", "(I)Z"⟩, 24), (⟨"StairTunesModel", "faults", "(I)Z"⟩, 24)]
theorem lw_r2 : ∀ q ∈ lw_privs_2, lw_okq q := List.forall_mem_cons.mpr ⟨lw_p16, List.forall_mem_cons.mpr ⟨lw_p17, List.forall_mem_cons.mpr ⟨lw_p18, List.forall_mem_cons.mpr ⟨lw_p19, List.forall_mem_cons.mpr ⟨lw_p20, List.forall_mem_cons.mpr ⟨lw_p21, List.forall_mem_cons.mpr ⟨lw_p22, List.forall_mem_cons.mpr ⟨lw_p23, List.forall_mem_cons.mpr ⟨lw_p24, List.forall_mem_cons.mpr ⟨lw_p25, List.forall_mem_cons.mpr ⟨lw_p26, List.forall_mem_cons.mpr ⟨lw_p27, List.forall_mem_cons.mpr ⟨lw_p28, List.forall_mem_cons.mpr ⟨lw_p29, List.forall_mem_cons.mpr ⟨lw_p30, List.forall_mem_cons.mpr ⟨lw_p31, fun _ h => absurd h List.not_mem_nil⟩⟩⟩⟩⟩⟩⟩⟩⟩⟩⟩⟩⟩⟩⟩⟩
theorem lw_p32 : lw_okq (⟨"StairTunesModel", "takesNumber", "(IIII)Z"⟩, 24) := ⟨⟨by decide +kernel, by decide +kernel⟩, List.mem_of_getElem? (i := 874) (by decide +kernel), List.mem_of_getElem? (i := 1025) (by decide +kernel), List.mem_of_getElem? (i := 1026) (by decide +kernel)⟩
theorem lw_p33 : lw_okq (⟨"StairTunesModel", "readTread", "(I)Z"⟩, 24) := ⟨⟨by decide +kernel, by decide +kernel⟩, List.mem_of_getElem? (i := 874) (by decide +kernel), List.mem_of_getElem? (i := 1032) (by decide +kernel), List.mem_of_getElem? (i := 1033) (by decide +kernel)⟩
theorem lw_p34 : lw_okq (⟨"StairTunesModel", "readWalker", "()Z"⟩, 24) := ⟨⟨by decide +kernel, by decide +kernel⟩, List.mem_of_getElem? (i := 874) (by decide +kernel), List.mem_of_getElem? (i := 1036) (by decide +kernel), List.mem_of_getElem? (i := 1037) (by decide +kernel)⟩
theorem lw_p35 : lw_okq (⟨"StairTunesModel", "note", "()V"⟩, 24) := ⟨⟨by decide +kernel, by decide +kernel⟩, List.mem_of_getElem? (i := 874) (by decide +kernel), List.mem_of_getElem? (i := 1055) (by decide +kernel), List.mem_of_getElem? (i := 1056) (by decide +kernel)⟩
theorem lw_p36 : lw_okq (⟨"StairTunesModel", "oneDay", "()V"⟩, 24) := ⟨⟨by decide +kernel, by decide +kernel⟩, List.mem_of_getElem? (i := 874) (by decide +kernel), List.mem_of_getElem? (i := 1059) (by decide +kernel), List.mem_of_getElem? (i := 1060) (by decide +kernel)⟩
theorem lw_p37 : lw_okq (⟨"StairTunesModel", "longOf", "(I)I"⟩, 24) := ⟨⟨by decide +kernel, by decide +kernel⟩, List.mem_of_getElem? (i := 874) (by decide +kernel), List.mem_of_getElem? (i := 1063) (by decide +kernel), List.mem_of_getElem? (i := 1064) (by decide +kernel)⟩
theorem lw_p38 : lw_okq (⟨"StairTunesModel", "treadOf", "(II)I"⟩, 24) := ⟨⟨by decide +kernel, by decide +kernel⟩, List.mem_of_getElem? (i := 874) (by decide +kernel), List.mem_of_getElem? (i := 1070) (by decide +kernel), List.mem_of_getElem? (i := 1071) (by decide +kernel)⟩
theorem lw_p39 : lw_okq (⟨"StairTunesModel", "allWorn", "()I"⟩, 24) := ⟨⟨by decide +kernel, by decide +kernel⟩, List.mem_of_getElem? (i := 874) (by decide +kernel), List.mem_of_getElem? (i := 1074) (by decide +kernel), List.mem_of_getElem? (i := 1075) (by decide +kernel)⟩
theorem lw_p40 : lw_okq (⟨"StairTunesModel", "isTread", "(I)Z"⟩, 24) := ⟨⟨by decide +kernel, by decide +kernel⟩, List.mem_of_getElem? (i := 874) (by decide +kernel), List.mem_of_getElem? (i := 1082) (by decide +kernel), List.mem_of_getElem? (i := 1083) (by decide +kernel)⟩
theorem lw_p41 : lw_okq (⟨"StairTunesModel", "toneOf", "(I)I"⟩, 24) := ⟨⟨by decide +kernel, by decide +kernel⟩, List.mem_of_getElem? (i := 874) (by decide +kernel), List.mem_of_getElem? (i := 1087) (by decide +kernel), List.mem_of_getElem? (i := 1088) (by decide +kernel)⟩
theorem lw_p42 : lw_okq (⟨"StairTunesModel", "planeTo", "(II)V"⟩, 24) := ⟨⟨by decide +kernel, by decide +kernel⟩, List.mem_of_getElem? (i := 874) (by decide +kernel), List.mem_of_getElem? (i := 1091) (by decide +kernel), List.mem_of_getElem? (i := 1092) (by decide +kernel)⟩
theorem lw_p43 : lw_okq (⟨"StairTunesModel", "isWalker", "(I)Z"⟩, 24) := ⟨⟨by decide +kernel, by decide +kernel⟩, List.mem_of_getElem? (i := 874) (by decide +kernel), List.mem_of_getElem? (i := 1103) (by decide +kernel), List.mem_of_getElem? (i := 1104) (by decide +kernel)⟩
theorem lw_p44 : lw_okq (⟨"StairTunesModel", "whoSteps", "(I)I"⟩, 24) := ⟨⟨by decide +kernel, by decide +kernel⟩, List.mem_of_getElem? (i := 874) (by decide +kernel), List.mem_of_getElem? (i := 1117) (by decide +kernel), List.mem_of_getElem? (i := 1118) (by decide +kernel)⟩
theorem lw_p45 : lw_okq (⟨"StairTunesModel", "tuneOf", "(II)I"⟩, 24) := ⟨⟨by decide +kernel, by decide +kernel⟩, List.mem_of_getElem? (i := 874) (by decide +kernel), List.mem_of_getElem? (i := 1129) (by decide +kernel), List.mem_of_getElem? (i := 1130) (by decide +kernel)⟩
theorem lw_p46 : lw_okq (⟨"StairTunesModel", "sound", "(II)I"⟩, 24) := ⟨⟨by decide +kernel, by decide +kernel⟩, List.mem_of_getElem? (i := 874) (by decide +kernel), List.mem_of_getElem? (i := 1133) (by decide +kernel), List.mem_of_getElem? (i := 1134) (by decide +kernel)⟩
theorem lw_p47 : lw_okq (⟨"StairTunesModel", "isWet", "()Z"⟩, 24) := ⟨⟨by decide +kernel, by decide +kernel⟩, List.mem_of_getElem? (i := 874) (by decide +kernel), List.mem_of_getElem? (i := 1137) (by decide +kernel), List.mem_of_getElem? (i := 1138) (by decide +kernel)⟩
def lw_privs_3 : List (MethodName × Nat) := [(⟨"StairTunesModel", "takesNumber", "(IIII)Z"⟩, 24), (⟨"StairTunesModel", "readTread", "(I)Z"⟩, 24), (⟨"StairTunesModel", "readWalker", "()Z"⟩, 24), (⟨"StairTunesModel", "note", "()V"⟩, 24), (⟨"StairTunesModel", "oneDay", "()V"⟩, 24), (⟨"StairTunesModel", "longOf", "(I)I"⟩, 24), (⟨"StairTunesModel", "treadOf", "(II)I"⟩, 24), (⟨"StairTunesModel", "allWorn", "()I"⟩, 24), (⟨"StairTunesModel", "isTread", "(I)Z"⟩, 24), (⟨"StairTunesModel", "toneOf", "(I)I"⟩, 24), (⟨"StairTunesModel", "planeTo", "(II)V"⟩, 24), (⟨"StairTunesModel", "isWalker", "(I)Z"⟩, 24), (⟨"StairTunesModel", "whoSteps", "(I)I"⟩, 24), (⟨"StairTunesModel", "tuneOf", "(II)I"⟩, 24), (⟨"StairTunesModel", "sound", "(II)I"⟩, 24), (⟨"StairTunesModel", "isWet", "()Z"⟩, 24)]
theorem lw_r3 : ∀ q ∈ lw_privs_3, lw_okq q := List.forall_mem_cons.mpr ⟨lw_p32, List.forall_mem_cons.mpr ⟨lw_p33, List.forall_mem_cons.mpr ⟨lw_p34, List.forall_mem_cons.mpr ⟨lw_p35, List.forall_mem_cons.mpr ⟨lw_p36, List.forall_mem_cons.mpr ⟨lw_p37, List.forall_mem_cons.mpr ⟨lw_p38, List.forall_mem_cons.mpr ⟨lw_p39, List.forall_mem_cons.mpr ⟨lw_p40, List.forall_mem_cons.mpr ⟨lw_p41, List.forall_mem_cons.mpr ⟨lw_p42, List.forall_mem_cons.mpr ⟨lw_p43, List.forall_mem_cons.mpr ⟨lw_p44, List.forall_mem_cons.mpr ⟨lw_p45, List.forall_mem_cons.mpr ⟨lw_p46, List.forall_mem_cons.mpr ⟨lw_p47, fun _ h => absurd h List.not_mem_nil⟩⟩⟩⟩⟩⟩⟩⟩⟩⟩⟩⟩⟩⟩⟩⟩
theorem lw_p48 : lw_okq (⟨"StairTunesModel", "at", "(II)I"⟩, 24) := ⟨⟨by decide +kernel, by decide +kernel⟩, List.mem_of_getElem? (i := 874) (by decide +kernel), List.mem_of_getElem? (i := 1153) (by decide +kernel), List.mem_of_getElem? (i := 1154) (by decide +kernel)⟩
theorem lw_p49 : lw_okq (⟨"StairTunesModel", "heardAt", "(II)I"⟩, 24) := ⟨⟨by decide +kernel, by decide +kernel⟩, List.mem_of_getElem? (i := 874) (by decide +kernel), List.mem_of_getElem? (i := 1161) (by decide +kernel), List.mem_of_getElem? (i := 1162) (by decide +kernel)⟩
theorem lw_p50 : lw_okq (⟨"StairTunesModel", "putAside", "()V"⟩, 24) := ⟨⟨by decide +kernel, by decide +kernel⟩, List.mem_of_getElem? (i := 874) (by decide +kernel), List.mem_of_getElem? (i := 1173) (by decide +kernel), List.mem_of_getElem? (i := 1174) (by decide +kernel)⟩
theorem lw_p51 : lw_okq (⟨"StairTunesModel", "takeBack", "()V"⟩, 24) := ⟨⟨by decide +kernel, by decide +kernel⟩, List.mem_of_getElem? (i := 874) (by decide +kernel), List.mem_of_getElem? (i := 1177) (by decide +kernel), List.mem_of_getElem? (i := 1178) (by decide +kernel)⟩
theorem lw_p52 : lw_okq (⟨"StairTunesModel", "allIn", "(I)I"⟩, 24) := ⟨⟨by decide +kernel, by decide +kernel⟩, List.mem_of_getElem? (i := 874) (by decide +kernel), List.mem_of_getElem? (i := 1193) (by decide +kernel), List.mem_of_getElem? (i := 1194) (by decide +kernel)⟩
theorem lw_p53 : lw_okq (⟨"StairTunesModel", "twinsMany", "()I"⟩, 24) := ⟨⟨by decide +kernel, by decide +kernel⟩, List.mem_of_getElem? (i := 874) (by decide +kernel), List.mem_of_getElem? (i := 1204) (by decide +kernel), List.mem_of_getElem? (i := 1205) (by decide +kernel)⟩
theorem lw_p54 : lw_okq (⟨"StairTunesModel", "areTwins", "(II)Z"⟩, 24) := ⟨⟨by decide +kernel, by decide +kernel⟩, List.mem_of_getElem? (i := 874) (by decide +kernel), List.mem_of_getElem? (i := 1208) (by decide +kernel), List.mem_of_getElem? (i := 1209) (by decide +kernel)⟩
theorem lw_p55 : lw_okq (⟨"StairTunesModel", "isHeard", "(II)Z"⟩, 24) := ⟨⟨by decide +kernel, by decide +kernel⟩, List.mem_of_getElem? (i := 874) (by decide +kernel), List.mem_of_getElem? (i := 1216) (by decide +kernel), List.mem_of_getElem? (i := 1217) (by decide +kernel)⟩
theorem lw_p56 : lw_okq (⟨"StairTunesModel", "areHeard", "(I)Z"⟩, 24) := ⟨⟨by decide +kernel, by decide +kernel⟩, List.mem_of_getElem? (i := 874) (by decide +kernel), List.mem_of_getElem? (i := 1224) (by decide +kernel), List.mem_of_getElem? (i := 1225) (by decide +kernel)⟩
theorem lw_p57 : lw_okq (⟨"StairTunesModel", "isRise", "(III)Z"⟩, 24) := ⟨⟨by decide +kernel, by decide +kernel⟩, List.mem_of_getElem? (i := 874) (by decide +kernel), List.mem_of_getElem? (i := 1236) (by decide +kernel), List.mem_of_getElem? (i := 1237) (by decide +kernel)⟩
theorem lw_p58 : lw_okq (⟨"StairTunesModel", "lacks", "(III)I"⟩, 24) := ⟨⟨by decide +kernel, by decide +kernel⟩, List.mem_of_getElem? (i := 874) (by decide +kernel), List.mem_of_getElem? (i := 1245) (by decide +kernel), List.mem_of_getElem? (i := 1246) (by decide +kernel)⟩
theorem lw_p59 : lw_okq (⟨"StairTunesModel", "fits", "(IIIIIII)I"⟩, 24) := ⟨⟨by decide +kernel, by decide +kernel⟩, List.mem_of_getElem? (i := 874) (by decide +kernel), List.mem_of_getElem? (i := 1249) (by decide +kernel), List.mem_of_getElem? (i := 1250) (by decide +kernel)⟩
theorem lw_p60 : lw_okq (⟨"StairTunesModel", "isSo", "(IIII)Z"⟩, 24) := ⟨⟨by decide +kernel, by decide +kernel⟩, List.mem_of_getElem? (i := 874) (by decide +kernel), List.mem_of_getElem? (i := 1253) (by decide +kernel), List.mem_of_getElem? (i := 1254) (by decide +kernel)⟩
theorem lw_p61 : lw_okq (⟨"StairTunesModel", "soundsMany", "()I"⟩, 24) := ⟨⟨by decide +kernel, by decide +kernel⟩, List.mem_of_getElem? (i := 874) (by decide +kernel), List.mem_of_getElem? (i := 1276) (by decide +kernel), List.mem_of_getElem? (i := 1277) (by decide +kernel)⟩
theorem lw_p62 : lw_okq (⟨"StairTunesModel", "allTones", "()I"⟩, 24) := ⟨⟨by decide +kernel, by decide +kernel⟩, List.mem_of_getElem? (i := 874) (by decide +kernel), List.mem_of_getElem? (i := 1280) (by decide +kernel), List.mem_of_getElem? (i := 1281) (by decide +kernel)⟩
theorem lw_p63 : lw_okq (⟨"StairTunesModel", "sizeOf", "(I)I"⟩, 24) := ⟨⟨by decide +kernel, by decide +kernel⟩, List.mem_of_getElem? (i := 874) (by decide +kernel), List.mem_of_getElem? (i := 1308) (by decide +kernel), List.mem_of_getElem? (i := 1309) (by decide +kernel)⟩
def lw_privs_4 : List (MethodName × Nat) := [(⟨"StairTunesModel", "at", "(II)I"⟩, 24), (⟨"StairTunesModel", "heardAt", "(II)I"⟩, 24), (⟨"StairTunesModel", "putAside", "()V"⟩, 24), (⟨"StairTunesModel", "takeBack", "()V"⟩, 24), (⟨"StairTunesModel", "allIn", "(I)I"⟩, 24), (⟨"StairTunesModel", "twinsMany", "()I"⟩, 24), (⟨"StairTunesModel", "areTwins", "(II)Z"⟩, 24), (⟨"StairTunesModel", "isHeard", "(II)Z"⟩, 24), (⟨"StairTunesModel", "areHeard", "(I)Z"⟩, 24), (⟨"StairTunesModel", "isRise", "(III)Z"⟩, 24), (⟨"StairTunesModel", "lacks", "(III)I"⟩, 24), (⟨"StairTunesModel", "fits", "(IIIIIII)I"⟩, 24), (⟨"StairTunesModel", "isSo", "(IIII)Z"⟩, 24), (⟨"StairTunesModel", "soundsMany", "()I"⟩, 24), (⟨"StairTunesModel", "allTones", "()I"⟩, 24), (⟨"StairTunesModel", "sizeOf", "(I)I"⟩, 24)]
theorem lw_r4 : ∀ q ∈ lw_privs_4, lw_okq q := List.forall_mem_cons.mpr ⟨lw_p48, List.forall_mem_cons.mpr ⟨lw_p49, List.forall_mem_cons.mpr ⟨lw_p50, List.forall_mem_cons.mpr ⟨lw_p51, List.forall_mem_cons.mpr ⟨lw_p52, List.forall_mem_cons.mpr ⟨lw_p53, List.forall_mem_cons.mpr ⟨lw_p54, List.forall_mem_cons.mpr ⟨lw_p55, List.forall_mem_cons.mpr ⟨lw_p56, List.forall_mem_cons.mpr ⟨lw_p57, List.forall_mem_cons.mpr ⟨lw_p58, List.forall_mem_cons.mpr ⟨lw_p59, List.forall_mem_cons.mpr ⟨lw_p60, List.forall_mem_cons.mpr ⟨lw_p61, List.forall_mem_cons.mpr ⟨lw_p62, List.forall_mem_cons.mpr ⟨lw_p63, fun _ h => absurd h List.not_mem_nil⟩⟩⟩⟩⟩⟩⟩⟩⟩⟩⟩⟩⟩⟩⟩⟩
theorem lw_p64 : lw_okq (⟨"StairTunesModel", "begin", "(I)V"⟩, 24) := ⟨⟨by decide +kernel, by decide +kernel⟩, List.mem_of_getElem? (i := 874) (by decide +kernel), List.mem_of_getElem? (i := 1312) (by decide +kernel), List.mem_of_getElem? (i := 1313) (by decide +kernel)⟩
theorem lw_p65 : lw_okq (⟨"StairTunesModel", "plainSize", "(I)I"⟩, 24) := ⟨⟨by decide +kernel, by decide +kernel⟩, List.mem_of_getElem? (i := 874) (by decide +kernel), List.mem_of_getElem? (i := 1316) (by decide +kernel), List.mem_of_getElem? (i := 1317) (by decide +kernel)⟩
theorem lw_p66 : lw_okq (⟨"StairTunesModel", "lent", "(II)I"⟩, 24) := ⟨⟨by decide +kernel, by decide +kernel⟩, List.mem_of_getElem? (i := 874) (by decide +kernel), List.mem_of_getElem? (i := 1320) (by decide +kernel), List.mem_of_getElem? (i := 1321) (by decide +kernel)⟩
theorem lw_p67 : lw_okq (⟨"StairTunesModel", "markOf", "(I)I"⟩, 24) := ⟨⟨by decide +kernel, by decide +kernel⟩, List.mem_of_getElem? (i := 874) (by decide +kernel), List.mem_of_getElem? (i := 1324) (by decide +kernel), List.mem_of_getElem? (i := 1325) (by decide +kernel)⟩
theorem lw_p68 : lw_okq (⟨"StairTunesModel", "plainMark", "(I)I"⟩, 24) := ⟨⟨by decide +kernel, by decide +kernel⟩, List.mem_of_getElem? (i := 874) (by decide +kernel), List.mem_of_getElem? (i := 1328) (by decide +kernel), List.mem_of_getElem? (i := 1329) (by decide +kernel)⟩
theorem lw_p69 : lw_okq (⟨"StairTunesModel", "sizeOfRotten", "(I)I"⟩, 24) := ⟨⟨by decide +kernel, by decide +kernel⟩, List.mem_of_getElem? (i := 874) (by decide +kernel), List.mem_of_getElem? (i := 1332) (by decide +kernel), List.mem_of_getElem? (i := 1333) (by decide +kernel)⟩
theorem lw_p70 : lw_okq (⟨"StairTunesModel", "rottenSize", "(I)I"⟩, 24) := ⟨⟨by decide +kernel, by decide +kernel⟩, List.mem_of_getElem? (i := 874) (by decide +kernel), List.mem_of_getElem? (i := 1336) (by decide +kernel), List.mem_of_getElem? (i := 1337) (by decide +kernel)⟩
def lw_privs_5 : List (MethodName × Nat) := [(⟨"StairTunesModel", "begin", "(I)V"⟩, 24), (⟨"StairTunesModel", "plainSize", "(I)I"⟩, 24), (⟨"StairTunesModel", "lent", "(II)I"⟩, 24), (⟨"StairTunesModel", "markOf", "(I)I"⟩, 24), (⟨"StairTunesModel", "plainMark", "(I)I"⟩, 24), (⟨"StairTunesModel", "sizeOfRotten", "(I)I"⟩, 24), (⟨"StairTunesModel", "rottenSize", "(I)I"⟩, 24)]
theorem lw_r5 : ∀ q ∈ lw_privs_5, lw_okq q := List.forall_mem_cons.mpr ⟨lw_p64, List.forall_mem_cons.mpr ⟨lw_p65, List.forall_mem_cons.mpr ⟨lw_p66, List.forall_mem_cons.mpr ⟨lw_p67, List.forall_mem_cons.mpr ⟨lw_p68, List.forall_mem_cons.mpr ⟨lw_p69, List.forall_mem_cons.mpr ⟨lw_p70, fun _ h => absurd h List.not_mem_nil⟩⟩⟩⟩⟩⟩⟩
def lw_privs : List (MethodName × Nat) := lw_privs_1 ++ (lw_privs_2 ++ (lw_privs_3 ++ (lw_privs_4 ++ (lw_privs_5))))
def lw_tbl : List Cond := k2_sels lw_privs ++ tables_1
theorem lw_privs_ok : ∀ q ∈ lw_privs, lw_okq q := by
  show ∀ q ∈ lw_privs_1 ++ (lw_privs_2 ++ (lw_privs_3 ++ (lw_privs_4 ++ (lw_privs_5)))), lw_okq q
  exact List.forall_mem_append.mpr ⟨lw_r1, List.forall_mem_append.mpr ⟨lw_r2, List.forall_mem_append.mpr ⟨lw_r3, List.forall_mem_append.mpr ⟨lw_r4, lw_r5⟩⟩⟩⟩

def RX0 : String := "StairTunes$Asks"
def TX0 : u_T := fun k => match k with
  | 0 => ("StairTunes$Asks", "bodies", "[I", true)
  | 1 => ("StairTunes$Asks", "begun", "I", false)
  | 2 => ("StairTunes$Asks", "number", "I", false)
  | 3 => ("StairTunes$Asks", "kind", "I", false)
  | 4 => ("StairTunes$Asks", "note", "I", false)
  | _ => ("StairTunes$Asks", "worn", "I", false)
def tyX0 : Nat → FieldType := fun k => match k with
  | 0 => .array .int
  | 1 => .int
  | 2 => .int
  | 3 => .int
  | 4 => .int
  | _ => .int
theorem nmX0 : ∀ a, a < 6 → ∀ b, b < 6 → a ≠ b → (TX0 a).2.1 ≠ (TX0 b).2.1 := by decide +kernel
theorem tyX0_ok : ∀ k, k < 6 → parseFieldDescriptor (TX0 k).2.2.1 = some (tyX0 k) := by decide +kernel
abbrev cX0_init : ByteArray := prog_2_method_1_code
def yX0_init : MethodName := ⟨RX0, "<init>", "()V"⟩
abbrev cX0_isA : ByteArray := prog_2_method_2_code
def yX0_isA : MethodName := ⟨RX0, "isA", "(II)Z"⟩
abbrev cX0_answerOf : ByteArray := prog_2_method_3_code
def yX0_answerOf : MethodName := ⟨RX0, "answerOf", "(LStairTunes$Town;II)I"⟩
abbrev cX0_traceAt : ByteArray := prog_2_method_4_code
def yX0_traceAt : MethodName := ⟨RX0, "traceAt", "(I)I"⟩
abbrev cX0_sizeAsked : ByteArray := prog_2_method_5_code
def yX0_sizeAsked : MethodName := ⟨RX0, "sizeAsked", "(I)I"⟩
abbrev cX0_markAsked : ByteArray := prog_2_method_6_code
def yX0_markAsked : MethodName := ⟨RX0, "markAsked", "(I)I"⟩
abbrev cX0_nearest : ByteArray := prog_2_method_7_code
def yX0_nearest : MethodName := ⟨RX0, "nearest", "([I)I"⟩
abbrev cX0_body : ByteArray := prog_2_method_8_code
def yX0_body : MethodName := ⟨RX0, "body", "(II)I"⟩
abbrev cX0_begin : ByteArray := prog_2_method_9_code
def yX0_begin : MethodName := ⟨RX0, "begin", "(I)V"⟩
def RX1 : String := "StairTunes$Past"
def TX1 : u_T := fun k => match k with
  | 0 => ("StairTunes$Past", "towns", "[LStairTunes$Town;", true)
  | 1 => ("StairTunes$Past", "next", "I", false)
  | _ => ("StairTunes$Past", "kept", "I", false)
def tyX1 : Nat → FieldType := fun k => match k with
  | 0 => .array (.object "StairTunes$Town")
  | 1 => .int
  | _ => .int
theorem nmX1 : ∀ a, a < 3 → ∀ b, b < 3 → a ≠ b → (TX1 a).2.1 ≠ (TX1 b).2.1 := by decide +kernel
theorem tyX1_ok : ∀ k, k < 3 → parseFieldDescriptor (TX1 k).2.2.1 = some (tyX1 k) := by decide +kernel
abbrev cX1_init : ByteArray := prog_3_method_1_code
def yX1_init : MethodName := ⟨RX1, "<init>", "()V"⟩
abbrev cX1_forget : ByteArray := prog_3_method_2_code
def yX1_forget : MethodName := ⟨RX1, "forget", "()V"⟩
abbrev cX1_keptCount : ByteArray := prog_3_method_3_code
def yX1_keptCount : MethodName := ⟨RX1, "keptCount", "()I"⟩
abbrev cX1_keep : ByteArray := prog_3_method_4_code
def yX1_keep : MethodName := ⟨RX1, "keep", "(LStairTunes$Town;)V"⟩
abbrev cX1_takeBack : ByteArray := prog_3_method_5_code
def yX1_takeBack : MethodName := ⟨RX1, "takeBack", "(LStairTunes$Town;)I"⟩
abbrev cX1_townAt : ByteArray := prog_3_method_6_code
def yX1_townAt : MethodName := ⟨RX1, "townAt", "(I)LStairTunes$Town;"⟩
def RX2 : String := "StairTunes$Reader"
def TX2 : u_T := fun k => match k with
  | 0 => ("StairTunes$Reader", "tape", "[I", true)
  | 1 => ("StairTunes$Reader", "draft", "LStairTunes$Town;", true)
  | 2 => ("StairTunes$Reader", "bytes", "I", false)
  | 3 => ("StairTunes$Reader", "at", "I", false)
  | 4 => ("StairTunes$Reader", "fault", "I", false)
  | _ => ("StairTunes$Reader", "place", "I", false)
def tyX2 : Nat → FieldType := fun k => match k with
  | 0 => .array .int
  | 1 => .object "StairTunes$Town"
  | 2 => .int
  | 3 => .int
  | 4 => .int
  | _ => .int
theorem nmX2 : ∀ a, a < 6 → ∀ b, b < 6 → a ≠ b → (TX2 a).2.1 ≠ (TX2 b).2.1 := by decide +kernel
theorem tyX2_ok : ∀ k, k < 6 → parseFieldDescriptor (TX2 k).2.2.1 = some (tyX2 k) := by decide +kernel
abbrev cX2_init : ByteArray := prog_4_method_1_code
def yX2_init : MethodName := ⟨RX2, "<init>", "()V"⟩
abbrev cX2_add : ByteArray := prog_4_method_2_code
def yX2_add : MethodName := ⟨RX2, "add", "(I)I"⟩
abbrev cX2_byteCount : ByteArray := prog_4_method_3_code
def yX2_byteCount : MethodName := ⟨RX2, "byteCount", "()I"⟩
abbrev cX2_faultNumber : ByteArray := prog_4_method_4_code
def yX2_faultNumber : MethodName := ⟨RX2, "faultNumber", "()I"⟩
abbrev cX2_faultPlace : ByteArray := prog_4_method_5_code
def yX2_faultPlace : MethodName := ⟨RX2, "faultPlace", "()I"⟩
abbrev cX2_readTape : ByteArray := prog_4_method_6_code
def yX2_readTape : MethodName := ⟨RX2, "readTape", "()LStairTunes$Town;"⟩
abbrev cX2_readLaw : ByteArray := prog_4_method_7_code
def yX2_readLaw : MethodName := ⟨RX2, "readLaw", "()Z"⟩
abbrev cX2_readTreads : ByteArray := prog_4_method_8_code
def yX2_readTreads : MethodName := ⟨RX2, "readTreads", "()Z"⟩
abbrev cX2_readWalkers : ByteArray := prog_4_method_9_code
def yX2_readWalkers : MethodName := ⟨RX2, "readWalkers", "()Z"⟩
abbrev cX2_readWalker : ByteArray := prog_4_method_10_code
def yX2_readWalker : MethodName := ⟨RX2, "readWalker", "(I)Z"⟩
abbrev cX2_kindOfSort : ByteArray := prog_4_method_11_code
def yX2_kindOfSort : MethodName := ⟨RX2, "kindOfSort", "(I)I"⟩
abbrev cX2_readSign : ByteArray := prog_4_method_12_code
def yX2_readSign : MethodName := ⟨RX2, "readSign", "(I)Z"⟩
abbrev cX2_readNumber : ByteArray := prog_4_method_13_code
def yX2_readNumber : MethodName := ⟨RX2, "readNumber", "(II)I"⟩
abbrev cX2_letter : ByteArray := prog_4_method_14_code
def yX2_letter : MethodName := ⟨RX2, "letter", "()I"⟩
abbrev cX2_fail : ByteArray := prog_4_method_15_code
def yX2_fail : MethodName := ⟨RX2, "fail", "(I)Z"⟩
def RX3 : String := "StairTunes$Seer"
def TX3 : u_T := fun k => match k with
  | 0 => ("StairTunes$Seer", "town", "LStairTunes$Town;", true)
  | 1 => ("StairTunes$Seer", "heardItems", "[I", true)
  | 2 => ("StairTunes$Seer", "doorsOf", "[I", true)
  | 3 => ("StairTunes$Seer", "tuneNumbers", "[J", true)
  | _ => ("StairTunes$Seer", "heardCount", "I", false)
def tyX3 : Nat → FieldType := fun k => match k with
  | 0 => .object "StairTunes$Town"
  | 1 => .array .int
  | 2 => .array .int
  | 3 => .array .long
  | _ => .int
theorem nmX3 : ∀ a, a < 5 → ∀ b, b < 5 → a ≠ b → (TX3 a).2.1 ≠ (TX3 b).2.1 := by decide +kernel
theorem tyX3_ok : ∀ k, k < 5 → parseFieldDescriptor (TX3 k).2.2.1 = some (tyX3 k) := by decide +kernel
abbrev cX3_init : ByteArray := prog_5_method_1_code
def yX3_init : MethodName := ⟨RX3, "<init>", "()V"⟩
abbrev cX3_lookAt : ByteArray := prog_5_method_2_code
def yX3_lookAt : MethodName := ⟨RX3, "lookAt", "(LStairTunes$Town;)V"⟩
abbrev cX3_hearFrom : ByteArray := prog_5_method_3_code
def yX3_hearFrom : MethodName := ⟨RX3, "hearFrom", "(I)V"⟩
abbrev cX3_treadIn : ByteArray := prog_5_method_4_code
def yX3_treadIn : MethodName := ⟨RX3, "treadIn", "(III)I"⟩
abbrev cX3_meetingOf : ByteArray := prog_5_method_5_code
def yX3_meetingOf : MethodName := ⟨RX3, "meetingOf", "(II)I"⟩
abbrev cX3_fullestMinute : ByteArray := prog_5_method_6_code
def yX3_fullestMinute : MethodName := ⟨RX3, "fullestMinute", "(I)I"⟩
abbrev cX3_twinCount : ByteArray := prog_5_method_7_code
def yX3_twinCount : MethodName := ⟨RX3, "twinCount", "()I"⟩
abbrev cX3_firstTwins : ByteArray := prog_5_method_8_code
def yX3_firstTwins : MethodName := ⟨RX3, "firstTwins", "()I"⟩
abbrev cX3_numberTunes : ByteArray := prog_5_method_9_code
def yX3_numberTunes : MethodName := ⟨RX3, "numberTunes", "()I"⟩
abbrev cX3_fewestFelts : ByteArray := prog_5_method_10_code
def yX3_fewestFelts : MethodName := ⟨RX3, "fewestFelts", "(III)I"⟩
abbrev cX3_fewestDoors : ByteArray := prog_5_method_11_code
def yX3_fewestDoors : MethodName := ⟨RX3, "fewestDoors", "(I)I"⟩
abbrev cX3_hearAll : ByteArray := prog_5_method_12_code
def yX3_hearAll : MethodName := ⟨RX3, "hearAll", "(II)Z"⟩
abbrev cX3_doorsHearing : ByteArray := prog_5_method_13_code
def yX3_doorsHearing : MethodName := ⟨RX3, "doorsHearing", "(I)I"⟩
abbrev cX3_isUnheard : ByteArray := prog_5_method_14_code
def yX3_isUnheard : MethodName := ⟨RX3, "isUnheard", "(III)Z"⟩
abbrev cX3_isSmaller : ByteArray := prog_5_method_15_code
def yX3_isSmaller : MethodName := ⟨RX3, "isSmaller", "(II)Z"⟩
abbrev cX3_sizeOf : ByteArray := prog_5_method_16_code
def yX3_sizeOf : MethodName := ⟨RX3, "sizeOf", "(I)I"⟩
abbrev cX3_bestPlaning : ByteArray := prog_5_method_17_code
def yX3_bestPlaning : MethodName := ⟨RX3, "bestPlaning", "(I)I"⟩
abbrev cX3_risesOf : ByteArray := prog_5_method_18_code
def yX3_risesOf : MethodName := ⟨RX3, "risesOf", "(IIII)I"⟩
abbrev cX3_isRise : ByteArray := prog_5_method_19_code
def yX3_isRise : MethodName := ⟨RX3, "isRise", "(III)Z"⟩
abbrev cX3_kindsBy : ByteArray := prog_5_method_20_code
def yX3_kindsBy : MethodName := ⟨RX3, "kindsBy", "(III)I"⟩
abbrev cX3_notesBy : ByteArray := prog_5_method_21_code
def yX3_notesBy : MethodName := ⟨RX3, "notesBy", "(III)I"⟩
abbrev cX3_partsBy : ByteArray := prog_5_method_22_code
def yX3_partsBy : MethodName := ⟨RX3, "partsBy", "(IIII)I"⟩
abbrev cX3_isHeardSo : ByteArray := prog_5_method_23_code
def yX3_isHeardSo : MethodName := ⟨RX3, "isHeardSo", "(II)Z"⟩
abbrev cX3_likelihood : ByteArray := prog_5_method_24_code
def yX3_likelihood : MethodName := ⟨RX3, "likelihood", "(IIII)J"⟩
abbrev cX3_commonDivisor : ByteArray := prog_5_method_25_code
def yX3_commonDivisor : MethodName := ⟨RX3, "commonDivisor", "(JJ)J"⟩
abbrev cX3_weeksBy : ByteArray := prog_5_method_26_code
def yX3_weeksBy : MethodName := ⟨RX3, "weeksBy", "(III)I"⟩
abbrev cX3_soundingSteps : ByteArray := prog_5_method_27_code
def yX3_soundingSteps : MethodName := ⟨RX3, "soundingSteps", "()I"⟩
def RX4 : String := "StairTunes$Shelf"
def TX4 : u_T := fun k => match k with
  | 0 => ("StairTunes$Shelf", "items", "[I", true)
  | 1 => ("StairTunes$Shelf", "lanes", "[I", true)
  | _ => ("StairTunes$Shelf", "sizes", "[I", true)
def tyX4 : Nat → FieldType := fun k => match k with
  | 0 => .array .int
  | 1 => .array .int
  | _ => .array .int
theorem nmX4 : ∀ a, a < 3 → ∀ b, b < 3 → a ≠ b → (TX4 a).2.1 ≠ (TX4 b).2.1 := by decide +kernel
theorem tyX4_ok : ∀ k, k < 3 → parseFieldDescriptor (TX4 k).2.2.1 = some (tyX4 k) := by decide +kernel
abbrev cX4_init : ByteArray := prog_6_method_1_code
def yX4_init : MethodName := ⟨RX4, "<init>", "()V"⟩
abbrev cX4_isRow : ByteArray := prog_6_method_2_code
def yX4_isRow : MethodName := ⟨RX4, "isRow", "(I)Z"⟩
abbrev cX4_isLane : ByteArray := prog_6_method_3_code
def yX4_isLane : MethodName := ⟨RX4, "isLane", "(I)Z"⟩
abbrev cX4_isMissing : ByteArray := prog_6_method_4_code
def yX4_isMissing : MethodName := ⟨RX4, "isMissing", "(I)Z"⟩
abbrev cX4_rowCount : ByteArray := prog_6_method_5_code
def yX4_rowCount : MethodName := ⟨RX4, "rowCount", "()I"⟩
abbrev cX4_findingOf : ByteArray := prog_6_method_6_code
def yX4_findingOf : MethodName := ⟨RX4, "findingOf", "(III)I"⟩
abbrev cX4_findingOfCopy : ByteArray := prog_6_method_7_code
def yX4_findingOfCopy : MethodName := ⟨RX4, "findingOfCopy", "(IIIII)I"⟩
abbrev cX4_lay : ByteArray := prog_6_method_8_code
def yX4_lay : MethodName := ⟨RX4, "lay", "(III)I"⟩
abbrev cX4_put : ByteArray := prog_6_method_9_code
def yX4_put : MethodName := ⟨RX4, "put", "(III)I"⟩
abbrev cX4_itemAt : ByteArray := prog_6_method_10_code
def yX4_itemAt : MethodName := ⟨RX4, "itemAt", "(II)I"⟩
abbrev cX4_move : ByteArray := prog_6_method_11_code
def yX4_move : MethodName := ⟨RX4, "move", "(IIIII)I"⟩
abbrev cX4_takeAway : ByteArray := prog_6_method_12_code
def yX4_takeAway : MethodName := ⟨RX4, "takeAway", "(I)I"⟩
def RX5 : String := "StairTunes$Town"
def TX5 : u_T := fun k => match k with
  | 0 => ("StairTunes$Town", "kinds", "[I", true)
  | 1 => ("StairTunes$Town", "notes", "[I", true)
  | 2 => ("StairTunes$Town", "wears", "[I", true)
  | 3 => ("StairTunes$Town", "parts", "[I", true)
  | 4 => ("StairTunes$Town", "treads", "I", false)
  | 5 => ("StairTunes$Town", "walkers", "I", false)
  | 6 => ("StairTunes$Town", "wet", "I", false)
  | 7 => ("StairTunes$Town", "reach", "I", false)
  | _ => ("StairTunes$Town", "day", "I", false)
def tyX5 : Nat → FieldType := fun k => match k with
  | 0 => .array .int
  | 1 => .array .int
  | 2 => .array .int
  | 3 => .array .int
  | 4 => .int
  | 5 => .int
  | 6 => .int
  | 7 => .int
  | _ => .int
theorem nmX5 : ∀ a, a < 9 → ∀ b, b < 9 → a ≠ b → (TX5 a).2.1 ≠ (TX5 b).2.1 := by decide +kernel
theorem tyX5_ok : ∀ k, k < 9 → parseFieldDescriptor (TX5 k).2.2.1 = some (tyX5 k) := by decide +kernel
abbrev cX5_init : ByteArray := prog_7_method_1_code
def yX5_init : MethodName := ⟨RX5, "<init>", "()V"⟩
abbrev cX5_take : ByteArray := prog_7_method_2_code
def yX5_take : MethodName := ⟨RX5, "take", "(LStairTunes$Town;)V"⟩
abbrev cX5_begin : ByteArray := prog_7_method_3_code
def yX5_begin : MethodName := ⟨RX5, "begin", "(II)V"⟩
abbrev cX5_addTread : ByteArray := prog_7_method_4_code
def yX5_addTread : MethodName := ⟨RX5, "addTread", "(II)V"⟩
abbrev cX5_addWalker : ByteArray := prog_7_method_5_code
def yX5_addWalker : MethodName := ⟨RX5, "addWalker", "()V"⟩
abbrev cX5_stands : ByteArray := prog_7_method_6_code
def yX5_stands : MethodName := ⟨RX5, "stands", "()Z"⟩
abbrev cX5_hasTread : ByteArray := prog_7_method_7_code
def yX5_hasTread : MethodName := ⟨RX5, "hasTread", "(I)Z"⟩
abbrev cX5_hasWalker : ByteArray := prog_7_method_8_code
def yX5_hasWalker : MethodName := ⟨RX5, "hasWalker", "(I)Z"⟩
abbrev cX5_treadCount : ByteArray := prog_7_method_9_code
def yX5_treadCount : MethodName := ⟨RX5, "treadCount", "()I"⟩
abbrev cX5_walkerCount : ByteArray := prog_7_method_10_code
def yX5_walkerCount : MethodName := ⟨RX5, "walkerCount", "()I"⟩
abbrev cX5_reachNow : ByteArray := prog_7_method_11_code
def yX5_reachNow : MethodName := ⟨RX5, "reachNow", "()I"⟩
abbrev cX5_dayNumber : ByteArray := prog_7_method_12_code
def yX5_dayNumber : MethodName := ⟨RX5, "dayNumber", "()I"⟩
abbrev cX5_isWet : ByteArray := prog_7_method_13_code
def yX5_isWet : MethodName := ⟨RX5, "isWet", "()Z"⟩
abbrev cX5_leastOf : ByteArray := prog_7_method_14_code
def yX5_leastOf : MethodName := ⟨RX5, "leastOf", "(I)I"⟩
abbrev cX5_mostOf : ByteArray := prog_7_method_15_code
def yX5_mostOf : MethodName := ⟨RX5, "mostOf", "(I)I"⟩
abbrev cX5_canBe : ByteArray := prog_7_method_16_code
def yX5_canBe : MethodName := ⟨RX5, "canBe", "(II)Z"⟩
abbrev cX5_partOf : ByteArray := prog_7_method_17_code
def yX5_partOf : MethodName := ⟨RX5, "partOf", "(II)I"⟩
abbrev cX5_setPart : ByteArray := prog_7_method_18_code
def yX5_setPart : MethodName := ⟨RX5, "setPart", "(III)V"⟩
abbrev cX5_setReach : ByteArray := prog_7_method_19_code
def yX5_setReach : MethodName := ⟨RX5, "setReach", "(I)V"⟩
abbrev cX5_kindOf : ByteArray := prog_7_method_20_code
def yX5_kindOf : MethodName := ⟨RX5, "kindOf", "(I)I"⟩
abbrev cX5_setKind : ByteArray := prog_7_method_21_code
def yX5_setKind : MethodName := ⟨RX5, "setKind", "(II)V"⟩
abbrev cX5_noteOf : ByteArray := prog_7_method_22_code
def yX5_noteOf : MethodName := ⟨RX5, "noteOf", "(I)I"⟩
abbrev cX5_setNote : ByteArray := prog_7_method_23_code
def yX5_setNote : MethodName := ⟨RX5, "setNote", "(II)V"⟩
abbrev cX5_wornOf : ByteArray := prog_7_method_24_code
def yX5_wornOf : MethodName := ⟨RX5, "wornOf", "(I)I"⟩
abbrev cX5_setWorn : ByteArray := prog_7_method_25_code
def yX5_setWorn : MethodName := ⟨RX5, "setWorn", "(II)V"⟩
abbrev cX5_planeTo : ByteArray := prog_7_method_26_code
def yX5_planeTo : MethodName := ⟨RX5, "planeTo", "(II)V"⟩
abbrev cX5_wornTogether : ByteArray := prog_7_method_27_code
def yX5_wornTogether : MethodName := ⟨RX5, "wornTogether", "()I"⟩
abbrev cX5_tonesTogether : ByteArray := prog_7_method_28_code
def yX5_tonesTogether : MethodName := ⟨RX5, "tonesTogether", "()I"⟩
abbrev cX5_toneOf : ByteArray := prog_7_method_29_code
def yX5_toneOf : MethodName := ⟨RX5, "toneOf", "(I)I"⟩
abbrev cX5_soundAs : ByteArray := prog_7_method_30_code
def yX5_soundAs : MethodName := ⟨RX5, "soundAs", "(III)I"⟩
abbrev cX5_treadOf : ByteArray := prog_7_method_31_code
def yX5_treadOf : MethodName := ⟨RX5, "treadOf", "(II)I"⟩
abbrev cX5_soundOf : ByteArray := prog_7_method_32_code
def yX5_soundOf : MethodName := ⟨RX5, "soundOf", "(II)I"⟩
abbrev cX5_longOf : ByteArray := prog_7_method_33_code
def yX5_longOf : MethodName := ⟨RX5, "longOf", "(I)I"⟩
abbrev cX5_placeIn : ByteArray := prog_7_method_34_code
def yX5_placeIn : MethodName := ⟨RX5, "placeIn", "(II)I"⟩
abbrev cX5_isNear : ByteArray := prog_7_method_35_code
def yX5_isNear : MethodName := ⟨RX5, "isNear", "(II)Z"⟩
abbrev cX5_heardAt : ByteArray := prog_7_method_36_code
def yX5_heardAt : MethodName := ⟨RX5, "heardAt", "(II)I"⟩
abbrev cX5_soundsIn : ByteArray := prog_7_method_37_code
def yX5_soundsIn : MethodName := ⟨RX5, "soundsIn", "(III)I"⟩
abbrev cX5_tuneNumber : ByteArray := prog_7_method_38_code
def yX5_tuneNumber : MethodName := ⟨RX5, "tuneNumber", "(I)J"⟩
abbrev cX5_walkersOn : ByteArray := prog_7_method_39_code
def yX5_walkersOn : MethodName := ⟨RX5, "walkersOn", "(I)I"⟩
abbrev cX5_passDay : ByteArray := prog_7_method_40_code
def yX5_passDay : MethodName := ⟨RX5, "passDay", "()V"⟩
def RX6 : String := "StairTunes"
def TX6 : u_T := fun k => match k with
  | 0 => ("StairTunes", "shelf", "LStairTunes$Shelf;", true)
  | 1 => ("StairTunes", "reader", "LStairTunes$Reader;", true)
  | 2 => ("StairTunes", "town", "LStairTunes$Town;", true)
  | 3 => ("StairTunes", "past", "LStairTunes$Past;", true)
  | 4 => ("StairTunes", "images", "[LStairTunes$Town;", true)
  | 5 => ("StairTunes", "seer", "LStairTunes$Seer;", true)
  | 6 => ("StairTunes", "asks", "LStairTunes$Asks;", true)
  | _ => ("StairTunes", "finding", "I", false)
def tyX6 : Nat → FieldType := fun k => match k with
  | 0 => .object "StairTunes$Shelf"
  | 1 => .object "StairTunes$Reader"
  | 2 => .object "StairTunes$Town"
  | 3 => .object "StairTunes$Past"
  | 4 => .array (.object "StairTunes$Town")
  | 5 => .object "StairTunes$Seer"
  | 6 => .object "StairTunes$Asks"
  | _ => .int
theorem nmX6 : ∀ a, a < 8 → ∀ b, b < 8 → a ≠ b → (TX6 a).2.1 ≠ (TX6 b).2.1 := by decide +kernel
theorem tyX6_ok : ∀ k, k < 8 → parseFieldDescriptor (TX6 k).2.2.1 = some (tyX6 k) := by decide +kernel
abbrev cX6_init : ByteArray := prog_1_method_1_code
def yX6_init : MethodName := ⟨RX6, "<init>", "()V"⟩
abbrev cX6_row : ByteArray := prog_1_method_2_code
def yX6_row : MethodName := ⟨RX6, "row", "(III)I"⟩
abbrev cX6_set : ByteArray := prog_1_method_3_code
def yX6_set : MethodName := ⟨RX6, "set", "(III)I"⟩
abbrev cX6_copy : ByteArray := prog_1_method_4_code
def yX6_copy : MethodName := ⟨RX6, "copy", "(IIIII)I"⟩
abbrev cX6_drop : ByteArray := prog_1_method_5_code
def yX6_drop : MethodName := ⟨RX6, "drop", "(I)I"⟩
abbrev cX6_feed : ByteArray := prog_1_method_6_code
def yX6_feed : MethodName := ⟨RX6, "feed", "(I)I"⟩
abbrev cX6_town : ByteArray := prog_1_method_7_code
def yX6_town : MethodName := ⟨RX6, "town", "()I"⟩
abbrev cX6_fault : ByteArray := prog_1_method_8_code
def yX6_fault : MethodName := ⟨RX6, "fault", "()I"⟩
abbrev cX6_undo : ByteArray := prog_1_method_9_code
def yX6_undo : MethodName := ⟨RX6, "undo", "()I"⟩
abbrev cX6_days : ByteArray := prog_1_method_10_code
def yX6_days : MethodName := ⟨RX6, "days", "(I)I"⟩
abbrev cX6_plane : ByteArray := prog_1_method_11_code
def yX6_plane : MethodName := ⟨RX6, "plane", "(II)I"⟩
abbrev cX6_reach : ByteArray := prog_1_method_12_code
def yX6_reach : MethodName := ⟨RX6, "reach", "(I)I"⟩
abbrev cX6_way : ByteArray := prog_1_method_13_code
def yX6_way : MethodName := ⟨RX6, "way", "(III)I"⟩
abbrev cX6_gait : ByteArray := prog_1_method_14_code
def yX6_gait : MethodName := ⟨RX6, "gait", "(III)I"⟩
abbrev cX6_tread : ByteArray := prog_1_method_15_code
def yX6_tread : MethodName := ⟨RX6, "tread", "(II)I"⟩
abbrev cX6_walker : ByteArray := prog_1_method_16_code
def yX6_walker : MethodName := ⟨RX6, "walker", "(II)I"⟩
abbrev cX6_tune : ByteArray := prog_1_method_17_code
def yX6_tune : MethodName := ⟨RX6, "tune", "(II)I"⟩
abbrev cX6_where : ByteArray := prog_1_method_18_code
def yX6_where : MethodName := ⟨RX6, "where", "(II)I"⟩
abbrev cX6_heard : ByteArray := prog_1_method_19_code
def yX6_heard : MethodName := ⟨RX6, "heard", "(II)I"⟩
abbrev cX6_ahead : ByteArray := prog_1_method_20_code
def yX6_ahead : MethodName := ⟨RX6, "ahead", "(III)I"⟩
abbrev cX6_length : ByteArray := prog_1_method_21_code
def yX6_length : MethodName := ⟨RX6, "length", "(I)I"⟩
abbrev cX6_meet : ByteArray := prog_1_method_22_code
def yX6_meet : MethodName := ⟨RX6, "meet", "(II)I"⟩
abbrev cX6_choir : ByteArray := prog_1_method_23_code
def yX6_choir : MethodName := ⟨RX6, "choir", "(I)I"⟩
abbrev cX6_twins : ByteArray := prog_1_method_24_code
def yX6_twins : MethodName := ⟨RX6, "twins", "(I)I"⟩
abbrev cX6_felt : ByteArray := prog_1_method_25_code
def yX6_felt : MethodName := ⟨RX6, "felt", "(III)I"⟩
abbrev cX6_doors : ByteArray := prog_1_method_26_code
def yX6_doors : MethodName := ⟨RX6, "doors", "(I)I"⟩
abbrev cX6_planed : ByteArray := prog_1_method_27_code
def yX6_planed : MethodName := ⟨RX6, "planed", "(I)I"⟩
abbrev cX6_rise : ByteArray := prog_1_method_28_code
def yX6_rise : MethodName := ⟨RX6, "rise", "(IIII)I"⟩
abbrev cX6_what : ByteArray := prog_1_method_29_code
def yX6_what : MethodName := ⟨RX6, "what", "(IIIIIII)I"⟩
abbrev cX6_who : ByteArray := prog_1_method_30_code
def yX6_who : MethodName := ⟨RX6, "who", "(IIIIIII)I"⟩
abbrev cX6_rots : ByteArray := prog_1_method_31_code
def yX6_rots : MethodName := ⟨RX6, "rots", "(IIII)J"⟩
abbrev cX6_drawn : ByteArray := prog_1_method_32_code
def yX6_drawn : MethodName := ⟨RX6, "drawn", "(III)I"⟩
abbrev cX6_image : ByteArray := prog_1_method_33_code
def yX6_image : MethodName := ⟨RX6, "image", "(I)I"⟩
abbrev cX6_restore : ByteArray := prog_1_method_34_code
def yX6_restore : MethodName := ⟨RX6, "restore", "(I)I"⟩
abbrev cX6_kind : ByteArray := prog_1_method_35_code
def yX6_kind : MethodName := ⟨RX6, "kind", "(I)I"⟩
abbrev cX6_as : ByteArray := prog_1_method_36_code
def yX6_as : MethodName := ⟨RX6, "as", "(II)I"⟩
abbrev cX6_ask : ByteArray := prog_1_method_37_code
def yX6_ask : MethodName := ⟨RX6, "ask", "(II)I"⟩
abbrev cX6_trace : ByteArray := prog_1_method_38_code
def yX6_trace : MethodName := ⟨RX6, "trace", "(I)I"⟩
abbrev cX6_count : ByteArray := prog_1_method_39_code
def yX6_count : MethodName := ⟨RX6, "count", "(I)I"⟩
abbrev cX6_status : ByteArray := prog_1_method_40_code
def yX6_status : MethodName := ⟨RX6, "status", "()I"⟩
abbrev cX6_changed : ByteArray := prog_1_method_41_code
def yX6_changed : MethodName := ⟨RX6, "changed", "(IIII)I"⟩
abbrev cX6_isTelling : ByteArray := prog_1_method_42_code
def yX6_isTelling : MethodName := ⟨RX6, "isTelling", "(IIII)Z"⟩
abbrev cX6_seerOfNow : ByteArray := prog_1_method_43_code
def yX6_seerOfNow : MethodName := ⟨RX6, "seerOfNow", "()LStairTunes$Seer;"⟩
abbrev cX6_seerOfRow : ByteArray := prog_1_method_44_code
def yX6_seerOfRow : MethodName := ⟨RX6, "seerOfRow", "(III)LStairTunes$Seer;"⟩
abbrev cX6_isMinute : ByteArray := prog_1_method_45_code
def yX6_isMinute : MethodName := ⟨RX6, "isMinute", "(I)Z"⟩
abbrev cX6_isFirstOrSecond : ByteArray := prog_1_method_46_code
def yX6_isFirstOrSecond : MethodName := ⟨RX6, "isFirstOrSecond", "(I)Z"⟩
abbrev cX6_isWithin : ByteArray := prog_1_method_47_code
def yX6_isWithin : MethodName := ⟨RX6, "isWithin", "(III)Z"⟩
def RX7 : String := "StairTunesModel"
def TX7 : u_T := fun k => match k with
  | 0 => ("StairTunesModel", "lanes", "[I", true)
  | 1 => ("StairTunesModel", "sizes", "[I", true)
  | 2 => ("StairTunesModel", "items", "[I", true)
  | 3 => ("StairTunesModel", "status", "I", false)
  | 4 => ("StairTunesModel", "isThere", "Z", false)
  | 5 => ("StairTunesModel", "st", "[I", true)
  | 6 => ("StairTunesModel", "moved", "[I", true)
  | 7 => ("StairTunesModel", "tape", "[I", true)
  | 8 => ("StairTunesModel", "bytes", "I", false)
  | 9 => ("StairTunesModel", "latest", "I", false)
  | 10 => ("StairTunesModel", "place", "I", false)
  | 11 => ("StairTunesModel", "token", "I", false)
  | 12 => ("StairTunesModel", "value", "I", false)
  | 13 => ("StairTunesModel", "begins", "I", false)
  | 14 => ("StairTunesModel", "wrong", "I", false)
  | 15 => ("StairTunesModel", "read", "[I", true)
  | 16 => ("StairTunesModel", "acts", "[I", true)
  | 17 => ("StairTunesModel", "actMany", "I", false)
  | 18 => ("StairTunesModel", "aside", "[I", true)
  | 19 => ("StairTunesModel", "firstPair", "I", false)
  | 20 => ("StairTunesModel", "isKept", "[Z", true)
  | 21 => ("StairTunesModel", "kept", "[I", true)
  | 22 => ("StairTunesModel", "trace", "[I", true)
  | _ => ("StairTunesModel", "traced", "I", false)
def tyX7 : Nat → FieldType := fun k => match k with
  | 0 => .array .int
  | 1 => .array .int
  | 2 => .array .int
  | 3 => .int
  | 4 => .boolean
  | 5 => .array .int
  | 6 => .array .int
  | 7 => .array .int
  | 8 => .int
  | 9 => .int
  | 10 => .int
  | 11 => .int
  | 12 => .int
  | 13 => .int
  | 14 => .int
  | 15 => .array .int
  | 16 => .array .int
  | 17 => .int
  | 18 => .array .int
  | 19 => .int
  | 20 => .array .boolean
  | 21 => .array .int
  | 22 => .array .int
  | _ => .int
theorem nmX7 : ∀ a, a < 24 → ∀ b, b < 24 → a ≠ b → (TX7 a).2.1 ≠ (TX7 b).2.1 := by decide +kernel
theorem tyX7_ok : ∀ k, k < 24 → parseFieldDescriptor (TX7 k).2.2.1 = some (tyX7 k) := by decide +kernel
abbrev cX7_init : ByteArray := prog_9_method_1_code
def yX7_init : MethodName := ⟨RX7, "<init>", "()V"⟩
abbrev cX7_in : ByteArray := prog_9_method_2_code
def yX7_in : MethodName := ⟨RX7, "in", "(JJJ)Z"⟩
abbrev cX7_has : ByteArray := prog_9_method_3_code
def yX7_has : MethodName := ⟨RX7, "has", "(II)Z"⟩
abbrev cX7_ones : ByteArray := prog_9_method_4_code
def yX7_ones : MethodName := ⟨RX7, "ones", "(I)I"⟩
abbrev cX7_find : ByteArray := prog_9_method_5_code
def yX7_find : MethodName := ⟨RX7, "find", "(I)I"⟩
abbrev cX7_well : ByteArray := prog_9_method_6_code
def yX7_well : MethodName := ⟨RX7, "well", "(I)I"⟩
abbrev cX7_isRow : ByteArray := prog_9_method_7_code
def yX7_isRow : MethodName := ⟨RX7, "isRow", "(I)Z"⟩
abbrev cX7_row : ByteArray := prog_9_method_8_code
def yX7_row : MethodName := ⟨RX7, "row", "(III)I"⟩
abbrev cX7_asLane : ByteArray := prog_9_method_9_code
def yX7_asLane : MethodName := ⟨RX7, "asLane", "(II)I"⟩
abbrev cX7_set : ByteArray := prog_9_method_10_code
def yX7_set : MethodName := ⟨RX7, "set", "(III)I"⟩
abbrev cX7_copy : ByteArray := prog_9_method_11_code
def yX7_copy : MethodName := ⟨RX7, "copy", "(IIIII)I"⟩
abbrev cX7_drop : ByteArray := prog_9_method_12_code
def yX7_drop : MethodName := ⟨RX7, "drop", "(I)I"⟩
abbrev cX7_feed : ByteArray := prog_9_method_13_code
def yX7_feed : MethodName := ⟨RX7, "feed", "(I)I"⟩
abbrev cX7_nextToken : ByteArray := prog_9_method_14_code
def yX7_nextToken : MethodName := ⟨RX7, "nextToken", "()V"⟩
abbrev cX7_faults : ByteArray := prog_9_method_15_code
def yX7_faults : MethodName := ⟨RX7, "faults", "(I)Z"⟩
abbrev cX7_isLetter : ByteArray := prog_9_method_16_code
def yX7_isLetter : MethodName := ⟨RX7, "isLetter", "(I)Z"⟩
abbrev cX7_takes : ByteArray := prog_9_method_17_code
def yX7_takes : MethodName := ⟨RX7, "takes", "(I)Z"⟩
abbrev cX7_takesNumber : ByteArray := prog_9_method_18_code
def yX7_takesNumber : MethodName := ⟨RX7, "takesNumber", "(IIII)Z"⟩
abbrev cX7_readTread : ByteArray := prog_9_method_19_code
def yX7_readTread : MethodName := ⟨RX7, "readTread", "(I)Z"⟩
abbrev cX7_readWalker : ByteArray := prog_9_method_20_code
def yX7_readWalker : MethodName := ⟨RX7, "readWalker", "()Z"⟩
abbrev cX7_kindBy : ByteArray := prog_9_method_21_code
def yX7_kindBy : MethodName := ⟨RX7, "kindBy", "(I)I"⟩
abbrev cX7_readTown : ByteArray := prog_9_method_22_code
def yX7_readTown : MethodName := ⟨RX7, "readTown", "()Z"⟩
abbrev cX7_town : ByteArray := prog_9_method_23_code
def yX7_town : MethodName := ⟨RX7, "town", "()I"⟩
abbrev cX7_fault : ByteArray := prog_9_method_24_code
def yX7_fault : MethodName := ⟨RX7, "fault", "()I"⟩
abbrev cX7_isTread : ByteArray := prog_9_method_25_code
def yX7_isTread : MethodName := ⟨RX7, "isTread", "(I)Z"⟩
abbrev cX7_isWalker : ByteArray := prog_9_method_26_code
def yX7_isWalker : MethodName := ⟨RX7, "isWalker", "(I)Z"⟩
abbrev cX7_isMinute : ByteArray := prog_9_method_27_code
def yX7_isMinute : MethodName := ⟨RX7, "isMinute", "(I)Z"⟩
abbrev cX7_size : ByteArray := prog_9_method_28_code
def yX7_size : MethodName := ⟨RX7, "size", "(I)I"⟩
abbrev cX7_longOf : ByteArray := prog_9_method_29_code
def yX7_longOf : MethodName := ⟨RX7, "longOf", "(I)I"⟩
abbrev cX7_treadOf : ByteArray := prog_9_method_30_code
def yX7_treadOf : MethodName := ⟨RX7, "treadOf", "(II)I"⟩
abbrev cX7_at : ByteArray := prog_9_method_31_code
def yX7_at : MethodName := ⟨RX7, "at", "(II)I"⟩
abbrev cX7_toneOf : ByteArray := prog_9_method_32_code
def yX7_toneOf : MethodName := ⟨RX7, "toneOf", "(I)I"⟩
abbrev cX7_isWet : ByteArray := prog_9_method_33_code
def yX7_isWet : MethodName := ⟨RX7, "isWet", "()Z"⟩
abbrev cX7_sound : ByteArray := prog_9_method_34_code
def yX7_sound : MethodName := ⟨RX7, "sound", "(II)I"⟩
abbrev cX7_heardAt : ByteArray := prog_9_method_35_code
def yX7_heardAt : MethodName := ⟨RX7, "heardAt", "(II)I"⟩
abbrev cX7_oneDay : ByteArray := prog_9_method_36_code
def yX7_oneDay : MethodName := ⟨RX7, "oneDay", "()V"⟩
abbrev cX7_note : ByteArray := prog_9_method_37_code
def yX7_note : MethodName := ⟨RX7, "note", "()V"⟩
abbrev cX7_undo : ByteArray := prog_9_method_38_code
def yX7_undo : MethodName := ⟨RX7, "undo", "()I"⟩
abbrev cX7_allWorn : ByteArray := prog_9_method_39_code
def yX7_allWorn : MethodName := ⟨RX7, "allWorn", "()I"⟩
abbrev cX7_days : ByteArray := prog_9_method_40_code
def yX7_days : MethodName := ⟨RX7, "days", "(I)I"⟩
abbrev cX7_planeTo : ByteArray := prog_9_method_41_code
def yX7_planeTo : MethodName := ⟨RX7, "planeTo", "(II)V"⟩
abbrev cX7_plane : ByteArray := prog_9_method_42_code
def yX7_plane : MethodName := ⟨RX7, "plane", "(II)I"⟩
abbrev cX7_reach : ByteArray := prog_9_method_43_code
def yX7_reach : MethodName := ⟨RX7, "reach", "(I)I"⟩
abbrev cX7_way : ByteArray := prog_9_method_44_code
def yX7_way : MethodName := ⟨RX7, "way", "(III)I"⟩
abbrev cX7_gait : ByteArray := prog_9_method_45_code
def yX7_gait : MethodName := ⟨RX7, "gait", "(III)I"⟩
abbrev cX7_whoSteps : ByteArray := prog_9_method_46_code
def yX7_whoSteps : MethodName := ⟨RX7, "whoSteps", "(I)I"⟩
abbrev cX7_tread : ByteArray := prog_9_method_47_code
def yX7_tread : MethodName := ⟨RX7, "tread", "(II)I"⟩
abbrev cX7_walker : ByteArray := prog_9_method_48_code
def yX7_walker : MethodName := ⟨RX7, "walker", "(II)I"⟩
abbrev cX7_tuneOf : ByteArray := prog_9_method_49_code
def yX7_tuneOf : MethodName := ⟨RX7, "tuneOf", "(II)I"⟩
abbrev cX7_tune : ByteArray := prog_9_method_50_code
def yX7_tune : MethodName := ⟨RX7, "tune", "(II)I"⟩
abbrev cX7_where : ByteArray := prog_9_method_51_code
def yX7_where : MethodName := ⟨RX7, "where", "(II)I"⟩
abbrev cX7_heard : ByteArray := prog_9_method_52_code
def yX7_heard : MethodName := ⟨RX7, "heard", "(II)I"⟩
abbrev cX7_putAside : ByteArray := prog_9_method_53_code
def yX7_putAside : MethodName := ⟨RX7, "putAside", "()V"⟩
abbrev cX7_takeBack : ByteArray := prog_9_method_54_code
def yX7_takeBack : MethodName := ⟨RX7, "takeBack", "()V"⟩
abbrev cX7_isWhat : ByteArray := prog_9_method_55_code
def yX7_isWhat : MethodName := ⟨RX7, "isWhat", "(I)Z"⟩
abbrev cX7_ahead : ByteArray := prog_9_method_56_code
def yX7_ahead : MethodName := ⟨RX7, "ahead", "(III)I"⟩
abbrev cX7_length : ByteArray := prog_9_method_57_code
def yX7_length : MethodName := ⟨RX7, "length", "(I)I"⟩
abbrev cX7_meet : ByteArray := prog_9_method_58_code
def yX7_meet : MethodName := ⟨RX7, "meet", "(II)I"⟩
abbrev cX7_allIn : ByteArray := prog_9_method_59_code
def yX7_allIn : MethodName := ⟨RX7, "allIn", "(I)I"⟩
abbrev cX7_choir : ByteArray := prog_9_method_60_code
def yX7_choir : MethodName := ⟨RX7, "choir", "(I)I"⟩
abbrev cX7_areTwins : ByteArray := prog_9_method_61_code
def yX7_areTwins : MethodName := ⟨RX7, "areTwins", "(II)Z"⟩
abbrev cX7_twinsMany : ByteArray := prog_9_method_62_code
def yX7_twinsMany : MethodName := ⟨RX7, "twinsMany", "()I"⟩
abbrev cX7_twins : ByteArray := prog_9_method_63_code
def yX7_twins : MethodName := ⟨RX7, "twins", "(I)I"⟩
abbrev cX7_isHeard : ByteArray := prog_9_method_64_code
def yX7_isHeard : MethodName := ⟨RX7, "isHeard", "(II)Z"⟩
abbrev cX7_felt : ByteArray := prog_9_method_65_code
def yX7_felt : MethodName := ⟨RX7, "felt", "(III)I"⟩
abbrev cX7_areHeard : ByteArray := prog_9_method_66_code
def yX7_areHeard : MethodName := ⟨RX7, "areHeard", "(I)Z"⟩
abbrev cX7_doors : ByteArray := prog_9_method_67_code
def yX7_doors : MethodName := ⟨RX7, "doors", "(I)I"⟩
abbrev cX7_planed : ByteArray := prog_9_method_68_code
def yX7_planed : MethodName := ⟨RX7, "planed", "(I)I"⟩
abbrev cX7_isRise : ByteArray := prog_9_method_69_code
def yX7_isRise : MethodName := ⟨RX7, "isRise", "(III)Z"⟩
abbrev cX7_rise : ByteArray := prog_9_method_70_code
def yX7_rise : MethodName := ⟨RX7, "rise", "(IIII)I"⟩
abbrev cX7_lacks : ByteArray := prog_9_method_71_code
def yX7_lacks : MethodName := ⟨RX7, "lacks", "(III)I"⟩
abbrev cX7_isSo : ByteArray := prog_9_method_72_code
def yX7_isSo : MethodName := ⟨RX7, "isSo", "(IIII)Z"⟩
abbrev cX7_fits : ByteArray := prog_9_method_73_code
def yX7_fits : MethodName := ⟨RX7, "fits", "(IIIIIII)I"⟩
abbrev cX7_what : ByteArray := prog_9_method_74_code
def yX7_what : MethodName := ⟨RX7, "what", "(IIIIIII)I"⟩
abbrev cX7_who : ByteArray := prog_9_method_75_code
def yX7_who : MethodName := ⟨RX7, "who", "(IIIIIII)I"⟩
abbrev cX7_rots : ByteArray := prog_9_method_76_code
def yX7_rots : MethodName := ⟨RX7, "rots", "(IIII)J"⟩
abbrev cX7_soundsMany : ByteArray := prog_9_method_77_code
def yX7_soundsMany : MethodName := ⟨RX7, "soundsMany", "()I"⟩
abbrev cX7_allTones : ByteArray := prog_9_method_78_code
def yX7_allTones : MethodName := ⟨RX7, "allTones", "()I"⟩
abbrev cX7_drawn : ByteArray := prog_9_method_79_code
def yX7_drawn : MethodName := ⟨RX7, "drawn", "(III)I"⟩
abbrev cX7_image : ByteArray := prog_9_method_80_code
def yX7_image : MethodName := ⟨RX7, "image", "(I)I"⟩
abbrev cX7_restore : ByteArray := prog_9_method_81_code
def yX7_restore : MethodName := ⟨RX7, "restore", "(I)I"⟩
abbrev cX7_kind : ByteArray := prog_9_method_82_code
def yX7_kind : MethodName := ⟨RX7, "kind", "(I)I"⟩
abbrev cX7_isKind : ByteArray := prog_9_method_83_code
def yX7_isKind : MethodName := ⟨RX7, "isKind", "(II)Z"⟩
abbrev cX7_as : ByteArray := prog_9_method_84_code
def yX7_as : MethodName := ⟨RX7, "as", "(II)I"⟩
abbrev cX7_begin : ByteArray := prog_9_method_85_code
def yX7_begin : MethodName := ⟨RX7, "begin", "(I)V"⟩
abbrev cX7_lent : ByteArray := prog_9_method_86_code
def yX7_lent : MethodName := ⟨RX7, "lent", "(II)I"⟩
abbrev cX7_plainMark : ByteArray := prog_9_method_87_code
def yX7_plainMark : MethodName := ⟨RX7, "plainMark", "(I)I"⟩
abbrev cX7_rottenSize : ByteArray := prog_9_method_88_code
def yX7_rottenSize : MethodName := ⟨RX7, "rottenSize", "(I)I"⟩
abbrev cX7_sizeOfRotten : ByteArray := prog_9_method_89_code
def yX7_sizeOfRotten : MethodName := ⟨RX7, "sizeOfRotten", "(I)I"⟩
abbrev cX7_markOf : ByteArray := prog_9_method_90_code
def yX7_markOf : MethodName := ⟨RX7, "markOf", "(I)I"⟩
abbrev cX7_plainSize : ByteArray := prog_9_method_91_code
def yX7_plainSize : MethodName := ⟨RX7, "plainSize", "(I)I"⟩
abbrev cX7_sizeOf : ByteArray := prog_9_method_92_code
def yX7_sizeOf : MethodName := ⟨RX7, "sizeOf", "(I)I"⟩
abbrev cX7_ask : ByteArray := prog_9_method_93_code
def yX7_ask : MethodName := ⟨RX7, "ask", "(II)I"⟩
abbrev cX7_trace : ByteArray := prog_9_method_94_code
def yX7_trace : MethodName := ⟨RX7, "trace", "(I)I"⟩
abbrev cX7_count : ByteArray := prog_9_method_95_code
def yX7_count : MethodName := ⟨RX7, "count", "(I)I"⟩
abbrev cX7_status : ByteArray := prog_9_method_96_code
def yX7_status : MethodName := ⟨RX7, "status", "()I"⟩
def RJ6 : String := "java/lang/Integer"
abbrev cJ6_bitCount_0f7a4 : ByteArray := prog_10_method_49_code
def yJ6_bitCount_0f7a4 : MethodName := ⟨RJ6, "bitCount", "(I)I"⟩
def RJ9 : String := "java/lang/Math"
abbrev cJ9_abs_0f7a4 : ByteArray := prog_11_method_59_code
def yJ9_abs_0f7a4 : MethodName := ⟨RJ9, "abs", "(I)I"⟩
abbrev cJ9_max_7cf53 : ByteArray := prog_11_method_65_code
def yJ9_max_7cf53 : MethodName := ⟨RJ9, "max", "(II)I"⟩
abbrev cJ9_min_7cf53 : ByteArray := prog_11_method_69_code
def yJ9_min_7cf53 : MethodName := ⟨RJ9, "min", "(II)I"⟩
def RJ10 : String := "java/lang/System"
def RL : String := "StairTunesLaw"
abbrev cL_law : ByteArray := code
def yL_law : MethodName := ⟨RL, "law", "([I)Z"⟩
abbrev vwCl : List vw_C := [(RX0, TX0, 6), (RX1, TX1, 3), (RX2, TX2, 6), (RX3, TX3, 5), (RX4, TX4, 3), (RX5, TX5, 9), (RX6, TX6, 8), (RX7, TX7, 24)]
end
section
/-! BASE: the memory of the two systems as numbers; the world that holds it; contracts over it -/
-- the numbers of all cells: kind, index, place; and the long array
abbrev z_M : Type := (Nat → Nat → Nat → Int32) × (Nat → Int64)
def z_gi (M : z_M) (k i j : Nat) : Int32 := M.1 k i j
def z_gl (M : z_M) (j : Nat) : Int64 := M.2 j
def z_si (M : z_M) (k i j : Nat) (v : Int32) : z_M := (fun a b c => if a = k ∧ b = i ∧ c = j then v else M.1 a b c, M.2)
def z_sl (M : z_M) (j : Nat) (v : Int64) : z_M := (M.1, fun c => if c = j then v else M.2 c)
def z_cp (M : z_M) (k i k' i' sp dp n : Nat) : z_M := (fun a b c => if a = k' ∧ b = i' ∧ dp ≤ c ∧ c < dp + n then M.1 k i (sp + (c - dp)) else M.1 a b c, M.2)
-- steps of the functions that tell what a method does
abbrev z_in (x : Int32) (n : Nat) : Prop := ¬ (x < 0 ∨ n ≤ x.toNatClampNeg)
def z_grd {α : Type} (p : Prop) [Decidable p] (x : Option α) : Option α := if p then x else none
def z_nmI {α : Type} (e : Int32) (f : Int32 → Option α) : Option α := f e
def z_nmL {α : Type} (e : Int64) (f : Int64 → Option α) : Option α := f e
theorem z_grd_some {α : Type} {p : Prop} [Decidable p] {x : Option α} {y : α} (h : z_grd p x = some y) : p ∧ x = some y := by
  unfold z_grd at h
  split at h
  · rename_i hp; exact ⟨hp, h⟩
  · cases h
theorem z_bnd {α β : Type} {x : Option α} {f : α → Option β} {y : β} (h : x.bind f = some y) : ∃ z, x = some z ∧ f z = some y := Option.bind_eq_some_iff.mp h
theorem z_ift {α : Type} {p : Prop} [Decidable p] {A B : α} {y : α} (h : (if p then A else B) = y) (c : p) : A = y := (if_pos c).symm.trans h
theorem z_iff {α : Type} {p : Prop} [Decidable p] {A B : α} {y : α} (h : (if p then A else B) = y) (c : ¬ p) : B = y := (if_neg c).symm.trans h
-- what is fixed: the classes' numbers, the array classes, the addresses, the statics' addresses, the first address of ours
abbrev z_G : Type := va_G × (ClassId × ClassId × ClassId × ClassId) × (Nat → Nat → Nat) × (Nat → Nat) × Nat
def z_gD (G : z_G) : va_G := G.1
def z_cI (G : z_G) : ClassId := G.2.1.1
def z_cJ (G : z_G) : ClassId := G.2.1.2.1
def z_cZ (G : z_G) : ClassId := G.2.1.2.2.1
def z_cT (G : z_G) : ClassId := G.2.1.2.2.2
def z_ad (G : z_G) : Nat → Nat → Nat := G.2.2.1
def z_st (G : z_G) : Nat → Nat := G.2.2.2.1
def z_bs (G : z_G) : Nat := G.2.2.2.2
def z_A (G : z_G) : Nat → Prop := fun q => z_bs G ≤ q
def z_tys (G : z_G) : List (ClassId × FieldType) := [(z_cI G, .int), (z_cJ G, .long), (z_cZ G, .boolean), (z_cT G, .object RX5)]
def z_cnt (k : Nat) : Nat := if 7 ≤ k ∧ k ≤ 11 then 29 else if k < 34 then 1 else 0
def z_ixs : List (Nat × Nat) := (List.range 34).flatMap fun k => (List.range (z_cnt k)).map fun i => (k, i)
theorem z_ixs_nd : z_ixs.Nodup := by decide +kernel
theorem z_ixm {k i : Nat} (hk : k < 34) (hi : i < z_cnt k) : (k, i) ∈ z_ixs :=
  List.mem_flatMap.mpr ⟨k, List.mem_range.mpr hk, List.mem_map.mpr ⟨i, List.mem_range.mpr hi, rfl⟩⟩
def z_sh (G : z_G) (q : Nat × Nat) (f : Nat → Int32) (g : Nat → Int64) : va_E := match q.1 with
  | 0 => .inr (6, [.ref (z_ad G 1 0), .ref (z_ad G 5 0), .ref (z_ad G 7 24), .ref (z_ad G 12 0), .ref (z_ad G 14 0), .ref (z_ad G 15 0), .ref (z_ad G 19 0), .int (f 7)])
  | 1 => .inr (4, [.ref (z_ad G 2 0), .ref (z_ad G 3 0), .ref (z_ad G 4 0)])
  | 2 => .inl (z_cI G, 320, .inl f)
  | 3 => .inl (z_cI G, 8, .inl f)
  | 4 => .inl (z_cI G, 8, .inl f)
  | 5 => .inr (2, [.ref (z_ad G 6 0), .ref (z_ad G 7 28), .int (f 2), .int (f 3), .int (f 4), .int (f 5)])
  | 6 => .inl (z_cI G, 100, .inl f)
  | 7 => .inr (5, [.ref (z_ad G 8 q.2), .ref (z_ad G 9 q.2), .ref (z_ad G 10 q.2), .ref (z_ad G 11 q.2), .int (f 4), .int (f 5), .int (f 6), .int (f 7), .int (f 8)])
  | 8 => .inl (z_cI G, 8, .inl f)
  | 9 => .inl (z_cI G, 8, .inl f)
  | 10 => .inl (z_cI G, 8, .inl f)
  | 11 => .inl (z_cI G, 20, .inl f)
  | 12 => .inr (1, [.ref (z_ad G 13 0), .int (f 1), .int (f 2)])
  | 13 => .inl (z_cT G, 24, .inr (.inr (.inr (.inr (fun j => some (z_ad G 7 (0 + j)))))))
  | 14 => .inl (z_cT G, 2, .inr (.inr (.inr (.inr (fun j => some (z_ad G 7 (25 + j)))))))
  | 15 => .inr (3, [.ref (z_ad G 7 27), .ref (z_ad G 16 0), .ref (z_ad G 17 0), .ref (z_ad G 18 0), .int (f 4)])
  | 16 => .inl (z_cI G, 12, .inl f)
  | 17 => .inl (z_cI G, 5, .inl f)
  | 18 => .inl (z_cJ G, 5, .inr (.inl g))
  | 19 => .inr (0, [.ref (z_ad G 20 0), .int (f 1), .int (f 2), .int (f 3), .int (f 4), .int (f 5)])
  | 20 => .inl (z_cI G, 16, .inl f)
  | 21 => .inr (7, [.ref (z_ad G 22 0), .ref (z_ad G 23 0), .ref (z_ad G 24 0), .int (f 3), .int (f 4), .ref (z_ad G 25 0), .ref (z_ad G 26 0), .ref (z_ad G 27 0), .int (f 8), .int (f 9), .int (f 10), .int (f 11), .int (f 12), .int (f 13), .int (f 14), .ref (z_ad G 28 0), .ref (z_ad G 29 0), .int (f 17), .ref (z_ad G 30 0), .int (f 19), .ref (z_ad G 31 0), .ref (z_ad G 32 0), .ref (z_ad G 33 0), .int (f 23)])
  | 22 => .inl (z_cI G, 8, .inl f)
  | 23 => .inl (z_cI G, 8, .inl f)
  | 24 => .inl (z_cI G, 320, .inl f)
  | 25 => .inl (z_cI G, 49, .inl f)
  | 26 => .inl (z_cI G, 40, .inl f)
  | 27 => .inl (z_cI G, 100, .inl f)
  | 28 => .inl (z_cI G, 49, .inl f)
  | 29 => .inl (z_cI G, 1176, .inl f)
  | 30 => .inl (z_cI G, 49, .inl f)
  | 31 => .inl (z_cZ G, 2, .inl f)
  | 32 => .inl (z_cI G, 98, .inl f)
  | _ => .inl (z_cI G, 16, .inl f)
def z_ce (G : z_G) (M : z_M) (q : Nat × Nat) : Nat × va_E := (z_ad G q.1 q.2, z_sh G q (M.1 q.1 q.2) M.2)
def z_ws (G : z_G) (M : z_M) : va_W := z_ixs.map (z_ce G M)
theorem z_at {G : z_G} {M : z_M} {q : Nat × Nat} (h : q ∈ z_ixs) : ∃ p : Nat, z_ixs[p]? = some q ∧ (z_ws G M)[p]? = some (z_ce G M q) := by
  obtain ⟨p, hp⟩ := List.getElem?_of_mem h
  exact ⟨p, hp, by unfold z_ws; rw [List.getElem?_map, hp]; rfl⟩
theorem z_set {G : z_G} {M M' : z_M} {q : Nat × Nat} {p : Nat} {x : Nat × va_E} (hp : z_ixs[p]? = some q) (hx : x = z_ce G M' q) (ho : ∀ r, r ≠ q → z_ce G M r = z_ce G M' r) : (z_ws G M).set p x = z_ws G M' := by
  subst hx
  unfold z_ws
  apply List.ext_getElem?
  intro j
  by_cases hj : j = p
  · subst hj
    have hl : j < z_ixs.length := (List.getElem?_eq_some_iff.mp hp).1
    rw [List.getElem?_set_self (by simpa using hl), List.getElem?_map, hp]
    rfl
  · rw [List.getElem?_set_ne (Ne.symm hj), List.getElem?_map, List.getElem?_map]
    cases hr : z_ixs[j]? with
    | none => rfl
    | some r =>
      have hne : r ≠ q := by
        intro e
        subst e
        exact hj ((List.getElem?_inj (List.getElem?_eq_some_iff.mp hr).1 z_ixs_nd).mp (hr.trans hp.symm))
      simp only [Option.map_some]
      rw [ho r hne]
theorem z_ce_si {G : z_G} {M : z_M} {k i j : Nat} {v : Int32} : ∀ r, r ≠ (k, i) → z_ce G M r = z_ce G (z_si M k i j v) r := by
  rintro ⟨a, b⟩ h
  have e : (z_si M k i j v).1 a b = M.1 a b := by
    funext c
    simp only [z_si]
    rw [if_neg]
    rintro ⟨h1, h2, -⟩
    exact h (by rw [h1, h2])
  unfold z_ce
  rw [show (z_si M k i j v).1 (a, b).1 (a, b).2 = M.1 a b from e]
  rfl
theorem z_si_self {M : z_M} {k i j : Nat} {v : Int32} : (z_si M k i j v).1 k i = upd (M.1 k i) j v := by
  funext c
  simp [z_si, upd]
theorem z_cp_self {M : z_M} {k i k' i' sp dp n : Nat} : (z_cp M k i k' i' sp dp n).1 k' i' = va_cpy (M.1 k i) (M.1 k' i') sp dp n := by
  funext c
  simp [z_cp, va_cpy]
theorem z_ce_cp {G : z_G} {M : z_M} {k i k' i' sp dp n : Nat} : ∀ r, r ≠ (k', i') → z_ce G M r = z_ce G (z_cp M k i k' i' sp dp n) r := by
  rintro ⟨a, b⟩ h
  have e : (z_cp M k i k' i' sp dp n).1 a b = M.1 a b := by
    funext c
    simp only [z_cp]
    rw [if_neg]
    rintro ⟨h1, h2, -⟩
    exact h (by rw [h1, h2])
  unfold z_ce
  rw [show (z_cp M k i k' i' sp dp n).1 (a, b).1 (a, b).2 = M.1 a b from e]
  rfl
-- the static tables of Asks: ABOVE, SIZE_BODIES, MARK_BODIES
def z_sf (j : Nat) : String := if j = 0 then "ABOVE" else if j = 1 then "SIZE_BODIES" else "MARK_BODIES"
def z_sl0 : List Int32 := [-1, 0, 1, 1, 0, 4]
def z_sl1 : List Int32 := [10, 11, 12, 0, 13, 14]
def z_sl2 : List Int32 := [20, 21, 24, 22, 23, 0]
def z_sv (j t : Nat) : Int32 := (if j = 0 then z_sl0 else if j = 1 then z_sl1 else z_sl2).getD t 0
-- what stays: the tables of classes, the static tables
def z_Kc (G : z_G) (s : State) : Prop := va_K (z_gD G) vwCl (z_tys G) s ∧ (∀ j, j < 3 → va_Z RX0 (z_sf j) "[I" (.ref (z_st G j)) (z_A G) s s.heap) ∧ ∀ j, j < 3 → va_T .int (z_st G j) 6 (fun t => .int (z_sv j t)) (z_A G) s s.heap
def z_Wd (G : z_G) (M : z_M) (U : State) : Prop := z_Kc G U ∧ va_P (z_gD G) vwCl (z_ws G M) U.heap ∧ va_D (z_A G) (z_ws G M)
def z_I (G : z_G) (s : State) (M : z_M) (H : Heap) (locs : List Loc) : Prop := z_Kc G s ∧ va_P (z_gD G) vwCl (z_ws G M) H ∧ va_D (z_A G) (z_ws G M) ∧ va_S (z_A G) s.heap H locs ∧ z_bs G ≤ s.heap.size
theorem z_Kc.go {G : z_G} {u U : State} {H : Heap} {locs : List Loc} (h : z_Kc G u) (hS : va_S (z_A G) u.heap H locs) (hU : U.heap = H) (hvm : u.vm.Alike U.vm) : z_Kc G U := by
  obtain ⟨h1, h2, h3⟩ := h
  subst hU
  exact ⟨va_K.moved hvm h1, fun j hj => va_Z.kept (va_Z.moved hvm (h2 j hj)) (fun a ha hA => hS.2.1 a ha hA), fun j hj => va_T.kept (va_T.moved hvm (h3 j hj)) (fun a ha hA => hS.2.1 a ha hA)⟩
theorem z_Wd.blind {G : z_G} {M : z_M} {U : State} {g : JFrame} {mk : MethodId} {a : Array Value} (h : z_Wd G M U) : z_Wd G M (U.calling g mk a) := by
  obtain ⟨⟨h1, h2, h3⟩, h4, h5⟩ := h
  have hvm : U.vm.Alike (U.calling g mk a).vm := Vm.Alike.refl U.vm
  exact ⟨⟨va_K.moved hvm h1, fun j hj => va_Z.moved hvm (h2 j hj), fun j hj => va_T.moved hvm (h3 j hj)⟩, h4, h5⟩
def z_Q (G : z_G) (v : Option Value) (M : z_M) : Array Value → State → Outcome → State → Prop := fun _ st oc t => oc = .returned v ∧ z_Wd G M t ∧ va_F (z_A G) st t
/-- the words that any call may carry -/
def z_tb : List Cond := lw_tbl.filter goodWord
def z_rm (d : Nat) : Room := { frames := d, cells := 0, slots := 0, locals := 40 * d + 64 }
def z_wm (y : MethodName) (cc : ByteArray) (nL : Nat) (ret : Option FieldType) : List Cond := .code y cc nL ret :: z_tb
/-- the contract: from any world that holds M, the method answers v, and the world holds M' -/
def z_Met (G : z_G) (l : Launch) (y : MethodName) (cc : ByteArray) (nL : Nat) (ret : Option FieldType) (d : Nat) (av : List Value) (M : z_M) (v : Option Value) (M' : z_M) : Prop :=
  Met l y (z_wm y cc nL ret) (z_rm d) (va_Pc av (fun U => z_Wd G M U ∧ z_bs G ≤ U.heap.size)) (z_Q G v M') 0 0 (z_A G)
def z_C (p : Program) (s : State) (m : MethodId) (args : Array Value) (meth : Method) (c : Code) (own : String) (cc : ByteArray) (nL : Nat) (ret : Option FieldType) : Prop :=
  (p.tables.exec = Jvm.exec ∧ c.code = cc ∧ c.maxLocals = nL ∧ s.vm.findClass own = some m.cls ∧ ∀ w ∈ z_tb, w.before args s = true) ∧ meth.sig.returnType = ret ∧ meth.locks = false
theorem z_goodIn {ws : List Cond} (h : ∀ w ∈ ws, w ∈ z_tb) : GoodIn z_tb ws := fun w hw => ⟨h w hw, good_of_word (List.mem_filter.mp (h w hw)).2⟩
theorem z_tbm {w : Cond} (h : w ∈ lw_tbl) (hg : goodWord w = true) : w ∈ z_tb := List.mem_filter.mpr ⟨h, hg⟩
theorem z_met_of {G : z_G} {l : Launch} {y : MethodName} {own : String} {cc : ByteArray} {nL : Nat} {ret : Option FieldType} {d : Nat} {av : List Value} {M : z_M} {v : Option Value} {M' : z_M} (hy : plainName y.cls = true) (hcl : y.cls = own) (hn : (lg_sl av).length ≤ nL)
    (body : ∀ (p : Program) (e : Env) (s : State) (m : MethodId) (below : List Frame) (meth : Method) (c : Code) (ls : Array Slot), z_C p s m av.toArray meth c own cc nL ret → z_I G s M s.heap [] → lv_has ls nL (lv_args 0 av) →
      W p l e (z_rm d) s m av.toArray below meth c s.heap [] 0 0 (MQ below (z_Q G v M') av.toArray s 0 0 (z_A G)) (F0 m 0 ls [])) : z_Met G l y cc nL ret d av M v M' := by
  subst hcl
  refine Met.ofW (cc := cc) (maxL := nL) (ret := ret) hy rfl ?_
  intro p e s m args below meth c s₁ B hml hv
  obtain ⟨rfl, ⟨hK, hP, hD⟩, hbs⟩ := hv
  have hts := atoms_spec (ws := z_wm y cc nL ret) B.pre
  have hl := lv_entry av (n := nL) hn
  rw [lg_entry_eq]
  exact body p e s m below meth c _ ⟨⟨B.exec, B.bytes, hml, findClass_of_methodNamed B.named, fun w hw => hts w (List.mem_cons_of_mem _ hw)⟩, B.returns, B.notSynchronized⟩ ⟨hK, hP, hD, va_S.rf, hbs⟩ hl

section ZB
variable {p : Program} {l : Launch} {e : Env} {R : Room} {s : State} {m : MethodId} {args : Array Value} {below : List Frame} {meth : Method} {c : Code} {H : Heap} {locs : List Loc} {cells slots : Nat} {Q : State → Prop}
variable {own : String} {cc : ByteArray} {nL : Nat} {ret : Option FieldType} {G : z_G} {M : z_M} {pc : Nat} {ls : Array Slot} {rest : List Value}
/-- naming what was computed -/
theorem z_nI {α : Type} {x : Int32} {f : Int32 → Option α} {o : α} (h : z_nmI x f = some o) (k : ∀ y : Int32, f y = some o → W p l e R s m args below meth c H locs cells slots Q (F0 m pc ls (.int y :: rest))) : W p l e R s m args below meth c H locs cells slots Q (F0 m pc ls (.int x :: rest)) := k x h
theorem z_nL {α : Type} {x : Int64} {f : Int64 → Option α} {o : α} (h : z_nmL x f = some o) (k : ∀ y : Int64, f y = some o → W p l e R s m args below meth c H locs cells slots Q (F0 m pc ls (.long y :: rest))) : W p l e R s m args below meth c H locs cells slots Q (F0 m pc ls (.long x :: rest)) := k x h
/-- a field is read -/
theorem z_get (hc : z_C p s m args meth c own cc nL ret) (hI : z_I G s M H locs) {k i : Nat} (hq : (k, i) ∈ z_ixs) {ci : Nat} {fs : List Value} (hsh : z_sh G (k, i) (M.1 k i) M.2 = .inr (ci, fs)) {C : String} {T : u_T} {N idx : Nat} (hcl : vwCl[ci]? = some (C, T, N)) (hin : ∀ w ∈ u_ws C T N, w ∈ z_tb) (j : Nat) (hj : j < N) (hlink : Cond.fieldLink own idx (T j).1 (T j).2.1 (T j).2.2.1 ∈ z_tb) {v : Value} (hv : fs[j]? = some v) (hdg : decode cc pc = .ok (.getfield idx, 3))
    (kk : W p l e R s m args below meth c H locs cells slots Q (F0 m (pc + 3) ls (v :: rest))) : W p l e R s m args below meth c H locs cells slots Q (F0 m pc ls (.ref (z_ad G k i) :: rest)) := by
  obtain ⟨⟨hx, hb, hml, hown, hts⟩, hr, hlk⟩ := hc
  obtain ⟨hK, hP, hD, hS, -⟩ := hI
  obtain ⟨q0, -, he⟩ := z_at (G := G) (M := M) hq
  exact va_get hx hb hts hin hown hK.1 hP q0 (a := z_ad G k i) (ci := ci) (fs := fs) (by rw [he]; unfold z_ce; rw [hsh]) hcl j hj (hts _ hlink) (fun _ h => h) hv hdg kk
/-- a field of whole numbers is written -/
theorem z_put (hc : z_C p s m args meth c own cc nL ret) (hI : z_I G s M H locs) {k i : Nat} (hq : (k, i) ∈ z_ixs) {ci : Nat} {fs : (Nat → Int32) → List Value} (hsh : ∀ f g, z_sh G (k, i) f g = .inr (ci, fs f)) {C : String} {T : u_T} {N idx : Nat} (hcl : vwCl[ci]? = some (C, T, N)) (hin : ∀ w ∈ u_ws C T N, w ∈ z_tb) (ty0 : Nat → FieldType) (hty : ∀ k, k < N → parseFieldDescriptor (T k).2.2.1 = some (ty0 k)) (hnm : ∀ a, a < N → ∀ b, b < N → a ≠ b → (T a).2.1 ≠ (T b).2.1) (j : Nat) (hj : j < N) (hlink : Cond.fieldLink own idx (T j).1 (T j).2.1 (T j).2.2.1 ∈ z_tb) (hfin : (T j).2.2.2 = false) {ty : FieldType} {x : Int32} (hd : parseFieldDescriptor (T j).2.2.1 = some ty) (hn : narrow ty (.int x) = .int x) (hfit : fits ty (.int x) = true) (hl : ∀ f, j < (fs f).length) (hset : ∀ f, (fs f).set j (.int x) = fs (upd f j x)) (hdg : decode cc pc = .ok (.putfield idx, 3))
    (kk : ∀ (H1 : Heap) (locs1 : List Loc), z_I G s (z_si M k i j x) H1 locs1 → W p l e R s m args below meth c H1 locs1 cells slots Q (F0 m (pc + 3) ls rest)) : W p l e R s m args below meth c H locs cells slots Q (F0 m pc ls (.int x :: .ref (z_ad G k i) :: rest)) := by
  obtain ⟨⟨hx, hb, hml, hown, hts⟩, hr, hlk⟩ := hc
  obtain ⟨hK, hP, hD, hS, hbs⟩ := hI
  obtain ⟨q0, hq0, he⟩ := z_at (G := G) (M := M) hq
  refine va_put hx hb hts hin ty0 hty hnm hown hK.1 hP hD hS q0 (a := z_ad G k i) (ci := ci) (fs := fs (M.1 k i)) (by rw [he]; unfold z_ce; rw [hsh]) hcl j hj (hts _ hlink) (fun _ h => h) hfin hd hn hfit (hl _) hdg (fun H1 locs1 hP1 hD1 hS1 => ?_)
  have e : (z_ws G M).set q0 (z_ad G k i, .inr (ci, (fs (M.1 k i)).set j (.int x))) = z_ws G (z_si M k i j x) := z_set hq0 (by unfold z_ce; rw [hsh, hset]; show _ = (z_ad G k i, Sum.inr (ci, fs ((z_si M k i j x).1 k i))); rw [z_si_self]) z_ce_si
  rw [e] at hP1 hD1
  exact kk H1 locs1 ⟨hK, hP1, hD1, hS1, hbs⟩
theorem z_tyI {G : z_G} : (z_tys G)[0]? = some (z_cI G, .int) := rfl
theorem z_tyJ {G : z_G} : (z_tys G)[1]? = some (z_cJ G, .long) := rfl
theorem z_tyZ {G : z_G} : (z_tys G)[2]? = some (z_cZ G, .boolean) := rfl
theorem z_tyT {G : z_G} : (z_tys G)[3]? = some (z_cT G, .object RX5) := rfl
/-- int arrays -/
theorem z_ild (hc : z_C p s m args meth c own cc nL ret) (hI : z_I G s M H locs) {k i n : Nat} (hq : (k, i) ∈ z_ixs) (hsh : ∀ f g, z_sh G (k, i) f g = .inl (z_cI G, n, .inl f)) {x : Int32} (hin : z_in x n) (hdg : decode cc pc = .ok (.iaload, 1))
    (kk : W p l e R s m args below meth c H locs cells slots Q (F0 m (pc + 1) ls (.int (z_gi M k i x.toNatClampNeg) :: rest))) : W p l e R s m args below meth c H locs cells slots Q (F0 m pc ls (.int x :: .ref (z_ad G k i) :: rest)) := by
  obtain ⟨⟨hx, hb, hml, hown, hts⟩, hr, hlk⟩ := hc
  obtain ⟨hK, hP, hD, hS, -⟩ := hI
  obtain ⟨q0, -, he⟩ := z_at (G := G) (M := M) hq
  exact va_iald hx hb hK.1 hP q0 0 (a := z_ad G k i) (cA := z_cI G) (n := n) (f := M.1 k i) (by rw [he]; unfold z_ce; rw [hsh]) z_tyI hin hdg kk
theorem z_ist (hc : z_C p s m args meth c own cc nL ret) (hI : z_I G s M H locs) {k i n : Nat} (hq : (k, i) ∈ z_ixs) (hsh : ∀ f g, z_sh G (k, i) f g = .inl (z_cI G, n, .inl f)) {x v : Int32} (hin : z_in x n) (hdg : decode cc pc = .ok (.iastore, 1))
    (kk : ∀ (H1 : Heap) (locs1 : List Loc), z_I G s (z_si M k i x.toNatClampNeg v) H1 locs1 → W p l e R s m args below meth c H1 locs1 cells slots Q (F0 m (pc + 1) ls rest)) : W p l e R s m args below meth c H locs cells slots Q (F0 m pc ls (.int v :: .int x :: .ref (z_ad G k i) :: rest)) := by
  obtain ⟨⟨hx, hb, hml, hown, hts⟩, hr, hlk⟩ := hc
  obtain ⟨hK, hP, hD, hS, hbs⟩ := hI
  obtain ⟨q0, hq0, he⟩ := z_at (G := G) (M := M) hq
  refine va_iast hx hb hK.1 hP hD hS q0 0 (a := z_ad G k i) (cA := z_cI G) (n := n) (f := M.1 k i) (by rw [he]; unfold z_ce; rw [hsh]) z_tyI hin hdg (fun H1 locs1 hP1 hD1 hS1 => ?_)
  have e : (z_ws G M).set q0 (z_ad G k i, .inl (z_cI G, n, .inl (upd (M.1 k i) x.toNatClampNeg v))) = z_ws G (z_si M k i x.toNatClampNeg v) := z_set hq0 (by unfold z_ce; rw [hsh]; show _ = (z_ad G k i, Sum.inl (z_cI G, n, Sum.inl ((z_si M k i x.toNatClampNeg v).1 k i))); rw [z_si_self]) z_ce_si
  rw [e] at hP1 hD1
  exact kk H1 locs1 ⟨hK, hP1, hD1, hS1, hbs⟩
/-- the array of booleans -/
theorem z_zld (hc : z_C p s m args meth c own cc nL ret) (hI : z_I G s M H locs) {k i n : Nat} (hq : (k, i) ∈ z_ixs) (hsh : ∀ f g, z_sh G (k, i) f g = .inl (z_cZ G, n, .inl f)) {x : Int32} (hin : z_in x n) (hdg : decode cc pc = .ok (.baload, 1))
    (kk : W p l e R s m args below meth c H locs cells slots Q (F0 m (pc + 1) ls (.int (z_gi M k i x.toNatClampNeg) :: rest))) : W p l e R s m args below meth c H locs cells slots Q (F0 m pc ls (.int x :: .ref (z_ad G k i) :: rest)) := by
  obtain ⟨⟨hx, hb, hml, hown, hts⟩, hr, hlk⟩ := hc
  obtain ⟨hK, hP, hD, hS, -⟩ := hI
  obtain ⟨q0, -, he⟩ := z_at (G := G) (M := M) hq
  exact va_zald hx hb hK.1 hP q0 2 (a := z_ad G k i) (cA := z_cZ G) (n := n) (f := M.1 k i) (by rw [he]; unfold z_ce; rw [hsh]) z_tyZ hin hdg kk
theorem z_zst (hc : z_C p s m args meth c own cc nL ret) (hI : z_I G s M H locs) {k i n : Nat} (hq : (k, i) ∈ z_ixs) (hsh : ∀ f g, z_sh G (k, i) f g = .inl (z_cZ G, n, .inl f)) {x v : Int32} (hv : vp_nar .boolean v = v) (hin : z_in x n) (hdg : decode cc pc = .ok (.bastore, 1))
    (kk : ∀ (H1 : Heap) (locs1 : List Loc), z_I G s (z_si M k i x.toNatClampNeg v) H1 locs1 → W p l e R s m args below meth c H1 locs1 cells slots Q (F0 m (pc + 1) ls rest)) : W p l e R s m args below meth c H locs cells slots Q (F0 m pc ls (.int v :: .int x :: .ref (z_ad G k i) :: rest)) := by
  obtain ⟨⟨hx, hb, hml, hown, hts⟩, hr, hlk⟩ := hc
  obtain ⟨hK, hP, hD, hS, hbs⟩ := hI
  obtain ⟨q0, hq0, he⟩ := z_at (G := G) (M := M) hq
  refine va_zast hx hb hK.1 hP hD hS q0 2 (a := z_ad G k i) (cA := z_cZ G) (n := n) (f := M.1 k i) (by rw [he]; unfold z_ce; rw [hsh]) z_tyZ hin hdg (fun H1 locs1 hP1 hD1 hS1 => ?_)
  rw [hv] at hP1 hD1
  have e : (z_ws G M).set q0 (z_ad G k i, .inl (z_cZ G, n, .inl (upd (M.1 k i) x.toNatClampNeg v))) = z_ws G (z_si M k i x.toNatClampNeg v) := z_set hq0 (by unfold z_ce; rw [hsh]; show _ = (z_ad G k i, Sum.inl (z_cZ G, n, Sum.inl ((z_si M k i x.toNatClampNeg v).1 k i))); rw [z_si_self]) z_ce_si
  rw [e] at hP1 hD1
  exact kk H1 locs1 ⟨hK, hP1, hD1, hS1, hbs⟩
/-- the array of longs -/
theorem z_lld (hc : z_C p s m args meth c own cc nL ret) (hI : z_I G s M H locs) {x : Int32} (hin : z_in x 5) (hdg : decode cc pc = .ok (.laload, 1))
    (kk : W p l e R s m args below meth c H locs cells slots Q (F0 m (pc + 1) ls (.long (z_gl M x.toNatClampNeg) :: rest))) : W p l e R s m args below meth c H locs cells slots Q (F0 m pc ls (.int x :: .ref (z_ad G 18 0) :: rest)) := by
  obtain ⟨⟨hx, hb, hml, hown, hts⟩, hr, hlk⟩ := hc
  obtain ⟨hK, hP, hD, hS, -⟩ := hI
  obtain ⟨q0, -, he⟩ := z_at (G := G) (M := M) (q := (18, 0)) (z_ixm (by decide) (by decide))
  exact va_lald hx hb hK.1 hP q0 1 (a := z_ad G 18 0) (cA := z_cJ G) (n := 5) (f := M.2) he z_tyJ hin hdg kk
theorem z_ce_sl {j : Nat} {v : Int64} : ∀ r, r ≠ (18, 0) → r ∈ z_ixs → z_ce G M r = z_ce G (z_sl M j v) r := by
  rintro ⟨a, b⟩ h hm
  have ha : a ≠ 18 ∨ b ≠ 0 := by
    by_cases ha : a = 18
    · refine Or.inr (fun hb => h (by rw [ha, hb]))
    · exact Or.inl ha
  have hb18 : a = 18 → b = 0 := by
    intro ha18
    subst ha18
    obtain ⟨k, hk, hm⟩ := List.mem_flatMap.mp hm
    obtain ⟨i, hi, he⟩ := List.mem_map.mp hm
    cases he
    have := List.mem_range.mp hi
    simp [z_cnt] at this
    exact this
  have ha : a ≠ 18 := by
    intro h18
    rcases ha with h1 | h1
    · exact h1 h18
    · exact h1 (hb18 h18)
  show (z_ad G a b, z_sh G (a, b) (M.1 a b) M.2) = (z_ad G a b, z_sh G (a, b) (M.1 a b) (z_sl M j v).2)
  congr 1
  unfold z_sh
  split <;> first | rfl | (rename_i h18; exact absurd h18 ha)
theorem z_set2 {M' : z_M} {q : Nat × Nat} {p : Nat} {x : Nat × va_E} (hp : z_ixs[p]? = some q) (hx : x = z_ce G M' q) (ho : ∀ r, r ≠ q → r ∈ z_ixs → z_ce G M r = z_ce G M' r) : (z_ws G M).set p x = z_ws G M' := by
  subst hx
  unfold z_ws
  apply List.ext_getElem?
  intro j
  by_cases hj : j = p
  · subst hj
    have hl : j < z_ixs.length := (List.getElem?_eq_some_iff.mp hp).1
    rw [List.getElem?_set_self (by simpa using hl), List.getElem?_map, hp]
    rfl
  · rw [List.getElem?_set_ne (Ne.symm hj), List.getElem?_map, List.getElem?_map]
    cases hr : z_ixs[j]? with
    | none => rfl
    | some r =>
      have hne : r ≠ q := by
        intro e
        subst e
        exact hj ((List.getElem?_inj (List.getElem?_eq_some_iff.mp hr).1 z_ixs_nd).mp (hr.trans hp.symm))
      simp only [Option.map_some]
      rw [ho r hne (List.mem_of_getElem? hr)]
theorem z_lst (hc : z_C p s m args meth c own cc nL ret) (hI : z_I G s M H locs) {x : Int32} {v : Int64} (hin : z_in x 5) (hdg : decode cc pc = .ok (.lastore, 1))
    (kk : ∀ (H1 : Heap) (locs1 : List Loc), z_I G s (z_sl M x.toNatClampNeg v) H1 locs1 → W p l e R s m args below meth c H1 locs1 cells slots Q (F0 m (pc + 1) ls rest)) : W p l e R s m args below meth c H locs cells slots Q (F0 m pc ls (.long v :: .int x :: .ref (z_ad G 18 0) :: rest)) := by
  obtain ⟨⟨hx, hb, hml, hown, hts⟩, hr, hlk⟩ := hc
  obtain ⟨hK, hP, hD, hS, hbs⟩ := hI
  obtain ⟨q0, hq0, he⟩ := z_at (G := G) (M := M) (q := (18, 0)) (z_ixm (by decide) (by decide))
  refine va_last hx hb hK.1 hP hD hS q0 1 (a := z_ad G 18 0) (cA := z_cJ G) (n := 5) (f := M.2) he z_tyJ hin hdg (fun H1 locs1 hP1 hD1 hS1 => ?_)
  have e : (z_ws G M).set q0 (z_ad G 18 0, .inl (z_cJ G, 5, .inr (.inl (vp_updL M.2 x.toNatClampNeg v)))) = z_ws G (z_sl M x.toNatClampNeg v) := z_set2 hq0 rfl z_ce_sl
  rw [e] at hP1 hD1
  exact kk H1 locs1 ⟨hK, hP1, hD1, hS1, hbs⟩
/-- the arrays of TOWNS -/
theorem z_ald (hc : z_C p s m args meth c own cc nL ret) (hI : z_I G s M H locs) {k n o : Nat} (hq : (k, 0) ∈ z_ixs) (hsh : ∀ f g, z_sh G (k, 0) f g = .inl (z_cT G, n, .inr (.inr (.inr (.inr (fun j => some (z_ad G 7 (o + j)))))))) {x : Int32} (hin : z_in x n) (hdg : decode cc pc = .ok (.aaload, 1))
    (kk : W p l e R s m args below meth c H locs cells slots Q (F0 m (pc + 1) ls (.ref (z_ad G 7 (o + x.toNatClampNeg)) :: rest))) : W p l e R s m args below meth c H locs cells slots Q (F0 m pc ls (.int x :: .ref (z_ad G k 0) :: rest)) := by
  obtain ⟨⟨hx, hb, hml, hown, hts⟩, hr, hlk⟩ := hc
  obtain ⟨hK, hP, hD, hS, -⟩ := hI
  obtain ⟨q0, -, he⟩ := z_at (G := G) (M := M) hq
  exact va_aldq hx hb hK.1 hP q0 3 (a := z_ad G k 0) (cA := z_cT G) (n := n) (f := fun j => some (z_ad G 7 (o + j))) (by rw [he]; unfold z_ce; rw [hsh]) z_tyT hin hdg kk
/-- the length of an array -/
theorem z_len (hc : z_C p s m args meth c own cc nL ret) (hI : z_I G s M H locs) {k i n : Nat} (hq : (k, i) ∈ z_ixs) (hsh : ∀ f g, z_sh G (k, i) f g = .inl (z_cI G, n, .inl f)) {v : Int32} (hv : Int32.ofNat n = v) (hdg : decode cc pc = .ok (.arraylength, 1))
    (kk : W p l e R s m args below meth c H locs cells slots Q (F0 m (pc + 1) ls (.int v :: rest))) : W p l e R s m args below meth c H locs cells slots Q (F0 m pc ls (.ref (z_ad G k i) :: rest)) := by
  obtain ⟨⟨hx, hb, hml, hown, hts⟩, hr, hlk⟩ := hc
  obtain ⟨hK, hP, hD, hS, -⟩ := hI
  obtain ⟨q0, -, he⟩ := z_at (G := G) (M := M) hq
  exact va_alen hx hb hK.1 hP q0 0 (a := z_ad G k i) (cA := z_cI G) (x := (n, .inl (M.1 k i))) (by rw [he]; unfold z_ce; rw [hsh]) z_tyI hv hdg kk
/-- the static tables -/
theorem z_gst (hc : z_C p s m args meth c own cc nL ret) (hI : z_I G s M H locs) {j idx : Nat} (hj : j < 3) (hlink : Cond.fieldLink own idx RX0 (z_sf j) "[I" ∈ z_tb) (hdg : decode cc pc = .ok (.getstatic idx, 3))
    (kk : W p l e R s m args below meth c H locs cells slots Q (F0 m (pc + 3) ls (.ref (z_st G j) :: rest))) : W p l e R s m args below meth c H locs cells slots Q (F0 m pc ls rest) := by
  obtain ⟨⟨hx, hb, hml, hown, hts⟩, hr, hlk⟩ := hc
  obtain ⟨hK, hP, hD, hS, -⟩ := hI
  exact va_gets hx hb (hK.2.1 j hj) hS hown (hts _ hlink) (fun _ h => h) hdg kk
theorem z_tld (hc : z_C p s m args meth c own cc nL ret) (hI : z_I G s M H locs) {j : Nat} (hj : j < 3) {x : Int32} (hin : z_in x 6) (hdg : decode cc pc = .ok (.iaload, 1))
    (kk : W p l e R s m args below meth c H locs cells slots Q (F0 m (pc + 1) ls (.int (z_sv j x.toNatClampNeg) :: rest))) : W p l e R s m args below meth c H locs cells slots Q (F0 m pc ls (.int x :: .ref (z_st G j) :: rest)) := by
  obtain ⟨⟨hx, hb, hml, hown, hts⟩, hr, hlk⟩ := hc
  obtain ⟨hK, hP, hD, hS, -⟩ := hI
  exact va_ti hx hb (hK.2.2 j hj) hS hin rfl hdg kk
theorem z_tlen (hc : z_C p s m args meth c own cc nL ret) (hI : z_I G s M H locs) {j : Nat} (hj : j < 3) (hdg : decode cc pc = .ok (.arraylength, 1))
    (kk : W p l e R s m args below meth c H locs cells slots Q (F0 m (pc + 1) ls (.int 6 :: rest))) : W p l e R s m args below meth c H locs cells slots Q (F0 m pc ls (.ref (z_st G j) :: rest)) := by
  obtain ⟨⟨hx, hb, hml, hown, hts⟩, hr, hlk⟩ := hc
  obtain ⟨hK, hP, hD, hS, -⟩ := hI
  exact va_tlen hx hb (hK.2.2 j hj) hS rfl hdg kk
/-- behind any call -/
theorem z_call {mc ms : Nat} {v : Option Value} {M' : z_M} {a : Array Value} {free : Addr → Prop} {st0 : List Value} (hmc : mc = 0) (hms : ms = 0) (hI : z_I G s M H locs) (hfree : free = z_A G) (hr : va_Run p l e R s m args below meth c H locs cells slots mc ms (F0 m pc ls st0) rest (z_Q G v M' a) free)
    (kk : ∀ (H1 : Heap) (locs1 : List Loc), z_I G s M' H1 locs1 → W p l e R s m args below meth c H1 locs1 cells slots Q (F0 m (pc + 3) ls (v.toList ++ rest))) : W p l e R s m args below meth c H locs cells slots Q (F0 m pc ls st0) := by
  subst hmc; subst hms; subst hfree
  obtain ⟨hK, hP, hD, hS, hbs⟩ := hI
  intro T hT X
  obtain ⟨v1, st₀, t, T', L, h0, X', hL, e1, e2, ⟨hv, ⟨hK1, hP1, hD1⟩, hz, hk⟩, st⟩ := hr T hT X
  cases hv
  rw [h0] at hz hk
  have hS1 : va_S (z_A G) s.heap T'.heap (locs ++ L) := ⟨Nat.le_trans hS.1 (by rw [e1]; exact hz), fun q h1 h2 => by rw [e1, hk q (Nat.lt_of_lt_of_le h1 hS.1) h2]; exact hS.2.1 q h1 h2, fun q hq => by
      rcases List.mem_append.mp hq with h | h
      · exact hS.2.2 q h
      · exact hL q h⟩
  obtain ⟨t2, a1, b1⟩ := kk T'.heap (locs ++ L) ⟨hK, by rw [e1]; exact hP1, hD1, hS1, hbs⟩ T' rfl X'
  exact ⟨t2, st t2 a1, b1⟩
theorem z_pre (hI : z_I G s M H locs) {U : State} (hU : U.heap = H) (hW : s.WarmedH U.vm) : z_Wd G M U ∧ z_bs G ≤ U.heap.size := by
  obtain ⟨hK, hP, hD, hS, hbs⟩ := hI
  exact ⟨⟨hK.go hS hU hW.alike, by rw [hU]; exact hP, hD⟩, by rw [hU]; exact Nat.le_trans hbs hS.1⟩
/-- a virtual call -/
theorem z_inv (hc : z_C p s m args meth c own cc nL ret) (hI : z_I G s M H locs) {C : String} {idx maxL n d k i : Nat} {y : MethodName} {by' : ByteArray} {rt : Option FieldType} {As : List Value} {v : Option Value} {M' : z_M} (hM : z_Met G l y by' maxL rt d (.ref (z_ad G k i) :: As) M v M')
    (hq : (k, i) ∈ z_ixs) {ci : Nat} {fs : List Value} (hsh : z_sh G (k, i) (M.1 k i) M.2 = .inr (ci, fs)) {T : u_T} {N : Nat} (hcl : vwCl[ci]? = some (C, T, N))
    (h1 : Cond.methodLink own idx y ∈ z_tb) (h2 : Cond.instanceMethod y ∈ z_tb) (h3 : Cond.selects C y y ∈ z_tb) (h4 : Cond.initialized C ∈ z_tb) (h5 : Cond.code y by' maxL rt ∈ z_tb)
    (hd : y.cls = C ∧ y.cls ≠ "java/lang/invoke/MethodHandle" ∧ y.cls ≠ "java/lang/invoke/VarHandle" ∧ (parseMethodDescriptor y.desc).map (fun d => d.parameters.length) = some n) (hR : (z_rm d).frames + 1 ≤ R.frames ∧ 8 + (maxL + 11) + (z_rm d).locals ≤ R.locals) (hn : As.length = n) (hls : ls.size = nL) (hW : (rest.map fun v => v.category).sum ≤ 8) (hcs : cells ≤ R.cells ∧ slots ≤ R.slots) (hdg : decode cc pc = .ok (.invokevirtual idx, 3))
    (kk : ∀ (H1 : Heap) (locs1 : List Loc), z_I G s M' H1 locs1 → W p l e R s m args below meth c H1 locs1 cells slots Q (F0 m (pc + 3) ls (v.toList ++ rest))) : W p l e R s m args below meth c H locs cells slots Q (F0 m pc ls (As.reverse ++ .ref (z_ad G k i) :: rest)) := by
  have hgood : GoodIn z_tb (wsV own idx C y (z_wm y by' maxL rt)) := z_goodIn (fun w hw => by
    rcases List.mem_append.mp hw with h | h
    · simp only [List.mem_cons, List.not_mem_nil, or_false] at h
      rcases h with rfl | rfl | rfl | rfl <;> assumption
    · rcases List.mem_cons.mp h with rfl | h
      · exact h5
      · exact h)
  obtain ⟨q0, -, he⟩ := z_at (G := G) (M := M) hq
  refine z_call rfl rfl hI rfl (va_runV (As := As) (rest := rest) hc.1 hM (cwV n hc.1.2.2.2.2 hgood rfl rfl rfl hd hR) ⟨fun a U g mk q => ⟨q.1, q.2.1.blind, q.2.2⟩, va_recv hI.1.1 hI.2.1 (ci := ci) (q0 := q0) (fs := fs) hcl (by rw [he]; unfold z_ce; rw [hsh]), fun U hU hW => ⟨rfl, z_pre hI hU hW⟩⟩ rfl hn hls rfl (lv_room hW) hdg hcs) kk
/-- a static call -/
theorem z_ivs (hc : z_C p s m args meth c own cc nL ret) (hI : z_I G s M H locs) {idx maxL n d : Nat} {y : MethodName} {by' : ByteArray} {rt : Option FieldType} {As : List Value} {v : Option Value} {M' : z_M} (hM : z_Met G l y by' maxL rt d As M v M')
    (h1 : Cond.methodLink own idx y ∈ z_tb) (h2 : Cond.static y ∈ z_tb) (h4 : Cond.initialized y.cls ∈ z_tb) (h5 : Cond.code y by' maxL rt ∈ z_tb)
    (hd : y.cls ≠ "java/lang/invoke/MethodHandle" ∧ y.cls ≠ "java/lang/invoke/VarHandle" ∧ (parseMethodDescriptor y.desc).map (fun d => d.parameters.length) = some n) (hR : (z_rm d).frames + 1 ≤ R.frames ∧ 8 + (maxL + 11) + (z_rm d).locals ≤ R.locals) (hn : As.length = n) (hls : ls.size = nL) (hW : (rest.map fun v => v.category).sum ≤ 8) (hcs : cells ≤ R.cells ∧ slots ≤ R.slots) (hdg : decode cc pc = .ok (.invokestatic idx, 3))
    (kk : ∀ (H1 : Heap) (locs1 : List Loc), z_I G s M' H1 locs1 → W p l e R s m args below meth c H1 locs1 cells slots Q (F0 m (pc + 3) ls (v.toList ++ rest))) : W p l e R s m args below meth c H locs cells slots Q (F0 m pc ls (As.reverse ++ rest)) := by
  have hgood : GoodIn z_tb (va_wsS own idx y (z_wm y by' maxL rt)) := z_goodIn (fun w hw => by
    rcases List.mem_append.mp hw with h | h
    · simp only [List.mem_cons, List.not_mem_nil, or_false] at h
      rcases h with rfl | rfl | rfl <;> assumption
    · rcases List.mem_cons.mp h with rfl | h
      · exact h5
      · exact h)
  exact z_call rfl rfl hI rfl (va_runS (As := As) (rest := rest) hc.1 hM (va_cwS n hc.1.2.2.2.2 hgood rfl rfl rfl hd hR) ⟨fun a U g mk q => ⟨q.1, q.2.1.blind, q.2.2⟩, fun U hU hW => ⟨rfl, z_pre hI hU hW⟩⟩ rfl hn hls rfl (lv_room hW) hdg hcs) kk
/-- the ends -/
theorem z_end (hI : z_I G s M H locs) {t : State} (ht : t.heap = H) (hW : s.WarmedH t.vm) {v : Option Value} : z_Q G v M args s (.returned v) t := ⟨rfl, (z_pre hI ht hW).1, hI.2.2.2.1.F ht⟩
theorem z_ri (hc : z_C p s m args meth c own cc nL (some .int)) (hI : z_I G s M H locs) {x : Int32} (hdg : decode cc pc = .ok (.ireturn, 1)) : W p l e R s m args below meth c H locs cells slots (MQ below (z_Q G (some (.int x)) M) args s cells slots (z_A G)) (F0 m pc ls [.int x]) :=
  W.iret hc.1.1 hc.1.2.1 hc.2.1 (fun t ht hW => z_end hI ht hW) hI.2.2.2.1.2.2 hdg hc.2.2
theorem z_rz (hc : z_C p s m args meth c own cc nL (some .boolean)) (hI : z_I G s M H locs) {x : Int32} (hn : x &&& 1 = x) (hdg : decode cc pc = .ok (.ireturn, 1)) : W p l e R s m args below meth c H locs cells slots (MQ below (z_Q G (some (.int x)) M) args s cells slots (z_A G)) (F0 m pc ls [.int x]) :=
  W.zret hc.1.1 hc.1.2.1 hc.2.1 (by show Value.int (x &&& 1) = .int x; rw [hn]) (fun t ht hW => z_end hI ht hW) hI.2.2.2.1.2.2 hdg hc.2.2
theorem z_rl (hc : z_C p s m args meth c own cc nL (some .long)) (hI : z_I G s M H locs) {x : Int64} (hdg : decode cc pc = .ok (.lreturn, 1)) : W p l e R s m args below meth c H locs cells slots (MQ below (z_Q G (some (.long x)) M) args s cells slots (z_A G)) (F0 m pc ls [.long x]) :=
  W.lret hc.1.1 hc.1.2.1 hc.2.1 (fun t ht hW => z_end hI ht hW) hI.2.2.2.1.2.2 hdg hc.2.2
theorem z_rv (hc : z_C p s m args meth c own cc nL none) (hI : z_I G s M H locs) (hdg : decode cc pc = .ok (.return_, 1)) : W p l e R s m args below meth c H locs cells slots (MQ below (z_Q G none M) args s cells slots (z_A G)) (F0 m pc ls []) :=
  W.vret hc.1.1 hc.1.2.1 hc.2.1 (fun t ht hW => z_end hI ht hW) hI.2.2.2.1.2.2 hdg hc.2.2
theorem z_ra {rt : String} (hc : z_C p s m args meth c own cc nL (some (.object rt))) (hI : z_I G s M H locs) {v : Value} (hv : v = .null ∨ ∃ a, v = .ref a) (hdg : decode cc pc = .ok (.areturn, 1)) : W p l e R s m args below meth c H locs cells slots (MQ below (z_Q G (some v) M) args s cells slots (z_A G)) (F0 m pc ls [v]) :=
  W.aret hc.1.1 hc.1.2.1 hc.2.1 (Or.inl ⟨_, rfl⟩) hv (fun t ht hW => z_end hI ht hW) hI.2.2.2.1.2.2 hdg hc.2.2
end ZB
end
