section
-- ===== PART A: goes FIRST, ahead of the names: the tables' words, and 'selects' of the private methods out of them =====
/-- a private method of a class that the tables say can be made, by its rows of tables_1 -/
def lw_okq (q : MethodName × Nat) : Prop := (q.1.cls ≠ "java/lang/invoke/MethodHandle" ∧ q.1.cls ≠ "java/lang/invoke/VarHandle") ∧ Cond.instantiable q.1.cls q.2 ∈ tables_1 ∧ Cond.privateMethod q.1 ∈ tables_1 ∧ Cond.instanceMethod q.1 ∈ tables_1
theorem lw_p0 : lw_okq (⟨"NotLikeThem$Town", "changed", "(I)V"⟩, 8) := ⟨⟨by decide +kernel, by decide +kernel⟩, List.mem_of_getElem? (i := 55) (by decide +kernel), List.mem_of_getElem? (i := 274) (by decide +kernel), List.mem_of_getElem? (i := 275) (by decide +kernel)⟩
theorem lw_p1 : lw_okq (⟨"NotLikeThem$Town", "renew", "(I)V"⟩, 8) := ⟨⟨by decide +kernel, by decide +kernel⟩, List.mem_of_getElem? (i := 55) (by decide +kernel), List.mem_of_getElem? (i := 393) (by decide +kernel), List.mem_of_getElem? (i := 394) (by decide +kernel)⟩
theorem lw_p2 : lw_okq (⟨"NotLikeThem$Town", "fillSums", "(I)V"⟩, 8) := ⟨⟨by decide +kernel, by decide +kernel⟩, List.mem_of_getElem? (i := 55) (by decide +kernel), List.mem_of_getElem? (i := 397) (by decide +kernel), List.mem_of_getElem? (i := 398) (by decide +kernel)⟩
theorem lw_p3 : lw_okq (⟨"NotLikeThem$Walk", "oneByOne", "([II)I"⟩, 9) := ⟨⟨by decide +kernel, by decide +kernel⟩, List.mem_of_getElem? (i := 108) (by decide +kernel), List.mem_of_getElem? (i := 402) (by decide +kernel), List.mem_of_getElem? (i := 403) (by decide +kernel)⟩
theorem lw_p4 : lw_okq (⟨"NotLikeThem$Walk", "findRings", "(I)V"⟩, 9) := ⟨⟨by decide +kernel, by decide +kernel⟩, List.mem_of_getElem? (i := 108) (by decide +kernel), List.mem_of_getElem? (i := 415) (by decide +kernel), List.mem_of_getElem? (i := 416) (by decide +kernel)⟩
theorem lw_p5 : lw_okq (⟨"NotLikeThem$Walk", "takeOff", "(I)I"⟩, 9) := ⟨⟨by decide +kernel, by decide +kernel⟩, List.mem_of_getElem? (i := 108) (by decide +kernel), List.mem_of_getElem? (i := 419) (by decide +kernel), List.mem_of_getElem? (i := 420) (by decide +kernel)⟩
theorem lw_p6 : lw_okq (⟨"NotLikeThem$Walk", "goRound", "(II)V"⟩, 9) := ⟨⟨by decide +kernel, by decide +kernel⟩, List.mem_of_getElem? (i := 108) (by decide +kernel), List.mem_of_getElem? (i := 423) (by decide +kernel), List.mem_of_getElem? (i := 424) (by decide +kernel)⟩
theorem lw_p7 : lw_okq (⟨"NotLikeThem$Heat", "isEvenPair", "(II)Z"⟩, 1) := ⟨⟨by decide +kernel, by decide +kernel⟩, List.mem_of_getElem? (i := 88) (by decide +kernel), List.mem_of_getElem? (i := 502) (by decide +kernel), List.mem_of_getElem? (i := 503) (by decide +kernel)⟩
theorem lw_p8 : lw_okq (⟨"NotLikeThem$Heat", "ofLean", "(II)I"⟩, 1) := ⟨⟨by decide +kernel, by decide +kernel⟩, List.mem_of_getElem? (i := 88) (by decide +kernel), List.mem_of_getElem? (i := 516) (by decide +kernel), List.mem_of_getElem? (i := 517) (by decide +kernel)⟩
theorem lw_p9 : lw_okq (⟨"NotLikeThem$Heat", "ofPair", "(III)I"⟩, 1) := ⟨⟨by decide +kernel, by decide +kernel⟩, List.mem_of_getElem? (i := 88) (by decide +kernel), List.mem_of_getElem? (i := 522) (by decide +kernel), List.mem_of_getElem? (i := 523) (by decide +kernel)⟩
theorem lw_p10 : lw_okq (⟨"NotLikeThem$Rounds", "searchFrom", "(II)I"⟩, 9) := ⟨⟨by decide +kernel, by decide +kernel⟩, List.mem_of_getElem? (i := 142) (by decide +kernel), List.mem_of_getElem? (i := 541) (by decide +kernel), List.mem_of_getElem? (i := 542) (by decide +kernel)⟩
theorem lw_p11 : lw_okq (⟨"NotLikeThem$Rounds", "enter", "(I)V"⟩, 9) := ⟨⟨by decide +kernel, by decide +kernel⟩, List.mem_of_getElem? (i := 142) (by decide +kernel), List.mem_of_getElem? (i := 545) (by decide +kernel), List.mem_of_getElem? (i := 546) (by decide +kernel)⟩
theorem lw_p12 : lw_okq (⟨"NotLikeThem$Rounds", "followOne", "(I)V"⟩, 9) := ⟨⟨by decide +kernel, by decide +kernel⟩, List.mem_of_getElem? (i := 142) (by decide +kernel), List.mem_of_getElem? (i := 549) (by decide +kernel), List.mem_of_getElem? (i := 550) (by decide +kernel)⟩
theorem lw_p13 : lw_okq (⟨"NotLikeThem$Rounds", "goBack", "(II)I"⟩, 9) := ⟨⟨by decide +kernel, by decide +kernel⟩, List.mem_of_getElem? (i := 142) (by decide +kernel), List.mem_of_getElem? (i := 556) (by decide +kernel), List.mem_of_getElem? (i := 557) (by decide +kernel)⟩
theorem lw_p14 : lw_okq (⟨"NotLikeThem$Rounds", "close", "(II)I"⟩, 9) := ⟨⟨by decide +kernel, by decide +kernel⟩, List.mem_of_getElem? (i := 142) (by decide +kernel), List.mem_of_getElem? (i := 560) (by decide +kernel), List.mem_of_getElem? (i := 561) (by decide +kernel)⟩
theorem lw_p15 : lw_okq (⟨"NotLikeThem$Chance", "search", "(I[I)I"⟩, 5) := ⟨⟨by decide +kernel, by decide +kernel⟩, List.mem_of_getElem? (i := 176) (by decide +kernel), List.mem_of_getElem? (i := 605) (by decide +kernel), List.mem_of_getElem? (i := 606) (by decide +kernel)⟩
def lw_privs_1 : List (MethodName × Nat) := [(⟨"NotLikeThem$Town", "changed", "(I)V"⟩, 8), (⟨"NotLikeThem$Town", "renew", "(I)V"⟩, 8), (⟨"NotLikeThem$Town", "fillSums", "(I)V"⟩, 8), (⟨"NotLikeThem$Walk", "oneByOne", "([II)I"⟩, 9), (⟨"NotLikeThem$Walk", "findRings", "(I)V"⟩, 9), (⟨"NotLikeThem$Walk", "takeOff", "(I)I"⟩, 9), (⟨"NotLikeThem$Walk", "goRound", "(II)V"⟩, 9), (⟨"NotLikeThem$Heat", "isEvenPair", "(II)Z"⟩, 1), (⟨"NotLikeThem$Heat", "ofLean", "(II)I"⟩, 1), (⟨"NotLikeThem$Heat", "ofPair", "(III)I"⟩, 1), (⟨"NotLikeThem$Rounds", "searchFrom", "(II)I"⟩, 9), (⟨"NotLikeThem$Rounds", "enter", "(I)V"⟩, 9), (⟨"NotLikeThem$Rounds", "followOne", "(I)V"⟩, 9), (⟨"NotLikeThem$Rounds", "goBack", "(II)I"⟩, 9), (⟨"NotLikeThem$Rounds", "close", "(II)I"⟩, 9), (⟨"NotLikeThem$Chance", "search", "(I[I)I"⟩, 5)]
theorem lw_r1 : ∀ q ∈ lw_privs_1, lw_okq q := List.forall_mem_cons.mpr ⟨lw_p0, List.forall_mem_cons.mpr ⟨lw_p1, List.forall_mem_cons.mpr ⟨lw_p2, List.forall_mem_cons.mpr ⟨lw_p3, List.forall_mem_cons.mpr ⟨lw_p4, List.forall_mem_cons.mpr ⟨lw_p5, List.forall_mem_cons.mpr ⟨lw_p6, List.forall_mem_cons.mpr ⟨lw_p7, List.forall_mem_cons.mpr ⟨lw_p8, List.forall_mem_cons.mpr ⟨lw_p9, List.forall_mem_cons.mpr ⟨lw_p10, List.forall_mem_cons.mpr ⟨lw_p11, List.forall_mem_cons.mpr ⟨lw_p12, List.forall_mem_cons.mpr ⟨lw_p13, List.forall_mem_cons.mpr ⟨lw_p14, List.forall_mem_cons.mpr ⟨lw_p15, fun _ h => absurd h List.not_mem_nil⟩⟩⟩⟩⟩⟩⟩⟩⟩⟩⟩⟩⟩⟩⟩⟩
theorem lw_p16 : lw_okq (⟨"NotLikeThem$Chance", "drawOnce", "([II)V"⟩, 5) := ⟨⟨by decide +kernel, by decide +kernel⟩, List.mem_of_getElem? (i := 176) (by decide +kernel), List.mem_of_getElem? (i := 636) (by decide +kernel), List.mem_of_getElem? (i := 637) (by decide +kernel)⟩
theorem lw_p17 : lw_okq (⟨"NotLikeThem$Chance", "handOn", "(II)V"⟩, 5) := ⟨⟨by decide +kernel, by decide +kernel⟩, List.mem_of_getElem? (i := 176) (by decide +kernel), List.mem_of_getElem? (i := 640) (by decide +kernel), List.mem_of_getElem? (i := 641) (by decide +kernel)⟩
theorem lw_p18 : lw_okq (⟨"NotLikeThem$Shop", "tally", "(II)V"⟩, 4) := ⟨⟨by decide +kernel, by decide +kernel⟩, List.mem_of_getElem? (i := 215) (by decide +kernel), List.mem_of_getElem? (i := 729) (by decide +kernel), List.mem_of_getElem? (i := 730) (by decide +kernel)⟩
theorem lw_p19 : lw_okq (⟨"NotLikeThemModel", "isPerson", "(I)Z"⟩, 21) := ⟨⟨by decide +kernel, by decide +kernel⟩, List.mem_of_getElem? (i := 752) (by decide +kernel), List.mem_of_getElem? (i := 834) (by decide +kernel), List.mem_of_getElem? (i := 835) (by decide +kernel)⟩
theorem lw_p20 : lw_okq (⟨"NotLikeThemModel", "isDress", "(I)Z"⟩, 21) := ⟨⟨by decide +kernel, by decide +kernel⟩, List.mem_of_getElem? (i := 752) (by decide +kernel), List.mem_of_getElem? (i := 857) (by decide +kernel), List.mem_of_getElem? (i := 858) (by decide +kernel)⟩
theorem lw_p21 : lw_okq (⟨"NotLikeThemModel", "sumOf", "(II)I"⟩, 21) := ⟨⟨by decide +kernel, by decide +kernel⟩, List.mem_of_getElem? (i := 752) (by decide +kernel), List.mem_of_getElem? (i := 861) (by decide +kernel), List.mem_of_getElem? (i := 862) (by decide +kernel)⟩
theorem lw_p22 : lw_okq (⟨"NotLikeThemModel", "calmOf", "(I)I"⟩, 21) := ⟨⟨by decide +kernel, by decide +kernel⟩, List.mem_of_getElem? (i := 752) (by decide +kernel), List.mem_of_getElem? (i := 869) (by decide +kernel), List.mem_of_getElem? (i := 870) (by decide +kernel)⟩
theorem lw_p23 : lw_okq (⟨"NotLikeThemModel", "nextOf", "(III)I"⟩, 21) := ⟨⟨by decide +kernel, by decide +kernel⟩, List.mem_of_getElem? (i := 752) (by decide +kernel), List.mem_of_getElem? (i := 873) (by decide +kernel), List.mem_of_getElem? (i := 874) (by decide +kernel)⟩
theorem lw_p24 : lw_okq (⟨"NotLikeThemModel", "stepFrom", "(II)I"⟩, 21) := ⟨⟨by decide +kernel, by decide +kernel⟩, List.mem_of_getElem? (i := 752) (by decide +kernel), List.mem_of_getElem? (i := 885) (by decide +kernel), List.mem_of_getElem? (i := 886) (by decide +kernel)⟩
theorem lw_p25 : lw_okq (⟨"NotLikeThemModel", "with", "(III)I"⟩, 21) := ⟨⟨by decide +kernel, by decide +kernel⟩, List.mem_of_getElem? (i := 752) (by decide +kernel), List.mem_of_getElem? (i := 889) (by decide +kernel), List.mem_of_getElem? (i := 890) (by decide +kernel)⟩
theorem lw_p26 : lw_okq (⟨"NotLikeThemModel", "layLeads", "(I)V"⟩, 21) := ⟨⟨by decide +kernel, by decide +kernel⟩, List.mem_of_getElem? (i := 752) (by decide +kernel), List.mem_of_getElem? (i := 898) (by decide +kernel), List.mem_of_getElem? (i := 899) (by decide +kernel)⟩
theorem lw_p27 : lw_okq (⟨"NotLikeThemModel", "all", "()I"⟩, 21) := ⟨⟨by decide +kernel, by decide +kernel⟩, List.mem_of_getElem? (i := 752) (by decide +kernel), List.mem_of_getElem? (i := 902) (by decide +kernel), List.mem_of_getElem? (i := 903) (by decide +kernel)⟩
theorem lw_p28 : lw_okq (⟨"NotLikeThemModel", "layRun", "(I)V"⟩, 21) := ⟨⟨by decide +kernel, by decide +kernel⟩, List.mem_of_getElem? (i := 752) (by decide +kernel), List.mem_of_getElem? (i := 906) (by decide +kernel), List.mem_of_getElem? (i := 907) (by decide +kernel)⟩
theorem lw_p29 : lw_okq (⟨"NotLikeThemModel", "layRings", "(I)V"⟩, 21) := ⟨⟨by decide +kernel, by decide +kernel⟩, List.mem_of_getElem? (i := 752) (by decide +kernel), List.mem_of_getElem? (i := 914) (by decide +kernel), List.mem_of_getElem? (i := 915) (by decide +kernel)⟩
theorem lw_p30 : lw_okq (⟨"NotLikeThemModel", "leastOfRing", "()I"⟩, 21) := ⟨⟨by decide +kernel, by decide +kernel⟩, List.mem_of_getElem? (i := 752) (by decide +kernel), List.mem_of_getElem? (i := 918) (by decide +kernel), List.mem_of_getElem? (i := 919) (by decide +kernel)⟩
theorem lw_p31 : lw_okq (⟨"NotLikeThemModel", "isRest", "(I)Z"⟩, 21) := ⟨⟨by decide +kernel, by decide +kernel⟩, List.mem_of_getElem? (i := 752) (by decide +kernel), List.mem_of_getElem? (i := 934) (by decide +kernel), List.mem_of_getElem? (i := 935) (by decide +kernel)⟩
def lw_privs_2 : List (MethodName × Nat) := [(⟨"NotLikeThem$Chance", "drawOnce", "([II)V"⟩, 5), (⟨"NotLikeThem$Chance", "handOn", "(II)V"⟩, 5), (⟨"NotLikeThem$Shop", "tally", "(II)V"⟩, 4), (⟨"NotLikeThemModel", "isPerson", "(I)Z"⟩, 21), (⟨"NotLikeThemModel", "isDress", "(I)Z"⟩, 21), (⟨"NotLikeThemModel", "sumOf", "(II)I"⟩, 21), (⟨"NotLikeThemModel", "calmOf", "(I)I"⟩, 21), (⟨"NotLikeThemModel", "nextOf", "(III)I"⟩, 21), (⟨"NotLikeThemModel", "stepFrom", "(II)I"⟩, 21), (⟨"NotLikeThemModel", "with", "(III)I"⟩, 21), (⟨"NotLikeThemModel", "layLeads", "(I)V"⟩, 21), (⟨"NotLikeThemModel", "all", "()I"⟩, 21), (⟨"NotLikeThemModel", "layRun", "(I)V"⟩, 21), (⟨"NotLikeThemModel", "layRings", "(I)V"⟩, 21), (⟨"NotLikeThemModel", "leastOfRing", "()I"⟩, 21), (⟨"NotLikeThemModel", "isRest", "(I)Z"⟩, 21)]
theorem lw_r2 : ∀ q ∈ lw_privs_2, lw_okq q := List.forall_mem_cons.mpr ⟨lw_p16, List.forall_mem_cons.mpr ⟨lw_p17, List.forall_mem_cons.mpr ⟨lw_p18, List.forall_mem_cons.mpr ⟨lw_p19, List.forall_mem_cons.mpr ⟨lw_p20, List.forall_mem_cons.mpr ⟨lw_p21, List.forall_mem_cons.mpr ⟨lw_p22, List.forall_mem_cons.mpr ⟨lw_p23, List.forall_mem_cons.mpr ⟨lw_p24, List.forall_mem_cons.mpr ⟨lw_p25, List.forall_mem_cons.mpr ⟨lw_p26, List.forall_mem_cons.mpr ⟨lw_p27, List.forall_mem_cons.mpr ⟨lw_p28, List.forall_mem_cons.mpr ⟨lw_p29, List.forall_mem_cons.mpr ⟨lw_p30, List.forall_mem_cons.mpr ⟨lw_p31, fun _ h => absurd h List.not_mem_nil⟩⟩⟩⟩⟩⟩⟩⟩⟩⟩⟩⟩⟩⟩⟩⟩
theorem lw_p32 : lw_okq (⟨"NotLikeThemModel", "restOf", "(I)I"⟩, 21) := ⟨⟨by decide +kernel, by decide +kernel⟩, List.mem_of_getElem? (i := 752) (by decide +kernel), List.mem_of_getElem? (i := 942) (by decide +kernel), List.mem_of_getElem? (i := 943) (by decide +kernel)⟩
theorem lw_p33 : lw_okq (⟨"NotLikeThemModel", "isEven", "()Z"⟩, 21) := ⟨⟨by decide +kernel, by decide +kernel⟩, List.mem_of_getElem? (i := 752) (by decide +kernel), List.mem_of_getElem? (i := 950) (by decide +kernel), List.mem_of_getElem? (i := 951) (by decide +kernel)⟩
theorem lw_p34 : lw_okq (⟨"NotLikeThemModel", "loneOf", "(II)I"⟩, 21) := ⟨⟨by decide +kernel, by decide +kernel⟩, List.mem_of_getElem? (i := 752) (by decide +kernel), List.mem_of_getElem? (i := 962) (by decide +kernel), List.mem_of_getElem? (i := 963) (by decide +kernel)⟩
theorem lw_p35 : lw_okq (⟨"NotLikeThemModel", "witnessNow", "()I"⟩, 21) := ⟨⟨by decide +kernel, by decide +kernel⟩, List.mem_of_getElem? (i := 752) (by decide +kernel), List.mem_of_getElem? (i := 970) (by decide +kernel), List.mem_of_getElem? (i := 971) (by decide +kernel)⟩
theorem lw_p36 : lw_okq (⟨"NotLikeThemModel", "layCalms", "()V"⟩, 21) := ⟨⟨by decide +kernel, by decide +kernel⟩, List.mem_of_getElem? (i := 752) (by decide +kernel), List.mem_of_getElem? (i := 974) (by decide +kernel), List.mem_of_getElem? (i := 975) (by decide +kernel)⟩
theorem lw_p37 : lw_okq (⟨"NotLikeThemModel", "comesBack", "(I)Z"⟩, 21) := ⟨⟨by decide +kernel, by decide +kernel⟩, List.mem_of_getElem? (i := 752) (by decide +kernel), List.mem_of_getElem? (i := 978) (by decide +kernel), List.mem_of_getElem? (i := 979) (by decide +kernel)⟩
theorem lw_p38 : lw_okq (⟨"NotLikeThemModel", "layFar", "(I)V"⟩, 21) := ⟨⟨by decide +kernel, by decide +kernel⟩, List.mem_of_getElem? (i := 752) (by decide +kernel), List.mem_of_getElem? (i := 982) (by decide +kernel), List.mem_of_getElem? (i := 983) (by decide +kernel)⟩
theorem lw_p39 : lw_okq (⟨"NotLikeThemModel", "turnedNow", "()I"⟩, 21) := ⟨⟨by decide +kernel, by decide +kernel⟩, List.mem_of_getElem? (i := 752) (by decide +kernel), List.mem_of_getElem? (i := 994) (by decide +kernel), List.mem_of_getElem? (i := 995) (by decide +kernel)⟩
theorem lw_p40 : lw_okq (⟨"NotLikeThemModel", "draw", "()V"⟩, 21) := ⟨⟨by decide +kernel, by decide +kernel⟩, List.mem_of_getElem? (i := 752) (by decide +kernel), List.mem_of_getElem? (i := 1027) (by decide +kernel), List.mem_of_getElem? (i := 1028) (by decide +kernel)⟩
theorem lw_p41 : lw_okq (⟨"NotLikeThemModel", "maybeOf", "(I)I"⟩, 21) := ⟨⟨by decide +kernel, by decide +kernel⟩, List.mem_of_getElem? (i := 752) (by decide +kernel), List.mem_of_getElem? (i := 1044) (by decide +kernel), List.mem_of_getElem? (i := 1045) (by decide +kernel)⟩
theorem lw_p42 : lw_okq (⟨"NotLikeThemModel", "askedOf", "(II)I"⟩, 21) := ⟨⟨by decide +kernel, by decide +kernel⟩, List.mem_of_getElem? (i := 752) (by decide +kernel), List.mem_of_getElem? (i := 1062) (by decide +kernel), List.mem_of_getElem? (i := 1063) (by decide +kernel)⟩
theorem lw_p43 : lw_okq (⟨"NotLikeThemModel", "layAsks", "(II)V"⟩, 21) := ⟨⟨by decide +kernel, by decide +kernel⟩, List.mem_of_getElem? (i := 752) (by decide +kernel), List.mem_of_getElem? (i := 1075) (by decide +kernel), List.mem_of_getElem? (i := 1076) (by decide +kernel)⟩
theorem lw_p44 : lw_okq (⟨"NotLikeThemModel", "gainOf", "(III)I"⟩, 21) := ⟨⟨by decide +kernel, by decide +kernel⟩, List.mem_of_getElem? (i := 752) (by decide +kernel), List.mem_of_getElem? (i := 1079) (by decide +kernel), List.mem_of_getElem? (i := 1080) (by decide +kernel)⟩
def lw_privs_3 : List (MethodName × Nat) := [(⟨"NotLikeThemModel", "restOf", "(I)I"⟩, 21), (⟨"NotLikeThemModel", "isEven", "()Z"⟩, 21), (⟨"NotLikeThemModel", "loneOf", "(II)I"⟩, 21), (⟨"NotLikeThemModel", "witnessNow", "()I"⟩, 21), (⟨"NotLikeThemModel", "layCalms", "()V"⟩, 21), (⟨"NotLikeThemModel", "comesBack", "(I)Z"⟩, 21), (⟨"NotLikeThemModel", "layFar", "(I)V"⟩, 21), (⟨"NotLikeThemModel", "turnedNow", "()I"⟩, 21), (⟨"NotLikeThemModel", "draw", "()V"⟩, 21), (⟨"NotLikeThemModel", "maybeOf", "(I)I"⟩, 21), (⟨"NotLikeThemModel", "askedOf", "(II)I"⟩, 21), (⟨"NotLikeThemModel", "layAsks", "(II)V"⟩, 21), (⟨"NotLikeThemModel", "gainOf", "(III)I"⟩, 21)]
theorem lw_r3 : ∀ q ∈ lw_privs_3, lw_okq q := List.forall_mem_cons.mpr ⟨lw_p32, List.forall_mem_cons.mpr ⟨lw_p33, List.forall_mem_cons.mpr ⟨lw_p34, List.forall_mem_cons.mpr ⟨lw_p35, List.forall_mem_cons.mpr ⟨lw_p36, List.forall_mem_cons.mpr ⟨lw_p37, List.forall_mem_cons.mpr ⟨lw_p38, List.forall_mem_cons.mpr ⟨lw_p39, List.forall_mem_cons.mpr ⟨lw_p40, List.forall_mem_cons.mpr ⟨lw_p41, List.forall_mem_cons.mpr ⟨lw_p42, List.forall_mem_cons.mpr ⟨lw_p43, List.forall_mem_cons.mpr ⟨lw_p44, fun _ h => absurd h List.not_mem_nil⟩⟩⟩⟩⟩⟩⟩⟩⟩⟩⟩⟩⟩
def lw_privs : List (MethodName × Nat) := lw_privs_1 ++ (lw_privs_2 ++ (lw_privs_3))
def lw_tbl : List Cond := k2_sels lw_privs ++ tables_1
theorem lw_privs_ok : ∀ q ∈ lw_privs, lw_okq q := by
  show ∀ q ∈ lw_privs_1 ++ (lw_privs_2 ++ (lw_privs_3)), lw_okq q
  exact List.forall_mem_append.mpr ⟨lw_r1, List.forall_mem_append.mpr ⟨lw_r2, lw_r3⟩⟩
end
section
/-! A system of cells of a fixed shape: its memory (ints by cell and place, longs by cell and place), the kit's world of it, a walk's judgement Z over it, a row an instruction. -/
def lw_g : List Cond := lw_tbl.filter goodWord
theorem z_w {w : Cond} (h : w ∈ lw_tbl) (hg : goodWord w = true) : w ∈ lw_g := List.mem_filter.mpr ⟨h, hg⟩
theorem lw_good : lw_g.all goodWord = true := List.all_eq_true.mpr (fun w h => (List.mem_filter.mp h).2)
abbrev Mem : Type := (Nat → Nat → Int32) × (Nat → Nat → Int64)
def z_st (M : Mem) (k j : Nat) (v : Int32) : Mem := (va_up M.1 k (upd (M.1 k) j v), M.2)
def z_sl (M : Mem) (k j : Nat) (v : Int64) : Mem := (M.1, va_up M.2 k (vp_updL (M.2 k) j v))
abbrev SC : Type := Nat × Nat × List (Option Nat)
abbrev ST : Type := List SC × List vw_C
abbrev ET : Type := Launch × (Nat → Nat) × va_G × ClassId × ClassId × ClassId
def z_fv (ad : Nat → Nat) (M : Mem) (k : Nat) (j : Nat) (o : Option Nat) : Value := match o with
  | none => Value.int (M.1 k j)
  | some r => Value.ref (ad r)
def z_fs (ad : Nat → Nat) (M : Mem) (k : Nat) (rs : List (Option Nat)) : List Value := rs.mapIdx (z_fv ad M k)
def z_cell (E : ET) (M : Mem) (k : Nat) (sc : SC) : va_E := match sc.1 with
  | 0 => .inr (sc.2.1, z_fs E.2.1 M k sc.2.2)
  | 1 => .inl (E.2.2.2.1, sc.2.1, .inl (M.1 k))
  | 2 => .inl (E.2.2.2.2.1, sc.2.1, .inr (.inl (M.2 k)))
  | _ => .inl (E.2.2.2.2.2, sc.2.1, .inr (.inr (.inr (.inr (fun i => (sc.2.2[i]?).join.map E.2.1)))))
def z_wd (S : ST) (E : ET) (M : Mem) : va_W := S.1.mapIdx (fun k sc => (E.2.1 k, z_cell E M k sc))
def z_A (S : ST) (E : ET) : Nat → Prop := fun q => ∃ k, k < S.1.length ∧ q = E.2.1 k
def z_tys (E : ET) : List (ClassId × FieldType) := [(E.2.2.2.1, .int), (E.2.2.2.2.1, .long), (E.2.2.2.2.2, .array .int)]
def z_I (S : ST) (E : ET) : Prop := ∀ i j, i < S.1.length → j < S.1.length → E.2.1 i = E.2.1 j → i = j
def z_B (S : ST) (E : ET) (M : Mem) (U : State) : Prop := va_P E.2.2.1 S.2 (z_wd S E M) U.heap ∧ va_K E.2.2.1 S.2 (z_tys E) U ∧ z_I S E
def z_QQ (S : ST) (E : ET) (Q : Option Value → Mem → Prop) : Array Value → State → Outcome → State → Prop := fun _ st o t => (∃ (rv : Option Value) (M1 : Mem), o = .returned rv ∧ Q rv M1 ∧ z_B S E M1 t) ∧ va_F (z_A S E) st t
def z_rm (d : Nat) : Room := { frames := d, cells := 0, slots := 0, locals := 40 * d }
def z_is (rv : Option Value) (M1 : Mem) : Option Value → Mem → Prop := fun a b => a = rv ∧ b = M1
/-- the contract of a method over a system: called with av at the memory M it returns, with Q of its answer and the memory then; nothing but the system's cells is changed -/
def Ct (S : ST) (E : ET) (y : MethodName) (cc : ByteArray) (nL : Nat) (ret : Option FieldType) (d : Nat) (av : List Value) (M : Mem) (Q : Option Value → Mem → Prop) : Prop :=
  Met E.1 y (Cond.code y cc nL ret :: lw_g) (z_rm d) (va_Pc av (z_B S E M)) (z_QQ S E Q) 0 0 (z_A S E)
abbrev XT : Type := ET × Program × Env × State × MethodId × Array Value × List Frame × Method × Code
def Cx (S : ST) (X : XT) (own : String) (cc : ByteArray) (nL : Nat) (ret : Option FieldType) : Prop :=
  X.2.1.tables.exec = Jvm.exec ∧ X.2.2.2.2.2.2.2.2.code = cc ∧ X.2.2.2.2.2.2.2.2.maxLocals = nL ∧ X.2.2.2.1.vm.findClass own = some X.2.2.2.2.1.cls ∧ (∀ w ∈ lw_g, w.before X.2.2.2.2.2.1 X.2.2.2.1 = true) ∧ va_K X.1.2.2.1 S.2 (z_tys X.1) X.2.2.2.1 ∧ z_I S X.1 ∧ X.2.2.2.2.2.2.2.1.locks = false ∧ X.2.2.2.2.2.2.2.1.sig.returnType = ret
def Z (S : ST) (X : XT) (d nL : Nat) (Q : Option Value → Mem → Prop) (pc : Nat) (lv : List (Nat × Value)) (st : List Value) (M : Mem) : Prop :=
  ∀ (H : Heap) (locs : List Loc) (ls : Array Slot), lv_has ls nL lv → va_P X.1.2.2.1 S.2 (z_wd S X.1 M) H → va_S (z_A S X.1) X.2.2.2.1.heap H locs →
    W X.2.1 X.1.1 X.2.2.1 (z_rm d) X.2.2.2.1 X.2.2.2.2.1 X.2.2.2.2.2.1 X.2.2.2.2.2.2.1 X.2.2.2.2.2.2.2.1 X.2.2.2.2.2.2.2.2 H locs 0 0 (MQ X.2.2.2.2.2.2.1 (z_QQ S X.1 Q) X.2.2.2.2.2.1 X.2.2.2.1 0 0 (z_A S X.1)) (F0 X.2.2.2.2.1 pc ls st)
theorem z_wd_at {S : ST} {E : ET} {M : Mem} {k : Nat} {sc : SC} (h : S.1[k]? = some sc) : (z_wd S E M)[k]? = some (E.2.1 k, z_cell E M k sc) := by
  unfold z_wd
  rw [List.getElem?_mapIdx, h]
  rfl
theorem z_wd_len {S : ST} {E : ET} {M : Mem} : (z_wd S E M).length = S.1.length := by
  unfold z_wd
  rw [List.length_mapIdx]
theorem z_D {S : ST} {E : ET} (hI : z_I S E) (M : Mem) : va_D (z_A S E) (z_wd S E M) := by
  have key : ∀ (k : Nat) (q : Nat × va_E), (z_wd S E M)[k]? = some q → k < S.1.length ∧ q.1 = E.2.1 k := by
    intro k q h
    have hl : k < (z_wd S E M).length := (List.getElem?_eq_some_iff.mp h).1
    rw [z_wd_len] at hl
    obtain ⟨sc, hsc⟩ : ∃ sc, S.1[k]? = some sc := ⟨S.1[k], List.getElem?_eq_getElem hl⟩
    rw [z_wd_at hsc] at h
    cases h
    exact ⟨hl, rfl⟩
  refine ⟨fun i j p q hi hj e => ?_, fun k q h => ?_⟩
  · obtain ⟨a1, a2⟩ := key i p hi
    obtain ⟨b1, b2⟩ := key j q hj
    exact hI i j a1 b1 (by rw [← a2, ← b2, e])
  · obtain ⟨a1, a2⟩ := key k q h
    exact ⟨k, a1, a2⟩
theorem z_fs_at {ad : Nat → Nat} {M : Mem} {k f : Nat} {rs : List (Option Nat)} {o : Option Nat} (h : rs[f]? = some o) : (z_fs ad M k rs)[f]? = some (z_fv ad M k f o) := by
  unfold z_fs
  rw [List.getElem?_mapIdx, h]
  rfl
theorem z_cell_other {E : ET} {M M1 : Mem} {k : Nat} {sc : SC} (h1 : M1.1 k = M.1 k) (h2 : M1.2 k = M.2 k) : z_cell E M1 k sc = z_cell E M k sc := by
  have hf : z_fv E.2.1 M1 k = z_fv E.2.1 M k := by
    funext j o
    cases o with
    | none => show Value.int (M1.1 k j) = Value.int (M.1 k j); rw [h1]
    | some r => rfl
  have hfs : z_fs E.2.1 M1 k sc.2.2 = z_fs E.2.1 M k sc.2.2 := by unfold z_fs; rw [hf]
  unfold z_cell
  rw [h1, h2, hfs]
/-- one cell changed: the world with that cell put anew is the world of the new memory -/
theorem z_wd_set {S : ST} {E : ET} {M M1 : Mem} {k : Nat} {sc : SC} (h : S.1[k]? = some sc) (hn : ∀ j, j ≠ k → M1.1 j = M.1 j ∧ M1.2 j = M.2 j) : (z_wd S E M).set k (E.2.1 k, z_cell E M1 k sc) = z_wd S E M1 := by
  apply List.ext_getElem?
  intro i
  rw [List.getElem?_set]
  by_cases hi : k = i
  · subst hi
    rw [if_pos rfl, z_wd_len, if_pos (List.getElem?_eq_some_iff.mp h).1, z_wd_at h]
  · rw [if_neg hi]
    cases hs : S.1[i]? with
    | none =>
      have e1 : (z_wd S E M)[i]? = none := by
        rw [List.getElem?_eq_none_iff, z_wd_len]; exact List.getElem?_eq_none_iff.mp hs
      have e2 : (z_wd S E M1)[i]? = none := by
        rw [List.getElem?_eq_none_iff, z_wd_len]; exact List.getElem?_eq_none_iff.mp hs
      rw [e1, e2]
    | some sc' =>
      rw [z_wd_at hs, z_wd_at hs]
      have := hn i (fun e => hi e.symm)
      rw [z_cell_other this.1 this.2]
theorem z_st_ne {M : Mem} {k j : Nat} {v : Int32} : ∀ i, i ≠ k → (z_st M k j v).1 i = M.1 i ∧ (z_st M k j v).2 i = M.2 i := fun i hi => ⟨if_neg hi, rfl⟩
theorem z_sl_ne {M : Mem} {k j : Nat} {v : Int64} : ∀ i, i ≠ k → (z_sl M k j v).1 i = M.1 i ∧ (z_sl M k j v).2 i = M.2 i := fun i hi => ⟨rfl, if_neg hi⟩
theorem z_st_at (M : Mem) (k j : Nat) (v : Int32) : (z_st M k j v).1 k = upd (M.1 k) j v := if_pos rfl
theorem z_sl_at (M : Mem) (k j : Nat) (v : Int64) : (z_sl M k j v).2 k = vp_updL (M.2 k) j v := if_pos rfl
theorem z_fs_set {ad : Nat → Nat} {M : Mem} {k f : Nat} {rs : List (Option Nat)} {v : Int32} (h : rs[f]? = some none) : (z_fs ad M k rs).set f (.int v) = z_fs ad (z_st M k f v) k rs := by
  apply List.ext_getElem?
  intro i
  have hl : f < rs.length := (List.getElem?_eq_some_iff.mp h).1
  rw [List.getElem?_set]
  by_cases hi : f = i
  · subst hi
    rw [if_pos rfl]
    have : f < (z_fs ad M k rs).length := by unfold z_fs; rw [List.length_mapIdx]; exact hl
    rw [if_pos this, z_fs_at h]
    show some (Value.int v) = some (Value.int ((z_st M k f v).1 k f))
    rw [z_st_at]
    simp [upd]
  · rw [if_neg hi]
    unfold z_fs
    rw [List.getElem?_mapIdx, List.getElem?_mapIdx]
    cases hr : rs[i]? with
    | none => rfl
    | some o =>
      cases o with
      | some r => rfl
      | none =>
        show some (Value.int (M.1 k i)) = some (Value.int ((z_st M k f v).1 k i))
        rw [z_st_at]
        simp [upd, show ¬ i = f from fun e => hi e.symm]
theorem z_entry {S : ST} {E : ET} {y : MethodName} {cc : ByteArray} {nL : Nat} {ret : Option FieldType} {d : Nat} {av : List Value} {M : Mem} {Q : Option Value → Mem → Prop} (hy : plainName y.cls = true) (hlen : (lg_sl av).length ≤ nL) (h : ∀ X : XT, X.1 = E → Cx S X y.cls cc nL ret → Z S X d nL Q 0 (lv_args 0 av) [] M) : Ct S E y cc nL ret d av M Q := by
  refine Met.ofW (cc := cc) (maxL := nL) (ret := ret) hy rfl ?_
  intro p e s m args below meth c s₁ B hml hv
  obtain ⟨rfl, hP, hK, hI⟩ := hv
  have hts := atoms_spec (ws := Cond.code y cc nL ret :: lw_g) B.pre
  have hz := h (E, p, e, s, m, av.toArray, below, meth, c) rfl ⟨B.exec, B.bytes, hml, findClass_of_methodNamed B.named, fun w hw => hts w (List.mem_cons_of_mem _ hw), hK, hI, B.notSynchronized, B.returns⟩
  rw [lg_entry_eq]
  exact hz s.heap [] _ (lv_entry av hlen) hP va_S.rf
section ZRows
variable {S : ST} {X : XT} {own : String} {cc : ByteArray} {nL d pc : Nat} {ret : Option FieldType} {Q : Option Value → Mem → Prop} {lv lv' : List (Nat × Value)} {st : List Value} {M : Mem}
theorem z_sub (ks : List Nat) (hk : lv_pick lv ks = lv') (k : Z S X d nL Q pc lv' st M) : Z S X d nL Q pc lv st M :=
  fun H locs ls hl hP hS => k H locs ls (lv_sub hl ks hk) hP hS
theorem z_iconst (hX : Cx S X own cc nL ret) {n : Int} {v : Int32} (hd : decode cc pc = .ok (.iconst n, 1)) (hv : Int32.ofInt n = v) (k : Z S X d nL Q (pc + 1) lv (.int v :: st) M) : Z S X d nL Q pc lv (st) M :=
  fun H locs ls hl hP hS => lv_iconst hX.1 hX.2.1 hd hv (k H locs ls hl hP hS)
theorem z_bipush (hX : Cx S X own cc nL ret) {n : Int} {v : Int32} (hd : decode cc pc = .ok (.bipush n, 2)) (hv : (Int8.ofInt n).toInt32 = v) (k : Z S X d nL Q (pc + 2) lv (.int v :: st) M) : Z S X d nL Q pc lv (st) M :=
  fun H locs ls hl hP hS => lv_bipush hX.1 hX.2.1 hd hv (k H locs ls hl hP hS)
theorem z_sipush (hX : Cx S X own cc nL ret) {n : Int} {v : Int32} (hd : decode cc pc = .ok (.sipush n, 3)) (hv : (Int16.ofInt n).toInt32 = v) (k : Z S X d nL Q (pc + 3) lv (.int v :: st) M) : Z S X d nL Q pc lv (st) M :=
  fun H locs ls hl hP hS => lv_sipush hX.1 hX.2.1 hd hv (k H locs ls hl hP hS)
theorem z_lconst (hX : Cx S X own cc nL ret) {n : Fin 2} {v : Int64} (hd : decode cc pc = .ok (.lconst n, 1)) (hv : Int64.ofNat (n : Nat) = v) (k : Z S X d nL Q (pc + 1) lv (.long v :: st) M) : Z S X d nL Q pc lv (st) M :=
  fun H locs ls hl hP hS => lv_lconst hX.1 hX.2.1 hd hv (k H locs ls hl hP hS)
theorem z_ldc2 (hX : Cx S X own cc nL ret) {index : Nat} {v : Int64} (hd : decode cc pc = .ok (.ldc2_w index, 3)) (hw : Cond.constantLong own index v ∈ lw_g) (k : Z S X d nL Q (pc + 3) lv (.long v :: st) M) : Z S X d nL Q pc lv (st) M :=
  fun H locs ls hl hP hS => lv_ldc2 hX.1 hX.2.1 hX.2.2.2.1 (hX.2.2.2.2.1 _ hw) hd (k H locs ls hl hP hS)
theorem z_ldcw (hX : Cx S X own cc nL ret) {index : Nat} {v : Int32} (hd : decode cc pc = .ok (.ldc_w index, 3)) (hw : Cond.constant own index v ∈ lw_g) (k : Z S X d nL Q (pc + 3) lv (.int v :: st) M) : Z S X d nL Q pc lv (st) M :=
  fun H locs ls hl hP hS => lv_ldcw hX.1 hX.2.1 hX.2.2.2.1 (hX.2.2.2.2.1 _ hw) hd (k H locs ls hl hP hS)
theorem z_iload (hX : Cx S X own cc nL ret) {i : Nat} {x : Int32} (hd : decode cc pc = .ok (.iload i, 2)) (q : Nat) (hq : lv[q]? = some (i, .int x)) (k : Z S X d nL Q (pc + 2) lv (.int x :: st) M) : Z S X d nL Q pc lv (st) M :=
  fun H locs ls hl hP hS => lv_iload hX.1 hX.2.1 hd (lv_at hl q hq) (k H locs ls hl hP hS)
theorem z_iload_n (hX : Cx S X own cc nL ret) {n : Fin 4} {i : Nat} {x : Int32} (hd : decode cc pc = .ok (.iload_n n, 1)) (hi : (n : Nat) = i) (q : Nat) (hq : lv[q]? = some (i, .int x)) (k : Z S X d nL Q (pc + 1) lv (.int x :: st) M) : Z S X d nL Q pc lv (st) M :=
  fun H locs ls hl hP hS => lv_iload_n hX.1 hX.2.1 hd hi (lv_at hl q hq) (k H locs ls hl hP hS)
theorem z_lload (hX : Cx S X own cc nL ret) {i : Nat} {x : Int64} (hd : decode cc pc = .ok (.lload i, 2)) (q : Nat) (hq : lv[q]? = some (i, .long x)) (k : Z S X d nL Q (pc + 2) lv (.long x :: st) M) : Z S X d nL Q pc lv (st) M :=
  fun H locs ls hl hP hS => lv_lload hX.1 hX.2.1 hd (lv_at hl q hq) (k H locs ls hl hP hS)
theorem z_lload_n (hX : Cx S X own cc nL ret) {n : Fin 4} {i : Nat} {x : Int64} (hd : decode cc pc = .ok (.lload_n n, 1)) (hi : (n : Nat) = i) (q : Nat) (hq : lv[q]? = some (i, .long x)) (k : Z S X d nL Q (pc + 1) lv (.long x :: st) M) : Z S X d nL Q pc lv (st) M :=
  fun H locs ls hl hP hS => lv_lload_n hX.1 hX.2.1 hd hi (lv_at hl q hq) (k H locs ls hl hP hS)
theorem z_aload (hX : Cx S X own cc nL ret) {i : Nat} {x : Nat} (hd : decode cc pc = .ok (.aload i, 2)) (q : Nat) (hq : lv[q]? = some (i, .ref x)) (k : Z S X d nL Q (pc + 2) lv (.ref x :: st) M) : Z S X d nL Q pc lv (st) M :=
  fun H locs ls hl hP hS => lv_aload hX.1 hX.2.1 hd (lv_at hl q hq) (k H locs ls hl hP hS)
theorem z_aload_n (hX : Cx S X own cc nL ret) {n : Fin 4} {i : Nat} {x : Nat} (hd : decode cc pc = .ok (.aload_n n, 1)) (hi : (n : Nat) = i) (q : Nat) (hq : lv[q]? = some (i, .ref x)) (k : Z S X d nL Q (pc + 1) lv (.ref x :: st) M) : Z S X d nL Q pc lv (st) M :=
  fun H locs ls hl hP hS => lv_aload_n hX.1 hX.2.1 hd hi (lv_at hl q hq) (k H locs ls hl hP hS)
theorem z_istore (hX : Cx S X own cc nL ret) {i : Nat} {x : Int32} (hd : decode cc pc = .ok (.istore i, 2)) (hn : i < nL) (lv' : List (Nat × Value)) (hl' : (i, Value.int x) :: lv.filter (fun q => !(q.1 == i) && !(q.1 + 1 == i && q.2.category == 2)) = lv') (k : Z S X d nL Q (pc + 2) lv' st M) : Z S X d nL Q pc lv (Value.int x :: st) M :=
  fun H locs ls hl hP hS => lv_istore hX.1 hX.2.1 hd hl hn hl' (fun ls2 hl2 => k H locs ls2 hl2 hP hS)
theorem z_istore_n (hX : Cx S X own cc nL ret) {n : Fin 4} {i : Nat} {x : Int32} (hd : decode cc pc = .ok (.istore_n n, 1)) (hi : (n : Nat) = i) (hn : i < nL) (lv' : List (Nat × Value)) (hl' : (i, Value.int x) :: lv.filter (fun q => !(q.1 == i) && !(q.1 + 1 == i && q.2.category == 2)) = lv') (k : Z S X d nL Q (pc + 1) lv' st M) : Z S X d nL Q pc lv (Value.int x :: st) M :=
  fun H locs ls hl hP hS => lv_istore_n hX.1 hX.2.1 hd hi hl hn hl' (fun ls2 hl2 => k H locs ls2 hl2 hP hS)
theorem z_lstore (hX : Cx S X own cc nL ret) {i : Nat} {x : Int64} (hd : decode cc pc = .ok (.lstore i, 2)) (hn : i + 1 < nL) (lv' : List (Nat × Value)) (hl' : (i, Value.long x) :: lv.filter (fun q => !(q.1 == i) && (!(q.1 == i + 1) && !(q.1 + 1 == i && q.2.category == 2))) = lv') (k : Z S X d nL Q (pc + 2) lv' st M) : Z S X d nL Q pc lv (Value.long x :: st) M :=
  fun H locs ls hl hP hS => lv_lstore hX.1 hX.2.1 hd hl hn hl' (fun ls2 hl2 => k H locs ls2 hl2 hP hS)
theorem z_lstore_n (hX : Cx S X own cc nL ret) {n : Fin 4} {i : Nat} {x : Int64} (hd : decode cc pc = .ok (.lstore_n n, 1)) (hi : (n : Nat) = i) (hn : i + 1 < nL) (lv' : List (Nat × Value)) (hl' : (i, Value.long x) :: lv.filter (fun q => !(q.1 == i) && (!(q.1 == i + 1) && !(q.1 + 1 == i && q.2.category == 2))) = lv') (k : Z S X d nL Q (pc + 1) lv' st M) : Z S X d nL Q pc lv (Value.long x :: st) M :=
  fun H locs ls hl hP hS => lv_lstore_n hX.1 hX.2.1 hd hi hl hn hl' (fun ls2 hl2 => k H locs ls2 hl2 hP hS)
theorem z_astore (hX : Cx S X own cc nL ret) {i : Nat} {x : Nat} (hd : decode cc pc = .ok (.astore i, 2)) (hn : i < nL) (lv' : List (Nat × Value)) (hl' : (i, Value.ref x) :: lv.filter (fun q => !(q.1 == i) && !(q.1 + 1 == i && q.2.category == 2)) = lv') (k : Z S X d nL Q (pc + 2) lv' st M) : Z S X d nL Q pc lv (Value.ref x :: st) M :=
  fun H locs ls hl hP hS => lv_astore hX.1 hX.2.1 hd hl hn hl' (fun ls2 hl2 => k H locs ls2 hl2 hP hS)
theorem z_astore_n (hX : Cx S X own cc nL ret) {n : Fin 4} {i : Nat} {x : Nat} (hd : decode cc pc = .ok (.astore_n n, 1)) (hi : (n : Nat) = i) (hn : i < nL) (lv' : List (Nat × Value)) (hl' : (i, Value.ref x) :: lv.filter (fun q => !(q.1 == i) && !(q.1 + 1 == i && q.2.category == 2)) = lv') (k : Z S X d nL Q (pc + 1) lv' st M) : Z S X d nL Q pc lv (Value.ref x :: st) M :=
  fun H locs ls hl hP hS => lv_astore_n hX.1 hX.2.1 hd hi hl hn hl' (fun ls2 hl2 => k H locs ls2 hl2 hP hS)
theorem z_iinc (hX : Cx S X own cc nL ret) {i : Nat} {n : Int} {x v : Int32} (hd : decode cc pc = .ok (.iinc i n, 3)) (q : Nat) (hq : lv[q]? = some (i, .int x)) (hv : x + Int32.ofInt n = v) (hn : i < nL) (lv' : List (Nat × Value)) (hl' : (i, Value.int v) :: lv.filter (fun q => !(q.1 == i) && !(q.1 + 1 == i && q.2.category == 2)) = lv') (k : Z S X d nL Q (pc + 3) lv' st M) : Z S X d nL Q pc lv st M :=
  fun H locs ls hl hP hS => lv_iinc hX.1 hX.2.1 hd hl hq hv hn hl' (fun ls2 hl2 => k H locs ls2 hl2 hP hS)
theorem z_dup (hX : Cx S X own cc nL ret) {a : Value} (hd : decode cc pc = .ok (.dup, 1)) (ha : a.category = 1) (k : Z S X d nL Q (pc + 1) lv (a :: a :: st) M) : Z S X d nL Q pc lv (a :: st) M :=
  fun H locs ls hl hP hS => lv_dup hX.1 hX.2.1 hd ha (k H locs ls hl hP hS)
theorem z_pop (hX : Cx S X own cc nL ret) {a : Value} (hd : decode cc pc = .ok (.pop, 1)) (ha : a.category = 1) (k : Z S X d nL Q (pc + 1) lv st M) : Z S X d nL Q pc lv (a :: st) M :=
  fun H locs ls hl hP hS => lv_pop hX.1 hX.2.1 hd ha (k H locs ls hl hP hS)
theorem z_dup_x1 (hX : Cx S X own cc nL ret) {a b : Value} (hd : decode cc pc = .ok (.dup_x1, 1)) (ha : a.category = 1) (hb : b.category = 1) (k : Z S X d nL Q (pc + 1) lv (a :: b :: a :: st) M) : Z S X d nL Q pc lv (a :: b :: st) M :=
  fun H locs ls hl hP hS => lv_dup_x1 hX.1 hX.2.1 hd ha hb (k H locs ls hl hP hS)
theorem z_dup2 (hX : Cx S X own cc nL ret) {a b : Value} (hd : decode cc pc = .ok (.dup2, 1)) (ha : a.category = 1) (hb : b.category = 1) (k : Z S X d nL Q (pc + 1) lv (a :: b :: a :: b :: st) M) : Z S X d nL Q pc lv (a :: b :: st) M :=
  fun H locs ls hl hP hS => lv_dup2_11 hX.1 hX.2.1 hd ha hb (k H locs ls hl hP hS)
theorem z_iadd (hX : Cx S X own cc nL ret) {x y : Int32} (hd : decode cc pc = .ok (.iadd, 1))  (k : Z S X d nL Q (pc + 1) lv (.int (x + y) :: st) M) : Z S X d nL Q pc lv (.int y :: .int x :: st) M :=
  fun H locs ls hl hP hS => lv_iadd hX.1 hX.2.1 hd (k H locs ls hl hP hS)
theorem z_isub (hX : Cx S X own cc nL ret) {x y : Int32} (hd : decode cc pc = .ok (.isub, 1))  (k : Z S X d nL Q (pc + 1) lv (.int (x - y) :: st) M) : Z S X d nL Q pc lv (.int y :: .int x :: st) M :=
  fun H locs ls hl hP hS => lv_isub hX.1 hX.2.1 hd (k H locs ls hl hP hS)
theorem z_imul (hX : Cx S X own cc nL ret) {x y : Int32} (hd : decode cc pc = .ok (.imul, 1))  (k : Z S X d nL Q (pc + 1) lv (.int (x * y) :: st) M) : Z S X d nL Q pc lv (.int y :: .int x :: st) M :=
  fun H locs ls hl hP hS => lv_imul hX.1 hX.2.1 hd (k H locs ls hl hP hS)
theorem z_iand (hX : Cx S X own cc nL ret) {x y : Int32} (hd : decode cc pc = .ok (.iand, 1))  (k : Z S X d nL Q (pc + 1) lv (.int (x &&& y) :: st) M) : Z S X d nL Q pc lv (.int y :: .int x :: st) M :=
  fun H locs ls hl hP hS => lv_iand hX.1 hX.2.1 hd (k H locs ls hl hP hS)
theorem z_ior (hX : Cx S X own cc nL ret) {x y : Int32} (hd : decode cc pc = .ok (.ior, 1))  (k : Z S X d nL Q (pc + 1) lv (.int (x ||| y) :: st) M) : Z S X d nL Q pc lv (.int y :: .int x :: st) M :=
  fun H locs ls hl hP hS => lv_ior hX.1 hX.2.1 hd (k H locs ls hl hP hS)
theorem z_ixor (hX : Cx S X own cc nL ret) {x y : Int32} (hd : decode cc pc = .ok (.ixor, 1))  (k : Z S X d nL Q (pc + 1) lv (.int (x ^^^ y) :: st) M) : Z S X d nL Q pc lv (.int y :: .int x :: st) M :=
  fun H locs ls hl hP hS => lv_ixor hX.1 hX.2.1 hd (k H locs ls hl hP hS)
theorem z_ishl (hX : Cx S X own cc nL ret) {x y : Int32} (hd : decode cc pc = .ok (.ishl, 1))  (k : Z S X d nL Q (pc + 1) lv (.int (x <<< (y &&& 31)) :: st) M) : Z S X d nL Q pc lv (.int y :: .int x :: st) M :=
  fun H locs ls hl hP hS => lv_ishl hX.1 hX.2.1 hd (k H locs ls hl hP hS)
theorem z_ishr (hX : Cx S X own cc nL ret) {x y : Int32} (hd : decode cc pc = .ok (.ishr, 1))  (k : Z S X d nL Q (pc + 1) lv (.int (x >>> (y &&& 31)) :: st) M) : Z S X d nL Q pc lv (.int y :: .int x :: st) M :=
  fun H locs ls hl hP hS => lv_ishr hX.1 hX.2.1 hd (k H locs ls hl hP hS)
theorem z_iushr (hX : Cx S X own cc nL ret) {x y : Int32} (hd : decode cc pc = .ok (.iushr, 1))  (k : Z S X d nL Q (pc + 1) lv (.int (x.toUInt32 >>> (y.toUInt32 &&& Int32.toUInt32 31)).toInt32 :: st) M) : Z S X d nL Q pc lv (.int y :: .int x :: st) M :=
  fun H locs ls hl hP hS => lv_iushr hX.1 hX.2.1 hd rfl (k H locs ls hl hP hS)
theorem z_idiv (hX : Cx S X own cc nL ret) {x y : Int32} (hd : decode cc pc = .ok (.idiv, 1)) (hy : ¬ y = 0) (k : Z S X d nL Q (pc + 1) lv (.int (x / y) :: st) M) : Z S X d nL Q pc lv (.int y :: .int x :: st) M :=
  fun H locs ls hl hP hS => lv_idiv hX.1 hX.2.1 hd hy (k H locs ls hl hP hS)
theorem z_ineg (hX : Cx S X own cc nL ret) {x : Int32} (hd : decode cc pc = .ok (.ineg, 1))  (k : Z S X d nL Q (pc + 1) lv (.int (-x) :: st) M) : Z S X d nL Q pc lv (.int x :: st) M :=
  fun H locs ls hl hP hS => lv_ineg hX.1 hX.2.1 hd (k H locs ls hl hP hS)
theorem z_i2l (hX : Cx S X own cc nL ret) {x : Int32} (hd : decode cc pc = .ok (.i2l, 1))  (k : Z S X d nL Q (pc + 1) lv (.long x.toInt64 :: st) M) : Z S X d nL Q pc lv (.int x :: st) M :=
  fun H locs ls hl hP hS => lv_i2l hX.1 hX.2.1 hd rfl (k H locs ls hl hP hS)
theorem z_ladd (hX : Cx S X own cc nL ret) {x y : Int64} (hd : decode cc pc = .ok (.ladd, 1))  (k : Z S X d nL Q (pc + 1) lv (.long (x + y) :: st) M) : Z S X d nL Q pc lv (.long y :: .long x :: st) M :=
  fun H locs ls hl hP hS => lv_ladd hX.1 hX.2.1 hd (k H locs ls hl hP hS)
theorem z_lmul (hX : Cx S X own cc nL ret) {x y : Int64} (hd : decode cc pc = .ok (.lmul, 1))  (k : Z S X d nL Q (pc + 1) lv (.long (x * y) :: st) M) : Z S X d nL Q pc lv (.long y :: .long x :: st) M :=
  fun H locs ls hl hP hS => lv_lmul hX.1 hX.2.1 hd (k H locs ls hl hP hS)
theorem z_ldiv (hX : Cx S X own cc nL ret) {x y : Int64} (hd : decode cc pc = .ok (.ldiv, 1)) (hy : ¬ y = 0) (k : Z S X d nL Q (pc + 1) lv (.long (x / y) :: st) M) : Z S X d nL Q pc lv (.long y :: .long x :: st) M :=
  fun H locs ls hl hP hS => lv_ldiv hX.1 hX.2.1 hd hy (k H locs ls hl hP hS)
theorem z_lrem (hX : Cx S X own cc nL ret) {x y : Int64} (hd : decode cc pc = .ok (.lrem, 1)) (hy : ¬ y = 0) (k : Z S X d nL Q (pc + 1) lv (.long (x - x / y * y) :: st) M) : Z S X d nL Q pc lv (.long y :: .long x :: st) M :=
  fun H locs ls hl hP hS => lv_lrem hX.1 hX.2.1 hd hy (k H locs ls hl hP hS)
theorem z_lcmp (hX : Cx S X own cc nL ret) {x y : Int64} (hd : decode cc pc = .ok (.lcmp, 1))  (k : Z S X d nL Q (pc + 1) lv (.int (lg_cmp x y) :: st) M) : Z S X d nL Q pc lv (.long y :: .long x :: st) M :=
  fun H locs ls hl hP hS => W.lcmp hX.1 hX.2.1 hd (k H locs ls hl hP hS)
theorem z_icmp_eq (hX : Cx S X own cc nL ret) {x y : Int32} {off : Int} (tgt : Nat) (hd : decode cc pc = .ok (.if_icmp .eq off, 3)) (ht : (pc : Int) + off = (tgt : Int)) (kt : x = y → Z S X d nL Q tgt lv st M) (kf : ¬ x = y → Z S X d nL Q (pc + 3) lv st M) : Z S X d nL Q pc lv (.int y :: .int x :: st) M :=
  fun H locs ls hl hP hS => lv_icmp_eq hX.1 hX.2.1 hd ht (fun c0 => kt c0 H locs ls hl hP hS) (fun c0 => kf c0 H locs ls hl hP hS)
theorem z_icmp_ne (hX : Cx S X own cc nL ret) {x y : Int32} {off : Int} (tgt : Nat) (hd : decode cc pc = .ok (.if_icmp .ne off, 3)) (ht : (pc : Int) + off = (tgt : Int)) (kt : ¬ x = y → Z S X d nL Q tgt lv st M) (kf : x = y → Z S X d nL Q (pc + 3) lv st M) : Z S X d nL Q pc lv (.int y :: .int x :: st) M :=
  fun H locs ls hl hP hS => lv_icmp_ne hX.1 hX.2.1 hd ht (fun c0 => kt c0 H locs ls hl hP hS) (fun c0 => kf c0 H locs ls hl hP hS)
theorem z_icmp_lt (hX : Cx S X own cc nL ret) {x y : Int32} {off : Int} (tgt : Nat) (hd : decode cc pc = .ok (.if_icmp .lt off, 3)) (ht : (pc : Int) + off = (tgt : Int)) (kt : x < y → Z S X d nL Q tgt lv st M) (kf : ¬ x < y → Z S X d nL Q (pc + 3) lv st M) : Z S X d nL Q pc lv (.int y :: .int x :: st) M :=
  fun H locs ls hl hP hS => lv_icmp_lt hX.1 hX.2.1 hd ht (fun c0 => kt c0 H locs ls hl hP hS) (fun c0 => kf c0 H locs ls hl hP hS)
theorem z_icmp_ge (hX : Cx S X own cc nL ret) {x y : Int32} {off : Int} (tgt : Nat) (hd : decode cc pc = .ok (.if_icmp .ge off, 3)) (ht : (pc : Int) + off = (tgt : Int)) (kt : y ≤ x → Z S X d nL Q tgt lv st M) (kf : ¬ y ≤ x → Z S X d nL Q (pc + 3) lv st M) : Z S X d nL Q pc lv (.int y :: .int x :: st) M :=
  fun H locs ls hl hP hS => lv_icmp_ge hX.1 hX.2.1 hd ht (fun c0 => kt c0 H locs ls hl hP hS) (fun c0 => kf c0 H locs ls hl hP hS)
theorem z_icmp_gt (hX : Cx S X own cc nL ret) {x y : Int32} {off : Int} (tgt : Nat) (hd : decode cc pc = .ok (.if_icmp .gt off, 3)) (ht : (pc : Int) + off = (tgt : Int)) (kt : y < x → Z S X d nL Q tgt lv st M) (kf : ¬ y < x → Z S X d nL Q (pc + 3) lv st M) : Z S X d nL Q pc lv (.int y :: .int x :: st) M :=
  fun H locs ls hl hP hS => lv_icmp_gt hX.1 hX.2.1 hd ht (fun c0 => kt c0 H locs ls hl hP hS) (fun c0 => kf c0 H locs ls hl hP hS)
theorem z_icmp_le (hX : Cx S X own cc nL ret) {x y : Int32} {off : Int} (tgt : Nat) (hd : decode cc pc = .ok (.if_icmp .le off, 3)) (ht : (pc : Int) + off = (tgt : Int)) (kt : x ≤ y → Z S X d nL Q tgt lv st M) (kf : ¬ x ≤ y → Z S X d nL Q (pc + 3) lv st M) : Z S X d nL Q pc lv (.int y :: .int x :: st) M :=
  fun H locs ls hl hP hS => lv_icmp_le hX.1 hX.2.1 hd ht (fun c0 => kt c0 H locs ls hl hP hS) (fun c0 => kf c0 H locs ls hl hP hS)
theorem z_if_eq (hX : Cx S X own cc nL ret) {x : Int32} {off : Int} (tgt : Nat) (hd : decode cc pc = .ok (.ifCond .eq off, 3)) (ht : (pc : Int) + off = (tgt : Int)) (kt : x = 0 → Z S X d nL Q tgt lv st M) (kf : ¬ x = 0 → Z S X d nL Q (pc + 3) lv st M) : Z S X d nL Q pc lv (.int x :: st) M :=
  fun H locs ls hl hP hS => lv_if_eq hX.1 hX.2.1 hd ht (fun c0 => kt c0 H locs ls hl hP hS) (fun c0 => kf c0 H locs ls hl hP hS)
theorem z_if_ne (hX : Cx S X own cc nL ret) {x : Int32} {off : Int} (tgt : Nat) (hd : decode cc pc = .ok (.ifCond .ne off, 3)) (ht : (pc : Int) + off = (tgt : Int)) (kt : ¬ x = 0 → Z S X d nL Q tgt lv st M) (kf : x = 0 → Z S X d nL Q (pc + 3) lv st M) : Z S X d nL Q pc lv (.int x :: st) M :=
  fun H locs ls hl hP hS => lv_if_ne hX.1 hX.2.1 hd ht (fun c0 => kt c0 H locs ls hl hP hS) (fun c0 => kf c0 H locs ls hl hP hS)
theorem z_if_lt (hX : Cx S X own cc nL ret) {x : Int32} {off : Int} (tgt : Nat) (hd : decode cc pc = .ok (.ifCond .lt off, 3)) (ht : (pc : Int) + off = (tgt : Int)) (kt : x < 0 → Z S X d nL Q tgt lv st M) (kf : ¬ x < 0 → Z S X d nL Q (pc + 3) lv st M) : Z S X d nL Q pc lv (.int x :: st) M :=
  fun H locs ls hl hP hS => lv_if_lt hX.1 hX.2.1 hd ht (fun c0 => kt c0 H locs ls hl hP hS) (fun c0 => kf c0 H locs ls hl hP hS)
theorem z_if_ge (hX : Cx S X own cc nL ret) {x : Int32} {off : Int} (tgt : Nat) (hd : decode cc pc = .ok (.ifCond .ge off, 3)) (ht : (pc : Int) + off = (tgt : Int)) (kt : 0 ≤ x → Z S X d nL Q tgt lv st M) (kf : ¬ 0 ≤ x → Z S X d nL Q (pc + 3) lv st M) : Z S X d nL Q pc lv (.int x :: st) M :=
  fun H locs ls hl hP hS => lv_if_ge hX.1 hX.2.1 hd ht (fun c0 => kt c0 H locs ls hl hP hS) (fun c0 => kf c0 H locs ls hl hP hS)
theorem z_if_gt (hX : Cx S X own cc nL ret) {x : Int32} {off : Int} (tgt : Nat) (hd : decode cc pc = .ok (.ifCond .gt off, 3)) (ht : (pc : Int) + off = (tgt : Int)) (kt : 0 < x → Z S X d nL Q tgt lv st M) (kf : ¬ 0 < x → Z S X d nL Q (pc + 3) lv st M) : Z S X d nL Q pc lv (.int x :: st) M :=
  fun H locs ls hl hP hS => lv_if_gt hX.1 hX.2.1 hd ht (fun c0 => kt c0 H locs ls hl hP hS) (fun c0 => kf c0 H locs ls hl hP hS)
theorem z_if_le (hX : Cx S X own cc nL ret) {x : Int32} {off : Int} (tgt : Nat) (hd : decode cc pc = .ok (.ifCond .le off, 3)) (ht : (pc : Int) + off = (tgt : Int)) (kt : x ≤ 0 → Z S X d nL Q tgt lv st M) (kf : ¬ x ≤ 0 → Z S X d nL Q (pc + 3) lv st M) : Z S X d nL Q pc lv (.int x :: st) M :=
  fun H locs ls hl hP hS => lv_if_le hX.1 hX.2.1 hd ht (fun c0 => kt c0 H locs ls hl hP hS) (fun c0 => kf c0 H locs ls hl hP hS)
theorem z_goto (hX : Cx S X own cc nL ret) {off : Int} (tgt : Nat) (hd : decode cc pc = .ok (.goto off, 3)) (ht : (pc : Int) + off = (tgt : Int)) (k : Z S X d nL Q tgt lv st M) : Z S X d nL Q pc lv st M :=
  fun H locs ls hl hP hS => lv_goto hX.1 hX.2.1 hd ht (k H locs ls hl hP hS)
theorem z_tableOut (hX : Cx S X own cc nL ret) {dflt lo hi : Int} {offs : Array Int} {len : Nat} {x : Int32} (tgt : Nat) (hd : decode cc pc = .ok (.tableswitch dflt lo hi offs, len)) (h : x.toInt < lo ∨ hi < x.toInt) (ht : (pc : Int) + dflt = (tgt : Int)) (k : Z S X d nL Q tgt lv st M) : Z S X d nL Q pc lv (.int x :: st) M :=
  fun H locs ls hl hP hS => lv_tableOut hX.1 hX.2.1 hd h ht (k H locs ls hl hP hS)
theorem z_tableIn (hX : Cx S X own cc nL ret) {dflt lo hi : Int} {offs : Array Int} {len : Nat} {x : Int32} {off : Int} (tgt : Nat) (hd : decode cc pc = .ok (.tableswitch dflt lo hi offs, len)) (h1 : ¬ x.toInt < lo) (h2 : ¬ hi < x.toInt) (ho : offs[(x.toInt - lo).toNat]? = some off) (ht : (pc : Int) + off = (tgt : Int)) (k : Z S X d nL Q tgt lv st M) : Z S X d nL Q pc lv (.int x :: st) M :=
  fun H locs ls hl hP hS => lv_tableIn hX.1 hX.2.1 hd h1 h2 ho ht (k H locs ls hl hP hS)
theorem z_getI (hX : Cx S X own cc nL ret) {idx : Nat} (k f : Nat) {ci N : Nat} {C : String} {T : u_T} {rs : List (Option Nat)} (hs : S.1[k]? = some (0, ci, rs)) (hc : S.2[ci]? = some (C, T, N)) (hin : ∀ w ∈ u_ws C T N, w ∈ lw_g) (hf : f < N) (hr : rs[f]? = some none) (hlk : Cond.fieldLink own idx (T f).1 (T f).2.1 (T f).2.2.1 ∈ lw_g) (hd : decode cc pc = .ok (.getfield idx, 3)) (kk : Z S X d nL Q (pc + 3) lv (.int (M.1 k f) :: st) M) : Z S X d nL Q pc lv (.ref (X.1.2.1 k) :: st) M :=
  fun H locs ls hl hP hS => va_get (ci := ci) hX.1 hX.2.1 hX.2.2.2.2.1 hin hX.2.2.2.1 hX.2.2.2.2.2.1 hP k (z_wd_at hs) hc f hf (hX.2.2.2.2.1 _ hlk) (fun _ h9 => h9) (z_fs_at hr) hd (kk H locs ls hl hP hS)
theorem z_getR (hX : Cx S X own cc nL ret) {idx : Nat} (k f r : Nat) {ci N : Nat} {C : String} {T : u_T} {rs : List (Option Nat)} (hs : S.1[k]? = some (0, ci, rs)) (hc : S.2[ci]? = some (C, T, N)) (hin : ∀ w ∈ u_ws C T N, w ∈ lw_g) (hf : f < N) (hr : rs[f]? = some (some r)) (hlk : Cond.fieldLink own idx (T f).1 (T f).2.1 (T f).2.2.1 ∈ lw_g) (hd : decode cc pc = .ok (.getfield idx, 3)) (kk : Z S X d nL Q (pc + 3) lv (.ref (X.1.2.1 r) :: st) M) : Z S X d nL Q pc lv (.ref (X.1.2.1 k) :: st) M :=
  fun H locs ls hl hP hS => va_get (ci := ci) hX.1 hX.2.1 hX.2.2.2.2.1 hin hX.2.2.2.1 hX.2.2.2.2.2.1 hP k (z_wd_at hs) hc f hf (hX.2.2.2.2.1 _ hlk) (fun _ h9 => h9) (z_fs_at hr) hd (kk H locs ls hl hP hS)
theorem z_put (hX : Cx S X own cc nL ret) {idx : Nat} {v : Int32} (k f : Nat) {ci N : Nat} {C : String} {T : u_T} {rs : List (Option Nat)} (ty0 : Nat → FieldType) (hty : ∀ k, k < N → parseFieldDescriptor (T k).2.2.1 = some (ty0 k)) (hnm : ∀ a, a < N → ∀ b, b < N → a ≠ b → (T a).2.1 ≠ (T b).2.1) (hs : S.1[k]? = some (0, ci, rs)) (hc : S.2[ci]? = some (C, T, N)) (hin : ∀ w ∈ u_ws C T N, w ∈ lw_g) (hf : f < N) (hr : rs[f]? = some none) (hlk : Cond.fieldLink own idx (T f).1 (T f).2.1 (T f).2.2.1 ∈ lw_g) (hfin : (T f).2.2.2 = false) (hti : ty0 f = .int) (hd : decode cc pc = .ok (.putfield idx, 3)) (kk : Z S X d nL Q (pc + 3) lv st (z_st M k f v)) : Z S X d nL Q pc lv (.int v :: .ref (X.1.2.1 k) :: st) M := by
  intro H locs ls hl hP hS
  refine va_put (ci := ci) (ty := .int) hX.1 hX.2.1 hX.2.2.2.2.1 hin ty0 hty hnm hX.2.2.2.1 hX.2.2.2.2.2.1 hP (z_D hX.2.2.2.2.2.2.1 M) hS k (z_wd_at hs) hc f hf (hX.2.2.2.2.1 _ hlk) (fun _ h9 => h9) hfin (by rw [hty f hf, hti]) rfl rfl (by unfold z_fs; rw [List.length_mapIdx]; exact (List.getElem?_eq_some_iff.mp hr).1) hd (fun H1 locs1 hP1 _ hS1 => ?_)
  refine kk H1 locs1 ls hl ?_ hS1
  have e : (X.1.2.1 k, (Sum.inr (ci, (z_fs X.1.2.1 M k rs).set f (.int v)) : va_E)) = (X.1.2.1 k, z_cell X.1 (z_st M k f v) k (0, ci, rs)) := by
    rw [z_fs_set hr]; rfl
  rw [← z_wd_set hs z_st_ne, ← e]
  exact hP1
theorem z_iald (hX : Cx S X own cc nL ret) {i : Int32} (k : Nat) {n : Nat} {rs : List (Option Nat)} (hs : S.1[k]? = some (1, n, rs)) (hin : vp_in i n) (hd : decode cc pc = .ok (.iaload, 1)) (kk : Z S X d nL Q (pc + 1) lv (.int (M.1 k i.toNatClampNeg) :: st) M) : Z S X d nL Q pc lv (.int i :: .ref (X.1.2.1 k) :: st) M :=
  fun H locs ls hl hP hS => va_iald hX.1 hX.2.1 hX.2.2.2.2.2.1 hP k 0 (z_wd_at hs) rfl hin hd (kk H locs ls hl hP hS)
theorem z_lald (hX : Cx S X own cc nL ret) {i : Int32} (k : Nat) {n : Nat} {rs : List (Option Nat)} (hs : S.1[k]? = some (2, n, rs)) (hin : vp_in i n) (hd : decode cc pc = .ok (.laload, 1)) (kk : Z S X d nL Q (pc + 1) lv (.long (M.2 k i.toNatClampNeg) :: st) M) : Z S X d nL Q pc lv (.int i :: .ref (X.1.2.1 k) :: st) M :=
  fun H locs ls hl hP hS => va_lald hX.1 hX.2.1 hX.2.2.2.2.2.1 hP k 1 (z_wd_at hs) rfl hin hd (kk H locs ls hl hP hS)
theorem z_aald (hX : Cx S X own cc nL ret) {i : Int32} (k : Nat) {n r : Nat} {rs : List (Option Nat)} (hs : S.1[k]? = some (3, n, rs)) (hin : vp_in i n) (hr : rs[i.toNatClampNeg]? = some (some r)) (hd : decode cc pc = .ok (.aaload, 1)) (kk : Z S X d nL Q (pc + 1) lv (.ref (X.1.2.1 r) :: st) M) : Z S X d nL Q pc lv (.int i :: .ref (X.1.2.1 k) :: st) M := by
  intro H locs ls hl hP hS
  have hlt : i.toNatClampNeg < n := Nat.not_le.mp fun q => hin (Or.inr q)
  have hv : va_rf ((rs[i.toNatClampNeg]?).join.map X.1.2.1) = .ref (X.1.2.1 r) := by rw [hr]; rfl
  exact W.aald (v := .ref (X.1.2.1 r)) (ty := .array .int) hX.1 hX.2.1 (hP k _ (z_wd_at hs)) ((hX.2.2.2.2.2.1.2 2 _ rfl).1 n (fun j => va_rf ((rs[j]?).join.map X.1.2.1))) rfl (fun q => by cases q) (by show ¬ (i < 0 ∨ (arrV _ _ _).slots.size ≤ _); rw [arrV_size]; exact hin) (by show (arrV _ _ _).slots[_]? = _; rw [arrV_read _ _ hlt, hv]) rfl rfl hd (kk H locs ls hl hP hS)
theorem z_iast (hX : Cx S X own cc nL ret) {i x : Int32} (k : Nat) {n : Nat} {rs : List (Option Nat)} (hs : S.1[k]? = some (1, n, rs)) (hin : vp_in i n) (hd : decode cc pc = .ok (.iastore, 1)) (kk : Z S X d nL Q (pc + 1) lv st (z_st M k i.toNatClampNeg x)) : Z S X d nL Q pc lv (.int x :: .int i :: .ref (X.1.2.1 k) :: st) M := by
  intro H locs ls hl hP hS
  refine va_iast hX.1 hX.2.1 hX.2.2.2.2.2.1 hP (z_D hX.2.2.2.2.2.2.1 M) hS k 0 (z_wd_at hs) rfl hin hd (fun H1 locs1 hP1 _ hS1 => ?_)
  refine kk H1 locs1 ls hl ?_ hS1
  have e : (X.1.2.1 k, (Sum.inl (X.1.2.2.2.1, n, .inl (upd (M.1 k) i.toNatClampNeg x)) : va_E)) = (X.1.2.1 k, z_cell X.1 (z_st M k i.toNatClampNeg x) k (1, n, rs)) := by
    rw [← z_st_at]; rfl
  rw [← z_wd_set hs z_st_ne, ← e]
  exact hP1
theorem z_last (hX : Cx S X own cc nL ret) {i : Int32} {x : Int64} (k : Nat) {n : Nat} {rs : List (Option Nat)} (hs : S.1[k]? = some (2, n, rs)) (hin : vp_in i n) (hd : decode cc pc = .ok (.lastore, 1)) (kk : Z S X d nL Q (pc + 1) lv st (z_sl M k i.toNatClampNeg x)) : Z S X d nL Q pc lv (.long x :: .int i :: .ref (X.1.2.1 k) :: st) M := by
  intro H locs ls hl hP hS
  refine va_last hX.1 hX.2.1 hX.2.2.2.2.2.1 hP (z_D hX.2.2.2.2.2.2.1 M) hS k 1 (z_wd_at hs) rfl hin hd (fun H1 locs1 hP1 _ hS1 => ?_)
  refine kk H1 locs1 ls hl ?_ hS1
  have e : (X.1.2.1 k, (Sum.inl (X.1.2.2.2.2.1, n, .inr (.inl (vp_updL (M.2 k) i.toNatClampNeg x))) : va_E)) = (X.1.2.1 k, z_cell X.1 (z_sl M k i.toNatClampNeg x) k (2, n, rs)) := by
    rw [← z_sl_at]; rfl
  rw [← z_wd_set hs z_sl_ne, ← e]
  exact hP1
theorem z_mmax (hX : Cx S X own cc nL ret) {idx : Nat} {x y : Int32} (hlk : Cond.methodLink own idx Lib.Math.max.name ∈ lw_g) (hst : Cond.static Lib.Math.max.name ∈ lw_g) (hini : Cond.initialized "java/lang/Math" ∈ lw_g) (hco : Cond.code Lib.Math.max.name Lib.Math.max.code 2 (some .int) ∈ lw_g) (hfr : 1 ≤ d) (hw : (st.map fun v => v.category).sum ≤ 8) (hd : decode cc pc = .ok (.invokestatic idx, 3)) (kk : Z S X d nL Q (pc + 3) lv (.int (if x < y then y else x) :: st) M) : Z S X d nL Q pc lv (.int y :: .int x :: st) M :=
  fun H locs ls hl hP hS => va_mmax hX.1 hX.2.1 (hX.2.2.1.trans hl.1.symm) hX.2.2.2.1 (hX.2.2.2.2.1 _ hlk) (hX.2.2.2.2.1 _ hst) (hX.2.2.2.2.1 _ hini) (hX.2.2.2.2.1 _ hco) hfr (by show _ + 13 ≤ 40 * d; omega) (Nat.zero_le _) (Nat.zero_le _) hd (kk H locs ls hl hP hS)
theorem z_mmin (hX : Cx S X own cc nL ret) {idx : Nat} {x y : Int32} (hlk : Cond.methodLink own idx Lib.Math.min.name ∈ lw_g) (hst : Cond.static Lib.Math.min.name ∈ lw_g) (hini : Cond.initialized "java/lang/Math" ∈ lw_g) (hco : Cond.code Lib.Math.min.name Lib.Math.min.code 2 (some .int) ∈ lw_g) (hfr : 1 ≤ d) (hw : (st.map fun v => v.category).sum ≤ 8) (hd : decode cc pc = .ok (.invokestatic idx, 3)) (kk : Z S X d nL Q (pc + 3) lv (.int (if y < x then y else x) :: st) M) : Z S X d nL Q pc lv (.int y :: .int x :: st) M :=
  fun H locs ls hl hP hS => va_mmin hX.1 hX.2.1 (hX.2.2.1.trans hl.1.symm) hX.2.2.2.1 (hX.2.2.2.2.1 _ hlk) (hX.2.2.2.2.1 _ hst) (hX.2.2.2.2.1 _ hini) (hX.2.2.2.2.1 _ hco) hfr (by show _ + 13 ≤ 40 * d; omega) (Nat.zero_le _) (Nat.zero_le _) hd (kk H locs ls hl hP hS)
-- returns
theorem z_fin {H : Heap} {locs : List Loc} {rv : Option Value} (hX : Cx S X own cc nL ret) (hP : va_P X.1.2.2.1 S.2 (z_wd S X.1 M) H) (hS : va_S (z_A S X.1) X.2.2.2.1.heap H locs) (hq : Q rv M) : ∀ t : State, t.heap = H → X.2.2.2.1.WarmedH t.vm → z_QQ S X.1 Q X.2.2.2.2.2.1 X.2.2.2.1 (.returned rv) t :=
  fun t ht hW => ⟨⟨rv, M, rfl, hq, by rw [ht]; exact hP, va_K.moved hW.alike hX.2.2.2.2.2.1, hX.2.2.2.2.2.2.1⟩, hS.F ht⟩
theorem z_iret {v : Int32} (hX : Cx S X own cc nL (some .int)) (hd : decode cc pc = .ok (.ireturn, 1)) (hq : Q (some (.int v)) M) : Z S X d nL Q pc lv [.int v] M :=
  fun H locs ls hl hP hS => W.iret hX.1 hX.2.1 hX.2.2.2.2.2.2.2.2 (z_fin hX hP hS hq) hS.2.2 hd hX.2.2.2.2.2.2.2.1
theorem z_zret {v : Int32} (hX : Cx S X own cc nL (some .boolean)) (hd : decode cc pc = .ok (.ireturn, 1)) (hv : v = 0 ∨ v = 1) (hq : Q (some (.int v)) M) : Z S X d nL Q pc lv [.int v] M :=
  fun H locs ls hl hP hS => W.zret hX.1 hX.2.1 hX.2.2.2.2.2.2.2.2 (by rcases hv with rfl | rfl <;> rfl) (z_fin hX hP hS hq) hS.2.2 hd hX.2.2.2.2.2.2.2.1
theorem z_lret {v : Int64} (hX : Cx S X own cc nL (some .long)) (hd : decode cc pc = .ok (.lreturn, 1)) (hq : Q (some (.long v)) M) : Z S X d nL Q pc lv [.long v] M :=
  fun H locs ls hl hP hS => W.lret hX.1 hX.2.1 hX.2.2.2.2.2.2.2.2 (z_fin hX hP hS hq) hS.2.2 hd hX.2.2.2.2.2.2.2.1
theorem z_vret (hX : Cx S X own cc nL none) (hd : decode cc pc = .ok (.return_, 1)) (hq : Q none M) : Z S X d nL Q pc lv [] M :=
  fun H locs ls hl hP hS => W.vret hX.1 hX.2.1 hX.2.2.2.2.2.2.2.2 (z_fin hX hP hS hq) hS.2.2 hd hX.2.2.2.2.2.2.2.1
theorem z_aret {a : Nat} {t0 : FieldType} (hX : Cx S X own cc nL (some (.array t0))) (hd : decode cc pc = .ok (.areturn, 1)) (hq : Q (some (.ref a)) M) : Z S X d nL Q pc lv [.ref a] M :=
  fun H locs ls hl hP hS => W.aret hX.1 hX.2.1 hX.2.2.2.2.2.2.2.2 (Or.inr ⟨t0, rfl⟩) (Or.inr ⟨a, rfl⟩) (z_fin hX hP hS hq) hS.2.2 hd hX.2.2.2.2.2.2.2.1
-- calls
theorem z_run {st0 rest : List Value} {ls : Array Slot} {H : Heap} {locs : List Loc} {a : Array Value} {Q1 : Option Value → Mem → Prop} (hX : Cx S X own cc nL ret)
    (hr : va_Run X.2.1 X.1.1 X.2.2.1 (z_rm d) X.2.2.2.1 X.2.2.2.2.1 X.2.2.2.2.2.1 X.2.2.2.2.2.2.1 X.2.2.2.2.2.2.2.1 X.2.2.2.2.2.2.2.2 H locs 0 0 0 0 (F0 X.2.2.2.2.1 pc ls st0) rest (z_QQ S X.1 Q1 a) (z_A S X.1))
    (hl : lv_has ls nL lv) (hS : va_S (z_A S X.1) X.2.2.2.1.heap H locs)
    (kk : ∀ (rv : Option Value) (M1 : Mem), Q1 rv M1 → Z S X d nL Q (pc + 3) lv (rv.toList ++ rest) M1) :
    W X.2.1 X.1.1 X.2.2.1 (z_rm d) X.2.2.2.1 X.2.2.2.2.1 X.2.2.2.2.2.1 X.2.2.2.2.2.2.1 X.2.2.2.2.2.2.2.1 X.2.2.2.2.2.2.2.2 H locs 0 0 (MQ X.2.2.2.2.2.2.1 (z_QQ S X.1 Q) X.2.2.2.2.2.1 X.2.2.2.1 0 0 (z_A S X.1)) (F0 X.2.2.2.2.1 pc ls st0) := by
  intro T hT Xs
  obtain ⟨v, st₀, t, T', L, h0, X', hL, e1, e2, ⟨⟨rv, M1, hv, hq, hB⟩, hz, hk⟩, stp⟩ := hr T hT Xs
  cases hv
  rw [h0] at hz hk
  have hP1 : va_P X.1.2.2.1 S.2 (z_wd S X.1 M1) T'.heap := by rw [e1]; exact hB.1
  have hS1 : va_S (z_A S X.1) X.2.2.2.1.heap T'.heap (locs ++ L) :=
    ⟨Nat.le_trans hS.1 (by rw [e1]; exact hz), fun q h1 h2 => by rw [e1, hk q (Nat.lt_of_lt_of_le h1 hS.1) h2]; exact hS.2.1 q h1 h2, fun q hq => by
      rcases List.mem_append.mp hq with h | h
      · exact hS.2.2 q h
      · exact hL q h⟩
  obtain ⟨t2, a1, b1⟩ := kk v M1 hq T'.heap (locs ++ L) ls hl hP1 hS1 T' rfl X'
  exact ⟨t2, stp t2 a1, b1⟩
theorem z_blind {E : ET} {av : List Value} : FrameBlind (va_Pc av (z_B S E M)) :=
  fun a U g mk q => by
    obtain ⟨q0, qP, qK, qI⟩ := q
    exact ⟨q0, qP, va_K.moved (u := U) (U := U.calling g mk a) (Vm.Alike.refl U.vm) qK, qI⟩
theorem z_callB {y : MethodName} {bytes : ByteArray} {maxL n d1 idx : Nat} {ret1 : Option FieldType} (hX : Cx S X own cc nL ret) (hg : lw_g.all goodWord = true) (hco : Cond.code y bytes maxL ret1 ∈ lw_g) (hini : Cond.initialized y.cls ∈ lw_g) (hlk : Cond.methodLink own idx y ∈ lw_g)
    (hy : y.cls ≠ "java/lang/invoke/MethodHandle" ∧ y.cls ≠ "java/lang/invoke/VarHandle" ∧ (parseMethodDescriptor y.desc).map (fun d => d.parameters.length) = some n) (hR : d1 + 1 ≤ d) (hm : maxL ≤ 21) :
    CallB (z_rm d) X.2.2.2.1 X.2.2.2.2.2.1 own idx y bytes maxL ret1 (Cond.code y bytes maxL ret1 :: lw_g) (z_rm d1) 0 0 n := by
  have hts := hX.2.2.2.2.1
  have hgood : ∀ w ∈ (Cond.code y bytes maxL ret1 :: lw_g), w ∈ lw_g ∧ ((w.onTables && w.keeps) = true ∨ ∃ ty, w = .arrayClass ty) := by
    intro w hw
    have hm' : w ∈ lw_g := by
      rcases List.mem_cons.mp hw with rfl | h
      · exact hco
      · exact h
    exact ⟨hm', good_of_word (List.all_eq_true.mp hg w hm')⟩
  refine callB_of n hts hgood rfl rfl rfl (hts _ hini) (hts _ hlk) hy ⟨hR, ?_⟩
  show 8 + (maxL + 11) + 40 * d1 ≤ 40 * d
  omega
theorem z_callV {y : MethodName} {bytes : ByteArray} {maxL n d1 idx : Nat} {ret1 : Option FieldType} {As rest : List Value} {Q1 : Option Value → Mem → Prop} (hX : Cx S X own cc nL ret) (hg : lw_g.all goodWord = true) (kc : Nat) {ci : Nat} {rs : List (Option Nat)} {r : vw_C} (hs : S.1[kc]? = some (0, ci, rs)) (hc : S.2[ci]? = some r) (hrc : r.1 = y.cls) (hco : Cond.code y bytes maxL ret1 ∈ lw_g) (hini : Cond.initialized y.cls ∈ lw_g) (hlk : Cond.methodLink own idx y ∈ lw_g) (hins : Cond.instanceMethod y ∈ lw_g) (hsel : Cond.selects y.cls y y ∈ lw_g)
    (hy : y.cls ≠ "java/lang/invoke/MethodHandle" ∧ y.cls ≠ "java/lang/invoke/VarHandle" ∧ (parseMethodDescriptor y.desc).map (fun d => d.parameters.length) = some n) (hR : d1 + 1 ≤ d) (hm : maxL ≤ 21) (hn : As.length = n) (hw : (rest.map fun v => v.category).sum ≤ 8) (hd : decode cc pc = .ok (.invokevirtual idx, 3))
    (hC : Ct S X.1 y bytes maxL ret1 d1 (.ref (X.1.2.1 kc) :: As) M Q1) (kk : ∀ (rv : Option Value) (M1 : Mem), Q1 rv M1 → Z S X d nL Q (pc + 3) lv (rv.toList ++ rest) M1) : Z S X d nL Q pc lv (As.reverse ++ .ref (X.1.2.1 kc) :: rest) M := by
  intro H locs ls hl hP hS
  refine z_run (a := (Value.ref (X.1.2.1 kc) :: As).toArray) hX ?_ hl hS kk
  have hrec := va_recv hX.2.2.2.2.2.1 hP hc (z_wd_at hs)
  rw [hrc] at hrec
  exact va_runV (As := As) (rest := rest) ⟨hX.1, hX.2.1, hX.2.2.1, hX.2.2.2.1, hX.2.2.2.2.1⟩ hC ⟨z_callB hX hg hco hini hlk hy hR hm, hX.2.2.2.2.1 _ hins, hX.2.2.2.2.1 _ hsel⟩
    ⟨z_blind, hrec, fun U hU hW => ⟨rfl, by rw [hU]; exact hP, va_K.moved hW.alike hX.2.2.2.2.2.1, hX.2.2.2.2.2.2.1⟩⟩ rfl hn hl.1 rfl (lv_room hw) hd ⟨Nat.zero_le _, Nat.zero_le _⟩
theorem z_callS {y : MethodName} {bytes : ByteArray} {maxL n d1 idx : Nat} {ret1 : Option FieldType} {As rest : List Value} {Q1 : Option Value → Mem → Prop} (hX : Cx S X own cc nL ret) (hg : lw_g.all goodWord = true) (hco : Cond.code y bytes maxL ret1 ∈ lw_g) (hini : Cond.initialized y.cls ∈ lw_g) (hlk : Cond.methodLink own idx y ∈ lw_g) (hst : Cond.static y ∈ lw_g)
    (hy : y.cls ≠ "java/lang/invoke/MethodHandle" ∧ y.cls ≠ "java/lang/invoke/VarHandle" ∧ (parseMethodDescriptor y.desc).map (fun d => d.parameters.length) = some n) (hR : d1 + 1 ≤ d) (hm : maxL ≤ 21) (hn : As.length = n) (hw : (rest.map fun v => v.category).sum ≤ 8) (hd : decode cc pc = .ok (.invokestatic idx, 3))
    (hC : Ct S X.1 y bytes maxL ret1 d1 As M Q1) (kk : ∀ (rv : Option Value) (M1 : Mem), Q1 rv M1 → Z S X d nL Q (pc + 3) lv (rv.toList ++ rest) M1) : Z S X d nL Q pc lv (As.reverse ++ rest) M := by
  intro H locs ls hl hP hS
  refine z_run (a := As.toArray) hX ?_ hl hS kk
  exact va_runS (As := As) (rest := rest) ⟨hX.1, hX.2.1, hX.2.2.1, hX.2.2.2.1, hX.2.2.2.2.1⟩ hC ⟨z_callB hX hg hco hini hlk hy hR hm, hX.2.2.2.2.1 _ hst⟩
    ⟨z_blind, fun U hU hW => ⟨rfl, by rw [hU]; exact hP, va_K.moved hW.alike hX.2.2.2.2.2.1, hX.2.2.2.2.2.2.1⟩⟩ rfl hn hl.1 rfl (lv_room hw) hd ⟨Nat.zero_le _, Nat.zero_le _⟩
end ZRows
/-- a contract's exact answer, weakened -/
theorem Ct.mono {S : ST} {E : ET} {y : MethodName} {cc : ByteArray} {nL : Nat} {ret : Option FieldType} {d : Nat} {av : List Value} {M : Mem} {Q Q' : Option Value → Mem → Prop} (h : Ct S E y cc nL ret d av M Q) (hq : ∀ rv M1, Q rv M1 → Q' rv M1) : Ct S E y cc nL ret d av M Q' := by
  intro p e ha hc hk s m args below hf happ hp hq0
  obtain ⟨k, o, h1, h2, h3, ⟨⟨⟨rv, M1, e1, e2, e3⟩, e4⟩, e5⟩⟩ := h p e ha hc hk s m args below hf happ hp hq0
  exact ⟨k, o, h1, h2, h3, ⟨⟨⟨rv, M1, e1, hq _ _ e2, e3⟩, e4⟩, e5⟩⟩
end
section
def RX0 : String := "NotLikeThem$Chance"
def TX0 : u_T := fun k => match k with
  | 0 => ("NotLikeThem$Chance", "town", "LNotLikeThem$Town;", true)
  | 1 => ("NotLikeThem$Chance", "draws", "[I", true)
  | 2 => ("NotLikeThem$Chance", "queue", "[I", true)
  | 3 => ("NotLikeThem$Chance", "now", "[J", true)
  | _ => ("NotLikeThem$Chance", "then", "[J", true)
def tyX0 : Nat → FieldType := fun k => match k with
  | 0 => .object "NotLikeThem$Town"
  | 1 => .array .int
  | 2 => .array .int
  | 3 => .array .long
  | _ => .array .long
abbrev wsX00 : List Cond := u_ws RX0 TX0 5
theorem nmX0 : ∀ a, a < 5 → ∀ b, b < 5 → a ≠ b → (TX0 a).2.1 ≠ (TX0 b).2.1 := by decide +kernel
theorem tyX0_ok : ∀ k, k < 5 → parseFieldDescriptor (TX0 k).2.2.1 = some (tyX0 k) := by decide +kernel
abbrev cX0_init : ByteArray := prog_2_method_1_code
def yX0_init : MethodName := ⟨RX0, "<init>", "(LNotLikeThem$Town;LNotLikeThem$Spare;)V"⟩
abbrev cX0_canReach : ByteArray := prog_2_method_2_code
def yX0_canReach : MethodName := ⟨RX0, "canReach", "(II)Z"⟩
abbrev cX0_restsFrom : ByteArray := prog_2_method_3_code
def yX0_restsFrom : MethodName := ⟨RX0, "restsFrom", "(I)I"⟩
abbrev cX0_fewestDraws : ByteArray := prog_2_method_4_code
def yX0_fewestDraws : MethodName := ⟨RX0, "fewestDraws", "(I)I"⟩
abbrev cX0_search : ByteArray := prog_2_method_5_code
def yX0_search : MethodName := ⟨RX0, "search", "(I[I)I"⟩
abbrev cX0_fraction : ByteArray := prog_2_method_6_code
def yX0_fraction : MethodName := ⟨RX0, "fraction", "(IIZ)J"⟩
abbrev cX0_drawOnce : ByteArray := prog_2_method_7_code
def yX0_drawOnce : MethodName := ⟨RX0, "drawOnce", "([II)V"⟩
abbrev cX0_handOn : ByteArray := prog_2_method_8_code
def yX0_handOn : MethodName := ⟨RX0, "handOn", "(II)V"⟩
abbrev cX0_commonDivisor : ByteArray := prog_2_method_9_code
def yX0_commonDivisor : MethodName := ⟨RX0, "commonDivisor", "(JJ)J"⟩
def RX1 : String := "NotLikeThem$Heat"
def TX1 : u_T := fun k => match k with
  | _ => ("NotLikeThem$Heat", "town", "LNotLikeThem$Town;", true)
def tyX1 : Nat → FieldType := fun k => match k with
  | _ => .object "NotLikeThem$Town"
abbrev wsX10 : List Cond := u_ws RX1 TX1 1
theorem nmX1 : ∀ a, a < 1 → ∀ b, b < 1 → a ≠ b → (TX1 a).2.1 ≠ (TX1 b).2.1 := by decide +kernel
theorem tyX1_ok : ∀ k, k < 1 → parseFieldDescriptor (TX1 k).2.2.1 = some (tyX1 k) := by decide +kernel
abbrev cX1_init : ByteArray := prog_3_method_1_code
def yX1_init : MethodName := ⟨RX1, "<init>", "(LNotLikeThem$Town;)V"⟩
abbrev cX1_isDefined : ByteArray := prog_3_method_2_code
def yX1_isDefined : MethodName := ⟨RX1, "isDefined", "()Z"⟩
abbrev cX1_isEvenPair : ByteArray := prog_3_method_3_code
def yX1_isEvenPair : MethodName := ⟨RX1, "isEvenPair", "(II)Z"⟩
abbrev cX1_of : ByteArray := prog_3_method_4_code
def yX1_of : MethodName := ⟨RX1, "of", "(I)I"⟩
abbrev cX1_ofPair : ByteArray := prog_3_method_5_code
def yX1_ofPair : MethodName := ⟨RX1, "ofPair", "(III)I"⟩
abbrev cX1_ofLean : ByteArray := prog_3_method_6_code
def yX1_ofLean : MethodName := ⟨RX1, "ofLean", "(II)I"⟩
def RX2 : String := "NotLikeThem$Picture"
def TX2 : u_T := fun k => match k with
  | 0 => ("NotLikeThem$Picture", "town", "LNotLikeThem$Town;", true)
  | 1 => ("NotLikeThem$Picture", "weeks", "[I", true)
  | _ => ("NotLikeThem$Picture", "size", "I", false)
def tyX2 : Nat → FieldType := fun k => match k with
  | 0 => .object "NotLikeThem$Town"
  | 1 => .array .int
  | _ => .int
abbrev wsX20 : List Cond := u_ws RX2 TX2 3
theorem nmX2 : ∀ a, a < 3 → ∀ b, b < 3 → a ≠ b → (TX2 a).2.1 ≠ (TX2 b).2.1 := by decide +kernel
theorem tyX2_ok : ∀ k, k < 3 → parseFieldDescriptor (TX2 k).2.2.1 = some (tyX2 k) := by decide +kernel
abbrev cX2_init : ByteArray := prog_4_method_1_code
def yX2_init : MethodName := ⟨RX2, "<init>", "(LNotLikeThem$Town;)V"⟩
abbrev cX2_size : ByteArray := prog_4_method_2_code
def yX2_size : MethodName := ⟨RX2, "size", "()I"⟩
abbrev cX2_isFull : ByteArray := prog_4_method_3_code
def yX2_isFull : MethodName := ⟨RX2, "isFull", "()Z"⟩
abbrev cX2_add : ByteArray := prog_4_method_4_code
def yX2_add : MethodName := ⟨RX2, "add", "(I)V"⟩
abbrev cX2_clear : ByteArray := prog_4_method_5_code
def yX2_clear : MethodName := ⟨RX2, "clear", "()V"⟩
abbrev cX2_kindsOf : ByteArray := prog_4_method_6_code
def yX2_kindsOf : MethodName := ⟨RX2, "kindsOf", "(I)I"⟩
abbrev cX2_explanations : ByteArray := prog_4_method_7_code
def yX2_explanations : MethodName := ⟨RX2, "explanations", "()J"⟩
abbrev cX2_settleKinds : ByteArray := prog_4_method_8_code
def yX2_settleKinds : MethodName := ⟨RX2, "settleKinds", "()I"⟩
abbrev cX2_leastKind : ByteArray := prog_4_method_9_code
def yX2_leastKind : MethodName := ⟨RX2, "leastKind", "(I)I"⟩
def RX3 : String := "NotLikeThem$Rests"
def TX3 : u_T := fun k => match k with
  | _ => ("NotLikeThem$Rests", "town", "LNotLikeThem$Town;", true)
def tyX3 : Nat → FieldType := fun k => match k with
  | _ => .object "NotLikeThem$Town"
abbrev wsX30 : List Cond := u_ws RX3 TX3 1
theorem nmX3 : ∀ a, a < 1 → ∀ b, b < 1 → a ≠ b → (TX3 a).2.1 ≠ (TX3 b).2.1 := by decide +kernel
theorem tyX3_ok : ∀ k, k < 1 → parseFieldDescriptor (TX3 k).2.2.1 = some (tyX3 k) := by decide +kernel
abbrev cX3_init : ByteArray := prog_5_method_1_code
def yX3_init : MethodName := ⟨RX3, "<init>", "(LNotLikeThem$Town;)V"⟩
abbrev cX3_howMany : ByteArray := prog_5_method_2_code
def yX3_howMany : MethodName := ⟨RX3, "howMany", "()I"⟩
abbrev cX3_dressOf : ByteArray := prog_5_method_3_code
def yX3_dressOf : MethodName := ⟨RX3, "dressOf", "(I)I"⟩
abbrev cX3_fewestRestless : ByteArray := prog_5_method_4_code
def yX3_fewestRestless : MethodName := ⟨RX3, "fewestRestless", "()I"⟩
abbrev cX3_leastOfFewestRestless : ByteArray := prog_5_method_5_code
def yX3_leastOfFewestRestless : MethodName := ⟨RX3, "leastOfFewestRestless", "()I"⟩
def RX4 : String := "NotLikeThem$Rounds"
def TX4 : u_T := fun k => match k with
  | 0 => ("NotLikeThem$Rounds", "town", "LNotLikeThem$Town;", true)
  | 1 => ("NotLikeThem$Rounds", "found", "[I", true)
  | 2 => ("NotLikeThem$Rounds", "low", "[I", true)
  | 3 => ("NotLikeThem$Rounds", "path", "[I", true)
  | 4 => ("NotLikeThem$Rounds", "open", "[I", true)
  | 5 => ("NotLikeThem$Rounds", "left", "[I", true)
  | 6 => ("NotLikeThem$Rounds", "clock", "I", false)
  | 7 => ("NotLikeThem$Rounds", "pathSize", "I", false)
  | _ => ("NotLikeThem$Rounds", "openSize", "I", false)
def tyX4 : Nat → FieldType := fun k => match k with
  | 0 => .object "NotLikeThem$Town"
  | 1 => .array .int
  | 2 => .array .int
  | 3 => .array .int
  | 4 => .array .int
  | 5 => .array .int
  | 6 => .int
  | 7 => .int
  | _ => .int
abbrev wsX40 : List Cond := u_ws RX4 TX4 9
theorem nmX4 : ∀ a, a < 9 → ∀ b, b < 9 → a ≠ b → (TX4 a).2.1 ≠ (TX4 b).2.1 := by decide +kernel
theorem tyX4_ok : ∀ k, k < 9 → parseFieldDescriptor (TX4 k).2.2.1 = some (tyX4 k) := by decide +kernel
abbrev cX4_init : ByteArray := prog_6_method_1_code
def yX4_init : MethodName := ⟨RX4, "<init>", "(LNotLikeThem$Town;LNotLikeThem$Spare;)V"⟩
abbrev cX4_leastDress : ByteArray := prog_6_method_2_code
def yX4_leastDress : MethodName := ⟨RX4, "leastDress", "()I"⟩
abbrev cX4_searchFrom : ByteArray := prog_6_method_3_code
def yX4_searchFrom : MethodName := ⟨RX4, "searchFrom", "(II)I"⟩
abbrev cX4_enter : ByteArray := prog_6_method_4_code
def yX4_enter : MethodName := ⟨RX4, "enter", "(I)V"⟩
abbrev cX4_followOne : ByteArray := prog_6_method_5_code
def yX4_followOne : MethodName := ⟨RX4, "followOne", "(I)V"⟩
abbrev cX4_goBack : ByteArray := prog_6_method_6_code
def yX4_goBack : MethodName := ⟨RX4, "goBack", "(II)I"⟩
abbrev cX4_close : ByteArray := prog_6_method_7_code
def yX4_close : MethodName := ⟨RX4, "close", "(II)I"⟩
def RX5 : String := "NotLikeThem$Shop"
def TX5 : u_T := fun k => match k with
  | 0 => ("NotLikeThem$Shop", "town", "LNotLikeThem$Town;", true)
  | 1 => ("NotLikeThem$Shop", "walk", "LNotLikeThem$Walk;", true)
  | 2 => ("NotLikeThem$Shop", "dressing", "[I", true)
  | _ => ("NotLikeThem$Shop", "asking", "[I", true)
def tyX5 : Nat → FieldType := fun k => match k with
  | 0 => .object "NotLikeThem$Town"
  | 1 => .object "NotLikeThem$Walk"
  | 2 => .array .int
  | _ => .array .int
abbrev wsX50 : List Cond := u_ws RX5 TX5 4
theorem nmX5 : ∀ a, a < 4 → ∀ b, b < 4 → a ≠ b → (TX5 a).2.1 ≠ (TX5 b).2.1 := by decide +kernel
theorem tyX5_ok : ∀ k, k < 4 → parseFieldDescriptor (TX5 k).2.2.1 = some (tyX5 k) := by decide +kernel
abbrev cX5_init : ByteArray := prog_7_method_1_code
def yX5_init : MethodName := ⟨RX5, "<init>", "(LNotLikeThem$Town;LNotLikeThem$Walk;LNotLikeThem$Spare;)V"⟩
abbrev cX5_askedFrom : ByteArray := prog_7_method_2_code
def yX5_askedFrom : MethodName := ⟨RX5, "askedFrom", "(III)I"⟩
abbrev cX5_gainBy : ByteArray := prog_7_method_3_code
def yX5_gainBy : MethodName := ⟨RX5, "gainBy", "(IIIII)I"⟩
abbrev cX5_bestStock : ByteArray := prog_7_method_4_code
def yX5_bestStock : MethodName := ⟨RX5, "bestStock", "(IIII)I"⟩
abbrev cX5_tally : ByteArray := prog_7_method_5_code
def yX5_tally : MethodName := ⟨RX5, "tally", "(II)V"⟩
def RX6 : String := "NotLikeThem$Spare"
def TX6 : u_T := fun k => match k with
  | 0 => ("NotLikeThem$Spare", "a", "[I", true)
  | 1 => ("NotLikeThem$Spare", "b", "[I", true)
  | 2 => ("NotLikeThem$Spare", "c", "[I", true)
  | 3 => ("NotLikeThem$Spare", "d", "[I", true)
  | _ => ("NotLikeThem$Spare", "e", "[I", true)
def tyX6 : Nat → FieldType := fun k => match k with
  | 0 => .array .int
  | 1 => .array .int
  | 2 => .array .int
  | 3 => .array .int
  | _ => .array .int
abbrev wsX60 : List Cond := u_ws RX6 TX6 5
theorem nmX6 : ∀ a, a < 5 → ∀ b, b < 5 → a ≠ b → (TX6 a).2.1 ≠ (TX6 b).2.1 := by decide +kernel
theorem tyX6_ok : ∀ k, k < 5 → parseFieldDescriptor (TX6 k).2.2.1 = some (tyX6 k) := by decide +kernel
abbrev cX6_init : ByteArray := prog_8_method_1_code
def yX6_init : MethodName := ⟨RX6, "<init>", "()V"⟩
def RX7 : String := "NotLikeThem$Town"
def TX7 : u_T := fun k => match k with
  | 0 => ("NotLikeThem$Town", "weights", "[[I", true)
  | 1 => ("NotLikeThem$Town", "kinds", "[I", true)
  | 2 => ("NotLikeThem$Town", "leans", "[I", true)
  | 3 => ("NotLikeThem$Town", "sums", "[I", true)
  | 4 => ("NotLikeThem$Town", "restless", "[I", true)
  | 5 => ("NotLikeThem$Town", "size", "I", false)
  | 6 => ("NotLikeThem$Town", "stale", "I", false)
  | _ => ("NotLikeThem$Town", "version", "I", false)
def tyX7 : Nat → FieldType := fun k => match k with
  | 0 => .array (.array .int)
  | 1 => .array .int
  | 2 => .array .int
  | 3 => .array .int
  | 4 => .array .int
  | 5 => .int
  | 6 => .int
  | _ => .int
abbrev wsX70 : List Cond := u_ws RX7 TX7 8
theorem nmX7 : ∀ a, a < 8 → ∀ b, b < 8 → a ≠ b → (TX7 a).2.1 ≠ (TX7 b).2.1 := by decide +kernel
theorem tyX7_ok : ∀ k, k < 8 → parseFieldDescriptor (TX7 k).2.2.1 = some (tyX7 k) := by decide +kernel
abbrev cX7_init : ByteArray := prog_9_method_1_code
def yX7_init : MethodName := ⟨RX7, "<init>", "()V"⟩
abbrev cX7_size : ByteArray := prog_9_method_2_code
def yX7_size : MethodName := ⟨RX7, "size", "()I"⟩
abbrev cX7_dresses : ByteArray := prog_9_method_3_code
def yX7_dresses : MethodName := ⟨RX7, "dresses", "()I"⟩
abbrev cX7_version : ByteArray := prog_9_method_4_code
def yX7_version : MethodName := ⟨RX7, "version", "()I"⟩
abbrev cX7_has : ByteArray := prog_9_method_5_code
def yX7_has : MethodName := ⟨RX7, "has", "(I)Z"⟩
abbrev cX7_isDress : ByteArray := prog_9_method_6_code
def yX7_isDress : MethodName := ⟨RX7, "isDress", "(I)Z"⟩
abbrev cX7_startAnew : ByteArray := prog_9_method_7_code
def yX7_startAnew : MethodName := ⟨RX7, "startAnew", "(I)V"⟩
abbrev cX7_weight : ByteArray := prog_9_method_8_code
def yX7_weight : MethodName := ⟨RX7, "weight", "(II)I"⟩
abbrev cX7_setWeight : ByteArray := prog_9_method_9_code
def yX7_setWeight : MethodName := ⟨RX7, "setWeight", "(III)V"⟩
abbrev cX7_kind : ByteArray := prog_9_method_10_code
def yX7_kind : MethodName := ⟨RX7, "kind", "(I)I"⟩
abbrev cX7_setKind : ByteArray := prog_9_method_11_code
def yX7_setKind : MethodName := ⟨RX7, "setKind", "(II)V"⟩
abbrev cX7_lean : ByteArray := prog_9_method_12_code
def yX7_lean : MethodName := ⟨RX7, "lean", "(I)I"⟩
abbrev cX7_setLean : ByteArray := prog_9_method_13_code
def yX7_setLean : MethodName := ⟨RX7, "setLean", "(II)V"⟩
abbrev cX7_changed : ByteArray := prog_9_method_14_code
def yX7_changed : MethodName := ⟨RX7, "changed", "(I)V"⟩
abbrev cX7_seenBy : ByteArray := prog_9_method_15_code
def yX7_seenBy : MethodName := ⟨RX7, "seenBy", "(I)I"⟩
abbrev cX7_seeing : ByteArray := prog_9_method_16_code
def yX7_seeing : MethodName := ⟨RX7, "seeing", "(I)I"⟩
abbrev cX7_ties : ByteArray := prog_9_method_17_code
def yX7_ties : MethodName := ⟨RX7, "ties", "()I"⟩
abbrev cX7_countKind : ByteArray := prog_9_method_18_code
def yX7_countKind : MethodName := ⟨RX7, "countKind", "(I)I"⟩
abbrev cX7_sumOf : ByteArray := prog_9_method_19_code
def yX7_sumOf : MethodName := ⟨RX7, "sumOf", "(II)I"⟩
abbrev cX7_worn : ByteArray := prog_9_method_20_code
def yX7_worn : MethodName := ⟨RX7, "worn", "(II)I"⟩
abbrev cX7_nextOf : ByteArray := prog_9_method_21_code
def yX7_nextOf : MethodName := ⟨RX7, "nextOf", "(III)I"⟩
abbrev cX7_isCalm : ByteArray := prog_9_method_22_code
def yX7_isCalm : MethodName := ⟨RX7, "isCalm", "(II)Z"⟩
abbrev cX7_restlessIn : ByteArray := prog_9_method_23_code
def yX7_restlessIn : MethodName := ⟨RX7, "restlessIn", "(I)I"⟩
abbrev cX7_restless : ByteArray := prog_9_method_24_code
def yX7_restless : MethodName := ⟨RX7, "restless", "()[I"⟩
abbrev cX7_renew : ByteArray := prog_9_method_25_code
def yX7_renew : MethodName := ⟨RX7, "renew", "(I)V"⟩
abbrev cX7_fillSums : ByteArray := prog_9_method_26_code
def yX7_fillSums : MethodName := ⟨RX7, "fillSums", "(I)V"⟩
def RX8 : String := "NotLikeThem$Walk"
def TX8 : u_T := fun k => match k with
  | 0 => ("NotLikeThem$Walk", "town", "LNotLikeThem$Town;", true)
  | 1 => ("NotLikeThem$Walk", "step", "[I", true)
  | 2 => ("NotLikeThem$Walk", "ringOf", "[I", true)
  | 3 => ("NotLikeThem$Walk", "tail", "[I", true)
  | 4 => ("NotLikeThem$Walk", "queue", "[I", true)
  | 5 => ("NotLikeThem$Walk", "stepWay", "I", false)
  | 6 => ("NotLikeThem$Walk", "stepVersion", "I", false)
  | 7 => ("NotLikeThem$Walk", "ringWay", "I", false)
  | _ => ("NotLikeThem$Walk", "ringVersion", "I", false)
def tyX8 : Nat → FieldType := fun k => match k with
  | 0 => .object "NotLikeThem$Town"
  | 1 => .array .int
  | 2 => .array .int
  | 3 => .array .int
  | 4 => .array .int
  | 5 => .int
  | 6 => .int
  | 7 => .int
  | _ => .int
abbrev wsX80 : List Cond := u_ws RX8 TX8 9
theorem nmX8 : ∀ a, a < 9 → ∀ b, b < 9 → a ≠ b → (TX8 a).2.1 ≠ (TX8 b).2.1 := by decide +kernel
theorem tyX8_ok : ∀ k, k < 9 → parseFieldDescriptor (TX8 k).2.2.1 = some (tyX8 k) := by decide +kernel
abbrev cX8_init : ByteArray := prog_10_method_1_code
def yX8_init : MethodName := ⟨RX8, "<init>", "(LNotLikeThem$Town;)V"⟩
abbrev cX8_stepsBy : ByteArray := prog_10_method_2_code
def yX8_stepsBy : MethodName := ⟨RX8, "stepsBy", "(I)[I"⟩
abbrev cX8_oneByOne : ByteArray := prog_10_method_3_code
def yX8_oneByOne : MethodName := ⟨RX8, "oneByOne", "([II)I"⟩
abbrev cX8_behind : ByteArray := prog_10_method_4_code
def yX8_behind : MethodName := ⟨RX8, "behind", "(III)I"⟩
abbrev cX8_stepsToRing : ByteArray := prog_10_method_5_code
def yX8_stepsToRing : MethodName := ⟨RX8, "stepsToRing", "(II)I"⟩
abbrev cX8_entered : ByteArray := prog_10_method_6_code
def yX8_entered : MethodName := ⟨RX8, "entered", "(II)I"⟩
abbrev cX8_ringCount : ByteArray := prog_10_method_7_code
def yX8_ringCount : MethodName := ⟨RX8, "ringCount", "(I)I"⟩
abbrev cX8_leastOfRing : ByteArray := prog_10_method_8_code
def yX8_leastOfRing : MethodName := ⟨RX8, "leastOfRing", "(II)I"⟩
abbrev cX8_lengthOf : ByteArray := prog_10_method_9_code
def yX8_lengthOf : MethodName := ⟨RX8, "lengthOf", "(II)I"⟩
abbrev cX8_drawnTo : ByteArray := prog_10_method_10_code
def yX8_drawnTo : MethodName := ⟨RX8, "drawnTo", "(II)I"⟩
abbrev cX8_farthestFrom : ByteArray := prog_10_method_11_code
def yX8_farthestFrom : MethodName := ⟨RX8, "farthestFrom", "(II)I"⟩
abbrev cX8_greatestLength : ByteArray := prog_10_method_12_code
def yX8_greatestLength : MethodName := ⟨RX8, "greatestLength", "(I)I"⟩
abbrev cX8_findRings : ByteArray := prog_10_method_13_code
def yX8_findRings : MethodName := ⟨RX8, "findRings", "(I)V"⟩
abbrev cX8_takeOff : ByteArray := prog_10_method_14_code
def yX8_takeOff : MethodName := ⟨RX8, "takeOff", "(I)I"⟩
abbrev cX8_goRound : ByteArray := prog_10_method_15_code
def yX8_goRound : MethodName := ⟨RX8, "goRound", "(II)V"⟩
def RX9 : String := "NotLikeThem"
def TX9 : u_T := fun k => match k with
  | 0 => ("NotLikeThem", "town", "LNotLikeThem$Town;", true)
  | 1 => ("NotLikeThem", "warmth", "LNotLikeThem$Heat;", true)
  | 2 => ("NotLikeThem", "calmDresses", "LNotLikeThem$Rests;", true)
  | 3 => ("NotLikeThem", "walk", "LNotLikeThem$Walk;", true)
  | 4 => ("NotLikeThem", "rounds", "LNotLikeThem$Rounds;", true)
  | 5 => ("NotLikeThem", "chance", "LNotLikeThem$Chance;", true)
  | 6 => ("NotLikeThem", "picture", "LNotLikeThem$Picture;", true)
  | _ => ("NotLikeThem", "shop", "LNotLikeThem$Shop;", true)
def tyX9 : Nat → FieldType := fun k => match k with
  | 0 => .object "NotLikeThem$Town"
  | 1 => .object "NotLikeThem$Heat"
  | 2 => .object "NotLikeThem$Rests"
  | 3 => .object "NotLikeThem$Walk"
  | 4 => .object "NotLikeThem$Rounds"
  | 5 => .object "NotLikeThem$Chance"
  | 6 => .object "NotLikeThem$Picture"
  | _ => .object "NotLikeThem$Shop"
abbrev wsX90 : List Cond := u_ws RX9 TX9 8
theorem nmX9 : ∀ a, a < 8 → ∀ b, b < 8 → a ≠ b → (TX9 a).2.1 ≠ (TX9 b).2.1 := by decide +kernel
theorem tyX9_ok : ∀ k, k < 8 → parseFieldDescriptor (TX9 k).2.2.1 = some (tyX9 k) := by decide +kernel
abbrev cX9_init : ByteArray := prog_1_method_1_code
def yX9_init : MethodName := ⟨RX9, "<init>", "()V"⟩
abbrev cX9_people : ByteArray := prog_1_method_2_code
def yX9_people : MethodName := ⟨RX9, "people", "(I)I"⟩
abbrev cX9_tie : ByteArray := prog_1_method_3_code
def yX9_tie : MethodName := ⟨RX9, "tie", "(III)I"⟩
abbrev cX9_set : ByteArray := prog_1_method_4_code
def yX9_set : MethodName := ⟨RX9, "set", "(III)I"⟩
abbrev cX9_about : ByteArray := prog_1_method_5_code
def yX9_about : MethodName := ⟨RX9, "about", "(II)I"⟩
abbrev cX9_sees : ByteArray := prog_1_method_6_code
def yX9_sees : MethodName := ⟨RX9, "sees", "(II)I"⟩
abbrev cX9_sum : ByteArray := prog_1_method_7_code
def yX9_sum : MethodName := ⟨RX9, "sum", "(II)I"⟩
abbrev cX9_calm : ByteArray := prog_1_method_8_code
def yX9_calm : MethodName := ⟨RX9, "calm", "(I)I"⟩
abbrev cX9_after : ByteArray := prog_1_method_9_code
def yX9_after : MethodName := ⟨RX9, "after", "(III)I"⟩
abbrev cX9_run : ByteArray := prog_1_method_10_code
def yX9_run : MethodName := ⟨RX9, "run", "(III)I"⟩
abbrev cX9_rings : ByteArray := prog_1_method_11_code
def yX9_rings : MethodName := ⟨RX9, "rings", "(I)I"⟩
abbrev cX9_ring : ByteArray := prog_1_method_12_code
def yX9_ring : MethodName := ⟨RX9, "ring", "(III)I"⟩
abbrev cX9_longest : ByteArray := prog_1_method_13_code
def yX9_longest : MethodName := ⟨RX9, "longest", "(I)I"⟩
abbrev cX9_rests : ByteArray := prog_1_method_14_code
def yX9_rests : MethodName := ⟨RX9, "rests", "()I"⟩
abbrev cX9_rest : ByteArray := prog_1_method_15_code
def yX9_rest : MethodName := ⟨RX9, "rest", "(I)I"⟩
abbrev cX9_even : ByteArray := prog_1_method_16_code
def yX9_even : MethodName := ⟨RX9, "even", "()I"⟩
abbrev cX9_heat : ByteArray := prog_1_method_17_code
def yX9_heat : MethodName := ⟨RX9, "heat", "(I)I"⟩
abbrev cX9_lone : ByteArray := prog_1_method_18_code
def yX9_lone : MethodName := ⟨RX9, "lone", "(II)I"⟩
abbrev cX9_settled : ByteArray := prog_1_method_19_code
def yX9_settled : MethodName := ⟨RX9, "settled", "()I"⟩
abbrev cX9_witness : ByteArray := prog_1_method_20_code
def yX9_witness : MethodName := ⟨RX9, "witness", "()I"⟩
abbrev cX9_turn : ByteArray := prog_1_method_21_code
def yX9_turn : MethodName := ⟨RX9, "turn", "()I"⟩
abbrev cX9_turned : ByteArray := prog_1_method_22_code
def yX9_turned : MethodName := ⟨RX9, "turned", "()I"⟩
abbrev cX9_hold : ByteArray := prog_1_method_23_code
def yX9_hold : MethodName := ⟨RX9, "hold", "(Z)I"⟩
abbrev cX9_may : ByteArray := prog_1_method_24_code
def yX9_may : MethodName := ⟨RX9, "may", "(II)I"⟩
abbrev cX9_mays : ByteArray := prog_1_method_25_code
def yX9_mays : MethodName := ⟨RX9, "mays", "(I)I"⟩
abbrev cX9_soon : ByteArray := prog_1_method_26_code
def yX9_soon : MethodName := ⟨RX9, "soon", "(I)I"⟩
abbrev cX9_likely : ByteArray := prog_1_method_27_code
def yX9_likely : MethodName := ⟨RX9, "likely", "(IIZ)J"⟩
abbrev cX9_week : ByteArray := prog_1_method_28_code
def yX9_week : MethodName := ⟨RX9, "week", "(I)I"⟩
abbrev cX9_wipe : ByteArray := prog_1_method_29_code
def yX9_wipe : MethodName := ⟨RX9, "wipe", "()I"⟩
abbrev cX9_maybe : ByteArray := prog_1_method_30_code
def yX9_maybe : MethodName := ⟨RX9, "maybe", "(I)I"⟩
abbrev cX9_ways : ByteArray := prog_1_method_31_code
def yX9_ways : MethodName := ⟨RX9, "ways", "()J"⟩
abbrev cX9_take : ByteArray := prog_1_method_32_code
def yX9_take : MethodName := ⟨RX9, "take", "()I"⟩
abbrev cX9_asked : ByteArray := prog_1_method_33_code
def yX9_asked : MethodName := ⟨RX9, "asked", "(III)I"⟩
abbrev cX9_gain : ByteArray := prog_1_method_34_code
def yX9_gain : MethodName := ⟨RX9, "gain", "(IIIII)I"⟩
abbrev cX9_order : ByteArray := prog_1_method_35_code
def yX9_order : MethodName := ⟨RX9, "order", "(IIII)I"⟩
abbrev cX9_count : ByteArray := prog_1_method_36_code
def yX9_count : MethodName := ⟨RX9, "count", "(I)I"⟩
abbrev cX9_within : ByteArray := prog_1_method_37_code
def yX9_within : MethodName := ⟨RX9, "within", "(III)Z"⟩
abbrev cX9_isWay : ByteArray := prog_1_method_38_code
def yX9_isWay : MethodName := ⟨RX9, "isWay", "(I)Z"⟩
abbrev cX9_isShopRun : ByteArray := prog_1_method_39_code
def yX9_isShopRun : MethodName := ⟨RX9, "isShopRun", "(I)Z"⟩
abbrev cX9_isMoney : ByteArray := prog_1_method_40_code
def yX9_isMoney : MethodName := ⟨RX9, "isMoney", "(I)Z"⟩
def RX10 : String := "NotLikeThemModel"
def TX10 : u_T := fun k => match k with
  | 0 => ("NotLikeThemModel", "people", "I", false)
  | 1 => ("NotLikeThemModel", "weight", "[I", true)
  | 2 => ("NotLikeThemModel", "kind", "[I", true)
  | 3 => ("NotLikeThemModel", "lean", "[I", true)
  | 4 => ("NotLikeThemModel", "leads", "[I", true)
  | 5 => ("NotLikeThemModel", "when", "[I", true)
  | 6 => ("NotLikeThemModel", "entered", "I", false)
  | 7 => ("NotLikeThemModel", "tail", "I", false)
  | 8 => ("NotLikeThemModel", "length", "I", false)
  | 9 => ("NotLikeThemModel", "draws", "[I", true)
  | 10 => ("NotLikeThemModel", "longs", "[I", true)
  | 11 => ("NotLikeThemModel", "most", "[I", true)
  | 12 => ("NotLikeThemModel", "far", "[I", true)
  | 13 => ("NotLikeThemModel", "queue", "[I", true)
  | 14 => ("NotLikeThemModel", "calms", "[I", true)
  | 15 => ("NotLikeThemModel", "met", "I", false)
  | 16 => ("NotLikeThemModel", "chance", "[J", true)
  | 17 => ("NotLikeThemModel", "then", "[J", true)
  | 18 => ("NotLikeThemModel", "weeks", "I", false)
  | 19 => ("NotLikeThemModel", "week", "[I", true)
  | _ => ("NotLikeThemModel", "asks", "[I", true)
def tyX10 : Nat → FieldType := fun k => match k with
  | 0 => .int
  | 1 => .array .int
  | 2 => .array .int
  | 3 => .array .int
  | 4 => .array .int
  | 5 => .array .int
  | 6 => .int
  | 7 => .int
  | 8 => .int
  | 9 => .array .int
  | 10 => .array .int
  | 11 => .array .int
  | 12 => .array .int
  | 13 => .array .int
  | 14 => .array .int
  | 15 => .int
  | 16 => .array .long
  | 17 => .array .long
  | 18 => .int
  | 19 => .array .int
  | _ => .array .int
abbrev wsX100 : List Cond := u_ws RX10 TX10 21
theorem nmX10 : ∀ a, a < 21 → ∀ b, b < 21 → a ≠ b → (TX10 a).2.1 ≠ (TX10 b).2.1 := by decide +kernel
theorem tyX10_ok : ∀ k, k < 21 → parseFieldDescriptor (TX10 k).2.2.1 = some (tyX10 k) := by decide +kernel
abbrev cX10_init : ByteArray := prog_12_method_1_code
def yX10_init : MethodName := ⟨RX10, "<init>", "()V"⟩
abbrev cX10_in : ByteArray := prog_12_method_3_code
def yX10_in : MethodName := ⟨RX10, "in", "(JJJ)Z"⟩
abbrev cX10_ones : ByteArray := prog_12_method_4_code
def yX10_ones : MethodName := ⟨RX10, "ones", "(I)I"⟩
abbrev cX10_isPerson : ByteArray := prog_12_method_5_code
def yX10_isPerson : MethodName := ⟨RX10, "isPerson", "(I)Z"⟩
abbrev cX10_isDress : ByteArray := prog_12_method_6_code
def yX10_isDress : MethodName := ⟨RX10, "isDress", "(I)Z"⟩
abbrev cX10_isWay : ByteArray := prog_12_method_7_code
def yX10_isWay : MethodName := ⟨RX10, "isWay", "(I)Z"⟩
abbrev cX10_people : ByteArray := prog_12_method_8_code
def yX10_people : MethodName := ⟨RX10, "people", "(I)I"⟩
abbrev cX10_tie : ByteArray := prog_12_method_9_code
def yX10_tie : MethodName := ⟨RX10, "tie", "(III)I"⟩
abbrev cX10_set : ByteArray := prog_12_method_10_code
def yX10_set : MethodName := ⟨RX10, "set", "(III)I"⟩
abbrev cX10_about : ByteArray := prog_12_method_11_code
def yX10_about : MethodName := ⟨RX10, "about", "(II)I"⟩
abbrev cX10_sees : ByteArray := prog_12_method_12_code
def yX10_sees : MethodName := ⟨RX10, "sees", "(II)I"⟩
abbrev cX10_sumOf : ByteArray := prog_12_method_13_code
def yX10_sumOf : MethodName := ⟨RX10, "sumOf", "(II)I"⟩
abbrev cX10_nextOf : ByteArray := prog_12_method_14_code
def yX10_nextOf : MethodName := ⟨RX10, "nextOf", "(III)I"⟩
abbrev cX10_with : ByteArray := prog_12_method_15_code
def yX10_with : MethodName := ⟨RX10, "with", "(III)I"⟩
abbrev cX10_calmOf : ByteArray := prog_12_method_16_code
def yX10_calmOf : MethodName := ⟨RX10, "calmOf", "(I)I"⟩
abbrev cX10_all : ByteArray := prog_12_method_17_code
def yX10_all : MethodName := ⟨RX10, "all", "()I"⟩
abbrev cX10_stepFrom : ByteArray := prog_12_method_18_code
def yX10_stepFrom : MethodName := ⟨RX10, "stepFrom", "(II)I"⟩
abbrev cX10_sum : ByteArray := prog_12_method_19_code
def yX10_sum : MethodName := ⟨RX10, "sum", "(II)I"⟩
abbrev cX10_calm : ByteArray := prog_12_method_20_code
def yX10_calm : MethodName := ⟨RX10, "calm", "(I)I"⟩
abbrev cX10_after : ByteArray := prog_12_method_21_code
def yX10_after : MethodName := ⟨RX10, "after", "(III)I"⟩
abbrev cX10_layLeads : ByteArray := prog_12_method_22_code
def yX10_layLeads : MethodName := ⟨RX10, "layLeads", "(I)V"⟩
abbrev cX10_layRun : ByteArray := prog_12_method_23_code
def yX10_layRun : MethodName := ⟨RX10, "layRun", "(I)V"⟩
abbrev cX10_run : ByteArray := prog_12_method_24_code
def yX10_run : MethodName := ⟨RX10, "run", "(III)I"⟩
abbrev cX10_leastOfRing : ByteArray := prog_12_method_25_code
def yX10_leastOfRing : MethodName := ⟨RX10, "leastOfRing", "()I"⟩
abbrev cX10_layRings : ByteArray := prog_12_method_26_code
def yX10_layRings : MethodName := ⟨RX10, "layRings", "(I)V"⟩
abbrev cX10_rings : ByteArray := prog_12_method_27_code
def yX10_rings : MethodName := ⟨RX10, "rings", "(I)I"⟩
abbrev cX10_ring : ByteArray := prog_12_method_28_code
def yX10_ring : MethodName := ⟨RX10, "ring", "(III)I"⟩
abbrev cX10_longest : ByteArray := prog_12_method_29_code
def yX10_longest : MethodName := ⟨RX10, "longest", "(I)I"⟩
abbrev cX10_isRest : ByteArray := prog_12_method_30_code
def yX10_isRest : MethodName := ⟨RX10, "isRest", "(I)Z"⟩
abbrev cX10_rests : ByteArray := prog_12_method_31_code
def yX10_rests : MethodName := ⟨RX10, "rests", "()I"⟩
abbrev cX10_restOf : ByteArray := prog_12_method_32_code
def yX10_restOf : MethodName := ⟨RX10, "restOf", "(I)I"⟩
abbrev cX10_rest : ByteArray := prog_12_method_33_code
def yX10_rest : MethodName := ⟨RX10, "rest", "(I)I"⟩
abbrev cX10_isEven : ByteArray := prog_12_method_34_code
def yX10_isEven : MethodName := ⟨RX10, "isEven", "()Z"⟩
abbrev cX10_even : ByteArray := prog_12_method_35_code
def yX10_even : MethodName := ⟨RX10, "even", "()I"⟩
abbrev cX10_heat : ByteArray := prog_12_method_36_code
def yX10_heat : MethodName := ⟨RX10, "heat", "(I)I"⟩
abbrev cX10_loneOf : ByteArray := prog_12_method_37_code
def yX10_loneOf : MethodName := ⟨RX10, "loneOf", "(II)I"⟩
abbrev cX10_lone : ByteArray := prog_12_method_38_code
def yX10_lone : MethodName := ⟨RX10, "lone", "(II)I"⟩
abbrev cX10_layCalms : ByteArray := prog_12_method_39_code
def yX10_layCalms : MethodName := ⟨RX10, "layCalms", "()V"⟩
abbrev cX10_layFar : ByteArray := prog_12_method_40_code
def yX10_layFar : MethodName := ⟨RX10, "layFar", "(I)V"⟩
abbrev cX10_comesBack : ByteArray := prog_12_method_41_code
def yX10_comesBack : MethodName := ⟨RX10, "comesBack", "(I)Z"⟩
abbrev cX10_witnessNow : ByteArray := prog_12_method_42_code
def yX10_witnessNow : MethodName := ⟨RX10, "witnessNow", "()I"⟩
abbrev cX10_settled : ByteArray := prog_12_method_43_code
def yX10_settled : MethodName := ⟨RX10, "settled", "()I"⟩
abbrev cX10_witness : ByteArray := prog_12_method_44_code
def yX10_witness : MethodName := ⟨RX10, "witness", "()I"⟩
abbrev cX10_turnedNow : ByteArray := prog_12_method_45_code
def yX10_turnedNow : MethodName := ⟨RX10, "turnedNow", "()I"⟩
abbrev cX10_turn : ByteArray := prog_12_method_46_code
def yX10_turn : MethodName := ⟨RX10, "turn", "()I"⟩
abbrev cX10_turned : ByteArray := prog_12_method_47_code
def yX10_turned : MethodName := ⟨RX10, "turned", "()I"⟩
abbrev cX10_hold : ByteArray := prog_12_method_48_code
def yX10_hold : MethodName := ⟨RX10, "hold", "(Z)I"⟩
abbrev cX10_may : ByteArray := prog_12_method_49_code
def yX10_may : MethodName := ⟨RX10, "may", "(II)I"⟩
abbrev cX10_mays : ByteArray := prog_12_method_50_code
def yX10_mays : MethodName := ⟨RX10, "mays", "(I)I"⟩
abbrev cX10_soon : ByteArray := prog_12_method_51_code
def yX10_soon : MethodName := ⟨RX10, "soon", "(I)I"⟩
abbrev cX10_draw : ByteArray := prog_12_method_52_code
def yX10_draw : MethodName := ⟨RX10, "draw", "()V"⟩
abbrev cX10_likely : ByteArray := prog_12_method_53_code
def yX10_likely : MethodName := ⟨RX10, "likely", "(IIZ)J"⟩
abbrev cX10_week : ByteArray := prog_12_method_54_code
def yX10_week : MethodName := ⟨RX10, "week", "(I)I"⟩
abbrev cX10_wipe : ByteArray := prog_12_method_55_code
def yX10_wipe : MethodName := ⟨RX10, "wipe", "()I"⟩
abbrev cX10_maybeOf : ByteArray := prog_12_method_56_code
def yX10_maybeOf : MethodName := ⟨RX10, "maybeOf", "(I)I"⟩
abbrev cX10_maybe : ByteArray := prog_12_method_57_code
def yX10_maybe : MethodName := ⟨RX10, "maybe", "(I)I"⟩
abbrev cX10_ways : ByteArray := prog_12_method_58_code
def yX10_ways : MethodName := ⟨RX10, "ways", "()J"⟩
abbrev cX10_take : ByteArray := prog_12_method_59_code
def yX10_take : MethodName := ⟨RX10, "take", "()I"⟩
abbrev cX10_askedOf : ByteArray := prog_12_method_60_code
def yX10_askedOf : MethodName := ⟨RX10, "askedOf", "(II)I"⟩
abbrev cX10_asked : ByteArray := prog_12_method_61_code
def yX10_asked : MethodName := ⟨RX10, "asked", "(III)I"⟩
abbrev cX10_layAsks : ByteArray := prog_12_method_62_code
def yX10_layAsks : MethodName := ⟨RX10, "layAsks", "(II)V"⟩
abbrev cX10_gainOf : ByteArray := prog_12_method_63_code
def yX10_gainOf : MethodName := ⟨RX10, "gainOf", "(III)I"⟩
abbrev cX10_isShop : ByteArray := prog_12_method_64_code
def yX10_isShop : MethodName := ⟨RX10, "isShop", "(IIII)Z"⟩
abbrev cX10_gain : ByteArray := prog_12_method_65_code
def yX10_gain : MethodName := ⟨RX10, "gain", "(IIIII)I"⟩
abbrev cX10_order : ByteArray := prog_12_method_66_code
def yX10_order : MethodName := ⟨RX10, "order", "(IIII)I"⟩
abbrev cX10_count : ByteArray := prog_12_method_67_code
def yX10_count : MethodName := ⟨RX10, "count", "(I)I"⟩
def RJ6 : String := "java/lang/Integer"
abbrev cJ6_bitCount_0f7a4 : ByteArray := prog_13_method_49_code
def yJ6_bitCount_0f7a4 : MethodName := ⟨RJ6, "bitCount", "(I)I"⟩
def RJ9 : String := "java/lang/Math"
abbrev cJ9_max_7cf53 : ByteArray := prog_14_method_65_code
def yJ9_max_7cf53 : MethodName := ⟨RJ9, "max", "(II)I"⟩
abbrev cJ9_min_7cf53 : ByteArray := prog_14_method_69_code
def yJ9_min_7cf53 : MethodName := ⟨RJ9, "min", "(II)I"⟩
abbrev zCl : List vw_C := [(RX0, TX0, 5), (RX1, TX1, 1), (RX2, TX2, 3), (RX3, TX3, 1), (RX4, TX4, 9), (RX5, TX5, 4), (RX6, TX6, 5), (RX7, TX7, 8), (RX8, TX8, 9), (RX9, TX9, 8), (RX10, TX10, 21)]
def SX : ST := ([(0, 0, [some 7, some 29, some 30, some 34, some 35]), (0, 1, [some 7]), (0, 2, [some 7, some 36, none]), (0, 3, [some 7]), (0, 4, [some 7, some 29, some 30, some 31, some 32, some 33, none, none, none]), (0, 5, [some 7, some 8, some 29, some 30]), (0, 6, [some 29, some 30, some 31, some 32, some 33]), (0, 7, [some 20, some 21, some 22, some 23, some 24, none, none, none]), (0, 8, [some 7, some 25, some 26, some 27, some 28, none, none, none, none]), (0, 9, [some 7, some 1, some 3, some 8, some 4, some 0, some 2, some 5]), (1, 10, []), (1, 10, []), (1, 10, []), (1, 10, []), (1, 10, []), (1, 10, []), (1, 10, []), (1, 10, []), (1, 10, []), (1, 10, []), (3, 10, [some 10, some 11, some 12, some 13, some 14, some 15, some 16, some 17, some 18, some 19]), (1, 10, []), (1, 10, []), (1, 1024, []), (1, 1024, []), (1, 1024, []), (1, 1024, []), (1, 1024, []), (1, 1024, []), (1, 1024, []), (1, 1024, []), (1, 1024, []), (1, 1024, []), (1, 1024, []), (2, 1024, []), (2, 1024, []), (1, 8, [])], zCl)
def SM : ST := ([(0, 10, [none, some 1, some 2, some 3, some 4, some 5, none, none, none, some 6, some 7, some 8, some 9, some 10, some 11, none, some 12, some 13, none, some 14, some 15]), (1, 100, []), (1, 10, []), (1, 10, []), (1, 1024, []), (1, 1024, []), (1, 1024, []), (1, 1024, []), (1, 1024, []), (1, 1024, []), (1, 1024, []), (1, 1024, []), (2, 1024, []), (2, 1024, []), (1, 8, []), (1, 1024, [])], zCl)
theorem inX0 : ∀ w ∈ u_ws RX0 TX0 5, w ∈ lw_g := fun w h => z_w ((by decide +kernel : ∀ w ∈ u_ws RX0 TX0 5, w ∈ lw_tbl) w h) (List.all_eq_true.mp (by decide +kernel : (u_ws RX0 TX0 5).all goodWord = true) w h)
theorem inX1 : ∀ w ∈ u_ws RX1 TX1 1, w ∈ lw_g := fun w h => z_w ((by decide +kernel : ∀ w ∈ u_ws RX1 TX1 1, w ∈ lw_tbl) w h) (List.all_eq_true.mp (by decide +kernel : (u_ws RX1 TX1 1).all goodWord = true) w h)
theorem inX2 : ∀ w ∈ u_ws RX2 TX2 3, w ∈ lw_g := fun w h => z_w ((by decide +kernel : ∀ w ∈ u_ws RX2 TX2 3, w ∈ lw_tbl) w h) (List.all_eq_true.mp (by decide +kernel : (u_ws RX2 TX2 3).all goodWord = true) w h)
theorem inX3 : ∀ w ∈ u_ws RX3 TX3 1, w ∈ lw_g := fun w h => z_w ((by decide +kernel : ∀ w ∈ u_ws RX3 TX3 1, w ∈ lw_tbl) w h) (List.all_eq_true.mp (by decide +kernel : (u_ws RX3 TX3 1).all goodWord = true) w h)
theorem inX4 : ∀ w ∈ u_ws RX4 TX4 9, w ∈ lw_g := fun w h => z_w ((by decide +kernel : ∀ w ∈ u_ws RX4 TX4 9, w ∈ lw_tbl) w h) (List.all_eq_true.mp (by decide +kernel : (u_ws RX4 TX4 9).all goodWord = true) w h)
theorem inX5 : ∀ w ∈ u_ws RX5 TX5 4, w ∈ lw_g := fun w h => z_w ((by decide +kernel : ∀ w ∈ u_ws RX5 TX5 4, w ∈ lw_tbl) w h) (List.all_eq_true.mp (by decide +kernel : (u_ws RX5 TX5 4).all goodWord = true) w h)
theorem inX6 : ∀ w ∈ u_ws RX6 TX6 5, w ∈ lw_g := fun w h => z_w ((by decide +kernel : ∀ w ∈ u_ws RX6 TX6 5, w ∈ lw_tbl) w h) (List.all_eq_true.mp (by decide +kernel : (u_ws RX6 TX6 5).all goodWord = true) w h)
theorem inX7 : ∀ w ∈ u_ws RX7 TX7 8, w ∈ lw_g := fun w h => z_w ((by decide +kernel : ∀ w ∈ u_ws RX7 TX7 8, w ∈ lw_tbl) w h) (List.all_eq_true.mp (by decide +kernel : (u_ws RX7 TX7 8).all goodWord = true) w h)
theorem inX8 : ∀ w ∈ u_ws RX8 TX8 9, w ∈ lw_g := fun w h => z_w ((by decide +kernel : ∀ w ∈ u_ws RX8 TX8 9, w ∈ lw_tbl) w h) (List.all_eq_true.mp (by decide +kernel : (u_ws RX8 TX8 9).all goodWord = true) w h)
theorem inX9 : ∀ w ∈ u_ws RX9 TX9 8, w ∈ lw_g := fun w h => z_w ((by decide +kernel : ∀ w ∈ u_ws RX9 TX9 8, w ∈ lw_tbl) w h) (List.all_eq_true.mp (by decide +kernel : (u_ws RX9 TX9 8).all goodWord = true) w h)
theorem inX10 : ∀ w ∈ u_ws RX10 TX10 21, w ∈ lw_g := fun w h => z_w ((by decide +kernel : ∀ w ∈ u_ws RX10 TX10 21, w ∈ lw_tbl) w h) (List.all_eq_true.mp (by decide +kernel : (u_ws RX10 TX10 21).all goodWord = true) w h)
theorem wcX0_canReach : Cond.code yX0_canReach cX0_canReach 3 (some .boolean) ∈ lw_g := z_w (List.mem_append_right _ (List.mem_of_getElem? (i := 602) (by decide +kernel))) rfl
theorem wiX0_canReach : Cond.instanceMethod yX0_canReach ∈ lw_g := z_w (List.mem_append_right _ (List.mem_of_getElem? (i := 600) (by decide +kernel))) rfl
theorem wlX0_canReach : Cond.selects "NotLikeThem$Chance" yX0_canReach yX0_canReach ∈ lw_g := z_w (List.mem_append_right _ (List.mem_of_getElem? (i := 601) (by decide +kernel))) rfl
theorem wyX0_canReach : yX0_canReach.cls ≠ "java/lang/invoke/MethodHandle" ∧ yX0_canReach.cls ≠ "java/lang/invoke/VarHandle" ∧ (parseMethodDescriptor yX0_canReach.desc).map (fun d => d.parameters.length) = some 2 := ⟨by decide +kernel, by decide +kernel, by decide +kernel⟩
theorem wcX0_restsFrom : Cond.code yX0_restsFrom cX0_restsFrom 6 (some .int) ∈ lw_g := z_w (List.mem_append_right _ (List.mem_of_getElem? (i := 617) (by decide +kernel))) rfl
theorem wiX0_restsFrom : Cond.instanceMethod yX0_restsFrom ∈ lw_g := z_w (List.mem_append_right _ (List.mem_of_getElem? (i := 615) (by decide +kernel))) rfl
theorem wlX0_restsFrom : Cond.selects "NotLikeThem$Chance" yX0_restsFrom yX0_restsFrom ∈ lw_g := z_w (List.mem_append_right _ (List.mem_of_getElem? (i := 616) (by decide +kernel))) rfl
theorem wyX0_restsFrom : yX0_restsFrom.cls ≠ "java/lang/invoke/MethodHandle" ∧ yX0_restsFrom.cls ≠ "java/lang/invoke/VarHandle" ∧ (parseMethodDescriptor yX0_restsFrom.desc).map (fun d => d.parameters.length) = some 1 := ⟨by decide +kernel, by decide +kernel, by decide +kernel⟩
theorem wcX0_fewestDraws : Cond.code yX0_fewestDraws cX0_fewestDraws 5 (some .int) ∈ lw_g := z_w (List.mem_append_right _ (List.mem_of_getElem? (i := 625) (by decide +kernel))) rfl
theorem wiX0_fewestDraws : Cond.instanceMethod yX0_fewestDraws ∈ lw_g := z_w (List.mem_append_right _ (List.mem_of_getElem? (i := 623) (by decide +kernel))) rfl
theorem wlX0_fewestDraws : Cond.selects "NotLikeThem$Chance" yX0_fewestDraws yX0_fewestDraws ∈ lw_g := z_w (List.mem_append_right _ (List.mem_of_getElem? (i := 624) (by decide +kernel))) rfl
theorem wyX0_fewestDraws : yX0_fewestDraws.cls ≠ "java/lang/invoke/MethodHandle" ∧ yX0_fewestDraws.cls ≠ "java/lang/invoke/VarHandle" ∧ (parseMethodDescriptor yX0_fewestDraws.desc).map (fun d => d.parameters.length) = some 1 := ⟨by decide +kernel, by decide +kernel, by decide +kernel⟩
theorem wcX0_search : Cond.code yX0_search cX0_search 10 (some .int) ∈ lw_g := z_w (List.mem_append_right _ (List.mem_of_getElem? (i := 607) (by decide +kernel))) rfl
theorem wiX0_search : Cond.instanceMethod yX0_search ∈ lw_g := z_w (List.mem_append_right _ (List.mem_of_getElem? (i := 606) (by decide +kernel))) rfl
theorem wlX0_search : Cond.selects "NotLikeThem$Chance" yX0_search yX0_search ∈ lw_g := z_w (List.mem_append_left _ (List.mem_of_getElem? (i := 15) (by decide +kernel))) rfl
theorem wyX0_search : yX0_search.cls ≠ "java/lang/invoke/MethodHandle" ∧ yX0_search.cls ≠ "java/lang/invoke/VarHandle" ∧ (parseMethodDescriptor yX0_search.desc).map (fun d => d.parameters.length) = some 2 := ⟨by decide +kernel, by decide +kernel, by decide +kernel⟩
theorem wcX0_fraction : Cond.code yX0_fraction cX0_fraction 12 (some .long) ∈ lw_g := z_w (List.mem_append_right _ (List.mem_of_getElem? (i := 634) (by decide +kernel))) rfl
theorem wiX0_fraction : Cond.instanceMethod yX0_fraction ∈ lw_g := z_w (List.mem_append_right _ (List.mem_of_getElem? (i := 632) (by decide +kernel))) rfl
theorem wlX0_fraction : Cond.selects "NotLikeThem$Chance" yX0_fraction yX0_fraction ∈ lw_g := z_w (List.mem_append_right _ (List.mem_of_getElem? (i := 633) (by decide +kernel))) rfl
theorem wyX0_fraction : yX0_fraction.cls ≠ "java/lang/invoke/MethodHandle" ∧ yX0_fraction.cls ≠ "java/lang/invoke/VarHandle" ∧ (parseMethodDescriptor yX0_fraction.desc).map (fun d => d.parameters.length) = some 3 := ⟨by decide +kernel, by decide +kernel, by decide +kernel⟩
theorem wcX0_drawOnce : Cond.code yX0_drawOnce cX0_drawOnce 4 none ∈ lw_g := z_w (List.mem_append_right _ (List.mem_of_getElem? (i := 638) (by decide +kernel))) rfl
theorem wiX0_drawOnce : Cond.instanceMethod yX0_drawOnce ∈ lw_g := z_w (List.mem_append_right _ (List.mem_of_getElem? (i := 637) (by decide +kernel))) rfl
theorem wlX0_drawOnce : Cond.selects "NotLikeThem$Chance" yX0_drawOnce yX0_drawOnce ∈ lw_g := z_w (List.mem_append_left _ (List.mem_of_getElem? (i := 16) (by decide +kernel))) rfl
theorem wyX0_drawOnce : yX0_drawOnce.cls ≠ "java/lang/invoke/MethodHandle" ∧ yX0_drawOnce.cls ≠ "java/lang/invoke/VarHandle" ∧ (parseMethodDescriptor yX0_drawOnce.desc).map (fun d => d.parameters.length) = some 2 := ⟨by decide +kernel, by decide +kernel, by decide +kernel⟩
theorem wcX0_handOn : Cond.code yX0_handOn cX0_handOn 8 none ∈ lw_g := z_w (List.mem_append_right _ (List.mem_of_getElem? (i := 642) (by decide +kernel))) rfl
theorem wiX0_handOn : Cond.instanceMethod yX0_handOn ∈ lw_g := z_w (List.mem_append_right _ (List.mem_of_getElem? (i := 641) (by decide +kernel))) rfl
theorem wlX0_handOn : Cond.selects "NotLikeThem$Chance" yX0_handOn yX0_handOn ∈ lw_g := z_w (List.mem_append_left _ (List.mem_of_getElem? (i := 17) (by decide +kernel))) rfl
theorem wyX0_handOn : yX0_handOn.cls ≠ "java/lang/invoke/MethodHandle" ∧ yX0_handOn.cls ≠ "java/lang/invoke/VarHandle" ∧ (parseMethodDescriptor yX0_handOn.desc).map (fun d => d.parameters.length) = some 2 := ⟨by decide +kernel, by decide +kernel, by decide +kernel⟩
theorem wcX0_commonDivisor : Cond.code yX0_commonDivisor cX0_commonDivisor 11 (some .long) ∈ lw_g := z_w (List.mem_append_right _ (List.mem_of_getElem? (i := 647) (by decide +kernel))) rfl
theorem wsX0_commonDivisor : Cond.static yX0_commonDivisor ∈ lw_g := z_w (List.mem_append_right _ (List.mem_of_getElem? (i := 646) (by decide +kernel))) rfl
theorem wyX0_commonDivisor : yX0_commonDivisor.cls ≠ "java/lang/invoke/MethodHandle" ∧ yX0_commonDivisor.cls ≠ "java/lang/invoke/VarHandle" ∧ (parseMethodDescriptor yX0_commonDivisor.desc).map (fun d => d.parameters.length) = some 2 := ⟨by decide +kernel, by decide +kernel, by decide +kernel⟩
theorem wcX1_isDefined : Cond.code yX1_isDefined cX1_isDefined 3 (some .boolean) ∈ lw_g := z_w (List.mem_append_right _ (List.mem_of_getElem? (i := 495) (by decide +kernel))) rfl
theorem wiX1_isDefined : Cond.instanceMethod yX1_isDefined ∈ lw_g := z_w (List.mem_append_right _ (List.mem_of_getElem? (i := 493) (by decide +kernel))) rfl
theorem wlX1_isDefined : Cond.selects "NotLikeThem$Heat" yX1_isDefined yX1_isDefined ∈ lw_g := z_w (List.mem_append_right _ (List.mem_of_getElem? (i := 494) (by decide +kernel))) rfl
theorem wyX1_isDefined : yX1_isDefined.cls ≠ "java/lang/invoke/MethodHandle" ∧ yX1_isDefined.cls ≠ "java/lang/invoke/VarHandle" ∧ (parseMethodDescriptor yX1_isDefined.desc).map (fun d => d.parameters.length) = some 0 := ⟨by decide +kernel, by decide +kernel, by decide +kernel⟩
theorem wcX1_isEvenPair : Cond.code yX1_isEvenPair cX1_isEvenPair 7 (some .boolean) ∈ lw_g := z_w (List.mem_append_right _ (List.mem_of_getElem? (i := 504) (by decide +kernel))) rfl
theorem wiX1_isEvenPair : Cond.instanceMethod yX1_isEvenPair ∈ lw_g := z_w (List.mem_append_right _ (List.mem_of_getElem? (i := 503) (by decide +kernel))) rfl
theorem wlX1_isEvenPair : Cond.selects "NotLikeThem$Heat" yX1_isEvenPair yX1_isEvenPair ∈ lw_g := z_w (List.mem_append_left _ (List.mem_of_getElem? (i := 7) (by decide +kernel))) rfl
theorem wyX1_isEvenPair : yX1_isEvenPair.cls ≠ "java/lang/invoke/MethodHandle" ∧ yX1_isEvenPair.cls ≠ "java/lang/invoke/VarHandle" ∧ (parseMethodDescriptor yX1_isEvenPair.desc).map (fun d => d.parameters.length) = some 2 := ⟨by decide +kernel, by decide +kernel, by decide +kernel⟩
theorem wcX1_of : Cond.code yX1_of cX1_of 5 (some .int) ∈ lw_g := z_w (List.mem_append_right _ (List.mem_of_getElem? (i := 514) (by decide +kernel))) rfl
theorem wiX1_of : Cond.instanceMethod yX1_of ∈ lw_g := z_w (List.mem_append_right _ (List.mem_of_getElem? (i := 512) (by decide +kernel))) rfl
theorem wlX1_of : Cond.selects "NotLikeThem$Heat" yX1_of yX1_of ∈ lw_g := z_w (List.mem_append_right _ (List.mem_of_getElem? (i := 513) (by decide +kernel))) rfl
theorem wyX1_of : yX1_of.cls ≠ "java/lang/invoke/MethodHandle" ∧ yX1_of.cls ≠ "java/lang/invoke/VarHandle" ∧ (parseMethodDescriptor yX1_of.desc).map (fun d => d.parameters.length) = some 1 := ⟨by decide +kernel, by decide +kernel, by decide +kernel⟩
theorem wcX1_ofPair : Cond.code yX1_ofPair cX1_ofPair 8 (some .int) ∈ lw_g := z_w (List.mem_append_right _ (List.mem_of_getElem? (i := 524) (by decide +kernel))) rfl
theorem wiX1_ofPair : Cond.instanceMethod yX1_ofPair ∈ lw_g := z_w (List.mem_append_right _ (List.mem_of_getElem? (i := 523) (by decide +kernel))) rfl
theorem wlX1_ofPair : Cond.selects "NotLikeThem$Heat" yX1_ofPair yX1_ofPair ∈ lw_g := z_w (List.mem_append_left _ (List.mem_of_getElem? (i := 9) (by decide +kernel))) rfl
theorem wyX1_ofPair : yX1_ofPair.cls ≠ "java/lang/invoke/MethodHandle" ∧ yX1_ofPair.cls ≠ "java/lang/invoke/VarHandle" ∧ (parseMethodDescriptor yX1_ofPair.desc).map (fun d => d.parameters.length) = some 3 := ⟨by decide +kernel, by decide +kernel, by decide +kernel⟩
theorem wcX1_ofLean : Cond.code yX1_ofLean cX1_ofLean 5 (some .int) ∈ lw_g := z_w (List.mem_append_right _ (List.mem_of_getElem? (i := 518) (by decide +kernel))) rfl
theorem wiX1_ofLean : Cond.instanceMethod yX1_ofLean ∈ lw_g := z_w (List.mem_append_right _ (List.mem_of_getElem? (i := 517) (by decide +kernel))) rfl
theorem wlX1_ofLean : Cond.selects "NotLikeThem$Heat" yX1_ofLean yX1_ofLean ∈ lw_g := z_w (List.mem_append_left _ (List.mem_of_getElem? (i := 8) (by decide +kernel))) rfl
theorem wyX1_ofLean : yX1_ofLean.cls ≠ "java/lang/invoke/MethodHandle" ∧ yX1_ofLean.cls ≠ "java/lang/invoke/VarHandle" ∧ (parseMethodDescriptor yX1_ofLean.desc).map (fun d => d.parameters.length) = some 2 := ⟨by decide +kernel, by decide +kernel, by decide +kernel⟩
theorem wcX2_size : Cond.code yX2_size cX2_size 1 (some .int) ∈ lw_g := z_w (List.mem_append_right _ (List.mem_of_getElem? (i := 664) (by decide +kernel))) rfl
theorem wiX2_size : Cond.instanceMethod yX2_size ∈ lw_g := z_w (List.mem_append_right _ (List.mem_of_getElem? (i := 662) (by decide +kernel))) rfl
theorem wlX2_size : Cond.selects "NotLikeThem$Picture" yX2_size yX2_size ∈ lw_g := z_w (List.mem_append_right _ (List.mem_of_getElem? (i := 663) (by decide +kernel))) rfl
theorem wyX2_size : yX2_size.cls ≠ "java/lang/invoke/MethodHandle" ∧ yX2_size.cls ≠ "java/lang/invoke/VarHandle" ∧ (parseMethodDescriptor yX2_size.desc).map (fun d => d.parameters.length) = some 0 := ⟨by decide +kernel, by decide +kernel, by decide +kernel⟩
theorem wcX2_isFull : Cond.code yX2_isFull cX2_isFull 1 (some .boolean) ∈ lw_g := z_w (List.mem_append_right _ (List.mem_of_getElem? (i := 655) (by decide +kernel))) rfl
theorem wiX2_isFull : Cond.instanceMethod yX2_isFull ∈ lw_g := z_w (List.mem_append_right _ (List.mem_of_getElem? (i := 653) (by decide +kernel))) rfl
theorem wlX2_isFull : Cond.selects "NotLikeThem$Picture" yX2_isFull yX2_isFull ∈ lw_g := z_w (List.mem_append_right _ (List.mem_of_getElem? (i := 654) (by decide +kernel))) rfl
theorem wyX2_isFull : yX2_isFull.cls ≠ "java/lang/invoke/MethodHandle" ∧ yX2_isFull.cls ≠ "java/lang/invoke/VarHandle" ∧ (parseMethodDescriptor yX2_isFull.desc).map (fun d => d.parameters.length) = some 0 := ⟨by decide +kernel, by decide +kernel, by decide +kernel⟩
theorem wcX2_add : Cond.code yX2_add cX2_add 2 none ∈ lw_g := z_w (List.mem_append_right _ (List.mem_of_getElem? (i := 659) (by decide +kernel))) rfl
theorem wiX2_add : Cond.instanceMethod yX2_add ∈ lw_g := z_w (List.mem_append_right _ (List.mem_of_getElem? (i := 657) (by decide +kernel))) rfl
theorem wlX2_add : Cond.selects "NotLikeThem$Picture" yX2_add yX2_add ∈ lw_g := z_w (List.mem_append_right _ (List.mem_of_getElem? (i := 658) (by decide +kernel))) rfl
theorem wyX2_add : yX2_add.cls ≠ "java/lang/invoke/MethodHandle" ∧ yX2_add.cls ≠ "java/lang/invoke/VarHandle" ∧ (parseMethodDescriptor yX2_add.desc).map (fun d => d.parameters.length) = some 1 := ⟨by decide +kernel, by decide +kernel, by decide +kernel⟩
theorem wcX2_clear : Cond.code yX2_clear cX2_clear 1 none ∈ lw_g := z_w (List.mem_append_right _ (List.mem_of_getElem? (i := 280) (by decide +kernel))) rfl
theorem wiX2_clear : Cond.instanceMethod yX2_clear ∈ lw_g := z_w (List.mem_append_right _ (List.mem_of_getElem? (i := 278) (by decide +kernel))) rfl
theorem wlX2_clear : Cond.selects "NotLikeThem$Picture" yX2_clear yX2_clear ∈ lw_g := z_w (List.mem_append_right _ (List.mem_of_getElem? (i := 279) (by decide +kernel))) rfl
theorem wyX2_clear : yX2_clear.cls ≠ "java/lang/invoke/MethodHandle" ∧ yX2_clear.cls ≠ "java/lang/invoke/VarHandle" ∧ (parseMethodDescriptor yX2_clear.desc).map (fun d => d.parameters.length) = some 0 := ⟨by decide +kernel, by decide +kernel, by decide +kernel⟩
theorem wcX2_kindsOf : Cond.code yX2_kindsOf cX2_kindsOf 8 (some .int) ∈ lw_g := z_w (List.mem_append_right _ (List.mem_of_getElem? (i := 676) (by decide +kernel))) rfl
theorem wiX2_kindsOf : Cond.instanceMethod yX2_kindsOf ∈ lw_g := z_w (List.mem_append_right _ (List.mem_of_getElem? (i := 674) (by decide +kernel))) rfl
theorem wlX2_kindsOf : Cond.selects "NotLikeThem$Picture" yX2_kindsOf yX2_kindsOf ∈ lw_g := z_w (List.mem_append_right _ (List.mem_of_getElem? (i := 675) (by decide +kernel))) rfl
theorem wyX2_kindsOf : yX2_kindsOf.cls ≠ "java/lang/invoke/MethodHandle" ∧ yX2_kindsOf.cls ≠ "java/lang/invoke/VarHandle" ∧ (parseMethodDescriptor yX2_kindsOf.desc).map (fun d => d.parameters.length) = some 1 := ⟨by decide +kernel, by decide +kernel, by decide +kernel⟩
theorem wcX2_explanations : Cond.code yX2_explanations cX2_explanations 4 (some .long) ∈ lw_g := z_w (List.mem_append_right _ (List.mem_of_getElem? (i := 687) (by decide +kernel))) rfl
theorem wiX2_explanations : Cond.instanceMethod yX2_explanations ∈ lw_g := z_w (List.mem_append_right _ (List.mem_of_getElem? (i := 685) (by decide +kernel))) rfl
theorem wlX2_explanations : Cond.selects "NotLikeThem$Picture" yX2_explanations yX2_explanations ∈ lw_g := z_w (List.mem_append_right _ (List.mem_of_getElem? (i := 686) (by decide +kernel))) rfl
theorem wyX2_explanations : yX2_explanations.cls ≠ "java/lang/invoke/MethodHandle" ∧ yX2_explanations.cls ≠ "java/lang/invoke/VarHandle" ∧ (parseMethodDescriptor yX2_explanations.desc).map (fun d => d.parameters.length) = some 0 := ⟨by decide +kernel, by decide +kernel, by decide +kernel⟩
theorem wcX2_settleKinds : Cond.code yX2_settleKinds cX2_settleKinds 4 (some .int) ∈ lw_g := z_w (List.mem_append_right _ (List.mem_of_getElem? (i := 698) (by decide +kernel))) rfl
theorem wiX2_settleKinds : Cond.instanceMethod yX2_settleKinds ∈ lw_g := z_w (List.mem_append_right _ (List.mem_of_getElem? (i := 696) (by decide +kernel))) rfl
theorem wlX2_settleKinds : Cond.selects "NotLikeThem$Picture" yX2_settleKinds yX2_settleKinds ∈ lw_g := z_w (List.mem_append_right _ (List.mem_of_getElem? (i := 697) (by decide +kernel))) rfl
theorem wyX2_settleKinds : yX2_settleKinds.cls ≠ "java/lang/invoke/MethodHandle" ∧ yX2_settleKinds.cls ≠ "java/lang/invoke/VarHandle" ∧ (parseMethodDescriptor yX2_settleKinds.desc).map (fun d => d.parameters.length) = some 0 := ⟨by decide +kernel, by decide +kernel, by decide +kernel⟩
theorem wcX2_leastKind : Cond.code yX2_leastKind cX2_leastKind 2 (some .int) ∈ lw_g := z_w (List.mem_append_right _ (List.mem_of_getElem? (i := 701) (by decide +kernel))) rfl
theorem wsX2_leastKind : Cond.static yX2_leastKind ∈ lw_g := z_w (List.mem_append_right _ (List.mem_of_getElem? (i := 700) (by decide +kernel))) rfl
theorem wyX2_leastKind : yX2_leastKind.cls ≠ "java/lang/invoke/MethodHandle" ∧ yX2_leastKind.cls ≠ "java/lang/invoke/VarHandle" ∧ (parseMethodDescriptor yX2_leastKind.desc).map (fun d => d.parameters.length) = some 1 := ⟨by decide +kernel, by decide +kernel, by decide +kernel⟩
theorem wcX3_howMany : Cond.code yX3_howMany cX3_howMany 5 (some .int) ∈ lw_g := z_w (List.mem_append_right _ (List.mem_of_getElem? (i := 477) (by decide +kernel))) rfl
theorem wiX3_howMany : Cond.instanceMethod yX3_howMany ∈ lw_g := z_w (List.mem_append_right _ (List.mem_of_getElem? (i := 475) (by decide +kernel))) rfl
theorem wlX3_howMany : Cond.selects "NotLikeThem$Rests" yX3_howMany yX3_howMany ∈ lw_g := z_w (List.mem_append_right _ (List.mem_of_getElem? (i := 476) (by decide +kernel))) rfl
theorem wyX3_howMany : yX3_howMany.cls ≠ "java/lang/invoke/MethodHandle" ∧ yX3_howMany.cls ≠ "java/lang/invoke/VarHandle" ∧ (parseMethodDescriptor yX3_howMany.desc).map (fun d => d.parameters.length) = some 0 := ⟨by decide +kernel, by decide +kernel, by decide +kernel⟩
theorem wcX3_dressOf : Cond.code yX3_dressOf cX3_dressOf 6 (some .int) ∈ lw_g := z_w (List.mem_append_right _ (List.mem_of_getElem? (i := 487) (by decide +kernel))) rfl
theorem wiX3_dressOf : Cond.instanceMethod yX3_dressOf ∈ lw_g := z_w (List.mem_append_right _ (List.mem_of_getElem? (i := 485) (by decide +kernel))) rfl
theorem wlX3_dressOf : Cond.selects "NotLikeThem$Rests" yX3_dressOf yX3_dressOf ∈ lw_g := z_w (List.mem_append_right _ (List.mem_of_getElem? (i := 486) (by decide +kernel))) rfl
theorem wyX3_dressOf : yX3_dressOf.cls ≠ "java/lang/invoke/MethodHandle" ∧ yX3_dressOf.cls ≠ "java/lang/invoke/VarHandle" ∧ (parseMethodDescriptor yX3_dressOf.desc).map (fun d => d.parameters.length) = some 1 := ⟨by decide +kernel, by decide +kernel, by decide +kernel⟩
theorem wcX3_fewestRestless : Cond.code yX3_fewestRestless cX3_fewestRestless 6 (some .int) ∈ lw_g := z_w (List.mem_append_right _ (List.mem_of_getElem? (i := 575) (by decide +kernel))) rfl
theorem wiX3_fewestRestless : Cond.instanceMethod yX3_fewestRestless ∈ lw_g := z_w (List.mem_append_right _ (List.mem_of_getElem? (i := 573) (by decide +kernel))) rfl
theorem wlX3_fewestRestless : Cond.selects "NotLikeThem$Rests" yX3_fewestRestless yX3_fewestRestless ∈ lw_g := z_w (List.mem_append_right _ (List.mem_of_getElem? (i := 574) (by decide +kernel))) rfl
theorem wyX3_fewestRestless : yX3_fewestRestless.cls ≠ "java/lang/invoke/MethodHandle" ∧ yX3_fewestRestless.cls ≠ "java/lang/invoke/VarHandle" ∧ (parseMethodDescriptor yX3_fewestRestless.desc).map (fun d => d.parameters.length) = some 0 := ⟨by decide +kernel, by decide +kernel, by decide +kernel⟩
theorem wcX3_leastOfFewestRestless : Cond.code yX3_leastOfFewestRestless cX3_leastOfFewestRestless 5 (some .int) ∈ lw_g := z_w (List.mem_append_right _ (List.mem_of_getElem? (i := 594) (by decide +kernel))) rfl
theorem wiX3_leastOfFewestRestless : Cond.instanceMethod yX3_leastOfFewestRestless ∈ lw_g := z_w (List.mem_append_right _ (List.mem_of_getElem? (i := 592) (by decide +kernel))) rfl
theorem wlX3_leastOfFewestRestless : Cond.selects "NotLikeThem$Rests" yX3_leastOfFewestRestless yX3_leastOfFewestRestless ∈ lw_g := z_w (List.mem_append_right _ (List.mem_of_getElem? (i := 593) (by decide +kernel))) rfl
theorem wyX3_leastOfFewestRestless : yX3_leastOfFewestRestless.cls ≠ "java/lang/invoke/MethodHandle" ∧ yX3_leastOfFewestRestless.cls ≠ "java/lang/invoke/VarHandle" ∧ (parseMethodDescriptor yX3_leastOfFewestRestless.desc).map (fun d => d.parameters.length) = some 0 := ⟨by decide +kernel, by decide +kernel, by decide +kernel⟩
theorem wcX4_leastDress : Cond.code yX4_leastDress cX4_leastDress 5 (some .int) ∈ lw_g := z_w (List.mem_append_right _ (List.mem_of_getElem? (i := 537) (by decide +kernel))) rfl
theorem wiX4_leastDress : Cond.instanceMethod yX4_leastDress ∈ lw_g := z_w (List.mem_append_right _ (List.mem_of_getElem? (i := 535) (by decide +kernel))) rfl
theorem wlX4_leastDress : Cond.selects "NotLikeThem$Rounds" yX4_leastDress yX4_leastDress ∈ lw_g := z_w (List.mem_append_right _ (List.mem_of_getElem? (i := 536) (by decide +kernel))) rfl
theorem wyX4_leastDress : yX4_leastDress.cls ≠ "java/lang/invoke/MethodHandle" ∧ yX4_leastDress.cls ≠ "java/lang/invoke/VarHandle" ∧ (parseMethodDescriptor yX4_leastDress.desc).map (fun d => d.parameters.length) = some 0 := ⟨by decide +kernel, by decide +kernel, by decide +kernel⟩
theorem wcX4_searchFrom : Cond.code yX4_searchFrom cX4_searchFrom 7 (some .int) ∈ lw_g := z_w (List.mem_append_right _ (List.mem_of_getElem? (i := 543) (by decide +kernel))) rfl
theorem wiX4_searchFrom : Cond.instanceMethod yX4_searchFrom ∈ lw_g := z_w (List.mem_append_right _ (List.mem_of_getElem? (i := 542) (by decide +kernel))) rfl
theorem wlX4_searchFrom : Cond.selects "NotLikeThem$Rounds" yX4_searchFrom yX4_searchFrom ∈ lw_g := z_w (List.mem_append_left _ (List.mem_of_getElem? (i := 10) (by decide +kernel))) rfl
theorem wyX4_searchFrom : yX4_searchFrom.cls ≠ "java/lang/invoke/MethodHandle" ∧ yX4_searchFrom.cls ≠ "java/lang/invoke/VarHandle" ∧ (parseMethodDescriptor yX4_searchFrom.desc).map (fun d => d.parameters.length) = some 2 := ⟨by decide +kernel, by decide +kernel, by decide +kernel⟩
theorem wcX4_enter : Cond.code yX4_enter cX4_enter 2 none ∈ lw_g := z_w (List.mem_append_right _ (List.mem_of_getElem? (i := 547) (by decide +kernel))) rfl
theorem wiX4_enter : Cond.instanceMethod yX4_enter ∈ lw_g := z_w (List.mem_append_right _ (List.mem_of_getElem? (i := 546) (by decide +kernel))) rfl
theorem wlX4_enter : Cond.selects "NotLikeThem$Rounds" yX4_enter yX4_enter ∈ lw_g := z_w (List.mem_append_left _ (List.mem_of_getElem? (i := 11) (by decide +kernel))) rfl
theorem wyX4_enter : yX4_enter.cls ≠ "java/lang/invoke/MethodHandle" ∧ yX4_enter.cls ≠ "java/lang/invoke/VarHandle" ∧ (parseMethodDescriptor yX4_enter.desc).map (fun d => d.parameters.length) = some 1 := ⟨by decide +kernel, by decide +kernel, by decide +kernel⟩
theorem wcX4_followOne : Cond.code yX4_followOne cX4_followOne 4 none ∈ lw_g := z_w (List.mem_append_right _ (List.mem_of_getElem? (i := 551) (by decide +kernel))) rfl
theorem wiX4_followOne : Cond.instanceMethod yX4_followOne ∈ lw_g := z_w (List.mem_append_right _ (List.mem_of_getElem? (i := 550) (by decide +kernel))) rfl
theorem wlX4_followOne : Cond.selects "NotLikeThem$Rounds" yX4_followOne yX4_followOne ∈ lw_g := z_w (List.mem_append_left _ (List.mem_of_getElem? (i := 12) (by decide +kernel))) rfl
theorem wyX4_followOne : yX4_followOne.cls ≠ "java/lang/invoke/MethodHandle" ∧ yX4_followOne.cls ≠ "java/lang/invoke/VarHandle" ∧ (parseMethodDescriptor yX4_followOne.desc).map (fun d => d.parameters.length) = some 1 := ⟨by decide +kernel, by decide +kernel, by decide +kernel⟩
theorem wcX4_goBack : Cond.code yX4_goBack cX4_goBack 4 (some .int) ∈ lw_g := z_w (List.mem_append_right _ (List.mem_of_getElem? (i := 558) (by decide +kernel))) rfl
theorem wiX4_goBack : Cond.instanceMethod yX4_goBack ∈ lw_g := z_w (List.mem_append_right _ (List.mem_of_getElem? (i := 557) (by decide +kernel))) rfl
theorem wlX4_goBack : Cond.selects "NotLikeThem$Rounds" yX4_goBack yX4_goBack ∈ lw_g := z_w (List.mem_append_left _ (List.mem_of_getElem? (i := 13) (by decide +kernel))) rfl
theorem wyX4_goBack : yX4_goBack.cls ≠ "java/lang/invoke/MethodHandle" ∧ yX4_goBack.cls ≠ "java/lang/invoke/VarHandle" ∧ (parseMethodDescriptor yX4_goBack.desc).map (fun d => d.parameters.length) = some 2 := ⟨by decide +kernel, by decide +kernel, by decide +kernel⟩
theorem wcX4_close : Cond.code yX4_close cX4_close 6 (some .int) ∈ lw_g := z_w (List.mem_append_right _ (List.mem_of_getElem? (i := 562) (by decide +kernel))) rfl
theorem wiX4_close : Cond.instanceMethod yX4_close ∈ lw_g := z_w (List.mem_append_right _ (List.mem_of_getElem? (i := 561) (by decide +kernel))) rfl
theorem wlX4_close : Cond.selects "NotLikeThem$Rounds" yX4_close yX4_close ∈ lw_g := z_w (List.mem_append_left _ (List.mem_of_getElem? (i := 14) (by decide +kernel))) rfl
theorem wyX4_close : yX4_close.cls ≠ "java/lang/invoke/MethodHandle" ∧ yX4_close.cls ≠ "java/lang/invoke/VarHandle" ∧ (parseMethodDescriptor yX4_close.desc).map (fun d => d.parameters.length) = some 2 := ⟨by decide +kernel, by decide +kernel, by decide +kernel⟩
theorem wcX5_askedFrom : Cond.code yX5_askedFrom cX5_askedFrom 8 (some .int) ∈ lw_g := z_w (List.mem_append_right _ (List.mem_of_getElem? (i := 714) (by decide +kernel))) rfl
theorem wiX5_askedFrom : Cond.instanceMethod yX5_askedFrom ∈ lw_g := z_w (List.mem_append_right _ (List.mem_of_getElem? (i := 712) (by decide +kernel))) rfl
theorem wlX5_askedFrom : Cond.selects "NotLikeThem$Shop" yX5_askedFrom yX5_askedFrom ∈ lw_g := z_w (List.mem_append_right _ (List.mem_of_getElem? (i := 713) (by decide +kernel))) rfl
theorem wyX5_askedFrom : yX5_askedFrom.cls ≠ "java/lang/invoke/MethodHandle" ∧ yX5_askedFrom.cls ≠ "java/lang/invoke/VarHandle" ∧ (parseMethodDescriptor yX5_askedFrom.desc).map (fun d => d.parameters.length) = some 3 := ⟨by decide +kernel, by decide +kernel, by decide +kernel⟩
theorem wcX5_gainBy : Cond.code yX5_gainBy cX5_gainBy 8 (some .int) ∈ lw_g := z_w (List.mem_append_right _ (List.mem_of_getElem? (i := 727) (by decide +kernel))) rfl
theorem wiX5_gainBy : Cond.instanceMethod yX5_gainBy ∈ lw_g := z_w (List.mem_append_right _ (List.mem_of_getElem? (i := 725) (by decide +kernel))) rfl
theorem wlX5_gainBy : Cond.selects "NotLikeThem$Shop" yX5_gainBy yX5_gainBy ∈ lw_g := z_w (List.mem_append_right _ (List.mem_of_getElem? (i := 726) (by decide +kernel))) rfl
theorem wyX5_gainBy : yX5_gainBy.cls ≠ "java/lang/invoke/MethodHandle" ∧ yX5_gainBy.cls ≠ "java/lang/invoke/VarHandle" ∧ (parseMethodDescriptor yX5_gainBy.desc).map (fun d => d.parameters.length) = some 5 := ⟨by decide +kernel, by decide +kernel, by decide +kernel⟩
theorem wcX5_bestStock : Cond.code yX5_bestStock cX5_bestStock 11 (some .int) ∈ lw_g := z_w (List.mem_append_right _ (List.mem_of_getElem? (i := 741) (by decide +kernel))) rfl
theorem wiX5_bestStock : Cond.instanceMethod yX5_bestStock ∈ lw_g := z_w (List.mem_append_right _ (List.mem_of_getElem? (i := 739) (by decide +kernel))) rfl
theorem wlX5_bestStock : Cond.selects "NotLikeThem$Shop" yX5_bestStock yX5_bestStock ∈ lw_g := z_w (List.mem_append_right _ (List.mem_of_getElem? (i := 740) (by decide +kernel))) rfl
theorem wyX5_bestStock : yX5_bestStock.cls ≠ "java/lang/invoke/MethodHandle" ∧ yX5_bestStock.cls ≠ "java/lang/invoke/VarHandle" ∧ (parseMethodDescriptor yX5_bestStock.desc).map (fun d => d.parameters.length) = some 4 := ⟨by decide +kernel, by decide +kernel, by decide +kernel⟩
theorem wcX5_tally : Cond.code yX5_tally cX5_tally 9 none ∈ lw_g := z_w (List.mem_append_right _ (List.mem_of_getElem? (i := 731) (by decide +kernel))) rfl
theorem wiX5_tally : Cond.instanceMethod yX5_tally ∈ lw_g := z_w (List.mem_append_right _ (List.mem_of_getElem? (i := 730) (by decide +kernel))) rfl
theorem wlX5_tally : Cond.selects "NotLikeThem$Shop" yX5_tally yX5_tally ∈ lw_g := z_w (List.mem_append_left _ (List.mem_of_getElem? (i := 18) (by decide +kernel))) rfl
theorem wyX5_tally : yX5_tally.cls ≠ "java/lang/invoke/MethodHandle" ∧ yX5_tally.cls ≠ "java/lang/invoke/VarHandle" ∧ (parseMethodDescriptor yX5_tally.desc).map (fun d => d.parameters.length) = some 2 := ⟨by decide +kernel, by decide +kernel, by decide +kernel⟩
theorem wcX7_size : Cond.code yX7_size cX7_size 1 (some .int) ∈ lw_g := z_w (List.mem_append_right _ (List.mem_of_getElem? (i := 268) (by decide +kernel))) rfl
theorem wiX7_size : Cond.instanceMethod yX7_size ∈ lw_g := z_w (List.mem_append_right _ (List.mem_of_getElem? (i := 266) (by decide +kernel))) rfl
theorem wlX7_size : Cond.selects "NotLikeThem$Town" yX7_size yX7_size ∈ lw_g := z_w (List.mem_append_right _ (List.mem_of_getElem? (i := 267) (by decide +kernel))) rfl
theorem wyX7_size : yX7_size.cls ≠ "java/lang/invoke/MethodHandle" ∧ yX7_size.cls ≠ "java/lang/invoke/VarHandle" ∧ (parseMethodDescriptor yX7_size.desc).map (fun d => d.parameters.length) = some 0 := ⟨by decide +kernel, by decide +kernel, by decide +kernel⟩
theorem wcX7_dresses : Cond.code yX7_dresses cX7_dresses 1 (some .int) ∈ lw_g := z_w (List.mem_append_right _ (List.mem_of_getElem? (i := 344) (by decide +kernel))) rfl
theorem wiX7_dresses : Cond.instanceMethod yX7_dresses ∈ lw_g := z_w (List.mem_append_right _ (List.mem_of_getElem? (i := 342) (by decide +kernel))) rfl
theorem wlX7_dresses : Cond.selects "NotLikeThem$Town" yX7_dresses yX7_dresses ∈ lw_g := z_w (List.mem_append_right _ (List.mem_of_getElem? (i := 343) (by decide +kernel))) rfl
theorem wyX7_dresses : yX7_dresses.cls ≠ "java/lang/invoke/MethodHandle" ∧ yX7_dresses.cls ≠ "java/lang/invoke/VarHandle" ∧ (parseMethodDescriptor yX7_dresses.desc).map (fun d => d.parameters.length) = some 0 := ⟨by decide +kernel, by decide +kernel, by decide +kernel⟩
theorem wcX7_version : Cond.code yX7_version cX7_version 1 (some .int) ∈ lw_g := z_w (List.mem_append_right _ (List.mem_of_getElem? (i := 387) (by decide +kernel))) rfl
theorem wiX7_version : Cond.instanceMethod yX7_version ∈ lw_g := z_w (List.mem_append_right _ (List.mem_of_getElem? (i := 385) (by decide +kernel))) rfl
theorem wlX7_version : Cond.selects "NotLikeThem$Town" yX7_version yX7_version ∈ lw_g := z_w (List.mem_append_right _ (List.mem_of_getElem? (i := 386) (by decide +kernel))) rfl
theorem wyX7_version : yX7_version.cls ≠ "java/lang/invoke/MethodHandle" ∧ yX7_version.cls ≠ "java/lang/invoke/VarHandle" ∧ (parseMethodDescriptor yX7_version.desc).map (fun d => d.parameters.length) = some 0 := ⟨by decide +kernel, by decide +kernel, by decide +kernel⟩
theorem wcX7_has : Cond.code yX7_has cX7_has 2 (some .boolean) ∈ lw_g := z_w (List.mem_append_right _ (List.mem_of_getElem? (i := 288) (by decide +kernel))) rfl
theorem wiX7_has : Cond.instanceMethod yX7_has ∈ lw_g := z_w (List.mem_append_right _ (List.mem_of_getElem? (i := 286) (by decide +kernel))) rfl
theorem wlX7_has : Cond.selects "NotLikeThem$Town" yX7_has yX7_has ∈ lw_g := z_w (List.mem_append_right _ (List.mem_of_getElem? (i := 287) (by decide +kernel))) rfl
theorem wyX7_has : yX7_has.cls ≠ "java/lang/invoke/MethodHandle" ∧ yX7_has.cls ≠ "java/lang/invoke/VarHandle" ∧ (parseMethodDescriptor yX7_has.desc).map (fun d => d.parameters.length) = some 1 := ⟨by decide +kernel, by decide +kernel, by decide +kernel⟩
theorem wcX7_isDress : Cond.code yX7_isDress cX7_isDress 2 (some .boolean) ∈ lw_g := z_w (List.mem_append_right _ (List.mem_of_getElem? (i := 340) (by decide +kernel))) rfl
theorem wiX7_isDress : Cond.instanceMethod yX7_isDress ∈ lw_g := z_w (List.mem_append_right _ (List.mem_of_getElem? (i := 338) (by decide +kernel))) rfl
theorem wlX7_isDress : Cond.selects "NotLikeThem$Town" yX7_isDress yX7_isDress ∈ lw_g := z_w (List.mem_append_right _ (List.mem_of_getElem? (i := 339) (by decide +kernel))) rfl
theorem wyX7_isDress : yX7_isDress.cls ≠ "java/lang/invoke/MethodHandle" ∧ yX7_isDress.cls ≠ "java/lang/invoke/VarHandle" ∧ (parseMethodDescriptor yX7_isDress.desc).map (fun d => d.parameters.length) = some 1 := ⟨by decide +kernel, by decide +kernel, by decide +kernel⟩
theorem wcX7_startAnew : Cond.code yX7_startAnew cX7_startAnew 4 none ∈ lw_g := z_w (List.mem_append_right _ (List.mem_of_getElem? (i := 272) (by decide +kernel))) rfl
theorem wiX7_startAnew : Cond.instanceMethod yX7_startAnew ∈ lw_g := z_w (List.mem_append_right _ (List.mem_of_getElem? (i := 270) (by decide +kernel))) rfl
theorem wlX7_startAnew : Cond.selects "NotLikeThem$Town" yX7_startAnew yX7_startAnew ∈ lw_g := z_w (List.mem_append_right _ (List.mem_of_getElem? (i := 271) (by decide +kernel))) rfl
theorem wyX7_startAnew : yX7_startAnew.cls ≠ "java/lang/invoke/MethodHandle" ∧ yX7_startAnew.cls ≠ "java/lang/invoke/VarHandle" ∧ (parseMethodDescriptor yX7_startAnew.desc).map (fun d => d.parameters.length) = some 1 := ⟨by decide +kernel, by decide +kernel, by decide +kernel⟩
theorem wcX7_weight : Cond.code yX7_weight cX7_weight 3 (some .int) ∈ lw_g := z_w (List.mem_append_right _ (List.mem_of_getElem? (i := 292) (by decide +kernel))) rfl
theorem wiX7_weight : Cond.instanceMethod yX7_weight ∈ lw_g := z_w (List.mem_append_right _ (List.mem_of_getElem? (i := 290) (by decide +kernel))) rfl
theorem wlX7_weight : Cond.selects "NotLikeThem$Town" yX7_weight yX7_weight ∈ lw_g := z_w (List.mem_append_right _ (List.mem_of_getElem? (i := 291) (by decide +kernel))) rfl
theorem wyX7_weight : yX7_weight.cls ≠ "java/lang/invoke/MethodHandle" ∧ yX7_weight.cls ≠ "java/lang/invoke/VarHandle" ∧ (parseMethodDescriptor yX7_weight.desc).map (fun d => d.parameters.length) = some 2 := ⟨by decide +kernel, by decide +kernel, by decide +kernel⟩
theorem wcX7_setWeight : Cond.code yX7_setWeight cX7_setWeight 4 none ∈ lw_g := z_w (List.mem_append_right _ (List.mem_of_getElem? (i := 296) (by decide +kernel))) rfl
theorem wiX7_setWeight : Cond.instanceMethod yX7_setWeight ∈ lw_g := z_w (List.mem_append_right _ (List.mem_of_getElem? (i := 294) (by decide +kernel))) rfl
theorem wlX7_setWeight : Cond.selects "NotLikeThem$Town" yX7_setWeight yX7_setWeight ∈ lw_g := z_w (List.mem_append_right _ (List.mem_of_getElem? (i := 295) (by decide +kernel))) rfl
theorem wyX7_setWeight : yX7_setWeight.cls ≠ "java/lang/invoke/MethodHandle" ∧ yX7_setWeight.cls ≠ "java/lang/invoke/VarHandle" ∧ (parseMethodDescriptor yX7_setWeight.desc).map (fun d => d.parameters.length) = some 3 := ⟨by decide +kernel, by decide +kernel, by decide +kernel⟩
theorem wcX7_kind : Cond.code yX7_kind cX7_kind 2 (some .int) ∈ lw_g := z_w (List.mem_append_right _ (List.mem_of_getElem? (i := 304) (by decide +kernel))) rfl
theorem wiX7_kind : Cond.instanceMethod yX7_kind ∈ lw_g := z_w (List.mem_append_right _ (List.mem_of_getElem? (i := 302) (by decide +kernel))) rfl
theorem wlX7_kind : Cond.selects "NotLikeThem$Town" yX7_kind yX7_kind ∈ lw_g := z_w (List.mem_append_right _ (List.mem_of_getElem? (i := 303) (by decide +kernel))) rfl
theorem wyX7_kind : yX7_kind.cls ≠ "java/lang/invoke/MethodHandle" ∧ yX7_kind.cls ≠ "java/lang/invoke/VarHandle" ∧ (parseMethodDescriptor yX7_kind.desc).map (fun d => d.parameters.length) = some 1 := ⟨by decide +kernel, by decide +kernel, by decide +kernel⟩
theorem wcX7_setKind : Cond.code yX7_setKind cX7_setKind 3 none ∈ lw_g := z_w (List.mem_append_right _ (List.mem_of_getElem? (i := 308) (by decide +kernel))) rfl
theorem wiX7_setKind : Cond.instanceMethod yX7_setKind ∈ lw_g := z_w (List.mem_append_right _ (List.mem_of_getElem? (i := 306) (by decide +kernel))) rfl
theorem wlX7_setKind : Cond.selects "NotLikeThem$Town" yX7_setKind yX7_setKind ∈ lw_g := z_w (List.mem_append_right _ (List.mem_of_getElem? (i := 307) (by decide +kernel))) rfl
theorem wyX7_setKind : yX7_setKind.cls ≠ "java/lang/invoke/MethodHandle" ∧ yX7_setKind.cls ≠ "java/lang/invoke/VarHandle" ∧ (parseMethodDescriptor yX7_setKind.desc).map (fun d => d.parameters.length) = some 2 := ⟨by decide +kernel, by decide +kernel, by decide +kernel⟩
theorem wcX7_lean : Cond.code yX7_lean cX7_lean 2 (some .int) ∈ lw_g := z_w (List.mem_append_right _ (List.mem_of_getElem? (i := 312) (by decide +kernel))) rfl
theorem wiX7_lean : Cond.instanceMethod yX7_lean ∈ lw_g := z_w (List.mem_append_right _ (List.mem_of_getElem? (i := 310) (by decide +kernel))) rfl
theorem wlX7_lean : Cond.selects "NotLikeThem$Town" yX7_lean yX7_lean ∈ lw_g := z_w (List.mem_append_right _ (List.mem_of_getElem? (i := 311) (by decide +kernel))) rfl
theorem wyX7_lean : yX7_lean.cls ≠ "java/lang/invoke/MethodHandle" ∧ yX7_lean.cls ≠ "java/lang/invoke/VarHandle" ∧ (parseMethodDescriptor yX7_lean.desc).map (fun d => d.parameters.length) = some 1 := ⟨by decide +kernel, by decide +kernel, by decide +kernel⟩
theorem wcX7_setLean : Cond.code yX7_setLean cX7_setLean 3 none ∈ lw_g := z_w (List.mem_append_right _ (List.mem_of_getElem? (i := 316) (by decide +kernel))) rfl
theorem wiX7_setLean : Cond.instanceMethod yX7_setLean ∈ lw_g := z_w (List.mem_append_right _ (List.mem_of_getElem? (i := 314) (by decide +kernel))) rfl
theorem wlX7_setLean : Cond.selects "NotLikeThem$Town" yX7_setLean yX7_setLean ∈ lw_g := z_w (List.mem_append_right _ (List.mem_of_getElem? (i := 315) (by decide +kernel))) rfl
theorem wyX7_setLean : yX7_setLean.cls ≠ "java/lang/invoke/MethodHandle" ∧ yX7_setLean.cls ≠ "java/lang/invoke/VarHandle" ∧ (parseMethodDescriptor yX7_setLean.desc).map (fun d => d.parameters.length) = some 2 := ⟨by decide +kernel, by decide +kernel, by decide +kernel⟩
theorem wcX7_changed : Cond.code yX7_changed cX7_changed 2 none ∈ lw_g := z_w (List.mem_append_right _ (List.mem_of_getElem? (i := 276) (by decide +kernel))) rfl
theorem wiX7_changed : Cond.instanceMethod yX7_changed ∈ lw_g := z_w (List.mem_append_right _ (List.mem_of_getElem? (i := 275) (by decide +kernel))) rfl
theorem wlX7_changed : Cond.selects "NotLikeThem$Town" yX7_changed yX7_changed ∈ lw_g := z_w (List.mem_append_left _ (List.mem_of_getElem? (i := 0) (by decide +kernel))) rfl
theorem wyX7_changed : yX7_changed.cls ≠ "java/lang/invoke/MethodHandle" ∧ yX7_changed.cls ≠ "java/lang/invoke/VarHandle" ∧ (parseMethodDescriptor yX7_changed.desc).map (fun d => d.parameters.length) = some 1 := ⟨by decide +kernel, by decide +kernel, by decide +kernel⟩
theorem wcX7_seenBy : Cond.code yX7_seenBy cX7_seenBy 4 (some .int) ∈ lw_g := z_w (List.mem_append_right _ (List.mem_of_getElem? (i := 324) (by decide +kernel))) rfl
theorem wiX7_seenBy : Cond.instanceMethod yX7_seenBy ∈ lw_g := z_w (List.mem_append_right _ (List.mem_of_getElem? (i := 322) (by decide +kernel))) rfl
theorem wlX7_seenBy : Cond.selects "NotLikeThem$Town" yX7_seenBy yX7_seenBy ∈ lw_g := z_w (List.mem_append_right _ (List.mem_of_getElem? (i := 323) (by decide +kernel))) rfl
theorem wyX7_seenBy : yX7_seenBy.cls ≠ "java/lang/invoke/MethodHandle" ∧ yX7_seenBy.cls ≠ "java/lang/invoke/VarHandle" ∧ (parseMethodDescriptor yX7_seenBy.desc).map (fun d => d.parameters.length) = some 1 := ⟨by decide +kernel, by decide +kernel, by decide +kernel⟩
theorem wcX7_seeing : Cond.code yX7_seeing cX7_seeing 4 (some .int) ∈ lw_g := z_w (List.mem_append_right _ (List.mem_of_getElem? (i := 328) (by decide +kernel))) rfl
theorem wiX7_seeing : Cond.instanceMethod yX7_seeing ∈ lw_g := z_w (List.mem_append_right _ (List.mem_of_getElem? (i := 326) (by decide +kernel))) rfl
theorem wlX7_seeing : Cond.selects "NotLikeThem$Town" yX7_seeing yX7_seeing ∈ lw_g := z_w (List.mem_append_right _ (List.mem_of_getElem? (i := 327) (by decide +kernel))) rfl
theorem wyX7_seeing : yX7_seeing.cls ≠ "java/lang/invoke/MethodHandle" ∧ yX7_seeing.cls ≠ "java/lang/invoke/VarHandle" ∧ (parseMethodDescriptor yX7_seeing.desc).map (fun d => d.parameters.length) = some 1 := ⟨by decide +kernel, by decide +kernel, by decide +kernel⟩
theorem wcX7_ties : Cond.code yX7_ties cX7_ties 3 (some .int) ∈ lw_g := z_w (List.mem_append_right _ (List.mem_of_getElem? (i := 749) (by decide +kernel))) rfl
theorem wiX7_ties : Cond.instanceMethod yX7_ties ∈ lw_g := z_w (List.mem_append_right _ (List.mem_of_getElem? (i := 747) (by decide +kernel))) rfl
theorem wlX7_ties : Cond.selects "NotLikeThem$Town" yX7_ties yX7_ties ∈ lw_g := z_w (List.mem_append_right _ (List.mem_of_getElem? (i := 748) (by decide +kernel))) rfl
theorem wyX7_ties : yX7_ties.cls ≠ "java/lang/invoke/MethodHandle" ∧ yX7_ties.cls ≠ "java/lang/invoke/VarHandle" ∧ (parseMethodDescriptor yX7_ties.desc).map (fun d => d.parameters.length) = some 0 := ⟨by decide +kernel, by decide +kernel, by decide +kernel⟩
theorem wcX7_countKind : Cond.code yX7_countKind cX7_countKind 4 (some .int) ∈ lw_g := z_w (List.mem_append_right _ (List.mem_of_getElem? (i := 499) (by decide +kernel))) rfl
theorem wiX7_countKind : Cond.instanceMethod yX7_countKind ∈ lw_g := z_w (List.mem_append_right _ (List.mem_of_getElem? (i := 497) (by decide +kernel))) rfl
theorem wlX7_countKind : Cond.selects "NotLikeThem$Town" yX7_countKind yX7_countKind ∈ lw_g := z_w (List.mem_append_right _ (List.mem_of_getElem? (i := 498) (by decide +kernel))) rfl
theorem wyX7_countKind : yX7_countKind.cls ≠ "java/lang/invoke/MethodHandle" ∧ yX7_countKind.cls ≠ "java/lang/invoke/VarHandle" ∧ (parseMethodDescriptor yX7_countKind.desc).map (fun d => d.parameters.length) = some 1 := ⟨by decide +kernel, by decide +kernel, by decide +kernel⟩
theorem wcX7_sumOf : Cond.code yX7_sumOf cX7_sumOf 6 (some .int) ∈ lw_g := z_w (List.mem_append_right _ (List.mem_of_getElem? (i := 348) (by decide +kernel))) rfl
theorem wiX7_sumOf : Cond.instanceMethod yX7_sumOf ∈ lw_g := z_w (List.mem_append_right _ (List.mem_of_getElem? (i := 346) (by decide +kernel))) rfl
theorem wlX7_sumOf : Cond.selects "NotLikeThem$Town" yX7_sumOf yX7_sumOf ∈ lw_g := z_w (List.mem_append_right _ (List.mem_of_getElem? (i := 347) (by decide +kernel))) rfl
theorem wyX7_sumOf : yX7_sumOf.cls ≠ "java/lang/invoke/MethodHandle" ∧ yX7_sumOf.cls ≠ "java/lang/invoke/VarHandle" ∧ (parseMethodDescriptor yX7_sumOf.desc).map (fun d => d.parameters.length) = some 2 := ⟨by decide +kernel, by decide +kernel, by decide +kernel⟩
theorem wcX7_worn : Cond.code yX7_worn cX7_worn 2 (some .int) ∈ lw_g := z_w (List.mem_append_right _ (List.mem_of_getElem? (i := 351) (by decide +kernel))) rfl
theorem wsX7_worn : Cond.static yX7_worn ∈ lw_g := z_w (List.mem_append_right _ (List.mem_of_getElem? (i := 350) (by decide +kernel))) rfl
theorem wyX7_worn : yX7_worn.cls ≠ "java/lang/invoke/MethodHandle" ∧ yX7_worn.cls ≠ "java/lang/invoke/VarHandle" ∧ (parseMethodDescriptor yX7_worn.desc).map (fun d => d.parameters.length) = some 2 := ⟨by decide +kernel, by decide +kernel, by decide +kernel⟩
theorem wcX7_nextOf : Cond.code yX7_nextOf cX7_nextOf 3 (some .int) ∈ lw_g := z_w (List.mem_append_right _ (List.mem_of_getElem? (i := 368) (by decide +kernel))) rfl
theorem wsX7_nextOf : Cond.static yX7_nextOf ∈ lw_g := z_w (List.mem_append_right _ (List.mem_of_getElem? (i := 367) (by decide +kernel))) rfl
theorem wyX7_nextOf : yX7_nextOf.cls ≠ "java/lang/invoke/MethodHandle" ∧ yX7_nextOf.cls ≠ "java/lang/invoke/VarHandle" ∧ (parseMethodDescriptor yX7_nextOf.desc).map (fun d => d.parameters.length) = some 3 := ⟨by decide +kernel, by decide +kernel, by decide +kernel⟩
theorem wcX7_isCalm : Cond.code yX7_isCalm cX7_isCalm 4 (some .boolean) ∈ lw_g := z_w (List.mem_append_right _ (List.mem_of_getElem? (i := 364) (by decide +kernel))) rfl
theorem wiX7_isCalm : Cond.instanceMethod yX7_isCalm ∈ lw_g := z_w (List.mem_append_right _ (List.mem_of_getElem? (i := 362) (by decide +kernel))) rfl
theorem wlX7_isCalm : Cond.selects "NotLikeThem$Town" yX7_isCalm yX7_isCalm ∈ lw_g := z_w (List.mem_append_right _ (List.mem_of_getElem? (i := 363) (by decide +kernel))) rfl
theorem wyX7_isCalm : yX7_isCalm.cls ≠ "java/lang/invoke/MethodHandle" ∧ yX7_isCalm.cls ≠ "java/lang/invoke/VarHandle" ∧ (parseMethodDescriptor yX7_isCalm.desc).map (fun d => d.parameters.length) = some 2 := ⟨by decide +kernel, by decide +kernel, by decide +kernel⟩
theorem wcX7_restlessIn : Cond.code yX7_restlessIn cX7_restlessIn 4 (some .int) ∈ lw_g := z_w (List.mem_append_right _ (List.mem_of_getElem? (i := 360) (by decide +kernel))) rfl
theorem wiX7_restlessIn : Cond.instanceMethod yX7_restlessIn ∈ lw_g := z_w (List.mem_append_right _ (List.mem_of_getElem? (i := 358) (by decide +kernel))) rfl
theorem wlX7_restlessIn : Cond.selects "NotLikeThem$Town" yX7_restlessIn yX7_restlessIn ∈ lw_g := z_w (List.mem_append_right _ (List.mem_of_getElem? (i := 359) (by decide +kernel))) rfl
theorem wyX7_restlessIn : yX7_restlessIn.cls ≠ "java/lang/invoke/MethodHandle" ∧ yX7_restlessIn.cls ≠ "java/lang/invoke/VarHandle" ∧ (parseMethodDescriptor yX7_restlessIn.desc).map (fun d => d.parameters.length) = some 1 := ⟨by decide +kernel, by decide +kernel, by decide +kernel⟩
theorem wcX7_restless : Cond.code yX7_restless cX7_restless 2 (some (.array .int)) ∈ lw_g := z_w (List.mem_append_right _ (List.mem_of_getElem? (i := 391) (by decide +kernel))) rfl
theorem wiX7_restless : Cond.instanceMethod yX7_restless ∈ lw_g := z_w (List.mem_append_right _ (List.mem_of_getElem? (i := 389) (by decide +kernel))) rfl
theorem wlX7_restless : Cond.selects "NotLikeThem$Town" yX7_restless yX7_restless ∈ lw_g := z_w (List.mem_append_right _ (List.mem_of_getElem? (i := 390) (by decide +kernel))) rfl
theorem wyX7_restless : yX7_restless.cls ≠ "java/lang/invoke/MethodHandle" ∧ yX7_restless.cls ≠ "java/lang/invoke/VarHandle" ∧ (parseMethodDescriptor yX7_restless.desc).map (fun d => d.parameters.length) = some 0 := ⟨by decide +kernel, by decide +kernel, by decide +kernel⟩
theorem wcX7_renew : Cond.code yX7_renew cX7_renew 8 none ∈ lw_g := z_w (List.mem_append_right _ (List.mem_of_getElem? (i := 395) (by decide +kernel))) rfl
theorem wiX7_renew : Cond.instanceMethod yX7_renew ∈ lw_g := z_w (List.mem_append_right _ (List.mem_of_getElem? (i := 394) (by decide +kernel))) rfl
theorem wlX7_renew : Cond.selects "NotLikeThem$Town" yX7_renew yX7_renew ∈ lw_g := z_w (List.mem_append_left _ (List.mem_of_getElem? (i := 1) (by decide +kernel))) rfl
theorem wyX7_renew : yX7_renew.cls ≠ "java/lang/invoke/MethodHandle" ∧ yX7_renew.cls ≠ "java/lang/invoke/VarHandle" ∧ (parseMethodDescriptor yX7_renew.desc).map (fun d => d.parameters.length) = some 1 := ⟨by decide +kernel, by decide +kernel, by decide +kernel⟩
theorem wcX7_fillSums : Cond.code yX7_fillSums cX7_fillSums 8 none ∈ lw_g := z_w (List.mem_append_right _ (List.mem_of_getElem? (i := 399) (by decide +kernel))) rfl
theorem wiX7_fillSums : Cond.instanceMethod yX7_fillSums ∈ lw_g := z_w (List.mem_append_right _ (List.mem_of_getElem? (i := 398) (by decide +kernel))) rfl
theorem wlX7_fillSums : Cond.selects "NotLikeThem$Town" yX7_fillSums yX7_fillSums ∈ lw_g := z_w (List.mem_append_left _ (List.mem_of_getElem? (i := 2) (by decide +kernel))) rfl
theorem wyX7_fillSums : yX7_fillSums.cls ≠ "java/lang/invoke/MethodHandle" ∧ yX7_fillSums.cls ≠ "java/lang/invoke/VarHandle" ∧ (parseMethodDescriptor yX7_fillSums.desc).map (fun d => d.parameters.length) = some 1 := ⟨by decide +kernel, by decide +kernel, by decide +kernel⟩
theorem wcX8_stepsBy : Cond.code yX8_stepsBy cX8_stepsBy 5 (some (.array .int)) ∈ lw_g := z_w (List.mem_append_right _ (List.mem_of_getElem? (i := 383) (by decide +kernel))) rfl
theorem wiX8_stepsBy : Cond.instanceMethod yX8_stepsBy ∈ lw_g := z_w (List.mem_append_right _ (List.mem_of_getElem? (i := 381) (by decide +kernel))) rfl
theorem wlX8_stepsBy : Cond.selects "NotLikeThem$Walk" yX8_stepsBy yX8_stepsBy ∈ lw_g := z_w (List.mem_append_right _ (List.mem_of_getElem? (i := 382) (by decide +kernel))) rfl
theorem wyX8_stepsBy : yX8_stepsBy.cls ≠ "java/lang/invoke/MethodHandle" ∧ yX8_stepsBy.cls ≠ "java/lang/invoke/VarHandle" ∧ (parseMethodDescriptor yX8_stepsBy.desc).map (fun d => d.parameters.length) = some 1 := ⟨by decide +kernel, by decide +kernel, by decide +kernel⟩
theorem wcX8_oneByOne : Cond.code yX8_oneByOne cX8_oneByOne 6 (some .int) ∈ lw_g := z_w (List.mem_append_right _ (List.mem_of_getElem? (i := 404) (by decide +kernel))) rfl
theorem wiX8_oneByOne : Cond.instanceMethod yX8_oneByOne ∈ lw_g := z_w (List.mem_append_right _ (List.mem_of_getElem? (i := 403) (by decide +kernel))) rfl
theorem wlX8_oneByOne : Cond.selects "NotLikeThem$Walk" yX8_oneByOne yX8_oneByOne ∈ lw_g := z_w (List.mem_append_left _ (List.mem_of_getElem? (i := 3) (by decide +kernel))) rfl
theorem wyX8_oneByOne : yX8_oneByOne.cls ≠ "java/lang/invoke/MethodHandle" ∧ yX8_oneByOne.cls ≠ "java/lang/invoke/VarHandle" ∧ (parseMethodDescriptor yX8_oneByOne.desc).map (fun d => d.parameters.length) = some 2 := ⟨by decide +kernel, by decide +kernel, by decide +kernel⟩
theorem wcX8_behind : Cond.code yX8_behind cX8_behind 6 (some .int) ∈ lw_g := z_w (List.mem_append_right _ (List.mem_of_getElem? (i := 379) (by decide +kernel))) rfl
theorem wiX8_behind : Cond.instanceMethod yX8_behind ∈ lw_g := z_w (List.mem_append_right _ (List.mem_of_getElem? (i := 377) (by decide +kernel))) rfl
theorem wlX8_behind : Cond.selects "NotLikeThem$Walk" yX8_behind yX8_behind ∈ lw_g := z_w (List.mem_append_right _ (List.mem_of_getElem? (i := 378) (by decide +kernel))) rfl
theorem wyX8_behind : yX8_behind.cls ≠ "java/lang/invoke/MethodHandle" ∧ yX8_behind.cls ≠ "java/lang/invoke/VarHandle" ∧ (parseMethodDescriptor yX8_behind.desc).map (fun d => d.parameters.length) = some 3 := ⟨by decide +kernel, by decide +kernel, by decide +kernel⟩
theorem wcX8_stepsToRing : Cond.code yX8_stepsToRing cX8_stepsToRing 3 (some .int) ∈ lw_g := z_w (List.mem_append_right _ (List.mem_of_getElem? (i := 413) (by decide +kernel))) rfl
theorem wiX8_stepsToRing : Cond.instanceMethod yX8_stepsToRing ∈ lw_g := z_w (List.mem_append_right _ (List.mem_of_getElem? (i := 411) (by decide +kernel))) rfl
theorem wlX8_stepsToRing : Cond.selects "NotLikeThem$Walk" yX8_stepsToRing yX8_stepsToRing ∈ lw_g := z_w (List.mem_append_right _ (List.mem_of_getElem? (i := 412) (by decide +kernel))) rfl
theorem wyX8_stepsToRing : yX8_stepsToRing.cls ≠ "java/lang/invoke/MethodHandle" ∧ yX8_stepsToRing.cls ≠ "java/lang/invoke/VarHandle" ∧ (parseMethodDescriptor yX8_stepsToRing.desc).map (fun d => d.parameters.length) = some 2 := ⟨by decide +kernel, by decide +kernel, by decide +kernel⟩
theorem wcX8_entered : Cond.code yX8_entered cX8_entered 5 (some .int) ∈ lw_g := z_w (List.mem_append_right _ (List.mem_of_getElem? (i := 429) (by decide +kernel))) rfl
theorem wiX8_entered : Cond.instanceMethod yX8_entered ∈ lw_g := z_w (List.mem_append_right _ (List.mem_of_getElem? (i := 427) (by decide +kernel))) rfl
theorem wlX8_entered : Cond.selects "NotLikeThem$Walk" yX8_entered yX8_entered ∈ lw_g := z_w (List.mem_append_right _ (List.mem_of_getElem? (i := 428) (by decide +kernel))) rfl
theorem wyX8_entered : yX8_entered.cls ≠ "java/lang/invoke/MethodHandle" ∧ yX8_entered.cls ≠ "java/lang/invoke/VarHandle" ∧ (parseMethodDescriptor yX8_entered.desc).map (fun d => d.parameters.length) = some 2 := ⟨by decide +kernel, by decide +kernel, by decide +kernel⟩
theorem wcX8_ringCount : Cond.code yX8_ringCount cX8_ringCount 5 (some .int) ∈ lw_g := z_w (List.mem_append_right _ (List.mem_of_getElem? (i := 441) (by decide +kernel))) rfl
theorem wiX8_ringCount : Cond.instanceMethod yX8_ringCount ∈ lw_g := z_w (List.mem_append_right _ (List.mem_of_getElem? (i := 439) (by decide +kernel))) rfl
theorem wlX8_ringCount : Cond.selects "NotLikeThem$Walk" yX8_ringCount yX8_ringCount ∈ lw_g := z_w (List.mem_append_right _ (List.mem_of_getElem? (i := 440) (by decide +kernel))) rfl
theorem wyX8_ringCount : yX8_ringCount.cls ≠ "java/lang/invoke/MethodHandle" ∧ yX8_ringCount.cls ≠ "java/lang/invoke/VarHandle" ∧ (parseMethodDescriptor yX8_ringCount.desc).map (fun d => d.parameters.length) = some 1 := ⟨by decide +kernel, by decide +kernel, by decide +kernel⟩
theorem wcX8_leastOfRing : Cond.code yX8_leastOfRing cX8_leastOfRing 6 (some .int) ∈ lw_g := z_w (List.mem_append_right _ (List.mem_of_getElem? (i := 449) (by decide +kernel))) rfl
theorem wiX8_leastOfRing : Cond.instanceMethod yX8_leastOfRing ∈ lw_g := z_w (List.mem_append_right _ (List.mem_of_getElem? (i := 447) (by decide +kernel))) rfl
theorem wlX8_leastOfRing : Cond.selects "NotLikeThem$Walk" yX8_leastOfRing yX8_leastOfRing ∈ lw_g := z_w (List.mem_append_right _ (List.mem_of_getElem? (i := 448) (by decide +kernel))) rfl
theorem wyX8_leastOfRing : yX8_leastOfRing.cls ≠ "java/lang/invoke/MethodHandle" ∧ yX8_leastOfRing.cls ≠ "java/lang/invoke/VarHandle" ∧ (parseMethodDescriptor yX8_leastOfRing.desc).map (fun d => d.parameters.length) = some 2 := ⟨by decide +kernel, by decide +kernel, by decide +kernel⟩
theorem wcX8_lengthOf : Cond.code yX8_lengthOf cX8_lengthOf 5 (some .int) ∈ lw_g := z_w (List.mem_append_right _ (List.mem_of_getElem? (i := 433) (by decide +kernel))) rfl
theorem wiX8_lengthOf : Cond.instanceMethod yX8_lengthOf ∈ lw_g := z_w (List.mem_append_right _ (List.mem_of_getElem? (i := 431) (by decide +kernel))) rfl
theorem wlX8_lengthOf : Cond.selects "NotLikeThem$Walk" yX8_lengthOf yX8_lengthOf ∈ lw_g := z_w (List.mem_append_right _ (List.mem_of_getElem? (i := 432) (by decide +kernel))) rfl
theorem wyX8_lengthOf : yX8_lengthOf.cls ≠ "java/lang/invoke/MethodHandle" ∧ yX8_lengthOf.cls ≠ "java/lang/invoke/VarHandle" ∧ (parseMethodDescriptor yX8_lengthOf.desc).map (fun d => d.parameters.length) = some 2 := ⟨by decide +kernel, by decide +kernel, by decide +kernel⟩
theorem wcX8_drawnTo : Cond.code yX8_drawnTo cX8_drawnTo 6 (some .int) ∈ lw_g := z_w (List.mem_append_right _ (List.mem_of_getElem? (i := 453) (by decide +kernel))) rfl
theorem wiX8_drawnTo : Cond.instanceMethod yX8_drawnTo ∈ lw_g := z_w (List.mem_append_right _ (List.mem_of_getElem? (i := 451) (by decide +kernel))) rfl
theorem wlX8_drawnTo : Cond.selects "NotLikeThem$Walk" yX8_drawnTo yX8_drawnTo ∈ lw_g := z_w (List.mem_append_right _ (List.mem_of_getElem? (i := 452) (by decide +kernel))) rfl
theorem wyX8_drawnTo : yX8_drawnTo.cls ≠ "java/lang/invoke/MethodHandle" ∧ yX8_drawnTo.cls ≠ "java/lang/invoke/VarHandle" ∧ (parseMethodDescriptor yX8_drawnTo.desc).map (fun d => d.parameters.length) = some 2 := ⟨by decide +kernel, by decide +kernel, by decide +kernel⟩
theorem wcX8_farthestFrom : Cond.code yX8_farthestFrom cX8_farthestFrom 6 (some .int) ∈ lw_g := z_w (List.mem_append_right _ (List.mem_of_getElem? (i := 457) (by decide +kernel))) rfl
theorem wiX8_farthestFrom : Cond.instanceMethod yX8_farthestFrom ∈ lw_g := z_w (List.mem_append_right _ (List.mem_of_getElem? (i := 455) (by decide +kernel))) rfl
theorem wlX8_farthestFrom : Cond.selects "NotLikeThem$Walk" yX8_farthestFrom yX8_farthestFrom ∈ lw_g := z_w (List.mem_append_right _ (List.mem_of_getElem? (i := 456) (by decide +kernel))) rfl
theorem wyX8_farthestFrom : yX8_farthestFrom.cls ≠ "java/lang/invoke/MethodHandle" ∧ yX8_farthestFrom.cls ≠ "java/lang/invoke/VarHandle" ∧ (parseMethodDescriptor yX8_farthestFrom.desc).map (fun d => d.parameters.length) = some 2 := ⟨by decide +kernel, by decide +kernel, by decide +kernel⟩
theorem wcX8_greatestLength : Cond.code yX8_greatestLength cX8_greatestLength 5 (some .int) ∈ lw_g := z_w (List.mem_append_right _ (List.mem_of_getElem? (i := 468) (by decide +kernel))) rfl
theorem wiX8_greatestLength : Cond.instanceMethod yX8_greatestLength ∈ lw_g := z_w (List.mem_append_right _ (List.mem_of_getElem? (i := 466) (by decide +kernel))) rfl
theorem wlX8_greatestLength : Cond.selects "NotLikeThem$Walk" yX8_greatestLength yX8_greatestLength ∈ lw_g := z_w (List.mem_append_right _ (List.mem_of_getElem? (i := 467) (by decide +kernel))) rfl
theorem wyX8_greatestLength : yX8_greatestLength.cls ≠ "java/lang/invoke/MethodHandle" ∧ yX8_greatestLength.cls ≠ "java/lang/invoke/VarHandle" ∧ (parseMethodDescriptor yX8_greatestLength.desc).map (fun d => d.parameters.length) = some 1 := ⟨by decide +kernel, by decide +kernel, by decide +kernel⟩
theorem wcX8_findRings : Cond.code yX8_findRings cX8_findRings 6 none ∈ lw_g := z_w (List.mem_append_right _ (List.mem_of_getElem? (i := 417) (by decide +kernel))) rfl
theorem wiX8_findRings : Cond.instanceMethod yX8_findRings ∈ lw_g := z_w (List.mem_append_right _ (List.mem_of_getElem? (i := 416) (by decide +kernel))) rfl
theorem wlX8_findRings : Cond.selects "NotLikeThem$Walk" yX8_findRings yX8_findRings ∈ lw_g := z_w (List.mem_append_left _ (List.mem_of_getElem? (i := 4) (by decide +kernel))) rfl
theorem wyX8_findRings : yX8_findRings.cls ≠ "java/lang/invoke/MethodHandle" ∧ yX8_findRings.cls ≠ "java/lang/invoke/VarHandle" ∧ (parseMethodDescriptor yX8_findRings.desc).map (fun d => d.parameters.length) = some 1 := ⟨by decide +kernel, by decide +kernel, by decide +kernel⟩
theorem wcX8_takeOff : Cond.code yX8_takeOff cX8_takeOff 5 (some .int) ∈ lw_g := z_w (List.mem_append_right _ (List.mem_of_getElem? (i := 421) (by decide +kernel))) rfl
theorem wiX8_takeOff : Cond.instanceMethod yX8_takeOff ∈ lw_g := z_w (List.mem_append_right _ (List.mem_of_getElem? (i := 420) (by decide +kernel))) rfl
theorem wlX8_takeOff : Cond.selects "NotLikeThem$Walk" yX8_takeOff yX8_takeOff ∈ lw_g := z_w (List.mem_append_left _ (List.mem_of_getElem? (i := 5) (by decide +kernel))) rfl
theorem wyX8_takeOff : yX8_takeOff.cls ≠ "java/lang/invoke/MethodHandle" ∧ yX8_takeOff.cls ≠ "java/lang/invoke/VarHandle" ∧ (parseMethodDescriptor yX8_takeOff.desc).map (fun d => d.parameters.length) = some 1 := ⟨by decide +kernel, by decide +kernel, by decide +kernel⟩
theorem wcX8_goRound : Cond.code yX8_goRound cX8_goRound 5 none ∈ lw_g := z_w (List.mem_append_right _ (List.mem_of_getElem? (i := 425) (by decide +kernel))) rfl
theorem wiX8_goRound : Cond.instanceMethod yX8_goRound ∈ lw_g := z_w (List.mem_append_right _ (List.mem_of_getElem? (i := 424) (by decide +kernel))) rfl
theorem wlX8_goRound : Cond.selects "NotLikeThem$Walk" yX8_goRound yX8_goRound ∈ lw_g := z_w (List.mem_append_left _ (List.mem_of_getElem? (i := 6) (by decide +kernel))) rfl
theorem wyX8_goRound : yX8_goRound.cls ≠ "java/lang/invoke/MethodHandle" ∧ yX8_goRound.cls ≠ "java/lang/invoke/VarHandle" ∧ (parseMethodDescriptor yX8_goRound.desc).map (fun d => d.parameters.length) = some 2 := ⟨by decide +kernel, by decide +kernel, by decide +kernel⟩
theorem wcX9_people : Cond.code yX9_people cX9_people 3 (some .int) ∈ lw_g := z_w (List.mem_append_right _ (List.mem_of_getElem? (i := 261) (by decide +kernel))) rfl
theorem wiX9_people : Cond.instanceMethod yX9_people ∈ lw_g := z_w (List.mem_append_right _ (List.mem_of_getElem? (i := 259) (by decide +kernel))) rfl
theorem wlX9_people : Cond.selects "NotLikeThem" yX9_people yX9_people ∈ lw_g := z_w (List.mem_append_right _ (List.mem_of_getElem? (i := 260) (by decide +kernel))) rfl
theorem wyX9_people : yX9_people.cls ≠ "java/lang/invoke/MethodHandle" ∧ yX9_people.cls ≠ "java/lang/invoke/VarHandle" ∧ (parseMethodDescriptor yX9_people.desc).map (fun d => d.parameters.length) = some 1 := ⟨by decide +kernel, by decide +kernel, by decide +kernel⟩
theorem wcX9_tie : Cond.code yX9_tie cX9_tie 5 (some .int) ∈ lw_g := z_w (List.mem_append_right _ (List.mem_of_getElem? (i := 284) (by decide +kernel))) rfl
theorem wiX9_tie : Cond.instanceMethod yX9_tie ∈ lw_g := z_w (List.mem_append_right _ (List.mem_of_getElem? (i := 282) (by decide +kernel))) rfl
theorem wlX9_tie : Cond.selects "NotLikeThem" yX9_tie yX9_tie ∈ lw_g := z_w (List.mem_append_right _ (List.mem_of_getElem? (i := 283) (by decide +kernel))) rfl
theorem wyX9_tie : yX9_tie.cls ≠ "java/lang/invoke/MethodHandle" ∧ yX9_tie.cls ≠ "java/lang/invoke/VarHandle" ∧ (parseMethodDescriptor yX9_tie.desc).map (fun d => d.parameters.length) = some 3 := ⟨by decide +kernel, by decide +kernel, by decide +kernel⟩
theorem wcX9_set : Cond.code yX9_set cX9_set 5 (some .int) ∈ lw_g := z_w (List.mem_append_right _ (List.mem_of_getElem? (i := 300) (by decide +kernel))) rfl
theorem wiX9_set : Cond.instanceMethod yX9_set ∈ lw_g := z_w (List.mem_append_right _ (List.mem_of_getElem? (i := 298) (by decide +kernel))) rfl
theorem wlX9_set : Cond.selects "NotLikeThem" yX9_set yX9_set ∈ lw_g := z_w (List.mem_append_right _ (List.mem_of_getElem? (i := 299) (by decide +kernel))) rfl
theorem wyX9_set : yX9_set.cls ≠ "java/lang/invoke/MethodHandle" ∧ yX9_set.cls ≠ "java/lang/invoke/VarHandle" ∧ (parseMethodDescriptor yX9_set.desc).map (fun d => d.parameters.length) = some 3 := ⟨by decide +kernel, by decide +kernel, by decide +kernel⟩
theorem wcX9_about : Cond.code yX9_about cX9_about 3 (some .int) ∈ lw_g := z_w (List.mem_append_right _ (List.mem_of_getElem? (i := 320) (by decide +kernel))) rfl
theorem wiX9_about : Cond.instanceMethod yX9_about ∈ lw_g := z_w (List.mem_append_right _ (List.mem_of_getElem? (i := 318) (by decide +kernel))) rfl
theorem wlX9_about : Cond.selects "NotLikeThem" yX9_about yX9_about ∈ lw_g := z_w (List.mem_append_right _ (List.mem_of_getElem? (i := 319) (by decide +kernel))) rfl
theorem wyX9_about : yX9_about.cls ≠ "java/lang/invoke/MethodHandle" ∧ yX9_about.cls ≠ "java/lang/invoke/VarHandle" ∧ (parseMethodDescriptor yX9_about.desc).map (fun d => d.parameters.length) = some 2 := ⟨by decide +kernel, by decide +kernel, by decide +kernel⟩
theorem wcX9_sees : Cond.code yX9_sees cX9_sees 3 (some .int) ∈ lw_g := z_w (List.mem_append_right _ (List.mem_of_getElem? (i := 332) (by decide +kernel))) rfl
theorem wiX9_sees : Cond.instanceMethod yX9_sees ∈ lw_g := z_w (List.mem_append_right _ (List.mem_of_getElem? (i := 330) (by decide +kernel))) rfl
theorem wlX9_sees : Cond.selects "NotLikeThem" yX9_sees yX9_sees ∈ lw_g := z_w (List.mem_append_right _ (List.mem_of_getElem? (i := 331) (by decide +kernel))) rfl
theorem wyX9_sees : yX9_sees.cls ≠ "java/lang/invoke/MethodHandle" ∧ yX9_sees.cls ≠ "java/lang/invoke/VarHandle" ∧ (parseMethodDescriptor yX9_sees.desc).map (fun d => d.parameters.length) = some 2 := ⟨by decide +kernel, by decide +kernel, by decide +kernel⟩
theorem wcX9_sum : Cond.code yX9_sum cX9_sum 3 (some .int) ∈ lw_g := z_w (List.mem_append_right _ (List.mem_of_getElem? (i := 336) (by decide +kernel))) rfl
theorem wiX9_sum : Cond.instanceMethod yX9_sum ∈ lw_g := z_w (List.mem_append_right _ (List.mem_of_getElem? (i := 334) (by decide +kernel))) rfl
theorem wlX9_sum : Cond.selects "NotLikeThem" yX9_sum yX9_sum ∈ lw_g := z_w (List.mem_append_right _ (List.mem_of_getElem? (i := 335) (by decide +kernel))) rfl
theorem wyX9_sum : yX9_sum.cls ≠ "java/lang/invoke/MethodHandle" ∧ yX9_sum.cls ≠ "java/lang/invoke/VarHandle" ∧ (parseMethodDescriptor yX9_sum.desc).map (fun d => d.parameters.length) = some 2 := ⟨by decide +kernel, by decide +kernel, by decide +kernel⟩
theorem wcX9_calm : Cond.code yX9_calm cX9_calm 2 (some .int) ∈ lw_g := z_w (List.mem_append_right _ (List.mem_of_getElem? (i := 355) (by decide +kernel))) rfl
theorem wiX9_calm : Cond.instanceMethod yX9_calm ∈ lw_g := z_w (List.mem_append_right _ (List.mem_of_getElem? (i := 353) (by decide +kernel))) rfl
theorem wlX9_calm : Cond.selects "NotLikeThem" yX9_calm yX9_calm ∈ lw_g := z_w (List.mem_append_right _ (List.mem_of_getElem? (i := 354) (by decide +kernel))) rfl
theorem wyX9_calm : yX9_calm.cls ≠ "java/lang/invoke/MethodHandle" ∧ yX9_calm.cls ≠ "java/lang/invoke/VarHandle" ∧ (parseMethodDescriptor yX9_calm.desc).map (fun d => d.parameters.length) = some 1 := ⟨by decide +kernel, by decide +kernel, by decide +kernel⟩
theorem wcX9_after : Cond.code yX9_after cX9_after 4 (some .int) ∈ lw_g := z_w (List.mem_append_right _ (List.mem_of_getElem? (i := 372) (by decide +kernel))) rfl
theorem wiX9_after : Cond.instanceMethod yX9_after ∈ lw_g := z_w (List.mem_append_right _ (List.mem_of_getElem? (i := 370) (by decide +kernel))) rfl
theorem wlX9_after : Cond.selects "NotLikeThem" yX9_after yX9_after ∈ lw_g := z_w (List.mem_append_right _ (List.mem_of_getElem? (i := 371) (by decide +kernel))) rfl
theorem wyX9_after : yX9_after.cls ≠ "java/lang/invoke/MethodHandle" ∧ yX9_after.cls ≠ "java/lang/invoke/VarHandle" ∧ (parseMethodDescriptor yX9_after.desc).map (fun d => d.parameters.length) = some 3 := ⟨by decide +kernel, by decide +kernel, by decide +kernel⟩
theorem wcX9_run : Cond.code yX9_run cX9_run 4 (some .int) ∈ lw_g := z_w (List.mem_append_right _ (List.mem_of_getElem? (i := 409) (by decide +kernel))) rfl
theorem wiX9_run : Cond.instanceMethod yX9_run ∈ lw_g := z_w (List.mem_append_right _ (List.mem_of_getElem? (i := 407) (by decide +kernel))) rfl
theorem wlX9_run : Cond.selects "NotLikeThem" yX9_run yX9_run ∈ lw_g := z_w (List.mem_append_right _ (List.mem_of_getElem? (i := 408) (by decide +kernel))) rfl
theorem wyX9_run : yX9_run.cls ≠ "java/lang/invoke/MethodHandle" ∧ yX9_run.cls ≠ "java/lang/invoke/VarHandle" ∧ (parseMethodDescriptor yX9_run.desc).map (fun d => d.parameters.length) = some 3 := ⟨by decide +kernel, by decide +kernel, by decide +kernel⟩
theorem wcX9_rings : Cond.code yX9_rings cX9_rings 2 (some .int) ∈ lw_g := z_w (List.mem_append_right _ (List.mem_of_getElem? (i := 437) (by decide +kernel))) rfl
theorem wiX9_rings : Cond.instanceMethod yX9_rings ∈ lw_g := z_w (List.mem_append_right _ (List.mem_of_getElem? (i := 435) (by decide +kernel))) rfl
theorem wlX9_rings : Cond.selects "NotLikeThem" yX9_rings yX9_rings ∈ lw_g := z_w (List.mem_append_right _ (List.mem_of_getElem? (i := 436) (by decide +kernel))) rfl
theorem wyX9_rings : yX9_rings.cls ≠ "java/lang/invoke/MethodHandle" ∧ yX9_rings.cls ≠ "java/lang/invoke/VarHandle" ∧ (parseMethodDescriptor yX9_rings.desc).map (fun d => d.parameters.length) = some 1 := ⟨by decide +kernel, by decide +kernel, by decide +kernel⟩
theorem wcX9_ring : Cond.code yX9_ring cX9_ring 5 (some .int) ∈ lw_g := z_w (List.mem_append_right _ (List.mem_of_getElem? (i := 445) (by decide +kernel))) rfl
theorem wiX9_ring : Cond.instanceMethod yX9_ring ∈ lw_g := z_w (List.mem_append_right _ (List.mem_of_getElem? (i := 443) (by decide +kernel))) rfl
theorem wlX9_ring : Cond.selects "NotLikeThem" yX9_ring yX9_ring ∈ lw_g := z_w (List.mem_append_right _ (List.mem_of_getElem? (i := 444) (by decide +kernel))) rfl
theorem wyX9_ring : yX9_ring.cls ≠ "java/lang/invoke/MethodHandle" ∧ yX9_ring.cls ≠ "java/lang/invoke/VarHandle" ∧ (parseMethodDescriptor yX9_ring.desc).map (fun d => d.parameters.length) = some 3 := ⟨by decide +kernel, by decide +kernel, by decide +kernel⟩
theorem wcX9_longest : Cond.code yX9_longest cX9_longest 2 (some .int) ∈ lw_g := z_w (List.mem_append_right _ (List.mem_of_getElem? (i := 464) (by decide +kernel))) rfl
theorem wiX9_longest : Cond.instanceMethod yX9_longest ∈ lw_g := z_w (List.mem_append_right _ (List.mem_of_getElem? (i := 462) (by decide +kernel))) rfl
theorem wlX9_longest : Cond.selects "NotLikeThem" yX9_longest yX9_longest ∈ lw_g := z_w (List.mem_append_right _ (List.mem_of_getElem? (i := 463) (by decide +kernel))) rfl
theorem wyX9_longest : yX9_longest.cls ≠ "java/lang/invoke/MethodHandle" ∧ yX9_longest.cls ≠ "java/lang/invoke/VarHandle" ∧ (parseMethodDescriptor yX9_longest.desc).map (fun d => d.parameters.length) = some 1 := ⟨by decide +kernel, by decide +kernel, by decide +kernel⟩
theorem wcX9_rests : Cond.code yX9_rests cX9_rests 1 (some .int) ∈ lw_g := z_w (List.mem_append_right _ (List.mem_of_getElem? (i := 473) (by decide +kernel))) rfl
theorem wiX9_rests : Cond.instanceMethod yX9_rests ∈ lw_g := z_w (List.mem_append_right _ (List.mem_of_getElem? (i := 471) (by decide +kernel))) rfl
theorem wlX9_rests : Cond.selects "NotLikeThem" yX9_rests yX9_rests ∈ lw_g := z_w (List.mem_append_right _ (List.mem_of_getElem? (i := 472) (by decide +kernel))) rfl
theorem wyX9_rests : yX9_rests.cls ≠ "java/lang/invoke/MethodHandle" ∧ yX9_rests.cls ≠ "java/lang/invoke/VarHandle" ∧ (parseMethodDescriptor yX9_rests.desc).map (fun d => d.parameters.length) = some 0 := ⟨by decide +kernel, by decide +kernel, by decide +kernel⟩
theorem wcX9_rest : Cond.code yX9_rest cX9_rest 3 (some .int) ∈ lw_g := z_w (List.mem_append_right _ (List.mem_of_getElem? (i := 483) (by decide +kernel))) rfl
theorem wiX9_rest : Cond.instanceMethod yX9_rest ∈ lw_g := z_w (List.mem_append_right _ (List.mem_of_getElem? (i := 481) (by decide +kernel))) rfl
theorem wlX9_rest : Cond.selects "NotLikeThem" yX9_rest yX9_rest ∈ lw_g := z_w (List.mem_append_right _ (List.mem_of_getElem? (i := 482) (by decide +kernel))) rfl
theorem wyX9_rest : yX9_rest.cls ≠ "java/lang/invoke/MethodHandle" ∧ yX9_rest.cls ≠ "java/lang/invoke/VarHandle" ∧ (parseMethodDescriptor yX9_rest.desc).map (fun d => d.parameters.length) = some 1 := ⟨by decide +kernel, by decide +kernel, by decide +kernel⟩
theorem wcX9_even : Cond.code yX9_even cX9_even 1 (some .int) ∈ lw_g := z_w (List.mem_append_right _ (List.mem_of_getElem? (i := 491) (by decide +kernel))) rfl
theorem wiX9_even : Cond.instanceMethod yX9_even ∈ lw_g := z_w (List.mem_append_right _ (List.mem_of_getElem? (i := 489) (by decide +kernel))) rfl
theorem wlX9_even : Cond.selects "NotLikeThem" yX9_even yX9_even ∈ lw_g := z_w (List.mem_append_right _ (List.mem_of_getElem? (i := 490) (by decide +kernel))) rfl
theorem wyX9_even : yX9_even.cls ≠ "java/lang/invoke/MethodHandle" ∧ yX9_even.cls ≠ "java/lang/invoke/VarHandle" ∧ (parseMethodDescriptor yX9_even.desc).map (fun d => d.parameters.length) = some 0 := ⟨by decide +kernel, by decide +kernel, by decide +kernel⟩
theorem wcX9_heat : Cond.code yX9_heat cX9_heat 2 (some .int) ∈ lw_g := z_w (List.mem_append_right _ (List.mem_of_getElem? (i := 510) (by decide +kernel))) rfl
theorem wiX9_heat : Cond.instanceMethod yX9_heat ∈ lw_g := z_w (List.mem_append_right _ (List.mem_of_getElem? (i := 508) (by decide +kernel))) rfl
theorem wlX9_heat : Cond.selects "NotLikeThem" yX9_heat yX9_heat ∈ lw_g := z_w (List.mem_append_right _ (List.mem_of_getElem? (i := 509) (by decide +kernel))) rfl
theorem wyX9_heat : yX9_heat.cls ≠ "java/lang/invoke/MethodHandle" ∧ yX9_heat.cls ≠ "java/lang/invoke/VarHandle" ∧ (parseMethodDescriptor yX9_heat.desc).map (fun d => d.parameters.length) = some 1 := ⟨by decide +kernel, by decide +kernel, by decide +kernel⟩
theorem wcX9_lone : Cond.code yX9_lone cX9_lone 3 (some .int) ∈ lw_g := z_w (List.mem_append_right _ (List.mem_of_getElem? (i := 528) (by decide +kernel))) rfl
theorem wiX9_lone : Cond.instanceMethod yX9_lone ∈ lw_g := z_w (List.mem_append_right _ (List.mem_of_getElem? (i := 526) (by decide +kernel))) rfl
theorem wlX9_lone : Cond.selects "NotLikeThem" yX9_lone yX9_lone ∈ lw_g := z_w (List.mem_append_right _ (List.mem_of_getElem? (i := 527) (by decide +kernel))) rfl
theorem wyX9_lone : yX9_lone.cls ≠ "java/lang/invoke/MethodHandle" ∧ yX9_lone.cls ≠ "java/lang/invoke/VarHandle" ∧ (parseMethodDescriptor yX9_lone.desc).map (fun d => d.parameters.length) = some 2 := ⟨by decide +kernel, by decide +kernel, by decide +kernel⟩
theorem wcX9_settled : Cond.code yX9_settled cX9_settled 1 (some .int) ∈ lw_g := z_w (List.mem_append_right _ (List.mem_of_getElem? (i := 533) (by decide +kernel))) rfl
theorem wiX9_settled : Cond.instanceMethod yX9_settled ∈ lw_g := z_w (List.mem_append_right _ (List.mem_of_getElem? (i := 531) (by decide +kernel))) rfl
theorem wlX9_settled : Cond.selects "NotLikeThem" yX9_settled yX9_settled ∈ lw_g := z_w (List.mem_append_right _ (List.mem_of_getElem? (i := 532) (by decide +kernel))) rfl
theorem wyX9_settled : yX9_settled.cls ≠ "java/lang/invoke/MethodHandle" ∧ yX9_settled.cls ≠ "java/lang/invoke/VarHandle" ∧ (parseMethodDescriptor yX9_settled.desc).map (fun d => d.parameters.length) = some 0 := ⟨by decide +kernel, by decide +kernel, by decide +kernel⟩
theorem wcX9_witness : Cond.code yX9_witness cX9_witness 2 (some .int) ∈ lw_g := z_w (List.mem_append_right _ (List.mem_of_getElem? (i := 566) (by decide +kernel))) rfl
theorem wiX9_witness : Cond.instanceMethod yX9_witness ∈ lw_g := z_w (List.mem_append_right _ (List.mem_of_getElem? (i := 564) (by decide +kernel))) rfl
theorem wlX9_witness : Cond.selects "NotLikeThem" yX9_witness yX9_witness ∈ lw_g := z_w (List.mem_append_right _ (List.mem_of_getElem? (i := 565) (by decide +kernel))) rfl
theorem wyX9_witness : yX9_witness.cls ≠ "java/lang/invoke/MethodHandle" ∧ yX9_witness.cls ≠ "java/lang/invoke/VarHandle" ∧ (parseMethodDescriptor yX9_witness.desc).map (fun d => d.parameters.length) = some 0 := ⟨by decide +kernel, by decide +kernel, by decide +kernel⟩
theorem wcX9_turn : Cond.code yX9_turn cX9_turn 1 (some .int) ∈ lw_g := z_w (List.mem_append_right _ (List.mem_of_getElem? (i := 570) (by decide +kernel))) rfl
theorem wiX9_turn : Cond.instanceMethod yX9_turn ∈ lw_g := z_w (List.mem_append_right _ (List.mem_of_getElem? (i := 568) (by decide +kernel))) rfl
theorem wlX9_turn : Cond.selects "NotLikeThem" yX9_turn yX9_turn ∈ lw_g := z_w (List.mem_append_right _ (List.mem_of_getElem? (i := 569) (by decide +kernel))) rfl
theorem wyX9_turn : yX9_turn.cls ≠ "java/lang/invoke/MethodHandle" ∧ yX9_turn.cls ≠ "java/lang/invoke/VarHandle" ∧ (parseMethodDescriptor yX9_turn.desc).map (fun d => d.parameters.length) = some 0 := ⟨by decide +kernel, by decide +kernel, by decide +kernel⟩
theorem wcX9_turned : Cond.code yX9_turned cX9_turned 1 (some .int) ∈ lw_g := z_w (List.mem_append_right _ (List.mem_of_getElem? (i := 586) (by decide +kernel))) rfl
theorem wiX9_turned : Cond.instanceMethod yX9_turned ∈ lw_g := z_w (List.mem_append_right _ (List.mem_of_getElem? (i := 584) (by decide +kernel))) rfl
theorem wlX9_turned : Cond.selects "NotLikeThem" yX9_turned yX9_turned ∈ lw_g := z_w (List.mem_append_right _ (List.mem_of_getElem? (i := 585) (by decide +kernel))) rfl
theorem wyX9_turned : yX9_turned.cls ≠ "java/lang/invoke/MethodHandle" ∧ yX9_turned.cls ≠ "java/lang/invoke/VarHandle" ∧ (parseMethodDescriptor yX9_turned.desc).map (fun d => d.parameters.length) = some 0 := ⟨by decide +kernel, by decide +kernel, by decide +kernel⟩
theorem wcX9_hold : Cond.code yX9_hold cX9_hold 3 (some .int) ∈ lw_g := z_w (List.mem_append_right _ (List.mem_of_getElem? (i := 590) (by decide +kernel))) rfl
theorem wiX9_hold : Cond.instanceMethod yX9_hold ∈ lw_g := z_w (List.mem_append_right _ (List.mem_of_getElem? (i := 588) (by decide +kernel))) rfl
theorem wlX9_hold : Cond.selects "NotLikeThem" yX9_hold yX9_hold ∈ lw_g := z_w (List.mem_append_right _ (List.mem_of_getElem? (i := 589) (by decide +kernel))) rfl
theorem wyX9_hold : yX9_hold.cls ≠ "java/lang/invoke/MethodHandle" ∧ yX9_hold.cls ≠ "java/lang/invoke/VarHandle" ∧ (parseMethodDescriptor yX9_hold.desc).map (fun d => d.parameters.length) = some 1 := ⟨by decide +kernel, by decide +kernel, by decide +kernel⟩
theorem wcX9_may : Cond.code yX9_may cX9_may 4 (some .int) ∈ lw_g := z_w (List.mem_append_right _ (List.mem_of_getElem? (i := 598) (by decide +kernel))) rfl
theorem wiX9_may : Cond.instanceMethod yX9_may ∈ lw_g := z_w (List.mem_append_right _ (List.mem_of_getElem? (i := 596) (by decide +kernel))) rfl
theorem wlX9_may : Cond.selects "NotLikeThem" yX9_may yX9_may ∈ lw_g := z_w (List.mem_append_right _ (List.mem_of_getElem? (i := 597) (by decide +kernel))) rfl
theorem wyX9_may : yX9_may.cls ≠ "java/lang/invoke/MethodHandle" ∧ yX9_may.cls ≠ "java/lang/invoke/VarHandle" ∧ (parseMethodDescriptor yX9_may.desc).map (fun d => d.parameters.length) = some 2 := ⟨by decide +kernel, by decide +kernel, by decide +kernel⟩
theorem wcX9_mays : Cond.code yX9_mays cX9_mays 2 (some .int) ∈ lw_g := z_w (List.mem_append_right _ (List.mem_of_getElem? (i := 613) (by decide +kernel))) rfl
theorem wiX9_mays : Cond.instanceMethod yX9_mays ∈ lw_g := z_w (List.mem_append_right _ (List.mem_of_getElem? (i := 611) (by decide +kernel))) rfl
theorem wlX9_mays : Cond.selects "NotLikeThem" yX9_mays yX9_mays ∈ lw_g := z_w (List.mem_append_right _ (List.mem_of_getElem? (i := 612) (by decide +kernel))) rfl
theorem wyX9_mays : yX9_mays.cls ≠ "java/lang/invoke/MethodHandle" ∧ yX9_mays.cls ≠ "java/lang/invoke/VarHandle" ∧ (parseMethodDescriptor yX9_mays.desc).map (fun d => d.parameters.length) = some 1 := ⟨by decide +kernel, by decide +kernel, by decide +kernel⟩
theorem wcX9_soon : Cond.code yX9_soon cX9_soon 3 (some .int) ∈ lw_g := z_w (List.mem_append_right _ (List.mem_of_getElem? (i := 621) (by decide +kernel))) rfl
theorem wiX9_soon : Cond.instanceMethod yX9_soon ∈ lw_g := z_w (List.mem_append_right _ (List.mem_of_getElem? (i := 619) (by decide +kernel))) rfl
theorem wlX9_soon : Cond.selects "NotLikeThem" yX9_soon yX9_soon ∈ lw_g := z_w (List.mem_append_right _ (List.mem_of_getElem? (i := 620) (by decide +kernel))) rfl
theorem wyX9_soon : yX9_soon.cls ≠ "java/lang/invoke/MethodHandle" ∧ yX9_soon.cls ≠ "java/lang/invoke/VarHandle" ∧ (parseMethodDescriptor yX9_soon.desc).map (fun d => d.parameters.length) = some 1 := ⟨by decide +kernel, by decide +kernel, by decide +kernel⟩
theorem wcX9_likely : Cond.code yX9_likely cX9_likely 4 (some .long) ∈ lw_g := z_w (List.mem_append_right _ (List.mem_of_getElem? (i := 629) (by decide +kernel))) rfl
theorem wiX9_likely : Cond.instanceMethod yX9_likely ∈ lw_g := z_w (List.mem_append_right _ (List.mem_of_getElem? (i := 627) (by decide +kernel))) rfl
theorem wlX9_likely : Cond.selects "NotLikeThem" yX9_likely yX9_likely ∈ lw_g := z_w (List.mem_append_right _ (List.mem_of_getElem? (i := 628) (by decide +kernel))) rfl
theorem wyX9_likely : yX9_likely.cls ≠ "java/lang/invoke/MethodHandle" ∧ yX9_likely.cls ≠ "java/lang/invoke/VarHandle" ∧ (parseMethodDescriptor yX9_likely.desc).map (fun d => d.parameters.length) = some 3 := ⟨by decide +kernel, by decide +kernel, by decide +kernel⟩
theorem wcX9_week : Cond.code yX9_week cX9_week 2 (some .int) ∈ lw_g := z_w (List.mem_append_right _ (List.mem_of_getElem? (i := 651) (by decide +kernel))) rfl
theorem wiX9_week : Cond.instanceMethod yX9_week ∈ lw_g := z_w (List.mem_append_right _ (List.mem_of_getElem? (i := 649) (by decide +kernel))) rfl
theorem wlX9_week : Cond.selects "NotLikeThem" yX9_week yX9_week ∈ lw_g := z_w (List.mem_append_right _ (List.mem_of_getElem? (i := 650) (by decide +kernel))) rfl
theorem wyX9_week : yX9_week.cls ≠ "java/lang/invoke/MethodHandle" ∧ yX9_week.cls ≠ "java/lang/invoke/VarHandle" ∧ (parseMethodDescriptor yX9_week.desc).map (fun d => d.parameters.length) = some 1 := ⟨by decide +kernel, by decide +kernel, by decide +kernel⟩
theorem wcX9_wipe : Cond.code yX9_wipe cX9_wipe 2 (some .int) ∈ lw_g := z_w (List.mem_append_right _ (List.mem_of_getElem? (i := 668) (by decide +kernel))) rfl
theorem wiX9_wipe : Cond.instanceMethod yX9_wipe ∈ lw_g := z_w (List.mem_append_right _ (List.mem_of_getElem? (i := 666) (by decide +kernel))) rfl
theorem wlX9_wipe : Cond.selects "NotLikeThem" yX9_wipe yX9_wipe ∈ lw_g := z_w (List.mem_append_right _ (List.mem_of_getElem? (i := 667) (by decide +kernel))) rfl
theorem wyX9_wipe : yX9_wipe.cls ≠ "java/lang/invoke/MethodHandle" ∧ yX9_wipe.cls ≠ "java/lang/invoke/VarHandle" ∧ (parseMethodDescriptor yX9_wipe.desc).map (fun d => d.parameters.length) = some 0 := ⟨by decide +kernel, by decide +kernel, by decide +kernel⟩
theorem wcX9_maybe : Cond.code yX9_maybe cX9_maybe 2 (some .int) ∈ lw_g := z_w (List.mem_append_right _ (List.mem_of_getElem? (i := 672) (by decide +kernel))) rfl
theorem wiX9_maybe : Cond.instanceMethod yX9_maybe ∈ lw_g := z_w (List.mem_append_right _ (List.mem_of_getElem? (i := 670) (by decide +kernel))) rfl
theorem wlX9_maybe : Cond.selects "NotLikeThem" yX9_maybe yX9_maybe ∈ lw_g := z_w (List.mem_append_right _ (List.mem_of_getElem? (i := 671) (by decide +kernel))) rfl
theorem wyX9_maybe : yX9_maybe.cls ≠ "java/lang/invoke/MethodHandle" ∧ yX9_maybe.cls ≠ "java/lang/invoke/VarHandle" ∧ (parseMethodDescriptor yX9_maybe.desc).map (fun d => d.parameters.length) = some 1 := ⟨by decide +kernel, by decide +kernel, by decide +kernel⟩
theorem wcX9_ways : Cond.code yX9_ways cX9_ways 1 (some .long) ∈ lw_g := z_w (List.mem_append_right _ (List.mem_of_getElem? (i := 683) (by decide +kernel))) rfl
theorem wiX9_ways : Cond.instanceMethod yX9_ways ∈ lw_g := z_w (List.mem_append_right _ (List.mem_of_getElem? (i := 681) (by decide +kernel))) rfl
theorem wlX9_ways : Cond.selects "NotLikeThem" yX9_ways yX9_ways ∈ lw_g := z_w (List.mem_append_right _ (List.mem_of_getElem? (i := 682) (by decide +kernel))) rfl
theorem wyX9_ways : yX9_ways.cls ≠ "java/lang/invoke/MethodHandle" ∧ yX9_ways.cls ≠ "java/lang/invoke/VarHandle" ∧ (parseMethodDescriptor yX9_ways.desc).map (fun d => d.parameters.length) = some 0 := ⟨by decide +kernel, by decide +kernel, by decide +kernel⟩
theorem wcX9_take : Cond.code yX9_take cX9_take 1 (some .int) ∈ lw_g := z_w (List.mem_append_right _ (List.mem_of_getElem? (i := 694) (by decide +kernel))) rfl
theorem wiX9_take : Cond.instanceMethod yX9_take ∈ lw_g := z_w (List.mem_append_right _ (List.mem_of_getElem? (i := 692) (by decide +kernel))) rfl
theorem wlX9_take : Cond.selects "NotLikeThem" yX9_take yX9_take ∈ lw_g := z_w (List.mem_append_right _ (List.mem_of_getElem? (i := 693) (by decide +kernel))) rfl
theorem wyX9_take : yX9_take.cls ≠ "java/lang/invoke/MethodHandle" ∧ yX9_take.cls ≠ "java/lang/invoke/VarHandle" ∧ (parseMethodDescriptor yX9_take.desc).map (fun d => d.parameters.length) = some 0 := ⟨by decide +kernel, by decide +kernel, by decide +kernel⟩
theorem wcX9_asked : Cond.code yX9_asked cX9_asked 4 (some .int) ∈ lw_g := z_w (List.mem_append_right _ (List.mem_of_getElem? (i := 707) (by decide +kernel))) rfl
theorem wiX9_asked : Cond.instanceMethod yX9_asked ∈ lw_g := z_w (List.mem_append_right _ (List.mem_of_getElem? (i := 705) (by decide +kernel))) rfl
theorem wlX9_asked : Cond.selects "NotLikeThem" yX9_asked yX9_asked ∈ lw_g := z_w (List.mem_append_right _ (List.mem_of_getElem? (i := 706) (by decide +kernel))) rfl
theorem wyX9_asked : yX9_asked.cls ≠ "java/lang/invoke/MethodHandle" ∧ yX9_asked.cls ≠ "java/lang/invoke/VarHandle" ∧ (parseMethodDescriptor yX9_asked.desc).map (fun d => d.parameters.length) = some 3 := ⟨by decide +kernel, by decide +kernel, by decide +kernel⟩
theorem wcX9_gain : Cond.code yX9_gain cX9_gain 6 (some .int) ∈ lw_g := z_w (List.mem_append_right _ (List.mem_of_getElem? (i := 720) (by decide +kernel))) rfl
theorem wiX9_gain : Cond.instanceMethod yX9_gain ∈ lw_g := z_w (List.mem_append_right _ (List.mem_of_getElem? (i := 718) (by decide +kernel))) rfl
theorem wlX9_gain : Cond.selects "NotLikeThem" yX9_gain yX9_gain ∈ lw_g := z_w (List.mem_append_right _ (List.mem_of_getElem? (i := 719) (by decide +kernel))) rfl
theorem wyX9_gain : yX9_gain.cls ≠ "java/lang/invoke/MethodHandle" ∧ yX9_gain.cls ≠ "java/lang/invoke/VarHandle" ∧ (parseMethodDescriptor yX9_gain.desc).map (fun d => d.parameters.length) = some 5 := ⟨by decide +kernel, by decide +kernel, by decide +kernel⟩
theorem wcX9_order : Cond.code yX9_order cX9_order 5 (some .int) ∈ lw_g := z_w (List.mem_append_right _ (List.mem_of_getElem? (i := 737) (by decide +kernel))) rfl
theorem wiX9_order : Cond.instanceMethod yX9_order ∈ lw_g := z_w (List.mem_append_right _ (List.mem_of_getElem? (i := 735) (by decide +kernel))) rfl
theorem wlX9_order : Cond.selects "NotLikeThem" yX9_order yX9_order ∈ lw_g := z_w (List.mem_append_right _ (List.mem_of_getElem? (i := 736) (by decide +kernel))) rfl
theorem wyX9_order : yX9_order.cls ≠ "java/lang/invoke/MethodHandle" ∧ yX9_order.cls ≠ "java/lang/invoke/VarHandle" ∧ (parseMethodDescriptor yX9_order.desc).map (fun d => d.parameters.length) = some 4 := ⟨by decide +kernel, by decide +kernel, by decide +kernel⟩
theorem wcX9_count : Cond.code yX9_count cX9_count 2 (some .int) ∈ lw_g := z_w (List.mem_append_right _ (List.mem_of_getElem? (i := 745) (by decide +kernel))) rfl
theorem wiX9_count : Cond.instanceMethod yX9_count ∈ lw_g := z_w (List.mem_append_right _ (List.mem_of_getElem? (i := 743) (by decide +kernel))) rfl
theorem wlX9_count : Cond.selects "NotLikeThem" yX9_count yX9_count ∈ lw_g := z_w (List.mem_append_right _ (List.mem_of_getElem? (i := 744) (by decide +kernel))) rfl
theorem wyX9_count : yX9_count.cls ≠ "java/lang/invoke/MethodHandle" ∧ yX9_count.cls ≠ "java/lang/invoke/VarHandle" ∧ (parseMethodDescriptor yX9_count.desc).map (fun d => d.parameters.length) = some 1 := ⟨by decide +kernel, by decide +kernel, by decide +kernel⟩
theorem wcX9_within : Cond.code yX9_within cX9_within 3 (some .boolean) ∈ lw_g := z_w (List.mem_append_right _ (List.mem_of_getElem? (i := 264) (by decide +kernel))) rfl
theorem wsX9_within : Cond.static yX9_within ∈ lw_g := z_w (List.mem_append_right _ (List.mem_of_getElem? (i := 263) (by decide +kernel))) rfl
theorem wyX9_within : yX9_within.cls ≠ "java/lang/invoke/MethodHandle" ∧ yX9_within.cls ≠ "java/lang/invoke/VarHandle" ∧ (parseMethodDescriptor yX9_within.desc).map (fun d => d.parameters.length) = some 3 := ⟨by decide +kernel, by decide +kernel, by decide +kernel⟩
theorem wcX9_isWay : Cond.code yX9_isWay cX9_isWay 1 (some .boolean) ∈ lw_g := z_w (List.mem_append_right _ (List.mem_of_getElem? (i := 375) (by decide +kernel))) rfl
theorem wsX9_isWay : Cond.static yX9_isWay ∈ lw_g := z_w (List.mem_append_right _ (List.mem_of_getElem? (i := 374) (by decide +kernel))) rfl
theorem wyX9_isWay : yX9_isWay.cls ≠ "java/lang/invoke/MethodHandle" ∧ yX9_isWay.cls ≠ "java/lang/invoke/VarHandle" ∧ (parseMethodDescriptor yX9_isWay.desc).map (fun d => d.parameters.length) = some 1 := ⟨by decide +kernel, by decide +kernel, by decide +kernel⟩
theorem wcX9_isShopRun : Cond.code yX9_isShopRun cX9_isShopRun 1 (some .boolean) ∈ lw_g := z_w (List.mem_append_right _ (List.mem_of_getElem? (i := 710) (by decide +kernel))) rfl
theorem wsX9_isShopRun : Cond.static yX9_isShopRun ∈ lw_g := z_w (List.mem_append_right _ (List.mem_of_getElem? (i := 709) (by decide +kernel))) rfl
theorem wyX9_isShopRun : yX9_isShopRun.cls ≠ "java/lang/invoke/MethodHandle" ∧ yX9_isShopRun.cls ≠ "java/lang/invoke/VarHandle" ∧ (parseMethodDescriptor yX9_isShopRun.desc).map (fun d => d.parameters.length) = some 1 := ⟨by decide +kernel, by decide +kernel, by decide +kernel⟩
theorem wcX9_isMoney : Cond.code yX9_isMoney cX9_isMoney 1 (some .boolean) ∈ lw_g := z_w (List.mem_append_right _ (List.mem_of_getElem? (i := 723) (by decide +kernel))) rfl
theorem wsX9_isMoney : Cond.static yX9_isMoney ∈ lw_g := z_w (List.mem_append_right _ (List.mem_of_getElem? (i := 722) (by decide +kernel))) rfl
theorem wyX9_isMoney : yX9_isMoney.cls ≠ "java/lang/invoke/MethodHandle" ∧ yX9_isMoney.cls ≠ "java/lang/invoke/VarHandle" ∧ (parseMethodDescriptor yX9_isMoney.desc).map (fun d => d.parameters.length) = some 1 := ⟨by decide +kernel, by decide +kernel, by decide +kernel⟩
theorem wcX10_in : Cond.code yX10_in cX10_in 6 (some .boolean) ∈ lw_g := z_w (List.mem_append_right _ (List.mem_of_getElem? (i := 828) (by decide +kernel))) rfl
theorem wsX10_in : Cond.static yX10_in ∈ lw_g := z_w (List.mem_append_right _ (List.mem_of_getElem? (i := 827) (by decide +kernel))) rfl
theorem wyX10_in : yX10_in.cls ≠ "java/lang/invoke/MethodHandle" ∧ yX10_in.cls ≠ "java/lang/invoke/VarHandle" ∧ (parseMethodDescriptor yX10_in.desc).map (fun d => d.parameters.length) = some 3 := ⟨by decide +kernel, by decide +kernel, by decide +kernel⟩
theorem wcX10_ones : Cond.code yX10_ones cX10_ones 3 (some .int) ∈ lw_g := z_w (List.mem_append_right _ (List.mem_of_getElem? (i := 999) (by decide +kernel))) rfl
theorem wsX10_ones : Cond.static yX10_ones ∈ lw_g := z_w (List.mem_append_right _ (List.mem_of_getElem? (i := 998) (by decide +kernel))) rfl
theorem wyX10_ones : yX10_ones.cls ≠ "java/lang/invoke/MethodHandle" ∧ yX10_ones.cls ≠ "java/lang/invoke/VarHandle" ∧ (parseMethodDescriptor yX10_ones.desc).map (fun d => d.parameters.length) = some 1 := ⟨by decide +kernel, by decide +kernel, by decide +kernel⟩
theorem wcX10_isPerson : Cond.code yX10_isPerson cX10_isPerson 2 (some .boolean) ∈ lw_g := z_w (List.mem_append_right _ (List.mem_of_getElem? (i := 836) (by decide +kernel))) rfl
theorem wiX10_isPerson : Cond.instanceMethod yX10_isPerson ∈ lw_g := z_w (List.mem_append_right _ (List.mem_of_getElem? (i := 835) (by decide +kernel))) rfl
theorem wlX10_isPerson : Cond.selects "NotLikeThemModel" yX10_isPerson yX10_isPerson ∈ lw_g := z_w (List.mem_append_left _ (List.mem_of_getElem? (i := 19) (by decide +kernel))) rfl
theorem wyX10_isPerson : yX10_isPerson.cls ≠ "java/lang/invoke/MethodHandle" ∧ yX10_isPerson.cls ≠ "java/lang/invoke/VarHandle" ∧ (parseMethodDescriptor yX10_isPerson.desc).map (fun d => d.parameters.length) = some 1 := ⟨by decide +kernel, by decide +kernel, by decide +kernel⟩
theorem wcX10_isDress : Cond.code yX10_isDress cX10_isDress 2 (some .boolean) ∈ lw_g := z_w (List.mem_append_right _ (List.mem_of_getElem? (i := 859) (by decide +kernel))) rfl
theorem wiX10_isDress : Cond.instanceMethod yX10_isDress ∈ lw_g := z_w (List.mem_append_right _ (List.mem_of_getElem? (i := 858) (by decide +kernel))) rfl
theorem wlX10_isDress : Cond.selects "NotLikeThemModel" yX10_isDress yX10_isDress ∈ lw_g := z_w (List.mem_append_left _ (List.mem_of_getElem? (i := 20) (by decide +kernel))) rfl
theorem wyX10_isDress : yX10_isDress.cls ≠ "java/lang/invoke/MethodHandle" ∧ yX10_isDress.cls ≠ "java/lang/invoke/VarHandle" ∧ (parseMethodDescriptor yX10_isDress.desc).map (fun d => d.parameters.length) = some 1 := ⟨by decide +kernel, by decide +kernel, by decide +kernel⟩
theorem wcX10_isWay : Cond.code yX10_isWay cX10_isWay 1 (some .boolean) ∈ lw_g := z_w (List.mem_append_right _ (List.mem_of_getElem? (i := 882) (by decide +kernel))) rfl
theorem wsX10_isWay : Cond.static yX10_isWay ∈ lw_g := z_w (List.mem_append_right _ (List.mem_of_getElem? (i := 881) (by decide +kernel))) rfl
theorem wyX10_isWay : yX10_isWay.cls ≠ "java/lang/invoke/MethodHandle" ∧ yX10_isWay.cls ≠ "java/lang/invoke/VarHandle" ∧ (parseMethodDescriptor yX10_isWay.desc).map (fun d => d.parameters.length) = some 1 := ⟨by decide +kernel, by decide +kernel, by decide +kernel⟩
theorem wcX10_people : Cond.code yX10_people cX10_people 4 (some .int) ∈ lw_g := z_w (List.mem_append_right _ (List.mem_of_getElem? (i := 824) (by decide +kernel))) rfl
theorem wiX10_people : Cond.instanceMethod yX10_people ∈ lw_g := z_w (List.mem_append_right _ (List.mem_of_getElem? (i := 822) (by decide +kernel))) rfl
theorem wlX10_people : Cond.selects "NotLikeThemModel" yX10_people yX10_people ∈ lw_g := z_w (List.mem_append_right _ (List.mem_of_getElem? (i := 823) (by decide +kernel))) rfl
theorem wyX10_people : yX10_people.cls ≠ "java/lang/invoke/MethodHandle" ∧ yX10_people.cls ≠ "java/lang/invoke/VarHandle" ∧ (parseMethodDescriptor yX10_people.desc).map (fun d => d.parameters.length) = some 1 := ⟨by decide +kernel, by decide +kernel, by decide +kernel⟩
theorem wcX10_tie : Cond.code yX10_tie cX10_tie 5 (some .int) ∈ lw_g := z_w (List.mem_append_right _ (List.mem_of_getElem? (i := 832) (by decide +kernel))) rfl
theorem wiX10_tie : Cond.instanceMethod yX10_tie ∈ lw_g := z_w (List.mem_append_right _ (List.mem_of_getElem? (i := 830) (by decide +kernel))) rfl
theorem wlX10_tie : Cond.selects "NotLikeThemModel" yX10_tie yX10_tie ∈ lw_g := z_w (List.mem_append_right _ (List.mem_of_getElem? (i := 831) (by decide +kernel))) rfl
theorem wyX10_tie : yX10_tie.cls ≠ "java/lang/invoke/MethodHandle" ∧ yX10_tie.cls ≠ "java/lang/invoke/VarHandle" ∧ (parseMethodDescriptor yX10_tie.desc).map (fun d => d.parameters.length) = some 3 := ⟨by decide +kernel, by decide +kernel, by decide +kernel⟩
theorem wcX10_set : Cond.code yX10_set cX10_set 5 (some .int) ∈ lw_g := z_w (List.mem_append_right _ (List.mem_of_getElem? (i := 841) (by decide +kernel))) rfl
theorem wiX10_set : Cond.instanceMethod yX10_set ∈ lw_g := z_w (List.mem_append_right _ (List.mem_of_getElem? (i := 839) (by decide +kernel))) rfl
theorem wlX10_set : Cond.selects "NotLikeThemModel" yX10_set yX10_set ∈ lw_g := z_w (List.mem_append_right _ (List.mem_of_getElem? (i := 840) (by decide +kernel))) rfl
theorem wyX10_set : yX10_set.cls ≠ "java/lang/invoke/MethodHandle" ∧ yX10_set.cls ≠ "java/lang/invoke/VarHandle" ∧ (parseMethodDescriptor yX10_set.desc).map (fun d => d.parameters.length) = some 3 := ⟨by decide +kernel, by decide +kernel, by decide +kernel⟩
theorem wcX10_about : Cond.code yX10_about cX10_about 6 (some .int) ∈ lw_g := z_w (List.mem_append_right _ (List.mem_of_getElem? (i := 847) (by decide +kernel))) rfl
theorem wiX10_about : Cond.instanceMethod yX10_about ∈ lw_g := z_w (List.mem_append_right _ (List.mem_of_getElem? (i := 845) (by decide +kernel))) rfl
theorem wlX10_about : Cond.selects "NotLikeThemModel" yX10_about yX10_about ∈ lw_g := z_w (List.mem_append_right _ (List.mem_of_getElem? (i := 846) (by decide +kernel))) rfl
theorem wyX10_about : yX10_about.cls ≠ "java/lang/invoke/MethodHandle" ∧ yX10_about.cls ≠ "java/lang/invoke/VarHandle" ∧ (parseMethodDescriptor yX10_about.desc).map (fun d => d.parameters.length) = some 2 := ⟨by decide +kernel, by decide +kernel, by decide +kernel⟩
theorem wcX10_sees : Cond.code yX10_sees cX10_sees 3 (some .int) ∈ lw_g := z_w (List.mem_append_right _ (List.mem_of_getElem? (i := 851) (by decide +kernel))) rfl
theorem wiX10_sees : Cond.instanceMethod yX10_sees ∈ lw_g := z_w (List.mem_append_right _ (List.mem_of_getElem? (i := 849) (by decide +kernel))) rfl
theorem wlX10_sees : Cond.selects "NotLikeThemModel" yX10_sees yX10_sees ∈ lw_g := z_w (List.mem_append_right _ (List.mem_of_getElem? (i := 850) (by decide +kernel))) rfl
theorem wyX10_sees : yX10_sees.cls ≠ "java/lang/invoke/MethodHandle" ∧ yX10_sees.cls ≠ "java/lang/invoke/VarHandle" ∧ (parseMethodDescriptor yX10_sees.desc).map (fun d => d.parameters.length) = some 2 := ⟨by decide +kernel, by decide +kernel, by decide +kernel⟩
theorem wcX10_sumOf : Cond.code yX10_sumOf cX10_sumOf 5 (some .int) ∈ lw_g := z_w (List.mem_append_right _ (List.mem_of_getElem? (i := 863) (by decide +kernel))) rfl
theorem wiX10_sumOf : Cond.instanceMethod yX10_sumOf ∈ lw_g := z_w (List.mem_append_right _ (List.mem_of_getElem? (i := 862) (by decide +kernel))) rfl
theorem wlX10_sumOf : Cond.selects "NotLikeThemModel" yX10_sumOf yX10_sumOf ∈ lw_g := z_w (List.mem_append_left _ (List.mem_of_getElem? (i := 21) (by decide +kernel))) rfl
theorem wyX10_sumOf : yX10_sumOf.cls ≠ "java/lang/invoke/MethodHandle" ∧ yX10_sumOf.cls ≠ "java/lang/invoke/VarHandle" ∧ (parseMethodDescriptor yX10_sumOf.desc).map (fun d => d.parameters.length) = some 2 := ⟨by decide +kernel, by decide +kernel, by decide +kernel⟩
theorem wcX10_nextOf : Cond.code yX10_nextOf cX10_nextOf 6 (some .int) ∈ lw_g := z_w (List.mem_append_right _ (List.mem_of_getElem? (i := 875) (by decide +kernel))) rfl
theorem wiX10_nextOf : Cond.instanceMethod yX10_nextOf ∈ lw_g := z_w (List.mem_append_right _ (List.mem_of_getElem? (i := 874) (by decide +kernel))) rfl
theorem wlX10_nextOf : Cond.selects "NotLikeThemModel" yX10_nextOf yX10_nextOf ∈ lw_g := z_w (List.mem_append_left _ (List.mem_of_getElem? (i := 23) (by decide +kernel))) rfl
theorem wyX10_nextOf : yX10_nextOf.cls ≠ "java/lang/invoke/MethodHandle" ∧ yX10_nextOf.cls ≠ "java/lang/invoke/VarHandle" ∧ (parseMethodDescriptor yX10_nextOf.desc).map (fun d => d.parameters.length) = some 3 := ⟨by decide +kernel, by decide +kernel, by decide +kernel⟩
theorem wcX10_with : Cond.code yX10_with cX10_with 4 (some .int) ∈ lw_g := z_w (List.mem_append_right _ (List.mem_of_getElem? (i := 891) (by decide +kernel))) rfl
theorem wiX10_with : Cond.instanceMethod yX10_with ∈ lw_g := z_w (List.mem_append_right _ (List.mem_of_getElem? (i := 890) (by decide +kernel))) rfl
theorem wlX10_with : Cond.selects "NotLikeThemModel" yX10_with yX10_with ∈ lw_g := z_w (List.mem_append_left _ (List.mem_of_getElem? (i := 25) (by decide +kernel))) rfl
theorem wyX10_with : yX10_with.cls ≠ "java/lang/invoke/MethodHandle" ∧ yX10_with.cls ≠ "java/lang/invoke/VarHandle" ∧ (parseMethodDescriptor yX10_with.desc).map (fun d => d.parameters.length) = some 3 := ⟨by decide +kernel, by decide +kernel, by decide +kernel⟩
theorem wcX10_calmOf : Cond.code yX10_calmOf cX10_calmOf 4 (some .int) ∈ lw_g := z_w (List.mem_append_right _ (List.mem_of_getElem? (i := 871) (by decide +kernel))) rfl
theorem wiX10_calmOf : Cond.instanceMethod yX10_calmOf ∈ lw_g := z_w (List.mem_append_right _ (List.mem_of_getElem? (i := 870) (by decide +kernel))) rfl
theorem wlX10_calmOf : Cond.selects "NotLikeThemModel" yX10_calmOf yX10_calmOf ∈ lw_g := z_w (List.mem_append_left _ (List.mem_of_getElem? (i := 22) (by decide +kernel))) rfl
theorem wyX10_calmOf : yX10_calmOf.cls ≠ "java/lang/invoke/MethodHandle" ∧ yX10_calmOf.cls ≠ "java/lang/invoke/VarHandle" ∧ (parseMethodDescriptor yX10_calmOf.desc).map (fun d => d.parameters.length) = some 1 := ⟨by decide +kernel, by decide +kernel, by decide +kernel⟩
theorem wcX10_all : Cond.code yX10_all cX10_all 1 (some .int) ∈ lw_g := z_w (List.mem_append_right _ (List.mem_of_getElem? (i := 904) (by decide +kernel))) rfl
theorem wiX10_all : Cond.instanceMethod yX10_all ∈ lw_g := z_w (List.mem_append_right _ (List.mem_of_getElem? (i := 903) (by decide +kernel))) rfl
theorem wlX10_all : Cond.selects "NotLikeThemModel" yX10_all yX10_all ∈ lw_g := z_w (List.mem_append_left _ (List.mem_of_getElem? (i := 27) (by decide +kernel))) rfl
theorem wyX10_all : yX10_all.cls ≠ "java/lang/invoke/MethodHandle" ∧ yX10_all.cls ≠ "java/lang/invoke/VarHandle" ∧ (parseMethodDescriptor yX10_all.desc).map (fun d => d.parameters.length) = some 0 := ⟨by decide +kernel, by decide +kernel, by decide +kernel⟩
theorem wcX10_stepFrom : Cond.code yX10_stepFrom cX10_stepFrom 5 (some .int) ∈ lw_g := z_w (List.mem_append_right _ (List.mem_of_getElem? (i := 887) (by decide +kernel))) rfl
theorem wiX10_stepFrom : Cond.instanceMethod yX10_stepFrom ∈ lw_g := z_w (List.mem_append_right _ (List.mem_of_getElem? (i := 886) (by decide +kernel))) rfl
theorem wlX10_stepFrom : Cond.selects "NotLikeThemModel" yX10_stepFrom yX10_stepFrom ∈ lw_g := z_w (List.mem_append_left _ (List.mem_of_getElem? (i := 24) (by decide +kernel))) rfl
theorem wyX10_stepFrom : yX10_stepFrom.cls ≠ "java/lang/invoke/MethodHandle" ∧ yX10_stepFrom.cls ≠ "java/lang/invoke/VarHandle" ∧ (parseMethodDescriptor yX10_stepFrom.desc).map (fun d => d.parameters.length) = some 2 := ⟨by decide +kernel, by decide +kernel, by decide +kernel⟩
theorem wcX10_sum : Cond.code yX10_sum cX10_sum 3 (some .int) ∈ lw_g := z_w (List.mem_append_right _ (List.mem_of_getElem? (i := 855) (by decide +kernel))) rfl
theorem wiX10_sum : Cond.instanceMethod yX10_sum ∈ lw_g := z_w (List.mem_append_right _ (List.mem_of_getElem? (i := 853) (by decide +kernel))) rfl
theorem wlX10_sum : Cond.selects "NotLikeThemModel" yX10_sum yX10_sum ∈ lw_g := z_w (List.mem_append_right _ (List.mem_of_getElem? (i := 854) (by decide +kernel))) rfl
theorem wyX10_sum : yX10_sum.cls ≠ "java/lang/invoke/MethodHandle" ∧ yX10_sum.cls ≠ "java/lang/invoke/VarHandle" ∧ (parseMethodDescriptor yX10_sum.desc).map (fun d => d.parameters.length) = some 2 := ⟨by decide +kernel, by decide +kernel, by decide +kernel⟩
theorem wcX10_calm : Cond.code yX10_calm cX10_calm 2 (some .int) ∈ lw_g := z_w (List.mem_append_right _ (List.mem_of_getElem? (i := 867) (by decide +kernel))) rfl
theorem wiX10_calm : Cond.instanceMethod yX10_calm ∈ lw_g := z_w (List.mem_append_right _ (List.mem_of_getElem? (i := 865) (by decide +kernel))) rfl
theorem wlX10_calm : Cond.selects "NotLikeThemModel" yX10_calm yX10_calm ∈ lw_g := z_w (List.mem_append_right _ (List.mem_of_getElem? (i := 866) (by decide +kernel))) rfl
theorem wyX10_calm : yX10_calm.cls ≠ "java/lang/invoke/MethodHandle" ∧ yX10_calm.cls ≠ "java/lang/invoke/VarHandle" ∧ (parseMethodDescriptor yX10_calm.desc).map (fun d => d.parameters.length) = some 1 := ⟨by decide +kernel, by decide +kernel, by decide +kernel⟩
theorem wcX10_after : Cond.code yX10_after cX10_after 6 (some .int) ∈ lw_g := z_w (List.mem_append_right _ (List.mem_of_getElem? (i := 879) (by decide +kernel))) rfl
theorem wiX10_after : Cond.instanceMethod yX10_after ∈ lw_g := z_w (List.mem_append_right _ (List.mem_of_getElem? (i := 877) (by decide +kernel))) rfl
theorem wlX10_after : Cond.selects "NotLikeThemModel" yX10_after yX10_after ∈ lw_g := z_w (List.mem_append_right _ (List.mem_of_getElem? (i := 878) (by decide +kernel))) rfl
theorem wyX10_after : yX10_after.cls ≠ "java/lang/invoke/MethodHandle" ∧ yX10_after.cls ≠ "java/lang/invoke/VarHandle" ∧ (parseMethodDescriptor yX10_after.desc).map (fun d => d.parameters.length) = some 3 := ⟨by decide +kernel, by decide +kernel, by decide +kernel⟩
theorem wcX10_layLeads : Cond.code yX10_layLeads cX10_layLeads 3 none ∈ lw_g := z_w (List.mem_append_right _ (List.mem_of_getElem? (i := 900) (by decide +kernel))) rfl
theorem wiX10_layLeads : Cond.instanceMethod yX10_layLeads ∈ lw_g := z_w (List.mem_append_right _ (List.mem_of_getElem? (i := 899) (by decide +kernel))) rfl
theorem wlX10_layLeads : Cond.selects "NotLikeThemModel" yX10_layLeads yX10_layLeads ∈ lw_g := z_w (List.mem_append_left _ (List.mem_of_getElem? (i := 26) (by decide +kernel))) rfl
theorem wyX10_layLeads : yX10_layLeads.cls ≠ "java/lang/invoke/MethodHandle" ∧ yX10_layLeads.cls ≠ "java/lang/invoke/VarHandle" ∧ (parseMethodDescriptor yX10_layLeads.desc).map (fun d => d.parameters.length) = some 1 := ⟨by decide +kernel, by decide +kernel, by decide +kernel⟩
theorem wcX10_layRun : Cond.code yX10_layRun cX10_layRun 4 none ∈ lw_g := z_w (List.mem_append_right _ (List.mem_of_getElem? (i := 908) (by decide +kernel))) rfl
theorem wiX10_layRun : Cond.instanceMethod yX10_layRun ∈ lw_g := z_w (List.mem_append_right _ (List.mem_of_getElem? (i := 907) (by decide +kernel))) rfl
theorem wlX10_layRun : Cond.selects "NotLikeThemModel" yX10_layRun yX10_layRun ∈ lw_g := z_w (List.mem_append_left _ (List.mem_of_getElem? (i := 28) (by decide +kernel))) rfl
theorem wyX10_layRun : yX10_layRun.cls ≠ "java/lang/invoke/MethodHandle" ∧ yX10_layRun.cls ≠ "java/lang/invoke/VarHandle" ∧ (parseMethodDescriptor yX10_layRun.desc).map (fun d => d.parameters.length) = some 1 := ⟨by decide +kernel, by decide +kernel, by decide +kernel⟩
theorem wcX10_run : Cond.code yX10_run cX10_run 4 (some .int) ∈ lw_g := z_w (List.mem_append_right _ (List.mem_of_getElem? (i := 895) (by decide +kernel))) rfl
theorem wiX10_run : Cond.instanceMethod yX10_run ∈ lw_g := z_w (List.mem_append_right _ (List.mem_of_getElem? (i := 893) (by decide +kernel))) rfl
theorem wlX10_run : Cond.selects "NotLikeThemModel" yX10_run yX10_run ∈ lw_g := z_w (List.mem_append_right _ (List.mem_of_getElem? (i := 894) (by decide +kernel))) rfl
theorem wyX10_run : yX10_run.cls ≠ "java/lang/invoke/MethodHandle" ∧ yX10_run.cls ≠ "java/lang/invoke/VarHandle" ∧ (parseMethodDescriptor yX10_run.desc).map (fun d => d.parameters.length) = some 3 := ⟨by decide +kernel, by decide +kernel, by decide +kernel⟩
theorem wcX10_leastOfRing : Cond.code yX10_leastOfRing cX10_leastOfRing 3 (some .int) ∈ lw_g := z_w (List.mem_append_right _ (List.mem_of_getElem? (i := 920) (by decide +kernel))) rfl
theorem wiX10_leastOfRing : Cond.instanceMethod yX10_leastOfRing ∈ lw_g := z_w (List.mem_append_right _ (List.mem_of_getElem? (i := 919) (by decide +kernel))) rfl
theorem wlX10_leastOfRing : Cond.selects "NotLikeThemModel" yX10_leastOfRing yX10_leastOfRing ∈ lw_g := z_w (List.mem_append_left _ (List.mem_of_getElem? (i := 30) (by decide +kernel))) rfl
theorem wyX10_leastOfRing : yX10_leastOfRing.cls ≠ "java/lang/invoke/MethodHandle" ∧ yX10_leastOfRing.cls ≠ "java/lang/invoke/VarHandle" ∧ (parseMethodDescriptor yX10_leastOfRing.desc).map (fun d => d.parameters.length) = some 0 := ⟨by decide +kernel, by decide +kernel, by decide +kernel⟩
theorem wcX10_layRings : Cond.code yX10_layRings cX10_layRings 4 none ∈ lw_g := z_w (List.mem_append_right _ (List.mem_of_getElem? (i := 916) (by decide +kernel))) rfl
theorem wiX10_layRings : Cond.instanceMethod yX10_layRings ∈ lw_g := z_w (List.mem_append_right _ (List.mem_of_getElem? (i := 915) (by decide +kernel))) rfl
theorem wlX10_layRings : Cond.selects "NotLikeThemModel" yX10_layRings yX10_layRings ∈ lw_g := z_w (List.mem_append_left _ (List.mem_of_getElem? (i := 29) (by decide +kernel))) rfl
theorem wyX10_layRings : yX10_layRings.cls ≠ "java/lang/invoke/MethodHandle" ∧ yX10_layRings.cls ≠ "java/lang/invoke/VarHandle" ∧ (parseMethodDescriptor yX10_layRings.desc).map (fun d => d.parameters.length) = some 1 := ⟨by decide +kernel, by decide +kernel, by decide +kernel⟩
theorem wcX10_rings : Cond.code yX10_rings cX10_rings 4 (some .int) ∈ lw_g := z_w (List.mem_append_right _ (List.mem_of_getElem? (i := 912) (by decide +kernel))) rfl
theorem wiX10_rings : Cond.instanceMethod yX10_rings ∈ lw_g := z_w (List.mem_append_right _ (List.mem_of_getElem? (i := 910) (by decide +kernel))) rfl
theorem wlX10_rings : Cond.selects "NotLikeThemModel" yX10_rings yX10_rings ∈ lw_g := z_w (List.mem_append_right _ (List.mem_of_getElem? (i := 911) (by decide +kernel))) rfl
theorem wyX10_rings : yX10_rings.cls ≠ "java/lang/invoke/MethodHandle" ∧ yX10_rings.cls ≠ "java/lang/invoke/VarHandle" ∧ (parseMethodDescriptor yX10_rings.desc).map (fun d => d.parameters.length) = some 1 := ⟨by decide +kernel, by decide +kernel, by decide +kernel⟩
theorem wcX10_ring : Cond.code yX10_ring cX10_ring 6 (some .int) ∈ lw_g := z_w (List.mem_append_right _ (List.mem_of_getElem? (i := 924) (by decide +kernel))) rfl
theorem wiX10_ring : Cond.instanceMethod yX10_ring ∈ lw_g := z_w (List.mem_append_right _ (List.mem_of_getElem? (i := 922) (by decide +kernel))) rfl
theorem wlX10_ring : Cond.selects "NotLikeThemModel" yX10_ring yX10_ring ∈ lw_g := z_w (List.mem_append_right _ (List.mem_of_getElem? (i := 923) (by decide +kernel))) rfl
theorem wyX10_ring : yX10_ring.cls ≠ "java/lang/invoke/MethodHandle" ∧ yX10_ring.cls ≠ "java/lang/invoke/VarHandle" ∧ (parseMethodDescriptor yX10_ring.desc).map (fun d => d.parameters.length) = some 3 := ⟨by decide +kernel, by decide +kernel, by decide +kernel⟩
theorem wcX10_longest : Cond.code yX10_longest cX10_longest 4 (some .int) ∈ lw_g := z_w (List.mem_append_right _ (List.mem_of_getElem? (i := 928) (by decide +kernel))) rfl
theorem wiX10_longest : Cond.instanceMethod yX10_longest ∈ lw_g := z_w (List.mem_append_right _ (List.mem_of_getElem? (i := 926) (by decide +kernel))) rfl
theorem wlX10_longest : Cond.selects "NotLikeThemModel" yX10_longest yX10_longest ∈ lw_g := z_w (List.mem_append_right _ (List.mem_of_getElem? (i := 927) (by decide +kernel))) rfl
theorem wyX10_longest : yX10_longest.cls ≠ "java/lang/invoke/MethodHandle" ∧ yX10_longest.cls ≠ "java/lang/invoke/VarHandle" ∧ (parseMethodDescriptor yX10_longest.desc).map (fun d => d.parameters.length) = some 1 := ⟨by decide +kernel, by decide +kernel, by decide +kernel⟩
theorem wcX10_isRest : Cond.code yX10_isRest cX10_isRest 2 (some .boolean) ∈ lw_g := z_w (List.mem_append_right _ (List.mem_of_getElem? (i := 936) (by decide +kernel))) rfl
theorem wiX10_isRest : Cond.instanceMethod yX10_isRest ∈ lw_g := z_w (List.mem_append_right _ (List.mem_of_getElem? (i := 935) (by decide +kernel))) rfl
theorem wlX10_isRest : Cond.selects "NotLikeThemModel" yX10_isRest yX10_isRest ∈ lw_g := z_w (List.mem_append_left _ (List.mem_of_getElem? (i := 31) (by decide +kernel))) rfl
theorem wyX10_isRest : yX10_isRest.cls ≠ "java/lang/invoke/MethodHandle" ∧ yX10_isRest.cls ≠ "java/lang/invoke/VarHandle" ∧ (parseMethodDescriptor yX10_isRest.desc).map (fun d => d.parameters.length) = some 1 := ⟨by decide +kernel, by decide +kernel, by decide +kernel⟩
theorem wcX10_rests : Cond.code yX10_rests cX10_rests 3 (some .int) ∈ lw_g := z_w (List.mem_append_right _ (List.mem_of_getElem? (i := 932) (by decide +kernel))) rfl
theorem wiX10_rests : Cond.instanceMethod yX10_rests ∈ lw_g := z_w (List.mem_append_right _ (List.mem_of_getElem? (i := 930) (by decide +kernel))) rfl
theorem wlX10_rests : Cond.selects "NotLikeThemModel" yX10_rests yX10_rests ∈ lw_g := z_w (List.mem_append_right _ (List.mem_of_getElem? (i := 931) (by decide +kernel))) rfl
theorem wyX10_rests : yX10_rests.cls ≠ "java/lang/invoke/MethodHandle" ∧ yX10_rests.cls ≠ "java/lang/invoke/VarHandle" ∧ (parseMethodDescriptor yX10_rests.desc).map (fun d => d.parameters.length) = some 0 := ⟨by decide +kernel, by decide +kernel, by decide +kernel⟩
theorem wcX10_restOf : Cond.code yX10_restOf cX10_restOf 4 (some .int) ∈ lw_g := z_w (List.mem_append_right _ (List.mem_of_getElem? (i := 944) (by decide +kernel))) rfl
theorem wiX10_restOf : Cond.instanceMethod yX10_restOf ∈ lw_g := z_w (List.mem_append_right _ (List.mem_of_getElem? (i := 943) (by decide +kernel))) rfl
theorem wlX10_restOf : Cond.selects "NotLikeThemModel" yX10_restOf yX10_restOf ∈ lw_g := z_w (List.mem_append_left _ (List.mem_of_getElem? (i := 32) (by decide +kernel))) rfl
theorem wyX10_restOf : yX10_restOf.cls ≠ "java/lang/invoke/MethodHandle" ∧ yX10_restOf.cls ≠ "java/lang/invoke/VarHandle" ∧ (parseMethodDescriptor yX10_restOf.desc).map (fun d => d.parameters.length) = some 1 := ⟨by decide +kernel, by decide +kernel, by decide +kernel⟩
theorem wcX10_rest : Cond.code yX10_rest cX10_rest 2 (some .int) ∈ lw_g := z_w (List.mem_append_right _ (List.mem_of_getElem? (i := 940) (by decide +kernel))) rfl
theorem wiX10_rest : Cond.instanceMethod yX10_rest ∈ lw_g := z_w (List.mem_append_right _ (List.mem_of_getElem? (i := 938) (by decide +kernel))) rfl
theorem wlX10_rest : Cond.selects "NotLikeThemModel" yX10_rest yX10_rest ∈ lw_g := z_w (List.mem_append_right _ (List.mem_of_getElem? (i := 939) (by decide +kernel))) rfl
theorem wyX10_rest : yX10_rest.cls ≠ "java/lang/invoke/MethodHandle" ∧ yX10_rest.cls ≠ "java/lang/invoke/VarHandle" ∧ (parseMethodDescriptor yX10_rest.desc).map (fun d => d.parameters.length) = some 1 := ⟨by decide +kernel, by decide +kernel, by decide +kernel⟩
theorem wcX10_isEven : Cond.code yX10_isEven cX10_isEven 5 (some .boolean) ∈ lw_g := z_w (List.mem_append_right _ (List.mem_of_getElem? (i := 952) (by decide +kernel))) rfl
theorem wiX10_isEven : Cond.instanceMethod yX10_isEven ∈ lw_g := z_w (List.mem_append_right _ (List.mem_of_getElem? (i := 951) (by decide +kernel))) rfl
theorem wlX10_isEven : Cond.selects "NotLikeThemModel" yX10_isEven yX10_isEven ∈ lw_g := z_w (List.mem_append_left _ (List.mem_of_getElem? (i := 33) (by decide +kernel))) rfl
theorem wyX10_isEven : yX10_isEven.cls ≠ "java/lang/invoke/MethodHandle" ∧ yX10_isEven.cls ≠ "java/lang/invoke/VarHandle" ∧ (parseMethodDescriptor yX10_isEven.desc).map (fun d => d.parameters.length) = some 0 := ⟨by decide +kernel, by decide +kernel, by decide +kernel⟩
theorem wcX10_even : Cond.code yX10_even cX10_even 1 (some .int) ∈ lw_g := z_w (List.mem_append_right _ (List.mem_of_getElem? (i := 948) (by decide +kernel))) rfl
theorem wiX10_even : Cond.instanceMethod yX10_even ∈ lw_g := z_w (List.mem_append_right _ (List.mem_of_getElem? (i := 946) (by decide +kernel))) rfl
theorem wlX10_even : Cond.selects "NotLikeThemModel" yX10_even yX10_even ∈ lw_g := z_w (List.mem_append_right _ (List.mem_of_getElem? (i := 947) (by decide +kernel))) rfl
theorem wyX10_even : yX10_even.cls ≠ "java/lang/invoke/MethodHandle" ∧ yX10_even.cls ≠ "java/lang/invoke/VarHandle" ∧ (parseMethodDescriptor yX10_even.desc).map (fun d => d.parameters.length) = some 0 := ⟨by decide +kernel, by decide +kernel, by decide +kernel⟩
theorem wcX10_heat : Cond.code yX10_heat cX10_heat 9 (some .int) ∈ lw_g := z_w (List.mem_append_right _ (List.mem_of_getElem? (i := 956) (by decide +kernel))) rfl
theorem wiX10_heat : Cond.instanceMethod yX10_heat ∈ lw_g := z_w (List.mem_append_right _ (List.mem_of_getElem? (i := 954) (by decide +kernel))) rfl
theorem wlX10_heat : Cond.selects "NotLikeThemModel" yX10_heat yX10_heat ∈ lw_g := z_w (List.mem_append_right _ (List.mem_of_getElem? (i := 955) (by decide +kernel))) rfl
theorem wyX10_heat : yX10_heat.cls ≠ "java/lang/invoke/MethodHandle" ∧ yX10_heat.cls ≠ "java/lang/invoke/VarHandle" ∧ (parseMethodDescriptor yX10_heat.desc).map (fun d => d.parameters.length) = some 1 := ⟨by decide +kernel, by decide +kernel, by decide +kernel⟩
theorem wcX10_loneOf : Cond.code yX10_loneOf cX10_loneOf 3 (some .int) ∈ lw_g := z_w (List.mem_append_right _ (List.mem_of_getElem? (i := 964) (by decide +kernel))) rfl
theorem wiX10_loneOf : Cond.instanceMethod yX10_loneOf ∈ lw_g := z_w (List.mem_append_right _ (List.mem_of_getElem? (i := 963) (by decide +kernel))) rfl
theorem wlX10_loneOf : Cond.selects "NotLikeThemModel" yX10_loneOf yX10_loneOf ∈ lw_g := z_w (List.mem_append_left _ (List.mem_of_getElem? (i := 34) (by decide +kernel))) rfl
theorem wyX10_loneOf : yX10_loneOf.cls ≠ "java/lang/invoke/MethodHandle" ∧ yX10_loneOf.cls ≠ "java/lang/invoke/VarHandle" ∧ (parseMethodDescriptor yX10_loneOf.desc).map (fun d => d.parameters.length) = some 2 := ⟨by decide +kernel, by decide +kernel, by decide +kernel⟩
theorem wcX10_lone : Cond.code yX10_lone cX10_lone 3 (some .int) ∈ lw_g := z_w (List.mem_append_right _ (List.mem_of_getElem? (i := 960) (by decide +kernel))) rfl
theorem wiX10_lone : Cond.instanceMethod yX10_lone ∈ lw_g := z_w (List.mem_append_right _ (List.mem_of_getElem? (i := 958) (by decide +kernel))) rfl
theorem wlX10_lone : Cond.selects "NotLikeThemModel" yX10_lone yX10_lone ∈ lw_g := z_w (List.mem_append_right _ (List.mem_of_getElem? (i := 959) (by decide +kernel))) rfl
theorem wyX10_lone : yX10_lone.cls ≠ "java/lang/invoke/MethodHandle" ∧ yX10_lone.cls ≠ "java/lang/invoke/VarHandle" ∧ (parseMethodDescriptor yX10_lone.desc).map (fun d => d.parameters.length) = some 2 := ⟨by decide +kernel, by decide +kernel, by decide +kernel⟩
theorem wcX10_layCalms : Cond.code yX10_layCalms cX10_layCalms 2 none ∈ lw_g := z_w (List.mem_append_right _ (List.mem_of_getElem? (i := 976) (by decide +kernel))) rfl
theorem wiX10_layCalms : Cond.instanceMethod yX10_layCalms ∈ lw_g := z_w (List.mem_append_right _ (List.mem_of_getElem? (i := 975) (by decide +kernel))) rfl
theorem wlX10_layCalms : Cond.selects "NotLikeThemModel" yX10_layCalms yX10_layCalms ∈ lw_g := z_w (List.mem_append_left _ (List.mem_of_getElem? (i := 36) (by decide +kernel))) rfl
theorem wyX10_layCalms : yX10_layCalms.cls ≠ "java/lang/invoke/MethodHandle" ∧ yX10_layCalms.cls ≠ "java/lang/invoke/VarHandle" ∧ (parseMethodDescriptor yX10_layCalms.desc).map (fun d => d.parameters.length) = some 0 := ⟨by decide +kernel, by decide +kernel, by decide +kernel⟩
theorem wcX10_layFar : Cond.code yX10_layFar cX10_layFar 6 none ∈ lw_g := z_w (List.mem_append_right _ (List.mem_of_getElem? (i := 984) (by decide +kernel))) rfl
theorem wiX10_layFar : Cond.instanceMethod yX10_layFar ∈ lw_g := z_w (List.mem_append_right _ (List.mem_of_getElem? (i := 983) (by decide +kernel))) rfl
theorem wlX10_layFar : Cond.selects "NotLikeThemModel" yX10_layFar yX10_layFar ∈ lw_g := z_w (List.mem_append_left _ (List.mem_of_getElem? (i := 38) (by decide +kernel))) rfl
theorem wyX10_layFar : yX10_layFar.cls ≠ "java/lang/invoke/MethodHandle" ∧ yX10_layFar.cls ≠ "java/lang/invoke/VarHandle" ∧ (parseMethodDescriptor yX10_layFar.desc).map (fun d => d.parameters.length) = some 1 := ⟨by decide +kernel, by decide +kernel, by decide +kernel⟩
theorem wcX10_comesBack : Cond.code yX10_comesBack cX10_comesBack 5 (some .boolean) ∈ lw_g := z_w (List.mem_append_right _ (List.mem_of_getElem? (i := 980) (by decide +kernel))) rfl
theorem wiX10_comesBack : Cond.instanceMethod yX10_comesBack ∈ lw_g := z_w (List.mem_append_right _ (List.mem_of_getElem? (i := 979) (by decide +kernel))) rfl
theorem wlX10_comesBack : Cond.selects "NotLikeThemModel" yX10_comesBack yX10_comesBack ∈ lw_g := z_w (List.mem_append_left _ (List.mem_of_getElem? (i := 37) (by decide +kernel))) rfl
theorem wyX10_comesBack : yX10_comesBack.cls ≠ "java/lang/invoke/MethodHandle" ∧ yX10_comesBack.cls ≠ "java/lang/invoke/VarHandle" ∧ (parseMethodDescriptor yX10_comesBack.desc).map (fun d => d.parameters.length) = some 1 := ⟨by decide +kernel, by decide +kernel, by decide +kernel⟩
theorem wcX10_witnessNow : Cond.code yX10_witnessNow cX10_witnessNow 2 (some .int) ∈ lw_g := z_w (List.mem_append_right _ (List.mem_of_getElem? (i := 972) (by decide +kernel))) rfl
theorem wiX10_witnessNow : Cond.instanceMethod yX10_witnessNow ∈ lw_g := z_w (List.mem_append_right _ (List.mem_of_getElem? (i := 971) (by decide +kernel))) rfl
theorem wlX10_witnessNow : Cond.selects "NotLikeThemModel" yX10_witnessNow yX10_witnessNow ∈ lw_g := z_w (List.mem_append_left _ (List.mem_of_getElem? (i := 35) (by decide +kernel))) rfl
theorem wyX10_witnessNow : yX10_witnessNow.cls ≠ "java/lang/invoke/MethodHandle" ∧ yX10_witnessNow.cls ≠ "java/lang/invoke/VarHandle" ∧ (parseMethodDescriptor yX10_witnessNow.desc).map (fun d => d.parameters.length) = some 0 := ⟨by decide +kernel, by decide +kernel, by decide +kernel⟩
theorem wcX10_settled : Cond.code yX10_settled cX10_settled 1 (some .int) ∈ lw_g := z_w (List.mem_append_right _ (List.mem_of_getElem? (i := 968) (by decide +kernel))) rfl
theorem wiX10_settled : Cond.instanceMethod yX10_settled ∈ lw_g := z_w (List.mem_append_right _ (List.mem_of_getElem? (i := 966) (by decide +kernel))) rfl
theorem wlX10_settled : Cond.selects "NotLikeThemModel" yX10_settled yX10_settled ∈ lw_g := z_w (List.mem_append_right _ (List.mem_of_getElem? (i := 967) (by decide +kernel))) rfl
theorem wyX10_settled : yX10_settled.cls ≠ "java/lang/invoke/MethodHandle" ∧ yX10_settled.cls ≠ "java/lang/invoke/VarHandle" ∧ (parseMethodDescriptor yX10_settled.desc).map (fun d => d.parameters.length) = some 0 := ⟨by decide +kernel, by decide +kernel, by decide +kernel⟩
theorem wcX10_witness : Cond.code yX10_witness cX10_witness 1 (some .int) ∈ lw_g := z_w (List.mem_append_right _ (List.mem_of_getElem? (i := 988) (by decide +kernel))) rfl
theorem wiX10_witness : Cond.instanceMethod yX10_witness ∈ lw_g := z_w (List.mem_append_right _ (List.mem_of_getElem? (i := 986) (by decide +kernel))) rfl
theorem wlX10_witness : Cond.selects "NotLikeThemModel" yX10_witness yX10_witness ∈ lw_g := z_w (List.mem_append_right _ (List.mem_of_getElem? (i := 987) (by decide +kernel))) rfl
theorem wyX10_witness : yX10_witness.cls ≠ "java/lang/invoke/MethodHandle" ∧ yX10_witness.cls ≠ "java/lang/invoke/VarHandle" ∧ (parseMethodDescriptor yX10_witness.desc).map (fun d => d.parameters.length) = some 0 := ⟨by decide +kernel, by decide +kernel, by decide +kernel⟩
theorem wcX10_turnedNow : Cond.code yX10_turnedNow cX10_turnedNow 4 (some .int) ∈ lw_g := z_w (List.mem_append_right _ (List.mem_of_getElem? (i := 996) (by decide +kernel))) rfl
theorem wiX10_turnedNow : Cond.instanceMethod yX10_turnedNow ∈ lw_g := z_w (List.mem_append_right _ (List.mem_of_getElem? (i := 995) (by decide +kernel))) rfl
theorem wlX10_turnedNow : Cond.selects "NotLikeThemModel" yX10_turnedNow yX10_turnedNow ∈ lw_g := z_w (List.mem_append_left _ (List.mem_of_getElem? (i := 39) (by decide +kernel))) rfl
theorem wyX10_turnedNow : yX10_turnedNow.cls ≠ "java/lang/invoke/MethodHandle" ∧ yX10_turnedNow.cls ≠ "java/lang/invoke/VarHandle" ∧ (parseMethodDescriptor yX10_turnedNow.desc).map (fun d => d.parameters.length) = some 0 := ⟨by decide +kernel, by decide +kernel, by decide +kernel⟩
theorem wcX10_turn : Cond.code yX10_turn cX10_turn 2 (some .int) ∈ lw_g := z_w (List.mem_append_right _ (List.mem_of_getElem? (i := 992) (by decide +kernel))) rfl
theorem wiX10_turn : Cond.instanceMethod yX10_turn ∈ lw_g := z_w (List.mem_append_right _ (List.mem_of_getElem? (i := 990) (by decide +kernel))) rfl
theorem wlX10_turn : Cond.selects "NotLikeThemModel" yX10_turn yX10_turn ∈ lw_g := z_w (List.mem_append_right _ (List.mem_of_getElem? (i := 991) (by decide +kernel))) rfl
theorem wyX10_turn : yX10_turn.cls ≠ "java/lang/invoke/MethodHandle" ∧ yX10_turn.cls ≠ "java/lang/invoke/VarHandle" ∧ (parseMethodDescriptor yX10_turn.desc).map (fun d => d.parameters.length) = some 0 := ⟨by decide +kernel, by decide +kernel, by decide +kernel⟩
theorem wcX10_turned : Cond.code yX10_turned cX10_turned 1 (some .int) ∈ lw_g := z_w (List.mem_append_right _ (List.mem_of_getElem? (i := 1003) (by decide +kernel))) rfl
theorem wiX10_turned : Cond.instanceMethod yX10_turned ∈ lw_g := z_w (List.mem_append_right _ (List.mem_of_getElem? (i := 1001) (by decide +kernel))) rfl
theorem wlX10_turned : Cond.selects "NotLikeThemModel" yX10_turned yX10_turned ∈ lw_g := z_w (List.mem_append_right _ (List.mem_of_getElem? (i := 1002) (by decide +kernel))) rfl
theorem wyX10_turned : yX10_turned.cls ≠ "java/lang/invoke/MethodHandle" ∧ yX10_turned.cls ≠ "java/lang/invoke/VarHandle" ∧ (parseMethodDescriptor yX10_turned.desc).map (fun d => d.parameters.length) = some 0 := ⟨by decide +kernel, by decide +kernel, by decide +kernel⟩
theorem wcX10_hold : Cond.code yX10_hold cX10_hold 4 (some .int) ∈ lw_g := z_w (List.mem_append_right _ (List.mem_of_getElem? (i := 1007) (by decide +kernel))) rfl
theorem wiX10_hold : Cond.instanceMethod yX10_hold ∈ lw_g := z_w (List.mem_append_right _ (List.mem_of_getElem? (i := 1005) (by decide +kernel))) rfl
theorem wlX10_hold : Cond.selects "NotLikeThemModel" yX10_hold yX10_hold ∈ lw_g := z_w (List.mem_append_right _ (List.mem_of_getElem? (i := 1006) (by decide +kernel))) rfl
theorem wyX10_hold : yX10_hold.cls ≠ "java/lang/invoke/MethodHandle" ∧ yX10_hold.cls ≠ "java/lang/invoke/VarHandle" ∧ (parseMethodDescriptor yX10_hold.desc).map (fun d => d.parameters.length) = some 1 := ⟨by decide +kernel, by decide +kernel, by decide +kernel⟩
theorem wcX10_may : Cond.code yX10_may cX10_may 4 (some .int) ∈ lw_g := z_w (List.mem_append_right _ (List.mem_of_getElem? (i := 1011) (by decide +kernel))) rfl
theorem wiX10_may : Cond.instanceMethod yX10_may ∈ lw_g := z_w (List.mem_append_right _ (List.mem_of_getElem? (i := 1009) (by decide +kernel))) rfl
theorem wlX10_may : Cond.selects "NotLikeThemModel" yX10_may yX10_may ∈ lw_g := z_w (List.mem_append_right _ (List.mem_of_getElem? (i := 1010) (by decide +kernel))) rfl
theorem wyX10_may : yX10_may.cls ≠ "java/lang/invoke/MethodHandle" ∧ yX10_may.cls ≠ "java/lang/invoke/VarHandle" ∧ (parseMethodDescriptor yX10_may.desc).map (fun d => d.parameters.length) = some 2 := ⟨by decide +kernel, by decide +kernel, by decide +kernel⟩
theorem wcX10_mays : Cond.code yX10_mays cX10_mays 4 (some .int) ∈ lw_g := z_w (List.mem_append_right _ (List.mem_of_getElem? (i := 1015) (by decide +kernel))) rfl
theorem wiX10_mays : Cond.instanceMethod yX10_mays ∈ lw_g := z_w (List.mem_append_right _ (List.mem_of_getElem? (i := 1013) (by decide +kernel))) rfl
theorem wlX10_mays : Cond.selects "NotLikeThemModel" yX10_mays yX10_mays ∈ lw_g := z_w (List.mem_append_right _ (List.mem_of_getElem? (i := 1014) (by decide +kernel))) rfl
theorem wyX10_mays : yX10_mays.cls ≠ "java/lang/invoke/MethodHandle" ∧ yX10_mays.cls ≠ "java/lang/invoke/VarHandle" ∧ (parseMethodDescriptor yX10_mays.desc).map (fun d => d.parameters.length) = some 1 := ⟨by decide +kernel, by decide +kernel, by decide +kernel⟩
theorem wcX10_soon : Cond.code yX10_soon cX10_soon 3 (some .int) ∈ lw_g := z_w (List.mem_append_right _ (List.mem_of_getElem? (i := 1019) (by decide +kernel))) rfl
theorem wiX10_soon : Cond.instanceMethod yX10_soon ∈ lw_g := z_w (List.mem_append_right _ (List.mem_of_getElem? (i := 1017) (by decide +kernel))) rfl
theorem wlX10_soon : Cond.selects "NotLikeThemModel" yX10_soon yX10_soon ∈ lw_g := z_w (List.mem_append_right _ (List.mem_of_getElem? (i := 1018) (by decide +kernel))) rfl
theorem wyX10_soon : yX10_soon.cls ≠ "java/lang/invoke/MethodHandle" ∧ yX10_soon.cls ≠ "java/lang/invoke/VarHandle" ∧ (parseMethodDescriptor yX10_soon.desc).map (fun d => d.parameters.length) = some 1 := ⟨by decide +kernel, by decide +kernel, by decide +kernel⟩
theorem wcX10_draw : Cond.code yX10_draw cX10_draw 4 none ∈ lw_g := z_w (List.mem_append_right _ (List.mem_of_getElem? (i := 1029) (by decide +kernel))) rfl
theorem wiX10_draw : Cond.instanceMethod yX10_draw ∈ lw_g := z_w (List.mem_append_right _ (List.mem_of_getElem? (i := 1028) (by decide +kernel))) rfl
theorem wlX10_draw : Cond.selects "NotLikeThemModel" yX10_draw yX10_draw ∈ lw_g := z_w (List.mem_append_left _ (List.mem_of_getElem? (i := 40) (by decide +kernel))) rfl
theorem wyX10_draw : yX10_draw.cls ≠ "java/lang/invoke/MethodHandle" ∧ yX10_draw.cls ≠ "java/lang/invoke/VarHandle" ∧ (parseMethodDescriptor yX10_draw.desc).map (fun d => d.parameters.length) = some 0 := ⟨by decide +kernel, by decide +kernel, by decide +kernel⟩
theorem wcX10_likely : Cond.code yX10_likely cX10_likely 14 (some .long) ∈ lw_g := z_w (List.mem_append_right _ (List.mem_of_getElem? (i := 1023) (by decide +kernel))) rfl
theorem wiX10_likely : Cond.instanceMethod yX10_likely ∈ lw_g := z_w (List.mem_append_right _ (List.mem_of_getElem? (i := 1021) (by decide +kernel))) rfl
theorem wlX10_likely : Cond.selects "NotLikeThemModel" yX10_likely yX10_likely ∈ lw_g := z_w (List.mem_append_right _ (List.mem_of_getElem? (i := 1022) (by decide +kernel))) rfl
theorem wyX10_likely : yX10_likely.cls ≠ "java/lang/invoke/MethodHandle" ∧ yX10_likely.cls ≠ "java/lang/invoke/VarHandle" ∧ (parseMethodDescriptor yX10_likely.desc).map (fun d => d.parameters.length) = some 3 := ⟨by decide +kernel, by decide +kernel, by decide +kernel⟩
theorem wcX10_week : Cond.code yX10_week cX10_week 2 (some .int) ∈ lw_g := z_w (List.mem_append_right _ (List.mem_of_getElem? (i := 1034) (by decide +kernel))) rfl
theorem wiX10_week : Cond.instanceMethod yX10_week ∈ lw_g := z_w (List.mem_append_right _ (List.mem_of_getElem? (i := 1032) (by decide +kernel))) rfl
theorem wlX10_week : Cond.selects "NotLikeThemModel" yX10_week yX10_week ∈ lw_g := z_w (List.mem_append_right _ (List.mem_of_getElem? (i := 1033) (by decide +kernel))) rfl
theorem wyX10_week : yX10_week.cls ≠ "java/lang/invoke/MethodHandle" ∧ yX10_week.cls ≠ "java/lang/invoke/VarHandle" ∧ (parseMethodDescriptor yX10_week.desc).map (fun d => d.parameters.length) = some 1 := ⟨by decide +kernel, by decide +kernel, by decide +kernel⟩
theorem wcX10_wipe : Cond.code yX10_wipe cX10_wipe 2 (some .int) ∈ lw_g := z_w (List.mem_append_right _ (List.mem_of_getElem? (i := 1038) (by decide +kernel))) rfl
theorem wiX10_wipe : Cond.instanceMethod yX10_wipe ∈ lw_g := z_w (List.mem_append_right _ (List.mem_of_getElem? (i := 1036) (by decide +kernel))) rfl
theorem wlX10_wipe : Cond.selects "NotLikeThemModel" yX10_wipe yX10_wipe ∈ lw_g := z_w (List.mem_append_right _ (List.mem_of_getElem? (i := 1037) (by decide +kernel))) rfl
theorem wyX10_wipe : yX10_wipe.cls ≠ "java/lang/invoke/MethodHandle" ∧ yX10_wipe.cls ≠ "java/lang/invoke/VarHandle" ∧ (parseMethodDescriptor yX10_wipe.desc).map (fun d => d.parameters.length) = some 0 := ⟨by decide +kernel, by decide +kernel, by decide +kernel⟩
theorem wcX10_maybeOf : Cond.code yX10_maybeOf cX10_maybeOf 6 (some .int) ∈ lw_g := z_w (List.mem_append_right _ (List.mem_of_getElem? (i := 1046) (by decide +kernel))) rfl
theorem wiX10_maybeOf : Cond.instanceMethod yX10_maybeOf ∈ lw_g := z_w (List.mem_append_right _ (List.mem_of_getElem? (i := 1045) (by decide +kernel))) rfl
theorem wlX10_maybeOf : Cond.selects "NotLikeThemModel" yX10_maybeOf yX10_maybeOf ∈ lw_g := z_w (List.mem_append_left _ (List.mem_of_getElem? (i := 41) (by decide +kernel))) rfl
theorem wyX10_maybeOf : yX10_maybeOf.cls ≠ "java/lang/invoke/MethodHandle" ∧ yX10_maybeOf.cls ≠ "java/lang/invoke/VarHandle" ∧ (parseMethodDescriptor yX10_maybeOf.desc).map (fun d => d.parameters.length) = some 1 := ⟨by decide +kernel, by decide +kernel, by decide +kernel⟩
theorem wcX10_maybe : Cond.code yX10_maybe cX10_maybe 2 (some .int) ∈ lw_g := z_w (List.mem_append_right _ (List.mem_of_getElem? (i := 1042) (by decide +kernel))) rfl
theorem wiX10_maybe : Cond.instanceMethod yX10_maybe ∈ lw_g := z_w (List.mem_append_right _ (List.mem_of_getElem? (i := 1040) (by decide +kernel))) rfl
theorem wlX10_maybe : Cond.selects "NotLikeThemModel" yX10_maybe yX10_maybe ∈ lw_g := z_w (List.mem_append_right _ (List.mem_of_getElem? (i := 1041) (by decide +kernel))) rfl
theorem wyX10_maybe : yX10_maybe.cls ≠ "java/lang/invoke/MethodHandle" ∧ yX10_maybe.cls ≠ "java/lang/invoke/VarHandle" ∧ (parseMethodDescriptor yX10_maybe.desc).map (fun d => d.parameters.length) = some 1 := ⟨by decide +kernel, by decide +kernel, by decide +kernel⟩
theorem wcX10_ways : Cond.code yX10_ways cX10_ways 4 (some .long) ∈ lw_g := z_w (List.mem_append_right _ (List.mem_of_getElem? (i := 1050) (by decide +kernel))) rfl
theorem wiX10_ways : Cond.instanceMethod yX10_ways ∈ lw_g := z_w (List.mem_append_right _ (List.mem_of_getElem? (i := 1048) (by decide +kernel))) rfl
theorem wlX10_ways : Cond.selects "NotLikeThemModel" yX10_ways yX10_ways ∈ lw_g := z_w (List.mem_append_right _ (List.mem_of_getElem? (i := 1049) (by decide +kernel))) rfl
theorem wyX10_ways : yX10_ways.cls ≠ "java/lang/invoke/MethodHandle" ∧ yX10_ways.cls ≠ "java/lang/invoke/VarHandle" ∧ (parseMethodDescriptor yX10_ways.desc).map (fun d => d.parameters.length) = some 0 := ⟨by decide +kernel, by decide +kernel, by decide +kernel⟩
theorem wcX10_take : Cond.code yX10_take cX10_take 5 (some .int) ∈ lw_g := z_w (List.mem_append_right _ (List.mem_of_getElem? (i := 1054) (by decide +kernel))) rfl
theorem wiX10_take : Cond.instanceMethod yX10_take ∈ lw_g := z_w (List.mem_append_right _ (List.mem_of_getElem? (i := 1052) (by decide +kernel))) rfl
theorem wlX10_take : Cond.selects "NotLikeThemModel" yX10_take yX10_take ∈ lw_g := z_w (List.mem_append_right _ (List.mem_of_getElem? (i := 1053) (by decide +kernel))) rfl
theorem wyX10_take : yX10_take.cls ≠ "java/lang/invoke/MethodHandle" ∧ yX10_take.cls ≠ "java/lang/invoke/VarHandle" ∧ (parseMethodDescriptor yX10_take.desc).map (fun d => d.parameters.length) = some 0 := ⟨by decide +kernel, by decide +kernel, by decide +kernel⟩
theorem wcX10_askedOf : Cond.code yX10_askedOf cX10_askedOf 7 (some .int) ∈ lw_g := z_w (List.mem_append_right _ (List.mem_of_getElem? (i := 1064) (by decide +kernel))) rfl
theorem wiX10_askedOf : Cond.instanceMethod yX10_askedOf ∈ lw_g := z_w (List.mem_append_right _ (List.mem_of_getElem? (i := 1063) (by decide +kernel))) rfl
theorem wlX10_askedOf : Cond.selects "NotLikeThemModel" yX10_askedOf yX10_askedOf ∈ lw_g := z_w (List.mem_append_left _ (List.mem_of_getElem? (i := 42) (by decide +kernel))) rfl
theorem wyX10_askedOf : yX10_askedOf.cls ≠ "java/lang/invoke/MethodHandle" ∧ yX10_askedOf.cls ≠ "java/lang/invoke/VarHandle" ∧ (parseMethodDescriptor yX10_askedOf.desc).map (fun d => d.parameters.length) = some 2 := ⟨by decide +kernel, by decide +kernel, by decide +kernel⟩
theorem wcX10_asked : Cond.code yX10_asked cX10_asked 4 (some .int) ∈ lw_g := z_w (List.mem_append_right _ (List.mem_of_getElem? (i := 1059) (by decide +kernel))) rfl
theorem wiX10_asked : Cond.instanceMethod yX10_asked ∈ lw_g := z_w (List.mem_append_right _ (List.mem_of_getElem? (i := 1057) (by decide +kernel))) rfl
theorem wlX10_asked : Cond.selects "NotLikeThemModel" yX10_asked yX10_asked ∈ lw_g := z_w (List.mem_append_right _ (List.mem_of_getElem? (i := 1058) (by decide +kernel))) rfl
theorem wyX10_asked : yX10_asked.cls ≠ "java/lang/invoke/MethodHandle" ∧ yX10_asked.cls ≠ "java/lang/invoke/VarHandle" ∧ (parseMethodDescriptor yX10_asked.desc).map (fun d => d.parameters.length) = some 3 := ⟨by decide +kernel, by decide +kernel, by decide +kernel⟩
theorem wcX10_layAsks : Cond.code yX10_layAsks cX10_layAsks 4 none ∈ lw_g := z_w (List.mem_append_right _ (List.mem_of_getElem? (i := 1077) (by decide +kernel))) rfl
theorem wiX10_layAsks : Cond.instanceMethod yX10_layAsks ∈ lw_g := z_w (List.mem_append_right _ (List.mem_of_getElem? (i := 1076) (by decide +kernel))) rfl
theorem wlX10_layAsks : Cond.selects "NotLikeThemModel" yX10_layAsks yX10_layAsks ∈ lw_g := z_w (List.mem_append_left _ (List.mem_of_getElem? (i := 43) (by decide +kernel))) rfl
theorem wyX10_layAsks : yX10_layAsks.cls ≠ "java/lang/invoke/MethodHandle" ∧ yX10_layAsks.cls ≠ "java/lang/invoke/VarHandle" ∧ (parseMethodDescriptor yX10_layAsks.desc).map (fun d => d.parameters.length) = some 2 := ⟨by decide +kernel, by decide +kernel, by decide +kernel⟩
theorem wcX10_gainOf : Cond.code yX10_gainOf cX10_gainOf 6 (some .int) ∈ lw_g := z_w (List.mem_append_right _ (List.mem_of_getElem? (i := 1081) (by decide +kernel))) rfl
theorem wiX10_gainOf : Cond.instanceMethod yX10_gainOf ∈ lw_g := z_w (List.mem_append_right _ (List.mem_of_getElem? (i := 1080) (by decide +kernel))) rfl
theorem wlX10_gainOf : Cond.selects "NotLikeThemModel" yX10_gainOf yX10_gainOf ∈ lw_g := z_w (List.mem_append_left _ (List.mem_of_getElem? (i := 44) (by decide +kernel))) rfl
theorem wyX10_gainOf : yX10_gainOf.cls ≠ "java/lang/invoke/MethodHandle" ∧ yX10_gainOf.cls ≠ "java/lang/invoke/VarHandle" ∧ (parseMethodDescriptor yX10_gainOf.desc).map (fun d => d.parameters.length) = some 3 := ⟨by decide +kernel, by decide +kernel, by decide +kernel⟩
theorem wcX10_isShop : Cond.code yX10_isShop cX10_isShop 4 (some .boolean) ∈ lw_g := z_w (List.mem_append_right _ (List.mem_of_getElem? (i := 1071) (by decide +kernel))) rfl
theorem wsX10_isShop : Cond.static yX10_isShop ∈ lw_g := z_w (List.mem_append_right _ (List.mem_of_getElem? (i := 1070) (by decide +kernel))) rfl
theorem wyX10_isShop : yX10_isShop.cls ≠ "java/lang/invoke/MethodHandle" ∧ yX10_isShop.cls ≠ "java/lang/invoke/VarHandle" ∧ (parseMethodDescriptor yX10_isShop.desc).map (fun d => d.parameters.length) = some 4 := ⟨by decide +kernel, by decide +kernel, by decide +kernel⟩
theorem wcX10_gain : Cond.code yX10_gain cX10_gain 6 (some .int) ∈ lw_g := z_w (List.mem_append_right _ (List.mem_of_getElem? (i := 1068) (by decide +kernel))) rfl
theorem wiX10_gain : Cond.instanceMethod yX10_gain ∈ lw_g := z_w (List.mem_append_right _ (List.mem_of_getElem? (i := 1066) (by decide +kernel))) rfl
theorem wlX10_gain : Cond.selects "NotLikeThemModel" yX10_gain yX10_gain ∈ lw_g := z_w (List.mem_append_right _ (List.mem_of_getElem? (i := 1067) (by decide +kernel))) rfl
theorem wyX10_gain : yX10_gain.cls ≠ "java/lang/invoke/MethodHandle" ∧ yX10_gain.cls ≠ "java/lang/invoke/VarHandle" ∧ (parseMethodDescriptor yX10_gain.desc).map (fun d => d.parameters.length) = some 5 := ⟨by decide +kernel, by decide +kernel, by decide +kernel⟩
theorem wcX10_order : Cond.code yX10_order cX10_order 9 (some .int) ∈ lw_g := z_w (List.mem_append_right _ (List.mem_of_getElem? (i := 1085) (by decide +kernel))) rfl
theorem wiX10_order : Cond.instanceMethod yX10_order ∈ lw_g := z_w (List.mem_append_right _ (List.mem_of_getElem? (i := 1083) (by decide +kernel))) rfl
theorem wlX10_order : Cond.selects "NotLikeThemModel" yX10_order yX10_order ∈ lw_g := z_w (List.mem_append_right _ (List.mem_of_getElem? (i := 1084) (by decide +kernel))) rfl
theorem wyX10_order : yX10_order.cls ≠ "java/lang/invoke/MethodHandle" ∧ yX10_order.cls ≠ "java/lang/invoke/VarHandle" ∧ (parseMethodDescriptor yX10_order.desc).map (fun d => d.parameters.length) = some 4 := ⟨by decide +kernel, by decide +kernel, by decide +kernel⟩
theorem wcX10_count : Cond.code yX10_count cX10_count 6 (some .int) ∈ lw_g := z_w (List.mem_append_right _ (List.mem_of_getElem? (i := 1089) (by decide +kernel))) rfl
theorem wiX10_count : Cond.instanceMethod yX10_count ∈ lw_g := z_w (List.mem_append_right _ (List.mem_of_getElem? (i := 1087) (by decide +kernel))) rfl
theorem wlX10_count : Cond.selects "NotLikeThemModel" yX10_count yX10_count ∈ lw_g := z_w (List.mem_append_right _ (List.mem_of_getElem? (i := 1088) (by decide +kernel))) rfl
theorem wyX10_count : yX10_count.cls ≠ "java/lang/invoke/MethodHandle" ∧ yX10_count.cls ≠ "java/lang/invoke/VarHandle" ∧ (parseMethodDescriptor yX10_count.desc).map (fun d => d.parameters.length) = some 1 := ⟨by decide +kernel, by decide +kernel, by decide +kernel⟩
theorem wcJ6_bitCount_0f7a4 : Cond.code yJ6_bitCount_0f7a4 cJ6_bitCount_0f7a4 1 (some .int) ∈ lw_g := z_w (List.mem_append_right _ (List.mem_of_getElem? (i := 578) (by decide +kernel))) rfl
theorem wsJ6_bitCount_0f7a4 : Cond.static yJ6_bitCount_0f7a4 ∈ lw_g := z_w (List.mem_append_right _ (List.mem_of_getElem? (i := 577) (by decide +kernel))) rfl
theorem wyJ6_bitCount_0f7a4 : yJ6_bitCount_0f7a4.cls ≠ "java/lang/invoke/MethodHandle" ∧ yJ6_bitCount_0f7a4.cls ≠ "java/lang/invoke/VarHandle" ∧ (parseMethodDescriptor yJ6_bitCount_0f7a4.desc).map (fun d => d.parameters.length) = some 1 := ⟨by decide +kernel, by decide +kernel, by decide +kernel⟩
theorem wnX0 : Cond.initialized "NotLikeThem$Chance" ∈ lw_g := z_w (List.mem_append_right _ (List.mem_of_getElem? (i := 8) (by decide +kernel))) rfl
theorem wnX1 : Cond.initialized "NotLikeThem$Heat" ∈ lw_g := z_w (List.mem_append_right _ (List.mem_of_getElem? (i := 4) (by decide +kernel))) rfl
theorem wnX2 : Cond.initialized "NotLikeThem$Picture" ∈ lw_g := z_w (List.mem_append_right _ (List.mem_of_getElem? (i := 9) (by decide +kernel))) rfl
theorem wnX3 : Cond.initialized "NotLikeThem$Rests" ∈ lw_g := z_w (List.mem_append_right _ (List.mem_of_getElem? (i := 5) (by decide +kernel))) rfl
theorem wnX4 : Cond.initialized "NotLikeThem$Rounds" ∈ lw_g := z_w (List.mem_append_right _ (List.mem_of_getElem? (i := 7) (by decide +kernel))) rfl
theorem wnX5 : Cond.initialized "NotLikeThem$Shop" ∈ lw_g := z_w (List.mem_append_right _ (List.mem_of_getElem? (i := 10) (by decide +kernel))) rfl
theorem wnX6 : Cond.initialized "NotLikeThem$Spare" ∈ lw_g := z_w (List.mem_append_right _ (List.mem_of_getElem? (i := 2) (by decide +kernel))) rfl
theorem wnX7 : Cond.initialized "NotLikeThem$Town" ∈ lw_g := z_w (List.mem_append_right _ (List.mem_of_getElem? (i := 3) (by decide +kernel))) rfl
theorem wnX8 : Cond.initialized "NotLikeThem$Walk" ∈ lw_g := z_w (List.mem_append_right _ (List.mem_of_getElem? (i := 6) (by decide +kernel))) rfl
theorem wnX9 : Cond.initialized "NotLikeThem" ∈ lw_g := z_w (List.mem_append_right _ (List.mem_of_getElem? (i := 1) (by decide +kernel))) rfl
theorem wnX10 : Cond.initialized "NotLikeThemModel" ∈ lw_g := z_w (List.mem_append_right _ (List.mem_of_getElem? (i := 11) (by decide +kernel))) rfl
theorem wnJ6 : Cond.initialized "java/lang/Integer" ∈ lw_g := z_w (List.mem_append_right _ (List.mem_of_getElem? (i := 13) (by decide +kernel))) rfl
end
section
abbrev CX0_canReach (E : ET) := Ct SX E yX0_canReach cX0_canReach 3 (some .boolean) 3
abbrev KX0_canReach (X : XT) : Prop := Cx SX X "NotLikeThem$Chance" cX0_canReach 3 (some .boolean)
abbrev CX0_restsFrom (E : ET) := Ct SX E yX0_restsFrom cX0_restsFrom 6 (some .int) 3
abbrev KX0_restsFrom (X : XT) : Prop := Cx SX X "NotLikeThem$Chance" cX0_restsFrom 6 (some .int)
abbrev CX0_fewestDraws (E : ET) := Ct SX E yX0_fewestDraws cX0_fewestDraws 5 (some .int) 3
abbrev KX0_fewestDraws (X : XT) : Prop := Cx SX X "NotLikeThem$Chance" cX0_fewestDraws 5 (some .int)
abbrev CX0_search (E : ET) := Ct SX E yX0_search cX0_search 10 (some .int) 1
abbrev KX0_search (X : XT) : Prop := Cx SX X "NotLikeThem$Chance" cX0_search 10 (some .int)
abbrev CX0_fraction (E : ET) := Ct SX E yX0_fraction cX0_fraction 12 (some .long) 3
abbrev KX0_fraction (X : XT) : Prop := Cx SX X "NotLikeThem$Chance" cX0_fraction 12 (some .long)
abbrev CX0_drawOnce (E : ET) := Ct SX E yX0_drawOnce cX0_drawOnce 4 none 2
abbrev KX0_drawOnce (X : XT) : Prop := Cx SX X "NotLikeThem$Chance" cX0_drawOnce 4 none
abbrev CX0_handOn (E : ET) := Ct SX E yX0_handOn cX0_handOn 8 none 1
abbrev KX0_handOn (X : XT) : Prop := Cx SX X "NotLikeThem$Chance" cX0_handOn 8 none
abbrev CX0_commonDivisor (E : ET) := Ct SX E yX0_commonDivisor cX0_commonDivisor 11 (some .long) 0
abbrev KX0_commonDivisor (X : XT) : Prop := Cx SX X "NotLikeThem$Chance" cX0_commonDivisor 11 (some .long)
abbrev CX1_isDefined (E : ET) := Ct SX E yX1_isDefined cX1_isDefined 3 (some .boolean) 2
abbrev KX1_isDefined (X : XT) : Prop := Cx SX X "NotLikeThem$Heat" cX1_isDefined 3 (some .boolean)
abbrev CX1_isEvenPair (E : ET) := Ct SX E yX1_isEvenPair cX1_isEvenPair 7 (some .boolean) 1
abbrev KX1_isEvenPair (X : XT) : Prop := Cx SX X "NotLikeThem$Heat" cX1_isEvenPair 7 (some .boolean)
abbrev CX1_of (E : ET) := Ct SX E yX1_of cX1_of 5 (some .int) 2
abbrev KX1_of (X : XT) : Prop := Cx SX X "NotLikeThem$Heat" cX1_of 5 (some .int)
abbrev CX1_ofPair (E : ET) := Ct SX E yX1_ofPair cX1_ofPair 8 (some .int) 1
abbrev KX1_ofPair (X : XT) : Prop := Cx SX X "NotLikeThem$Heat" cX1_ofPair 8 (some .int)
abbrev CX1_ofLean (E : ET) := Ct SX E yX1_ofLean cX1_ofLean 5 (some .int) 1
abbrev KX1_ofLean (X : XT) : Prop := Cx SX X "NotLikeThem$Heat" cX1_ofLean 5 (some .int)
abbrev CX2_size (E : ET) := Ct SX E yX2_size cX2_size 1 (some .int) 0
abbrev KX2_size (X : XT) : Prop := Cx SX X "NotLikeThem$Picture" cX2_size 1 (some .int)
abbrev CX2_isFull (E : ET) := Ct SX E yX2_isFull cX2_isFull 1 (some .boolean) 0
abbrev KX2_isFull (X : XT) : Prop := Cx SX X "NotLikeThem$Picture" cX2_isFull 1 (some .boolean)
abbrev CX2_add (E : ET) := Ct SX E yX2_add cX2_add 2 none 1
abbrev KX2_add (X : XT) : Prop := Cx SX X "NotLikeThem$Picture" cX2_add 2 none
abbrev CX2_clear (E : ET) := Ct SX E yX2_clear cX2_clear 1 none 0
abbrev KX2_clear (X : XT) : Prop := Cx SX X "NotLikeThem$Picture" cX2_clear 1 none
abbrev CX2_kindsOf (E : ET) := Ct SX E yX2_kindsOf cX2_kindsOf 8 (some .int) 2
abbrev KX2_kindsOf (X : XT) : Prop := Cx SX X "NotLikeThem$Picture" cX2_kindsOf 8 (some .int)
abbrev CX2_explanations (E : ET) := Ct SX E yX2_explanations cX2_explanations 4 (some .long) 3
abbrev KX2_explanations (X : XT) : Prop := Cx SX X "NotLikeThem$Picture" cX2_explanations 4 (some .long)
abbrev CX2_settleKinds (E : ET) := Ct SX E yX2_settleKinds cX2_settleKinds 4 (some .int) 3
abbrev KX2_settleKinds (X : XT) : Prop := Cx SX X "NotLikeThem$Picture" cX2_settleKinds 4 (some .int)
abbrev CX2_leastKind (E : ET) := Ct SX E yX2_leastKind cX2_leastKind 2 (some .int) 0
abbrev KX2_leastKind (X : XT) : Prop := Cx SX X "NotLikeThem$Picture" cX2_leastKind 2 (some .int)
abbrev CX3_howMany (E : ET) := Ct SX E yX3_howMany cX3_howMany 5 (some .int) 3
abbrev KX3_howMany (X : XT) : Prop := Cx SX X "NotLikeThem$Rests" cX3_howMany 5 (some .int)
abbrev CX3_dressOf (E : ET) := Ct SX E yX3_dressOf cX3_dressOf 6 (some .int) 3
abbrev KX3_dressOf (X : XT) : Prop := Cx SX X "NotLikeThem$Rests" cX3_dressOf 6 (some .int)
abbrev CX3_fewestRestless (E : ET) := Ct SX E yX3_fewestRestless cX3_fewestRestless 6 (some .int) 3
abbrev KX3_fewestRestless (X : XT) : Prop := Cx SX X "NotLikeThem$Rests" cX3_fewestRestless 6 (some .int)
abbrev CX3_leastOfFewestRestless (E : ET) := Ct SX E yX3_leastOfFewestRestless cX3_leastOfFewestRestless 5 (some .int) 3
abbrev KX3_leastOfFewestRestless (X : XT) : Prop := Cx SX X "NotLikeThem$Rests" cX3_leastOfFewestRestless 5 (some .int)
abbrev CX4_leastDress (E : ET) := Ct SX E yX4_leastDress cX4_leastDress 5 (some .int) 4
abbrev KX4_leastDress (X : XT) : Prop := Cx SX X "NotLikeThem$Rounds" cX4_leastDress 5 (some .int)
abbrev CX4_searchFrom (E : ET) := Ct SX E yX4_searchFrom cX4_searchFrom 7 (some .int) 3
abbrev KX4_searchFrom (X : XT) : Prop := Cx SX X "NotLikeThem$Rounds" cX4_searchFrom 7 (some .int)
abbrev CX4_enter (E : ET) := Ct SX E yX4_enter cX4_enter 2 none 0
abbrev KX4_enter (X : XT) : Prop := Cx SX X "NotLikeThem$Rounds" cX4_enter 2 none
abbrev CX4_followOne (E : ET) := Ct SX E yX4_followOne cX4_followOne 4 none 1
abbrev KX4_followOne (X : XT) : Prop := Cx SX X "NotLikeThem$Rounds" cX4_followOne 4 none
abbrev CX4_goBack (E : ET) := Ct SX E yX4_goBack cX4_goBack 4 (some .int) 2
abbrev KX4_goBack (X : XT) : Prop := Cx SX X "NotLikeThem$Rounds" cX4_goBack 4 (some .int)
abbrev CX4_close (E : ET) := Ct SX E yX4_close cX4_close 6 (some .int) 1
abbrev KX4_close (X : XT) : Prop := Cx SX X "NotLikeThem$Rounds" cX4_close 6 (some .int)
abbrev CX5_askedFrom (E : ET) := Ct SX E yX5_askedFrom cX5_askedFrom 8 (some .int) 4
abbrev KX5_askedFrom (X : XT) : Prop := Cx SX X "NotLikeThem$Shop" cX5_askedFrom 8 (some .int)
abbrev CX5_gainBy (E : ET) := Ct SX E yX5_gainBy cX5_gainBy 8 (some .int) 5
abbrev KX5_gainBy (X : XT) : Prop := Cx SX X "NotLikeThem$Shop" cX5_gainBy 8 (some .int)
abbrev CX5_bestStock (E : ET) := Ct SX E yX5_bestStock cX5_bestStock 11 (some .int) 5
abbrev KX5_bestStock (X : XT) : Prop := Cx SX X "NotLikeThem$Shop" cX5_bestStock 11 (some .int)
abbrev CX5_tally (E : ET) := Ct SX E yX5_tally cX5_tally 9 none 4
abbrev KX5_tally (X : XT) : Prop := Cx SX X "NotLikeThem$Shop" cX5_tally 9 none
abbrev CX7_size (E : ET) := Ct SX E yX7_size cX7_size 1 (some .int) 0
abbrev KX7_size (X : XT) : Prop := Cx SX X "NotLikeThem$Town" cX7_size 1 (some .int)
abbrev CX7_dresses (E : ET) := Ct SX E yX7_dresses cX7_dresses 1 (some .int) 0
abbrev KX7_dresses (X : XT) : Prop := Cx SX X "NotLikeThem$Town" cX7_dresses 1 (some .int)
abbrev CX7_version (E : ET) := Ct SX E yX7_version cX7_version 1 (some .int) 0
abbrev KX7_version (X : XT) : Prop := Cx SX X "NotLikeThem$Town" cX7_version 1 (some .int)
abbrev CX7_has (E : ET) := Ct SX E yX7_has cX7_has 2 (some .boolean) 0
abbrev KX7_has (X : XT) : Prop := Cx SX X "NotLikeThem$Town" cX7_has 2 (some .boolean)
abbrev CX7_isDress (E : ET) := Ct SX E yX7_isDress cX7_isDress 2 (some .boolean) 1
abbrev KX7_isDress (X : XT) : Prop := Cx SX X "NotLikeThem$Town" cX7_isDress 2 (some .boolean)
abbrev CX7_startAnew (E : ET) := Ct SX E yX7_startAnew cX7_startAnew 4 none 1
abbrev KX7_startAnew (X : XT) : Prop := Cx SX X "NotLikeThem$Town" cX7_startAnew 4 none
abbrev CX7_weight (E : ET) := Ct SX E yX7_weight cX7_weight 3 (some .int) 0
abbrev KX7_weight (X : XT) : Prop := Cx SX X "NotLikeThem$Town" cX7_weight 3 (some .int)
abbrev CX7_setWeight (E : ET) := Ct SX E yX7_setWeight cX7_setWeight 4 none 1
abbrev KX7_setWeight (X : XT) : Prop := Cx SX X "NotLikeThem$Town" cX7_setWeight 4 none
abbrev CX7_kind (E : ET) := Ct SX E yX7_kind cX7_kind 2 (some .int) 0
abbrev KX7_kind (X : XT) : Prop := Cx SX X "NotLikeThem$Town" cX7_kind 2 (some .int)
abbrev CX7_setKind (E : ET) := Ct SX E yX7_setKind cX7_setKind 3 none 1
abbrev KX7_setKind (X : XT) : Prop := Cx SX X "NotLikeThem$Town" cX7_setKind 3 none
abbrev CX7_lean (E : ET) := Ct SX E yX7_lean cX7_lean 2 (some .int) 0
abbrev KX7_lean (X : XT) : Prop := Cx SX X "NotLikeThem$Town" cX7_lean 2 (some .int)
abbrev CX7_setLean (E : ET) := Ct SX E yX7_setLean cX7_setLean 3 none 1
abbrev KX7_setLean (X : XT) : Prop := Cx SX X "NotLikeThem$Town" cX7_setLean 3 none
abbrev CX7_changed (E : ET) := Ct SX E yX7_changed cX7_changed 2 none 0
abbrev KX7_changed (X : XT) : Prop := Cx SX X "NotLikeThem$Town" cX7_changed 2 none
abbrev CX7_seenBy (E : ET) := Ct SX E yX7_seenBy cX7_seenBy 4 (some .int) 0
abbrev KX7_seenBy (X : XT) : Prop := Cx SX X "NotLikeThem$Town" cX7_seenBy 4 (some .int)
abbrev CX7_seeing (E : ET) := Ct SX E yX7_seeing cX7_seeing 4 (some .int) 0
abbrev KX7_seeing (X : XT) : Prop := Cx SX X "NotLikeThem$Town" cX7_seeing 4 (some .int)
abbrev CX7_ties (E : ET) := Ct SX E yX7_ties cX7_ties 3 (some .int) 1
abbrev KX7_ties (X : XT) : Prop := Cx SX X "NotLikeThem$Town" cX7_ties 3 (some .int)
abbrev CX7_countKind (E : ET) := Ct SX E yX7_countKind cX7_countKind 4 (some .int) 0
abbrev KX7_countKind (X : XT) : Prop := Cx SX X "NotLikeThem$Town" cX7_countKind 4 (some .int)
abbrev CX7_sumOf (E : ET) := Ct SX E yX7_sumOf cX7_sumOf 6 (some .int) 1
abbrev KX7_sumOf (X : XT) : Prop := Cx SX X "NotLikeThem$Town" cX7_sumOf 6 (some .int)
abbrev CX7_worn (E : ET) := Ct SX E yX7_worn cX7_worn 2 (some .int) 0
abbrev KX7_worn (X : XT) : Prop := Cx SX X "NotLikeThem$Town" cX7_worn 2 (some .int)
abbrev CX7_nextOf (E : ET) := Ct SX E yX7_nextOf cX7_nextOf 3 (some .int) 0
abbrev KX7_nextOf (X : XT) : Prop := Cx SX X "NotLikeThem$Town" cX7_nextOf 3 (some .int)
abbrev CX7_isCalm (E : ET) := Ct SX E yX7_isCalm cX7_isCalm 4 (some .boolean) 2
abbrev KX7_isCalm (X : XT) : Prop := Cx SX X "NotLikeThem$Town" cX7_isCalm 4 (some .boolean)
abbrev CX7_restlessIn (E : ET) := Ct SX E yX7_restlessIn cX7_restlessIn 4 (some .int) 3
abbrev KX7_restlessIn (X : XT) : Prop := Cx SX X "NotLikeThem$Town" cX7_restlessIn 4 (some .int)
abbrev CX7_restless (E : ET) := Ct SX E yX7_restless cX7_restless 2 (some (.array .int)) 2
abbrev KX7_restless (X : XT) : Prop := Cx SX X "NotLikeThem$Town" cX7_restless 2 (some (.array .int))
abbrev CX7_renew (E : ET) := Ct SX E yX7_renew cX7_renew 8 none 1
abbrev KX7_renew (X : XT) : Prop := Cx SX X "NotLikeThem$Town" cX7_renew 8 none
abbrev CX7_fillSums (E : ET) := Ct SX E yX7_fillSums cX7_fillSums 8 none 0
abbrev KX7_fillSums (X : XT) : Prop := Cx SX X "NotLikeThem$Town" cX7_fillSums 8 none
abbrev CX8_stepsBy (E : ET) := Ct SX E yX8_stepsBy cX8_stepsBy 5 (some (.array .int)) 3
abbrev KX8_stepsBy (X : XT) : Prop := Cx SX X "NotLikeThem$Walk" cX8_stepsBy 5 (some (.array .int))
abbrev CX8_oneByOne (E : ET) := Ct SX E yX8_oneByOne cX8_oneByOne 6 (some .int) 1
abbrev KX8_oneByOne (X : XT) : Prop := Cx SX X "NotLikeThem$Walk" cX8_oneByOne 6 (some .int)
abbrev CX8_behind (E : ET) := Ct SX E yX8_behind cX8_behind 6 (some .int) 4
abbrev KX8_behind (X : XT) : Prop := Cx SX X "NotLikeThem$Walk" cX8_behind 6 (some .int)
abbrev CX8_stepsToRing (E : ET) := Ct SX E yX8_stepsToRing cX8_stepsToRing 3 (some .int) 5
abbrev KX8_stepsToRing (X : XT) : Prop := Cx SX X "NotLikeThem$Walk" cX8_stepsToRing 3 (some .int)
abbrev CX8_entered (E : ET) := Ct SX E yX8_entered cX8_entered 5 (some .int) 5
abbrev KX8_entered (X : XT) : Prop := Cx SX X "NotLikeThem$Walk" cX8_entered 5 (some .int)
abbrev CX8_ringCount (E : ET) := Ct SX E yX8_ringCount cX8_ringCount 5 (some .int) 5
abbrev KX8_ringCount (X : XT) : Prop := Cx SX X "NotLikeThem$Walk" cX8_ringCount 5 (some .int)
abbrev CX8_leastOfRing (E : ET) := Ct SX E yX8_leastOfRing cX8_leastOfRing 6 (some .int) 5
abbrev KX8_leastOfRing (X : XT) : Prop := Cx SX X "NotLikeThem$Walk" cX8_leastOfRing 6 (some .int)
abbrev CX8_lengthOf (E : ET) := Ct SX E yX8_lengthOf cX8_lengthOf 5 (some .int) 4
abbrev KX8_lengthOf (X : XT) : Prop := Cx SX X "NotLikeThem$Walk" cX8_lengthOf 5 (some .int)
abbrev CX8_drawnTo (E : ET) := Ct SX E yX8_drawnTo cX8_drawnTo 6 (some .int) 5
abbrev KX8_drawnTo (X : XT) : Prop := Cx SX X "NotLikeThem$Walk" cX8_drawnTo 6 (some .int)
abbrev CX8_farthestFrom (E : ET) := Ct SX E yX8_farthestFrom cX8_farthestFrom 6 (some .int) 5
abbrev KX8_farthestFrom (X : XT) : Prop := Cx SX X "NotLikeThem$Walk" cX8_farthestFrom 6 (some .int)
abbrev CX8_greatestLength (E : ET) := Ct SX E yX8_greatestLength cX8_greatestLength 5 (some .int) 5
abbrev KX8_greatestLength (X : XT) : Prop := Cx SX X "NotLikeThem$Walk" cX8_greatestLength 5 (some .int)
abbrev CX8_findRings (E : ET) := Ct SX E yX8_findRings cX8_findRings 6 none 4
abbrev KX8_findRings (X : XT) : Prop := Cx SX X "NotLikeThem$Walk" cX8_findRings 6 none
abbrev CX8_takeOff (E : ET) := Ct SX E yX8_takeOff cX8_takeOff 5 (some .int) 0
abbrev KX8_takeOff (X : XT) : Prop := Cx SX X "NotLikeThem$Walk" cX8_takeOff 5 (some .int)
abbrev CX8_goRound (E : ET) := Ct SX E yX8_goRound cX8_goRound 5 none 0
abbrev KX8_goRound (X : XT) : Prop := Cx SX X "NotLikeThem$Walk" cX8_goRound 5 none
abbrev CX9_people (E : ET) := Ct SX E yX9_people cX9_people 3 (some .int) 2
abbrev KX9_people (X : XT) : Prop := Cx SX X "NotLikeThem" cX9_people 3 (some .int)
abbrev CX9_tie (E : ET) := Ct SX E yX9_tie cX9_tie 5 (some .int) 2
abbrev KX9_tie (X : XT) : Prop := Cx SX X "NotLikeThem" cX9_tie 5 (some .int)
abbrev CX9_set (E : ET) := Ct SX E yX9_set cX9_set 5 (some .int) 2
abbrev KX9_set (X : XT) : Prop := Cx SX X "NotLikeThem" cX9_set 5 (some .int)
abbrev CX9_about (E : ET) := Ct SX E yX9_about cX9_about 3 (some .int) 1
abbrev KX9_about (X : XT) : Prop := Cx SX X "NotLikeThem" cX9_about 3 (some .int)
abbrev CX9_sees (E : ET) := Ct SX E yX9_sees cX9_sees 3 (some .int) 1
abbrev KX9_sees (X : XT) : Prop := Cx SX X "NotLikeThem" cX9_sees 3 (some .int)
abbrev CX9_sum (E : ET) := Ct SX E yX9_sum cX9_sum 3 (some .int) 2
abbrev KX9_sum (X : XT) : Prop := Cx SX X "NotLikeThem" cX9_sum 3 (some .int)
abbrev CX9_calm (E : ET) := Ct SX E yX9_calm cX9_calm 2 (some .int) 4
abbrev KX9_calm (X : XT) : Prop := Cx SX X "NotLikeThem" cX9_calm 2 (some .int)
abbrev CX9_after (E : ET) := Ct SX E yX9_after cX9_after 4 (some .int) 5
abbrev KX9_after (X : XT) : Prop := Cx SX X "NotLikeThem" cX9_after 4 (some .int)
abbrev CX9_run (E : ET) := Ct SX E yX9_run cX9_run 4 (some .int) 6
abbrev KX9_run (X : XT) : Prop := Cx SX X "NotLikeThem" cX9_run 4 (some .int)
abbrev CX9_rings (E : ET) := Ct SX E yX9_rings cX9_rings 2 (some .int) 6
abbrev KX9_rings (X : XT) : Prop := Cx SX X "NotLikeThem" cX9_rings 2 (some .int)
abbrev CX9_ring (E : ET) := Ct SX E yX9_ring cX9_ring 5 (some .int) 6
abbrev KX9_ring (X : XT) : Prop := Cx SX X "NotLikeThem" cX9_ring 5 (some .int)
abbrev CX9_longest (E : ET) := Ct SX E yX9_longest cX9_longest 2 (some .int) 6
abbrev KX9_longest (X : XT) : Prop := Cx SX X "NotLikeThem" cX9_longest 2 (some .int)
abbrev CX9_rests (E : ET) := Ct SX E yX9_rests cX9_rests 1 (some .int) 4
abbrev KX9_rests (X : XT) : Prop := Cx SX X "NotLikeThem" cX9_rests 1 (some .int)
abbrev CX9_rest (E : ET) := Ct SX E yX9_rest cX9_rest 3 (some .int) 4
abbrev KX9_rest (X : XT) : Prop := Cx SX X "NotLikeThem" cX9_rest 3 (some .int)
abbrev CX9_even (E : ET) := Ct SX E yX9_even cX9_even 1 (some .int) 3
abbrev KX9_even (X : XT) : Prop := Cx SX X "NotLikeThem" cX9_even 1 (some .int)
abbrev CX9_heat (E : ET) := Ct SX E yX9_heat cX9_heat 2 (some .int) 3
abbrev KX9_heat (X : XT) : Prop := Cx SX X "NotLikeThem" cX9_heat 2 (some .int)
abbrev CX9_lone (E : ET) := Ct SX E yX9_lone cX9_lone 3 (some .int) 3
abbrev KX9_lone (X : XT) : Prop := Cx SX X "NotLikeThem" cX9_lone 3 (some .int)
abbrev CX9_settled (E : ET) := Ct SX E yX9_settled cX9_settled 1 (some .int) 5
abbrev KX9_settled (X : XT) : Prop := Cx SX X "NotLikeThem" cX9_settled 1 (some .int)
abbrev CX9_witness (E : ET) := Ct SX E yX9_witness cX9_witness 2 (some .int) 5
abbrev KX9_witness (X : XT) : Prop := Cx SX X "NotLikeThem" cX9_witness 2 (some .int)
abbrev CX9_turn (E : ET) := Ct SX E yX9_turn cX9_turn 1 (some .int) 4
abbrev KX9_turn (X : XT) : Prop := Cx SX X "NotLikeThem" cX9_turn 1 (some .int)
abbrev CX9_turned (E : ET) := Ct SX E yX9_turned cX9_turned 1 (some .int) 4
abbrev KX9_turned (X : XT) : Prop := Cx SX X "NotLikeThem" cX9_turned 1 (some .int)
abbrev CX9_hold (E : ET) := Ct SX E yX9_hold cX9_hold 3 (some .int) 4
abbrev KX9_hold (X : XT) : Prop := Cx SX X "NotLikeThem" cX9_hold 3 (some .int)
abbrev CX9_may (E : ET) := Ct SX E yX9_may cX9_may 4 (some .int) 4
abbrev KX9_may (X : XT) : Prop := Cx SX X "NotLikeThem" cX9_may 4 (some .int)
abbrev CX9_mays (E : ET) := Ct SX E yX9_mays cX9_mays 2 (some .int) 4
abbrev KX9_mays (X : XT) : Prop := Cx SX X "NotLikeThem" cX9_mays 2 (some .int)
abbrev CX9_soon (E : ET) := Ct SX E yX9_soon cX9_soon 3 (some .int) 4
abbrev KX9_soon (X : XT) : Prop := Cx SX X "NotLikeThem" cX9_soon 3 (some .int)
abbrev CX9_likely (E : ET) := Ct SX E yX9_likely cX9_likely 4 (some .long) 4
abbrev KX9_likely (X : XT) : Prop := Cx SX X "NotLikeThem" cX9_likely 4 (some .long)
abbrev CX9_week (E : ET) := Ct SX E yX9_week cX9_week 2 (some .int) 2
abbrev KX9_week (X : XT) : Prop := Cx SX X "NotLikeThem" cX9_week 2 (some .int)
abbrev CX9_wipe (E : ET) := Ct SX E yX9_wipe cX9_wipe 2 (some .int) 1
abbrev KX9_wipe (X : XT) : Prop := Cx SX X "NotLikeThem" cX9_wipe 2 (some .int)
abbrev CX9_maybe (E : ET) := Ct SX E yX9_maybe cX9_maybe 2 (some .int) 3
abbrev KX9_maybe (X : XT) : Prop := Cx SX X "NotLikeThem" cX9_maybe 2 (some .int)
abbrev CX9_ways (E : ET) := Ct SX E yX9_ways cX9_ways 1 (some .long) 4
abbrev KX9_ways (X : XT) : Prop := Cx SX X "NotLikeThem" cX9_ways 1 (some .long)
abbrev CX9_take (E : ET) := Ct SX E yX9_take cX9_take 1 (some .int) 4
abbrev KX9_take (X : XT) : Prop := Cx SX X "NotLikeThem" cX9_take 1 (some .int)
abbrev CX9_asked (E : ET) := Ct SX E yX9_asked cX9_asked 4 (some .int) 5
abbrev KX9_asked (X : XT) : Prop := Cx SX X "NotLikeThem" cX9_asked 4 (some .int)
abbrev CX9_gain (E : ET) := Ct SX E yX9_gain cX9_gain 6 (some .int) 6
abbrev KX9_gain (X : XT) : Prop := Cx SX X "NotLikeThem" cX9_gain 6 (some .int)
abbrev CX9_order (E : ET) := Ct SX E yX9_order cX9_order 5 (some .int) 6
abbrev KX9_order (X : XT) : Prop := Cx SX X "NotLikeThem" cX9_order 5 (some .int)
abbrev CX9_count (E : ET) := Ct SX E yX9_count cX9_count 2 (some .int) 2
abbrev KX9_count (X : XT) : Prop := Cx SX X "NotLikeThem" cX9_count 2 (some .int)
abbrev CX9_within (E : ET) := Ct SX E yX9_within cX9_within 3 (some .boolean) 0
abbrev KX9_within (X : XT) : Prop := Cx SX X "NotLikeThem" cX9_within 3 (some .boolean)
abbrev CX9_isWay (E : ET) := Ct SX E yX9_isWay cX9_isWay 1 (some .boolean) 0
abbrev KX9_isWay (X : XT) : Prop := Cx SX X "NotLikeThem" cX9_isWay 1 (some .boolean)
abbrev CX9_isShopRun (E : ET) := Ct SX E yX9_isShopRun cX9_isShopRun 1 (some .boolean) 1
abbrev KX9_isShopRun (X : XT) : Prop := Cx SX X "NotLikeThem" cX9_isShopRun 1 (some .boolean)
abbrev CX9_isMoney (E : ET) := Ct SX E yX9_isMoney cX9_isMoney 1 (some .boolean) 1
abbrev KX9_isMoney (X : XT) : Prop := Cx SX X "NotLikeThem" cX9_isMoney 1 (some .boolean)
abbrev CX10_in (E : ET) := Ct SM E yX10_in cX10_in 6 (some .boolean) 0
abbrev KX10_in (X : XT) : Prop := Cx SM X "NotLikeThemModel" cX10_in 6 (some .boolean)
abbrev CX10_ones (E : ET) := Ct SM E yX10_ones cX10_ones 3 (some .int) 0
abbrev KX10_ones (X : XT) : Prop := Cx SM X "NotLikeThemModel" cX10_ones 3 (some .int)
abbrev CX10_isPerson (E : ET) := Ct SM E yX10_isPerson cX10_isPerson 2 (some .boolean) 1
abbrev KX10_isPerson (X : XT) : Prop := Cx SM X "NotLikeThemModel" cX10_isPerson 2 (some .boolean)
abbrev CX10_isDress (E : ET) := Ct SM E yX10_isDress cX10_isDress 2 (some .boolean) 1
abbrev KX10_isDress (X : XT) : Prop := Cx SM X "NotLikeThemModel" cX10_isDress 2 (some .boolean)
abbrev CX10_isWay (E : ET) := Ct SM E yX10_isWay cX10_isWay 1 (some .boolean) 1
abbrev KX10_isWay (X : XT) : Prop := Cx SM X "NotLikeThemModel" cX10_isWay 1 (some .boolean)
abbrev CX10_people (E : ET) := Ct SM E yX10_people cX10_people 4 (some .int) 1
abbrev KX10_people (X : XT) : Prop := Cx SM X "NotLikeThemModel" cX10_people 4 (some .int)
abbrev CX10_tie (E : ET) := Ct SM E yX10_tie cX10_tie 5 (some .int) 2
abbrev KX10_tie (X : XT) : Prop := Cx SM X "NotLikeThemModel" cX10_tie 5 (some .int)
abbrev CX10_set (E : ET) := Ct SM E yX10_set cX10_set 5 (some .int) 2
abbrev KX10_set (X : XT) : Prop := Cx SM X "NotLikeThemModel" cX10_set 5 (some .int)
abbrev CX10_about (E : ET) := Ct SM E yX10_about cX10_about 6 (some .int) 2
abbrev KX10_about (X : XT) : Prop := Cx SM X "NotLikeThemModel" cX10_about 6 (some .int)
abbrev CX10_sees (E : ET) := Ct SM E yX10_sees cX10_sees 3 (some .int) 2
abbrev KX10_sees (X : XT) : Prop := Cx SM X "NotLikeThemModel" cX10_sees 3 (some .int)
abbrev CX10_sumOf (E : ET) := Ct SM E yX10_sumOf cX10_sumOf 5 (some .int) 0
abbrev KX10_sumOf (X : XT) : Prop := Cx SM X "NotLikeThemModel" cX10_sumOf 5 (some .int)
abbrev CX10_nextOf (E : ET) := Ct SM E yX10_nextOf cX10_nextOf 6 (some .int) 1
abbrev KX10_nextOf (X : XT) : Prop := Cx SM X "NotLikeThemModel" cX10_nextOf 6 (some .int)
abbrev CX10_with (E : ET) := Ct SM E yX10_with cX10_with 4 (some .int) 0
abbrev KX10_with (X : XT) : Prop := Cx SM X "NotLikeThemModel" cX10_with 4 (some .int)
abbrev CX10_calmOf (E : ET) := Ct SM E yX10_calmOf cX10_calmOf 4 (some .int) 2
abbrev KX10_calmOf (X : XT) : Prop := Cx SM X "NotLikeThemModel" cX10_calmOf 4 (some .int)
abbrev CX10_all (E : ET) := Ct SM E yX10_all cX10_all 1 (some .int) 0
abbrev KX10_all (X : XT) : Prop := Cx SM X "NotLikeThemModel" cX10_all 1 (some .int)
abbrev CX10_stepFrom (E : ET) := Ct SM E yX10_stepFrom cX10_stepFrom 5 (some .int) 2
abbrev KX10_stepFrom (X : XT) : Prop := Cx SM X "NotLikeThemModel" cX10_stepFrom 5 (some .int)
abbrev CX10_sum (E : ET) := Ct SM E yX10_sum cX10_sum 3 (some .int) 2
abbrev KX10_sum (X : XT) : Prop := Cx SM X "NotLikeThemModel" cX10_sum 3 (some .int)
abbrev CX10_calm (E : ET) := Ct SM E yX10_calm cX10_calm 2 (some .int) 3
abbrev KX10_calm (X : XT) : Prop := Cx SM X "NotLikeThemModel" cX10_calm 2 (some .int)
abbrev CX10_after (E : ET) := Ct SM E yX10_after cX10_after 6 (some .int) 3
abbrev KX10_after (X : XT) : Prop := Cx SM X "NotLikeThemModel" cX10_after 6 (some .int)
abbrev CX10_layLeads (E : ET) := Ct SM E yX10_layLeads cX10_layLeads 3 none 3
abbrev KX10_layLeads (X : XT) : Prop := Cx SM X "NotLikeThemModel" cX10_layLeads 3 none
abbrev CX10_layRun (E : ET) := Ct SM E yX10_layRun cX10_layRun 4 none 1
abbrev KX10_layRun (X : XT) : Prop := Cx SM X "NotLikeThemModel" cX10_layRun 4 none
abbrev CX10_run (E : ET) := Ct SM E yX10_run cX10_run 4 (some .int) 4
abbrev KX10_run (X : XT) : Prop := Cx SM X "NotLikeThemModel" cX10_run 4 (some .int)
abbrev CX10_leastOfRing (E : ET) := Ct SM E yX10_leastOfRing cX10_leastOfRing 3 (some .int) 0
abbrev KX10_leastOfRing (X : XT) : Prop := Cx SM X "NotLikeThemModel" cX10_leastOfRing 3 (some .int)
abbrev CX10_layRings (E : ET) := Ct SM E yX10_layRings cX10_layRings 4 none 4
abbrev KX10_layRings (X : XT) : Prop := Cx SM X "NotLikeThemModel" cX10_layRings 4 none
abbrev CX10_rings (E : ET) := Ct SM E yX10_rings cX10_rings 4 (some .int) 5
abbrev KX10_rings (X : XT) : Prop := Cx SM X "NotLikeThemModel" cX10_rings 4 (some .int)
abbrev CX10_ring (E : ET) := Ct SM E yX10_ring cX10_ring 6 (some .int) 5
abbrev KX10_ring (X : XT) : Prop := Cx SM X "NotLikeThemModel" cX10_ring 6 (some .int)
abbrev CX10_longest (E : ET) := Ct SM E yX10_longest cX10_longest 4 (some .int) 5
abbrev KX10_longest (X : XT) : Prop := Cx SM X "NotLikeThemModel" cX10_longest 4 (some .int)
abbrev CX10_isRest (E : ET) := Ct SM E yX10_isRest cX10_isRest 2 (some .boolean) 3
abbrev KX10_isRest (X : XT) : Prop := Cx SM X "NotLikeThemModel" cX10_isRest 2 (some .boolean)
abbrev CX10_rests (E : ET) := Ct SM E yX10_rests cX10_rests 3 (some .int) 4
abbrev KX10_rests (X : XT) : Prop := Cx SM X "NotLikeThemModel" cX10_rests 3 (some .int)
abbrev CX10_restOf (E : ET) := Ct SM E yX10_restOf cX10_restOf 4 (some .int) 4
abbrev KX10_restOf (X : XT) : Prop := Cx SM X "NotLikeThemModel" cX10_restOf 4 (some .int)
abbrev CX10_rest (E : ET) := Ct SM E yX10_rest cX10_rest 2 (some .int) 5
abbrev KX10_rest (X : XT) : Prop := Cx SM X "NotLikeThemModel" cX10_rest 2 (some .int)
abbrev CX10_isEven (E : ET) := Ct SM E yX10_isEven cX10_isEven 5 (some .boolean) 0
abbrev KX10_isEven (X : XT) : Prop := Cx SM X "NotLikeThemModel" cX10_isEven 5 (some .boolean)
abbrev CX10_even (E : ET) := Ct SM E yX10_even cX10_even 1 (some .int) 1
abbrev KX10_even (X : XT) : Prop := Cx SM X "NotLikeThemModel" cX10_even 1 (some .int)
abbrev CX10_heat (E : ET) := Ct SM E yX10_heat cX10_heat 9 (some .int) 2
abbrev KX10_heat (X : XT) : Prop := Cx SM X "NotLikeThemModel" cX10_heat 9 (some .int)
abbrev CX10_loneOf (E : ET) := Ct SM E yX10_loneOf cX10_loneOf 3 (some .int) 0
abbrev KX10_loneOf (X : XT) : Prop := Cx SM X "NotLikeThemModel" cX10_loneOf 3 (some .int)
abbrev CX10_lone (E : ET) := Ct SM E yX10_lone cX10_lone 3 (some .int) 3
abbrev KX10_lone (X : XT) : Prop := Cx SM X "NotLikeThemModel" cX10_lone 3 (some .int)
abbrev CX10_layCalms (E : ET) := Ct SM E yX10_layCalms cX10_layCalms 2 none 3
abbrev KX10_layCalms (X : XT) : Prop := Cx SM X "NotLikeThemModel" cX10_layCalms 2 none
abbrev CX10_layFar (E : ET) := Ct SM E yX10_layFar cX10_layFar 6 none 1
abbrev KX10_layFar (X : XT) : Prop := Cx SM X "NotLikeThemModel" cX10_layFar 6 none
abbrev CX10_comesBack (E : ET) := Ct SM E yX10_comesBack cX10_comesBack 5 (some .boolean) 2
abbrev KX10_comesBack (X : XT) : Prop := Cx SM X "NotLikeThemModel" cX10_comesBack 5 (some .boolean)
abbrev CX10_witnessNow (E : ET) := Ct SM E yX10_witnessNow cX10_witnessNow 2 (some .int) 4
abbrev KX10_witnessNow (X : XT) : Prop := Cx SM X "NotLikeThemModel" cX10_witnessNow 2 (some .int)
abbrev CX10_settled (E : ET) := Ct SM E yX10_settled cX10_settled 1 (some .int) 5
abbrev KX10_settled (X : XT) : Prop := Cx SM X "NotLikeThemModel" cX10_settled 1 (some .int)
abbrev CX10_witness (E : ET) := Ct SM E yX10_witness cX10_witness 1 (some .int) 5
abbrev KX10_witness (X : XT) : Prop := Cx SM X "NotLikeThemModel" cX10_witness 1 (some .int)
abbrev CX10_turnedNow (E : ET) := Ct SM E yX10_turnedNow cX10_turnedNow 4 (some .int) 3
abbrev KX10_turnedNow (X : XT) : Prop := Cx SM X "NotLikeThemModel" cX10_turnedNow 4 (some .int)
abbrev CX10_turn (E : ET) := Ct SM E yX10_turn cX10_turn 2 (some .int) 4
abbrev KX10_turn (X : XT) : Prop := Cx SM X "NotLikeThemModel" cX10_turn 2 (some .int)
abbrev CX10_turned (E : ET) := Ct SM E yX10_turned cX10_turned 1 (some .int) 4
abbrev KX10_turned (X : XT) : Prop := Cx SM X "NotLikeThemModel" cX10_turned 1 (some .int)
abbrev CX10_hold (E : ET) := Ct SM E yX10_hold cX10_hold 4 (some .int) 3
abbrev KX10_hold (X : XT) : Prop := Cx SM X "NotLikeThemModel" cX10_hold 4 (some .int)
abbrev CX10_may (E : ET) := Ct SM E yX10_may cX10_may 4 (some .int) 5
abbrev KX10_may (X : XT) : Prop := Cx SM X "NotLikeThemModel" cX10_may 4 (some .int)
abbrev CX10_mays (E : ET) := Ct SM E yX10_mays cX10_mays 4 (some .int) 4
abbrev KX10_mays (X : XT) : Prop := Cx SM X "NotLikeThemModel" cX10_mays 4 (some .int)
abbrev CX10_soon (E : ET) := Ct SM E yX10_soon cX10_soon 3 (some .int) 4
abbrev KX10_soon (X : XT) : Prop := Cx SM X "NotLikeThemModel" cX10_soon 3 (some .int)
abbrev CX10_draw (E : ET) := Ct SM E yX10_draw cX10_draw 4 none 3
abbrev KX10_draw (X : XT) : Prop := Cx SM X "NotLikeThemModel" cX10_draw 4 none
abbrev CX10_likely (E : ET) := Ct SM E yX10_likely cX10_likely 14 (some .long) 4
abbrev KX10_likely (X : XT) : Prop := Cx SM X "NotLikeThemModel" cX10_likely 14 (some .long)
abbrev CX10_week (E : ET) := Ct SM E yX10_week cX10_week 2 (some .int) 2
abbrev KX10_week (X : XT) : Prop := Cx SM X "NotLikeThemModel" cX10_week 2 (some .int)
abbrev CX10_wipe (E : ET) := Ct SM E yX10_wipe cX10_wipe 2 (some .int) 0
abbrev KX10_wipe (X : XT) : Prop := Cx SM X "NotLikeThemModel" cX10_wipe 2 (some .int)
abbrev CX10_maybeOf (E : ET) := Ct SM E yX10_maybeOf cX10_maybeOf 6 (some .int) 2
abbrev KX10_maybeOf (X : XT) : Prop := Cx SM X "NotLikeThemModel" cX10_maybeOf 6 (some .int)
abbrev CX10_maybe (E : ET) := Ct SM E yX10_maybe cX10_maybe 2 (some .int) 3
abbrev KX10_maybe (X : XT) : Prop := Cx SM X "NotLikeThemModel" cX10_maybe 2 (some .int)
abbrev CX10_ways (E : ET) := Ct SM E yX10_ways cX10_ways 4 (some .long) 3
abbrev KX10_ways (X : XT) : Prop := Cx SM X "NotLikeThemModel" cX10_ways 4 (some .long)
abbrev CX10_take (E : ET) := Ct SM E yX10_take cX10_take 5 (some .int) 4
abbrev KX10_take (X : XT) : Prop := Cx SM X "NotLikeThemModel" cX10_take 5 (some .int)
abbrev CX10_askedOf (E : ET) := Ct SM E yX10_askedOf cX10_askedOf 7 (some .int) 1
abbrev KX10_askedOf (X : XT) : Prop := Cx SM X "NotLikeThemModel" cX10_askedOf 7 (some .int)
abbrev CX10_asked (E : ET) := Ct SM E yX10_asked cX10_asked 4 (some .int) 4
abbrev KX10_asked (X : XT) : Prop := Cx SM X "NotLikeThemModel" cX10_asked 4 (some .int)
abbrev CX10_layAsks (E : ET) := Ct SM E yX10_layAsks cX10_layAsks 4 none 4
abbrev KX10_layAsks (X : XT) : Prop := Cx SM X "NotLikeThemModel" cX10_layAsks 4 none
abbrev CX10_gainOf (E : ET) := Ct SM E yX10_gainOf cX10_gainOf 6 (some .int) 1
abbrev KX10_gainOf (X : XT) : Prop := Cx SM X "NotLikeThemModel" cX10_gainOf 6 (some .int)
abbrev CX10_isShop (E : ET) := Ct SM E yX10_isShop cX10_isShop 4 (some .boolean) 2
abbrev KX10_isShop (X : XT) : Prop := Cx SM X "NotLikeThemModel" cX10_isShop 4 (some .boolean)
abbrev CX10_gain (E : ET) := Ct SM E yX10_gain cX10_gain 6 (some .int) 5
abbrev KX10_gain (X : XT) : Prop := Cx SM X "NotLikeThemModel" cX10_gain 6 (some .int)
abbrev CX10_order (E : ET) := Ct SM E yX10_order cX10_order 9 (some .int) 5
abbrev KX10_order (X : XT) : Prop := Cx SM X "NotLikeThemModel" cX10_order 9 (some .int)
abbrev CX10_count (E : ET) := Ct SM E yX10_count cX10_count 6 (some .int) 0
abbrev KX10_count (X : XT) : Prop := Cx SM X "NotLikeThemModel" cX10_count 6 (some .int)
abbrev CJ6_bitCount (S : ST) (E : ET) := Ct S E yJ6_bitCount_0f7a4 cJ6_bitCount_0f7a4 1 (some .int) 0
theorem z_row {i : Int32} (h : vp_in i 10) : ([some 10, some 11, some 12, some 13, some 14, some 15, some 16, some 17, some 18, some 19] : List (Option Nat))[i.toNatClampNeg]? = some (some (10 + i.toNatClampNeg)) := by
  have hlt : i.toNatClampNeg < 10 := Nat.not_le.mp fun q => h (Or.inr q)
  generalize i.toNatClampNeg = n at hlt ⊢
  match n, hlt with
  | 0, _ => rfl
  | 1, _ => rfl
  | 2, _ => rfl
  | 3, _ => rfl
  | 4, _ => rfl
  | 5, _ => rfl
  | 6, _ => rfl
  | 7, _ => rfl
  | 8, _ => rfl
  | 9, _ => rfl
  | n + 10, h => omega
theorem z_rowc {i : Int32} (h : vp_in i 10) : SX.1[10 + i.toNatClampNeg]? = some (1, 10, []) := by
  have hlt : i.toNatClampNeg < 10 := Nat.not_le.mp fun q => h (Or.inr q)
  generalize i.toNatClampNeg = n at hlt ⊢
  match n, hlt with
  | 0, _ => rfl
  | 1, _ => rfl
  | 2, _ => rfl
  | 3, _ => rfl
  | 4, _ => rfl
  | 5, _ => rfl
  | 6, _ => rfl
  | 7, _ => rfl
  | 8, _ => rfl
  | 9, _ => rfl
  | n + 10, h => omega
theorem z_tab3 {x : Int32} (h : ¬ (x.toInt < 0 ∨ 2 < x.toInt)) : x = 0 ∨ x = 1 ∨ x = 2 := by
  have h2 : x.toInt = 0 ∨ x.toInt = 1 ∨ x.toInt = 2 := by omega
  rcases h2 with h2 | h2 | h2
  · exact Or.inl (Int32.toInt_inj.mp (h2.trans (by decide)))
  · exact Or.inr (Or.inl (Int32.toInt_inj.mp (h2.trans (by decide))))
  · exact Or.inr (Or.inr ((Int32.toInt_inj.mp (h2.trans (by decide)))))
theorem z_tab4 {x : Int32} (h : ¬ (x.toInt < 0 ∨ 3 < x.toInt)) : x = 0 ∨ x = 1 ∨ x = 2 ∨ x = 3 := by
  have h2 : x.toInt = 0 ∨ x.toInt = 1 ∨ x.toInt = 2 ∨ x.toInt = 3 := by omega
  rcases h2 with h2 | h2 | h2 | h2
  · exact Or.inl (Int32.toInt_inj.mp (h2.trans (by decide)))
  · exact Or.inr (Or.inl (Int32.toInt_inj.mp (h2.trans (by decide))))
  · exact Or.inr (Or.inr (Or.inl (Int32.toInt_inj.mp (h2.trans (by decide)))))
  · exact Or.inr (Or.inr (Or.inr ((Int32.toInt_inj.mp (h2.trans (by decide))))))
theorem z_tab5 {x : Int32} (h : ¬ (x.toInt < 0 ∨ 4 < x.toInt)) : x = 0 ∨ x = 1 ∨ x = 2 ∨ x = 3 ∨ x = 4 := by
  have h2 : x.toInt = 0 ∨ x.toInt = 1 ∨ x.toInt = 2 ∨ x.toInt = 3 ∨ x.toInt = 4 := by omega
  rcases h2 with h2 | h2 | h2 | h2 | h2
  · exact Or.inl (Int32.toInt_inj.mp (h2.trans (by decide)))
  · exact Or.inr (Or.inl (Int32.toInt_inj.mp (h2.trans (by decide))))
  · exact Or.inr (Or.inr (Or.inl (Int32.toInt_inj.mp (h2.trans (by decide)))))
  · exact Or.inr (Or.inr (Or.inr (Or.inl (Int32.toInt_inj.mp (h2.trans (by decide))))))
  · exact Or.inr (Or.inr (Or.inr (Or.inr ((Int32.toInt_inj.mp (h2.trans (by decide)))))))
section SysRows
variable {X : XT} {cc : ByteArray} {nL d pc : Nat} {ret : Option FieldType} {Q : Option Value → Mem → Prop} {lv : List (Nat × Value)} {st : List Value} {M M1 : Mem}
theorem gfX0_18 (hX : Cx SX X "NotLikeThem$Chance" cc nL ret) (hd : decode cc pc = .ok (.getfield 18, 3)) (kk : Z SX X d nL Q (pc + 3) lv (.ref (X.1.2.1 7) :: st) M) : Z SX X d nL Q pc lv (.ref (X.1.2.1 0) :: st) M := z_getR hX 0 0 7 rfl rfl inX0 (by decide) rfl (z_w (List.mem_append_right _ (List.mem_of_getElem? (i := 181) (by decide +kernel))) rfl) hd kk
theorem mcX0_37 (hX : Cx SX X "NotLikeThem$Chance" cc nL ret) (hd : decode cc pc = .ok (.invokevirtual 37, 3)) (hR : 2 + 1 ≤ d) (hw : (st.map fun v => v.category).sum ≤ 8) (hC : CX7_restless X.1 [.ref (X.1.2.1 7)] M (z_is (some (.ref (X.1.2.1 24))) M1)) (kk : Z SX X d nL Q (pc + 3) lv (.ref (X.1.2.1 24) :: st) M1) : Z SX X d nL Q pc lv (.ref (X.1.2.1 7) :: st) M :=
  z_callV (As := []) hX lw_good 7 rfl rfl rfl wcX7_restless wnX7 (z_w (List.mem_append_right _ (List.mem_of_getElem? (i := 603) (by decide +kernel))) rfl) wiX7_restless wlX7_restless wyX7_restless hR (by decide) rfl hw hd hC (fun rv M2 h => by obtain ⟨rfl, rfl⟩ := h; exact kk)
theorem mcX0_43 (hX : Cx SX X "NotLikeThem$Chance" cc nL ret) {a1 a2 : Value} {r : Int32} (hd : decode cc pc = .ok (.invokevirtual 43, 3)) (hR : 1 + 1 ≤ d) (hw : (st.map fun v => v.category).sum ≤ 8) (hC : CX0_search X.1 [.ref (X.1.2.1 0), a1, a2] M (z_is (some (.int r)) M1)) (kk : Z SX X d nL Q (pc + 3) lv (.int r :: st) M1) : Z SX X d nL Q pc lv (a2 :: a1 :: .ref (X.1.2.1 0) :: st) M :=
  z_callV (As := [a1, a2]) hX lw_good 0 rfl rfl rfl wcX0_search wnX0 (z_w (List.mem_append_right _ (List.mem_of_getElem? (i := 604) (by decide +kernel))) rfl) wiX0_search wlX0_search wyX0_search hR (by decide) rfl hw hd hC (fun rv M2 h => by obtain ⟨rfl, rfl⟩ := h; exact kk)
theorem gfX0_28 (hX : Cx SX X "NotLikeThem$Chance" cc nL ret) (hd : decode cc pc = .ok (.getfield 28, 3)) (kk : Z SX X d nL Q (pc + 3) lv (.ref (X.1.2.1 29) :: st) M) : Z SX X d nL Q pc lv (.ref (X.1.2.1 0) :: st) M := z_getR hX 0 1 29 rfl rfl inX0 (by decide) rfl (z_w (List.mem_append_right _ (List.mem_of_getElem? (i := 182) (by decide +kernel))) rfl) hd kk
theorem gfX0_34 (hX : Cx SX X "NotLikeThem$Chance" cc nL ret) (hd : decode cc pc = .ok (.getfield 34, 3)) (kk : Z SX X d nL Q (pc + 3) lv (.ref (X.1.2.1 30) :: st) M) : Z SX X d nL Q pc lv (.ref (X.1.2.1 0) :: st) M := z_getR hX 0 2 30 rfl rfl inX0 (by decide) rfl (z_w (List.mem_append_right _ (List.mem_of_getElem? (i := 183) (by decide +kernel))) rfl) hd kk
theorem mcX0_47 (hX : Cx SX X "NotLikeThem$Chance" cc nL ret) {r : Int32} (hd : decode cc pc = .ok (.invokevirtual 47, 3)) (hR : 0 + 1 ≤ d) (hw : (st.map fun v => v.category).sum ≤ 8) (hC : CX7_dresses X.1 [.ref (X.1.2.1 7)] M (z_is (some (.int r)) M1)) (kk : Z SX X d nL Q (pc + 3) lv (.int r :: st) M1) : Z SX X d nL Q pc lv (.ref (X.1.2.1 7) :: st) M :=
  z_callV (As := []) hX lw_good 7 rfl rfl rfl wcX7_dresses wnX7 (z_w (List.mem_append_right _ (List.mem_of_getElem? (i := 608) (by decide +kernel))) rfl) wiX7_dresses wlX7_dresses wyX7_dresses hR (by decide) rfl hw hd hC (fun rv M2 h => by obtain ⟨rfl, rfl⟩ := h; exact kk)
theorem mcX0_51 (hX : Cx SX X "NotLikeThem$Chance" cc nL ret) {r : Int32} (hd : decode cc pc = .ok (.invokevirtual 51, 3)) (hR : 0 + 1 ≤ d) (hw : (st.map fun v => v.category).sum ≤ 8) (hC : CX7_size X.1 [.ref (X.1.2.1 7)] M (z_is (some (.int r)) M1)) (kk : Z SX X d nL Q (pc + 3) lv (.int r :: st) M1) : Z SX X d nL Q pc lv (.ref (X.1.2.1 7) :: st) M :=
  z_callV (As := []) hX lw_good 7 rfl rfl rfl wcX7_size wnX7 (z_w (List.mem_append_right _ (List.mem_of_getElem? (i := 609) (by decide +kernel))) rfl) wiX7_size wlX7_size wyX7_size hR (by decide) rfl hw hd hC (fun rv M2 h => by obtain ⟨rfl, rfl⟩ := h; exact kk)
theorem gfX0_9 (hX : Cx SX X "NotLikeThem$Chance" cc nL ret) (hd : decode cc pc = .ok (.getfield 9, 3)) (kk : Z SX X d nL Q (pc + 3) lv (.ref (X.1.2.1 34) :: st) M) : Z SX X d nL Q pc lv (.ref (X.1.2.1 0) :: st) M := z_getR hX 0 3 34 rfl rfl inX0 (by decide) rfl (z_w (List.mem_append_right _ (List.mem_of_getElem? (i := 184) (by decide +kernel))) rfl) hd kk
theorem mcX0_54 (hX : Cx SX X "NotLikeThem$Chance" cc nL ret) {a1 a2 : Value} (hd : decode cc pc = .ok (.invokevirtual 54, 3)) (hR : 2 + 1 ≤ d) (hw : (st.map fun v => v.category).sum ≤ 8) (hC : CX0_drawOnce X.1 [.ref (X.1.2.1 0), a1, a2] M (z_is none M1)) (kk : Z SX X d nL Q (pc + 3) lv (st) M1) : Z SX X d nL Q pc lv (a2 :: a1 :: .ref (X.1.2.1 0) :: st) M :=
  z_callV (As := [a1, a2]) hX lw_good 0 rfl rfl rfl wcX0_drawOnce wnX0 (z_w (List.mem_append_right _ (List.mem_of_getElem? (i := 635) (by decide +kernel))) rfl) wiX0_drawOnce wlX0_drawOnce wyX0_drawOnce hR (by decide) rfl hw hd hC (fun rv M2 h => by obtain ⟨rfl, rfl⟩ := h; exact kk)
theorem mcX0_60 (hX : Cx SX X "NotLikeThem$Chance" cc nL ret) {a1 a2 : Value} {r : Int64} (hd : decode cc pc = .ok (.invokestatic 60, 3)) (hR : 0 + 1 ≤ d) (hw : (st.map fun v => v.category).sum ≤ 8) (hC : CX0_commonDivisor X.1 [a1, a2] M (z_is (some (.long r)) M1)) (kk : Z SX X d nL Q (pc + 3) lv (.long r :: st) M1) : Z SX X d nL Q pc lv (a2 :: a1 :: st) M :=
  z_callS (As := [a1, a2]) hX lw_good wcX0_commonDivisor wnX0 (z_w (List.mem_append_right _ (List.mem_of_getElem? (i := 645) (by decide +kernel))) rfl) wsX0_commonDivisor wyX0_commonDivisor hR (by decide) rfl hw hd hC (fun rv M2 h => by obtain ⟨rfl, rfl⟩ := h; exact kk)
theorem gfX0_15 (hX : Cx SX X "NotLikeThem$Chance" cc nL ret) (hd : decode cc pc = .ok (.getfield 15, 3)) (kk : Z SX X d nL Q (pc + 3) lv (.ref (X.1.2.1 35) :: st) M) : Z SX X d nL Q pc lv (.ref (X.1.2.1 0) :: st) M := z_getR hX 0 4 35 rfl rfl inX0 (by decide) rfl (z_w (List.mem_append_right _ (List.mem_of_getElem? (i := 185) (by decide +kernel))) rfl) hd kk
theorem mcX0_64 (hX : Cx SX X "NotLikeThem$Chance" cc nL ret) {a1 a2 : Value} (hd : decode cc pc = .ok (.invokevirtual 64, 3)) (hR : 1 + 1 ≤ d) (hw : (st.map fun v => v.category).sum ≤ 8) (hC : CX0_handOn X.1 [.ref (X.1.2.1 0), a1, a2] M (z_is none M1)) (kk : Z SX X d nL Q (pc + 3) lv (st) M1) : Z SX X d nL Q pc lv (a2 :: a1 :: .ref (X.1.2.1 0) :: st) M :=
  z_callV (As := [a1, a2]) hX lw_good 0 rfl rfl rfl wcX0_handOn wnX0 (z_w (List.mem_append_right _ (List.mem_of_getElem? (i := 639) (by decide +kernel))) rfl) wiX0_handOn wlX0_handOn wyX0_handOn hR (by decide) rfl hw hd hC (fun rv M2 h => by obtain ⟨rfl, rfl⟩ := h; exact kk)
theorem mcX0_68 (hX : Cx SX X "NotLikeThem$Chance" cc nL ret) {a1 : Value} {r : Int32} (hd : decode cc pc = .ok (.invokestatic 68, 3)) (hR : 0 + 1 ≤ d) (hw : (st.map fun v => v.category).sum ≤ 8) (hC : CJ6_bitCount SX X.1 [a1] M (z_is (some (.int r)) M1)) (kk : Z SX X d nL Q (pc + 3) lv (.int r :: st) M1) : Z SX X d nL Q pc lv (a1 :: st) M :=
  z_callS (As := [a1]) hX lw_good wcJ6_bitCount_0f7a4 wnJ6 (z_w (List.mem_append_right _ (List.mem_of_getElem? (i := 643) (by decide +kernel))) rfl) wsJ6_bitCount_0f7a4 wyJ6_bitCount_0f7a4 hR (by decide) rfl hw hd hC (fun rv M2 h => by obtain ⟨rfl, rfl⟩ := h; exact kk)
theorem gfX1_9 (hX : Cx SX X "NotLikeThem$Heat" cc nL ret) (hd : decode cc pc = .ok (.getfield 9, 3)) (kk : Z SX X d nL Q (pc + 3) lv (.ref (X.1.2.1 7) :: st) M) : Z SX X d nL Q pc lv (.ref (X.1.2.1 1) :: st) M := z_getR hX 1 0 7 rfl rfl inX1 (by decide) rfl (z_w (List.mem_append_right _ (List.mem_of_getElem? (i := 93) (by decide +kernel))) rfl) hd kk
theorem mcX1_15 (hX : Cx SX X "NotLikeThem$Heat" cc nL ret) {a1 : Value} {r : Int32} (hd : decode cc pc = .ok (.invokevirtual 15, 3)) (hR : 0 + 1 ≤ d) (hw : (st.map fun v => v.category).sum ≤ 8) (hC : CX7_countKind X.1 [.ref (X.1.2.1 7), a1] M (z_is (some (.int r)) M1)) (kk : Z SX X d nL Q (pc + 3) lv (.int r :: st) M1) : Z SX X d nL Q pc lv (a1 :: .ref (X.1.2.1 7) :: st) M :=
  z_callV (As := [a1]) hX lw_good 7 rfl rfl rfl wcX7_countKind wnX7 (z_w (List.mem_append_right _ (List.mem_of_getElem? (i := 496) (by decide +kernel))) rfl) wiX7_countKind wlX7_countKind wyX7_countKind hR (by decide) rfl hw hd hC (fun rv M2 h => by obtain ⟨rfl, rfl⟩ := h; exact kk)
theorem mcX1_21 (hX : Cx SX X "NotLikeThem$Heat" cc nL ret) {r : Int32} (hd : decode cc pc = .ok (.invokevirtual 21, 3)) (hR : 0 + 1 ≤ d) (hw : (st.map fun v => v.category).sum ≤ 8) (hC : CX7_size X.1 [.ref (X.1.2.1 7)] M (z_is (some (.int r)) M1)) (kk : Z SX X d nL Q (pc + 3) lv (.int r :: st) M1) : Z SX X d nL Q pc lv (.ref (X.1.2.1 7) :: st) M :=
  z_callV (As := []) hX lw_good 7 rfl rfl rfl wcX7_size wnX7 (z_w (List.mem_append_right _ (List.mem_of_getElem? (i := 500) (by decide +kernel))) rfl) wiX7_size wlX7_size wyX7_size hR (by decide) rfl hw hd hC (fun rv M2 h => by obtain ⟨rfl, rfl⟩ := h; exact kk)
theorem mcX1_25 (hX : Cx SX X "NotLikeThem$Heat" cc nL ret) {a1 a2 : Value} {r : Int32} (hd : decode cc pc = .ok (.invokevirtual 25, 3)) (hR : 1 + 1 ≤ d) (hw : (st.map fun v => v.category).sum ≤ 8) (hC : CX1_isEvenPair X.1 [.ref (X.1.2.1 1), a1, a2] M (z_is (some (.int r)) M1)) (kk : Z SX X d nL Q (pc + 3) lv (.int r :: st) M1) : Z SX X d nL Q pc lv (a2 :: a1 :: .ref (X.1.2.1 1) :: st) M :=
  z_callV (As := [a1, a2]) hX lw_good 1 rfl rfl rfl wcX1_isEvenPair wnX1 (z_w (List.mem_append_right _ (List.mem_of_getElem? (i := 501) (by decide +kernel))) rfl) wiX1_isEvenPair wlX1_isEvenPair wyX1_isEvenPair hR (by decide) rfl hw hd hC (fun rv M2 h => by obtain ⟨rfl, rfl⟩ := h; exact kk)
theorem mcX1_29 (hX : Cx SX X "NotLikeThem$Heat" cc nL ret) {a1 a2 : Value} {r : Int32} (hd : decode cc pc = .ok (.invokevirtual 29, 3)) (hR : 0 + 1 ≤ d) (hw : (st.map fun v => v.category).sum ≤ 8) (hC : CX7_weight X.1 [.ref (X.1.2.1 7), a1, a2] M (z_is (some (.int r)) M1)) (kk : Z SX X d nL Q (pc + 3) lv (.int r :: st) M1) : Z SX X d nL Q pc lv (a2 :: a1 :: .ref (X.1.2.1 7) :: st) M :=
  z_callV (As := [a1, a2]) hX lw_good 7 rfl rfl rfl wcX7_weight wnX7 (z_w (List.mem_append_right _ (List.mem_of_getElem? (i := 505) (by decide +kernel))) rfl) wiX7_weight wlX7_weight wyX7_weight hR (by decide) rfl hw hd hC (fun rv M2 h => by obtain ⟨rfl, rfl⟩ := h; exact kk)
theorem mcX1_33 (hX : Cx SX X "NotLikeThem$Heat" cc nL ret) {a1 : Value} {r : Int32} (hd : decode cc pc = .ok (.invokevirtual 33, 3)) (hR : 0 + 1 ≤ d) (hw : (st.map fun v => v.category).sum ≤ 8) (hC : CX7_kind X.1 [.ref (X.1.2.1 7), a1] M (z_is (some (.int r)) M1)) (kk : Z SX X d nL Q (pc + 3) lv (.int r :: st) M1) : Z SX X d nL Q pc lv (a1 :: .ref (X.1.2.1 7) :: st) M :=
  z_callV (As := [a1]) hX lw_good 7 rfl rfl rfl wcX7_kind wnX7 (z_w (List.mem_append_right _ (List.mem_of_getElem? (i := 506) (by decide +kernel))) rfl) wiX7_kind wlX7_kind wyX7_kind hR (by decide) rfl hw hd hC (fun rv M2 h => by obtain ⟨rfl, rfl⟩ := h; exact kk)
theorem mcX1_36 (hX : Cx SX X "NotLikeThem$Heat" cc nL ret) {a1 a2 : Value} {r : Int32} (hd : decode cc pc = .ok (.invokevirtual 36, 3)) (hR : 1 + 1 ≤ d) (hw : (st.map fun v => v.category).sum ≤ 8) (hC : CX1_ofLean X.1 [.ref (X.1.2.1 1), a1, a2] M (z_is (some (.int r)) M1)) (kk : Z SX X d nL Q (pc + 3) lv (.int r :: st) M1) : Z SX X d nL Q pc lv (a2 :: a1 :: .ref (X.1.2.1 1) :: st) M :=
  z_callV (As := [a1, a2]) hX lw_good 1 rfl rfl rfl wcX1_ofLean wnX1 (z_w (List.mem_append_right _ (List.mem_of_getElem? (i := 515) (by decide +kernel))) rfl) wiX1_ofLean wlX1_ofLean wyX1_ofLean hR (by decide) rfl hw hd hC (fun rv M2 h => by obtain ⟨rfl, rfl⟩ := h; exact kk)
theorem mcX1_39 (hX : Cx SX X "NotLikeThem$Heat" cc nL ret) {a1 a2 a3 : Value} {r : Int32} (hd : decode cc pc = .ok (.invokevirtual 39, 3)) (hR : 1 + 1 ≤ d) (hw : (st.map fun v => v.category).sum ≤ 8) (hC : CX1_ofPair X.1 [.ref (X.1.2.1 1), a1, a2, a3] M (z_is (some (.int r)) M1)) (kk : Z SX X d nL Q (pc + 3) lv (.int r :: st) M1) : Z SX X d nL Q pc lv (a3 :: a2 :: a1 :: .ref (X.1.2.1 1) :: st) M :=
  z_callV (As := [a1, a2, a3]) hX lw_good 1 rfl rfl rfl wcX1_ofPair wnX1 (z_w (List.mem_append_right _ (List.mem_of_getElem? (i := 521) (by decide +kernel))) rfl) wiX1_ofPair wlX1_ofPair wyX1_ofPair hR (by decide) rfl hw hd hC (fun rv M2 h => by obtain ⟨rfl, rfl⟩ := h; exact kk)
theorem mcX1_43 (hX : Cx SX X "NotLikeThem$Heat" cc nL ret) {a1 a2 : Value} {r : Int32} (hd : decode cc pc = .ok (.invokestatic 43, 3)) (hR : 0 + 1 ≤ d) (hw : (st.map fun v => v.category).sum ≤ 8) (hC : CX7_worn X.1 [a1, a2] M (z_is (some (.int r)) M1)) (kk : Z SX X d nL Q (pc + 3) lv (.int r :: st) M1) : Z SX X d nL Q pc lv (a2 :: a1 :: st) M :=
  z_callS (As := [a1, a2]) hX lw_good wcX7_worn wnX7 (z_w (List.mem_append_right _ (List.mem_of_getElem? (i := 519) (by decide +kernel))) rfl) wsX7_worn wyX7_worn hR (by decide) rfl hw hd hC (fun rv M2 h => by obtain ⟨rfl, rfl⟩ := h; exact kk)
theorem mcX1_46 (hX : Cx SX X "NotLikeThem$Heat" cc nL ret) {a1 : Value} {r : Int32} (hd : decode cc pc = .ok (.invokevirtual 46, 3)) (hR : 0 + 1 ≤ d) (hw : (st.map fun v => v.category).sum ≤ 8) (hC : CX7_lean X.1 [.ref (X.1.2.1 7), a1] M (z_is (some (.int r)) M1)) (kk : Z SX X d nL Q (pc + 3) lv (.int r :: st) M1) : Z SX X d nL Q pc lv (a1 :: .ref (X.1.2.1 7) :: st) M :=
  z_callV (As := [a1]) hX lw_good 7 rfl rfl rfl wcX7_lean wnX7 (z_w (List.mem_append_right _ (List.mem_of_getElem? (i := 520) (by decide +kernel))) rfl) wiX7_lean wlX7_lean wyX7_lean hR (by decide) rfl hw hd hC (fun rv M2 h => by obtain ⟨rfl, rfl⟩ := h; exact kk)
theorem gfX2_15 (hX : Cx SX X "NotLikeThem$Picture" cc nL ret) (hd : decode cc pc = .ok (.getfield 15, 3)) (kk : Z SX X d nL Q (pc + 3) lv (.int (M.1 2 2) :: st) M) : Z SX X d nL Q pc lv (.ref (X.1.2.1 2) :: st) M := z_getI hX 2 2 rfl rfl inX2 (by decide) rfl (z_w (List.mem_append_right _ (List.mem_of_getElem? (i := 206) (by decide +kernel))) rfl) hd kk
theorem mcX2_23 (hX : Cx SX X "NotLikeThem$Picture" cc nL ret) {r : Int32} (hd : decode cc pc = .ok (.invokevirtual 23, 3)) (hR : 0 + 1 ≤ d) (hw : (st.map fun v => v.category).sum ≤ 8) (hC : CX2_isFull X.1 [.ref (X.1.2.1 2)] M (z_is (some (.int r)) M1)) (kk : Z SX X d nL Q (pc + 3) lv (.int r :: st) M1) : Z SX X d nL Q pc lv (.ref (X.1.2.1 2) :: st) M :=
  z_callV (As := []) hX lw_good 2 rfl rfl rfl wcX2_isFull wnX2 (z_w (List.mem_append_right _ (List.mem_of_getElem? (i := 660) (by decide +kernel))) rfl) wiX2_isFull wlX2_isFull wyX2_isFull hR (by decide) rfl hw hd hC (fun rv M2 h => by obtain ⟨rfl, rfl⟩ := h; exact kk)
theorem gfX2_9 (hX : Cx SX X "NotLikeThem$Picture" cc nL ret) (hd : decode cc pc = .ok (.getfield 9, 3)) (kk : Z SX X d nL Q (pc + 3) lv (.ref (X.1.2.1 36) :: st) M) : Z SX X d nL Q pc lv (.ref (X.1.2.1 2) :: st) M := z_getR hX 2 1 36 rfl rfl inX2 (by decide) rfl (z_w (List.mem_append_right _ (List.mem_of_getElem? (i := 205) (by decide +kernel))) rfl) hd kk
theorem pfX2_15 (hX : Cx SX X "NotLikeThem$Picture" cc nL ret) {v : Int32} (hd : decode cc pc = .ok (.putfield 15, 3)) (kk : ∀ M1, M1 = z_st M 2 2 v → Z SX X d nL Q (pc + 3) lv st M1) : Z SX X d nL Q pc lv (.int v :: .ref (X.1.2.1 2) :: st) M := z_put hX 2 2 tyX2 tyX2_ok nmX2 rfl rfl inX2 (by decide) rfl (z_w (List.mem_append_right _ (List.mem_of_getElem? (i := 206) (by decide +kernel))) rfl) rfl rfl hd (kk _ rfl)
theorem gfX2_19 (hX : Cx SX X "NotLikeThem$Picture" cc nL ret) (hd : decode cc pc = .ok (.getfield 19, 3)) (kk : Z SX X d nL Q (pc + 3) lv (.ref (X.1.2.1 7) :: st) M) : Z SX X d nL Q pc lv (.ref (X.1.2.1 2) :: st) M := z_getR hX 2 0 7 rfl rfl inX2 (by decide) rfl (z_w (List.mem_append_right _ (List.mem_of_getElem? (i := 204) (by decide +kernel))) rfl) hd kk
theorem mcX2_27 (hX : Cx SX X "NotLikeThem$Picture" cc nL ret) {a1 a2 : Value} {r : Int32} (hd : decode cc pc = .ok (.invokevirtual 27, 3)) (hR : 1 + 1 ≤ d) (hw : (st.map fun v => v.category).sum ≤ 8) (hC : CX7_sumOf X.1 [.ref (X.1.2.1 7), a1, a2] M (z_is (some (.int r)) M1)) (kk : Z SX X d nL Q (pc + 3) lv (.int r :: st) M1) : Z SX X d nL Q pc lv (a2 :: a1 :: .ref (X.1.2.1 7) :: st) M :=
  z_callV (As := [a1, a2]) hX lw_good 7 rfl rfl rfl wcX7_sumOf wnX7 (z_w (List.mem_append_right _ (List.mem_of_getElem? (i := 677) (by decide +kernel))) rfl) wiX7_sumOf wlX7_sumOf wyX7_sumOf hR (by decide) rfl hw hd hC (fun rv M2 h => by obtain ⟨rfl, rfl⟩ := h; exact kk)
theorem mcX2_33 (hX : Cx SX X "NotLikeThem$Picture" cc nL ret) {a1 a2 : Value} {r : Int32} (hd : decode cc pc = .ok (.invokestatic 33, 3)) (hR : 0 + 1 ≤ d) (hw : (st.map fun v => v.category).sum ≤ 8) (hC : CX7_worn X.1 [a1, a2] M (z_is (some (.int r)) M1)) (kk : Z SX X d nL Q (pc + 3) lv (.int r :: st) M1) : Z SX X d nL Q pc lv (a2 :: a1 :: st) M :=
  z_callS (As := [a1, a2]) hX lw_good wcX7_worn wnX7 (z_w (List.mem_append_right _ (List.mem_of_getElem? (i := 678) (by decide +kernel))) rfl) wsX7_worn wyX7_worn hR (by decide) rfl hw hd hC (fun rv M2 h => by obtain ⟨rfl, rfl⟩ := h; exact kk)
theorem mcX2_36 (hX : Cx SX X "NotLikeThem$Picture" cc nL ret) {a1 a2 a3 : Value} {r : Int32} (hd : decode cc pc = .ok (.invokestatic 36, 3)) (hR : 0 + 1 ≤ d) (hw : (st.map fun v => v.category).sum ≤ 8) (hC : CX7_nextOf X.1 [a1, a2, a3] M (z_is (some (.int r)) M1)) (kk : Z SX X d nL Q (pc + 3) lv (.int r :: st) M1) : Z SX X d nL Q pc lv (a3 :: a2 :: a1 :: st) M :=
  z_callS (As := [a1, a2, a3]) hX lw_good wcX7_nextOf wnX7 (z_w (List.mem_append_right _ (List.mem_of_getElem? (i := 679) (by decide +kernel))) rfl) wsX7_nextOf wyX7_nextOf hR (by decide) rfl hw hd hC (fun rv M2 h => by obtain ⟨rfl, rfl⟩ := h; exact kk)
theorem mcX2_40 (hX : Cx SX X "NotLikeThem$Picture" cc nL ret) {r : Int32} (hd : decode cc pc = .ok (.invokevirtual 40, 3)) (hR : 0 + 1 ≤ d) (hw : (st.map fun v => v.category).sum ≤ 8) (hC : CX7_size X.1 [.ref (X.1.2.1 7)] M (z_is (some (.int r)) M1)) (kk : Z SX X d nL Q (pc + 3) lv (.int r :: st) M1) : Z SX X d nL Q pc lv (.ref (X.1.2.1 7) :: st) M :=
  z_callV (As := []) hX lw_good 7 rfl rfl rfl wcX7_size wnX7 (z_w (List.mem_append_right _ (List.mem_of_getElem? (i := 688) (by decide +kernel))) rfl) wiX7_size wlX7_size wyX7_size hR (by decide) rfl hw hd hC (fun rv M2 h => by obtain ⟨rfl, rfl⟩ := h; exact kk)
theorem mcX2_43 (hX : Cx SX X "NotLikeThem$Picture" cc nL ret) {a1 : Value} {r : Int32} (hd : decode cc pc = .ok (.invokevirtual 43, 3)) (hR : 2 + 1 ≤ d) (hw : (st.map fun v => v.category).sum ≤ 8) (hC : CX2_kindsOf X.1 [.ref (X.1.2.1 2), a1] M (z_is (some (.int r)) M1)) (kk : Z SX X d nL Q (pc + 3) lv (.int r :: st) M1) : Z SX X d nL Q pc lv (a1 :: .ref (X.1.2.1 2) :: st) M :=
  z_callV (As := [a1]) hX lw_good 2 rfl rfl rfl wcX2_kindsOf wnX2 (z_w (List.mem_append_right _ (List.mem_of_getElem? (i := 689) (by decide +kernel))) rfl) wiX2_kindsOf wlX2_kindsOf wyX2_kindsOf hR (by decide) rfl hw hd hC (fun rv M2 h => by obtain ⟨rfl, rfl⟩ := h; exact kk)
theorem mcX2_47 (hX : Cx SX X "NotLikeThem$Picture" cc nL ret) {a1 : Value} {r : Int32} (hd : decode cc pc = .ok (.invokestatic 47, 3)) (hR : 0 + 1 ≤ d) (hw : (st.map fun v => v.category).sum ≤ 8) (hC : CJ6_bitCount SX X.1 [a1] M (z_is (some (.int r)) M1)) (kk : Z SX X d nL Q (pc + 3) lv (.int r :: st) M1) : Z SX X d nL Q pc lv (a1 :: st) M :=
  z_callS (As := [a1]) hX lw_good wcJ6_bitCount_0f7a4 wnJ6 (z_w (List.mem_append_right _ (List.mem_of_getElem? (i := 690) (by decide +kernel))) rfl) wsJ6_bitCount_0f7a4 wyJ6_bitCount_0f7a4 hR (by decide) rfl hw hd hC (fun rv M2 h => by obtain ⟨rfl, rfl⟩ := h; exact kk)
theorem mcX2_52 (hX : Cx SX X "NotLikeThem$Picture" cc nL ret) {a1 : Value} {r : Int32} (hd : decode cc pc = .ok (.invokestatic 52, 3)) (hR : 0 + 1 ≤ d) (hw : (st.map fun v => v.category).sum ≤ 8) (hC : CX2_leastKind X.1 [a1] M (z_is (some (.int r)) M1)) (kk : Z SX X d nL Q (pc + 3) lv (.int r :: st) M1) : Z SX X d nL Q pc lv (a1 :: st) M :=
  z_callS (As := [a1]) hX lw_good wcX2_leastKind wnX2 (z_w (List.mem_append_right _ (List.mem_of_getElem? (i := 699) (by decide +kernel))) rfl) wsX2_leastKind wyX2_leastKind hR (by decide) rfl hw hd hC (fun rv M2 h => by obtain ⟨rfl, rfl⟩ := h; exact kk)
theorem mcX2_55 (hX : Cx SX X "NotLikeThem$Picture" cc nL ret) {a1 : Value} {r : Int32} (hd : decode cc pc = .ok (.invokevirtual 55, 3)) (hR : 0 + 1 ≤ d) (hw : (st.map fun v => v.category).sum ≤ 8) (hC : CX7_kind X.1 [.ref (X.1.2.1 7), a1] M (z_is (some (.int r)) M1)) (kk : Z SX X d nL Q (pc + 3) lv (.int r :: st) M1) : Z SX X d nL Q pc lv (a1 :: .ref (X.1.2.1 7) :: st) M :=
  z_callV (As := [a1]) hX lw_good 7 rfl rfl rfl wcX7_kind wnX7 (z_w (List.mem_append_right _ (List.mem_of_getElem? (i := 702) (by decide +kernel))) rfl) wiX7_kind wlX7_kind wyX7_kind hR (by decide) rfl hw hd hC (fun rv M2 h => by obtain ⟨rfl, rfl⟩ := h; exact kk)
theorem mcX2_58 (hX : Cx SX X "NotLikeThem$Picture" cc nL ret) {a1 a2 : Value} (hd : decode cc pc = .ok (.invokevirtual 58, 3)) (hR : 1 + 1 ≤ d) (hw : (st.map fun v => v.category).sum ≤ 8) (hC : CX7_setKind X.1 [.ref (X.1.2.1 7), a1, a2] M (z_is none M1)) (kk : Z SX X d nL Q (pc + 3) lv (st) M1) : Z SX X d nL Q pc lv (a2 :: a1 :: .ref (X.1.2.1 7) :: st) M :=
  z_callV (As := [a1, a2]) hX lw_good 7 rfl rfl rfl wcX7_setKind wnX7 (z_w (List.mem_append_right _ (List.mem_of_getElem? (i := 703) (by decide +kernel))) rfl) wiX7_setKind wlX7_setKind wyX7_setKind hR (by decide) rfl hw hd hC (fun rv M2 h => by obtain ⟨rfl, rfl⟩ := h; exact kk)
theorem gfX3_7 (hX : Cx SX X "NotLikeThem$Rests" cc nL ret) (hd : decode cc pc = .ok (.getfield 7, 3)) (kk : Z SX X d nL Q (pc + 3) lv (.ref (X.1.2.1 7) :: st) M) : Z SX X d nL Q pc lv (.ref (X.1.2.1 3) :: st) M := z_getR hX 3 0 7 rfl rfl inX3 (by decide) rfl (z_w (List.mem_append_right _ (List.mem_of_getElem? (i := 103) (by decide +kernel))) rfl) hd kk
theorem mcX3_13 (hX : Cx SX X "NotLikeThem$Rests" cc nL ret) (hd : decode cc pc = .ok (.invokevirtual 13, 3)) (hR : 2 + 1 ≤ d) (hw : (st.map fun v => v.category).sum ≤ 8) (hC : CX7_restless X.1 [.ref (X.1.2.1 7)] M (z_is (some (.ref (X.1.2.1 24))) M1)) (kk : Z SX X d nL Q (pc + 3) lv (.ref (X.1.2.1 24) :: st) M1) : Z SX X d nL Q pc lv (.ref (X.1.2.1 7) :: st) M :=
  z_callV (As := []) hX lw_good 7 rfl rfl rfl wcX7_restless wnX7 (z_w (List.mem_append_right _ (List.mem_of_getElem? (i := 478) (by decide +kernel))) rfl) wiX7_restless wlX7_restless wyX7_restless hR (by decide) rfl hw hd hC (fun rv M2 h => by obtain ⟨rfl, rfl⟩ := h; exact kk)
theorem mcX3_19 (hX : Cx SX X "NotLikeThem$Rests" cc nL ret) {r : Int32} (hd : decode cc pc = .ok (.invokevirtual 19, 3)) (hR : 0 + 1 ≤ d) (hw : (st.map fun v => v.category).sum ≤ 8) (hC : CX7_dresses X.1 [.ref (X.1.2.1 7)] M (z_is (some (.int r)) M1)) (kk : Z SX X d nL Q (pc + 3) lv (.int r :: st) M1) : Z SX X d nL Q pc lv (.ref (X.1.2.1 7) :: st) M :=
  z_callV (As := []) hX lw_good 7 rfl rfl rfl wcX7_dresses wnX7 (z_w (List.mem_append_right _ (List.mem_of_getElem? (i := 479) (by decide +kernel))) rfl) wiX7_dresses wlX7_dresses wyX7_dresses hR (by decide) rfl hw hd hC (fun rv M2 h => by obtain ⟨rfl, rfl⟩ := h; exact kk)
theorem mcX3_23 (hX : Cx SX X "NotLikeThem$Rests" cc nL ret) {a1 : Value} {r : Int32} (hd : decode cc pc = .ok (.invokestatic 23, 3)) (hR : 0 + 1 ≤ d) (hw : (st.map fun v => v.category).sum ≤ 8) (hC : CJ6_bitCount SX X.1 [a1] M (z_is (some (.int r)) M1)) (kk : Z SX X d nL Q (pc + 3) lv (.int r :: st) M1) : Z SX X d nL Q pc lv (a1 :: st) M :=
  z_callS (As := [a1]) hX lw_good wcJ6_bitCount_0f7a4 wnJ6 (z_w (List.mem_append_right _ (List.mem_of_getElem? (i := 576) (by decide +kernel))) rfl) wsJ6_bitCount_0f7a4 wyJ6_bitCount_0f7a4 hR (by decide) rfl hw hd hC (fun rv M2 h => by obtain ⟨rfl, rfl⟩ := h; exact kk)
theorem gfX4_9 (hX : Cx SX X "NotLikeThem$Rounds" cc nL ret) (hd : decode cc pc = .ok (.getfield 9, 3)) (kk : Z SX X d nL Q (pc + 3) lv (.ref (X.1.2.1 7) :: st) M) : Z SX X d nL Q pc lv (.ref (X.1.2.1 4) :: st) M := z_getR hX 4 0 7 rfl rfl inX4 (by decide) rfl (z_w (List.mem_append_right _ (List.mem_of_getElem? (i := 147) (by decide +kernel))) rfl) hd kk
theorem mcX4_48 (hX : Cx SX X "NotLikeThem$Rounds" cc nL ret) (hd : decode cc pc = .ok (.invokevirtual 48, 3)) (hR : 2 + 1 ≤ d) (hw : (st.map fun v => v.category).sum ≤ 8) (hC : CX7_restless X.1 [.ref (X.1.2.1 7)] M (z_is (some (.ref (X.1.2.1 24))) M1)) (kk : Z SX X d nL Q (pc + 3) lv (.ref (X.1.2.1 24) :: st) M1) : Z SX X d nL Q pc lv (.ref (X.1.2.1 7) :: st) M :=
  z_callV (As := []) hX lw_good 7 rfl rfl rfl wcX7_restless wnX7 (z_w (List.mem_append_right _ (List.mem_of_getElem? (i := 538) (by decide +kernel))) rfl) wiX7_restless wlX7_restless wyX7_restless hR (by decide) rfl hw hd hC (fun rv M2 h => by obtain ⟨rfl, rfl⟩ := h; exact kk)
theorem mcX4_54 (hX : Cx SX X "NotLikeThem$Rounds" cc nL ret) {r : Int32} (hd : decode cc pc = .ok (.invokevirtual 54, 3)) (hR : 0 + 1 ≤ d) (hw : (st.map fun v => v.category).sum ≤ 8) (hC : CX7_dresses X.1 [.ref (X.1.2.1 7)] M (z_is (some (.int r)) M1)) (kk : Z SX X d nL Q (pc + 3) lv (.int r :: st) M1) : Z SX X d nL Q pc lv (.ref (X.1.2.1 7) :: st) M :=
  z_callV (As := []) hX lw_good 7 rfl rfl rfl wcX7_dresses wnX7 (z_w (List.mem_append_right _ (List.mem_of_getElem? (i := 539) (by decide +kernel))) rfl) wiX7_dresses wlX7_dresses wyX7_dresses hR (by decide) rfl hw hd hC (fun rv M2 h => by obtain ⟨rfl, rfl⟩ := h; exact kk)
theorem gfX4_21 (hX : Cx SX X "NotLikeThem$Rounds" cc nL ret) (hd : decode cc pc = .ok (.getfield 21, 3)) (kk : Z SX X d nL Q (pc + 3) lv (.ref (X.1.2.1 29) :: st) M) : Z SX X d nL Q pc lv (.ref (X.1.2.1 4) :: st) M := z_getR hX 4 1 29 rfl rfl inX4 (by decide) rfl (z_w (List.mem_append_right _ (List.mem_of_getElem? (i := 148) (by decide +kernel))) rfl) hd kk
theorem gfX4_45 (hX : Cx SX X "NotLikeThem$Rounds" cc nL ret) (hd : decode cc pc = .ok (.getfield 45, 3)) (kk : Z SX X d nL Q (pc + 3) lv (.ref (X.1.2.1 33) :: st) M) : Z SX X d nL Q pc lv (.ref (X.1.2.1 4) :: st) M := z_getR hX 4 5 33 rfl rfl inX4 (by decide) rfl (z_w (List.mem_append_right _ (List.mem_of_getElem? (i := 152) (by decide +kernel))) rfl) hd kk
theorem pfX4_58 (hX : Cx SX X "NotLikeThem$Rounds" cc nL ret) {v : Int32} (hd : decode cc pc = .ok (.putfield 58, 3)) (kk : ∀ M1, M1 = z_st M 4 6 v → Z SX X d nL Q (pc + 3) lv st M1) : Z SX X d nL Q pc lv (.int v :: .ref (X.1.2.1 4) :: st) M := z_put hX 4 6 tyX4 tyX4_ok nmX4 rfl rfl inX4 (by decide) rfl (z_w (List.mem_append_right _ (List.mem_of_getElem? (i := 153) (by decide +kernel))) rfl) rfl rfl hd (kk _ rfl)
theorem pfX4_62 (hX : Cx SX X "NotLikeThem$Rounds" cc nL ret) {v : Int32} (hd : decode cc pc = .ok (.putfield 62, 3)) (kk : ∀ M1, M1 = z_st M 4 8 v → Z SX X d nL Q (pc + 3) lv st M1) : Z SX X d nL Q pc lv (.int v :: .ref (X.1.2.1 4) :: st) M := z_put hX 4 8 tyX4 tyX4_ok nmX4 rfl rfl inX4 (by decide) rfl (z_w (List.mem_append_right _ (List.mem_of_getElem? (i := 155) (by decide +kernel))) rfl) rfl rfl hd (kk _ rfl)
theorem mcX4_65 (hX : Cx SX X "NotLikeThem$Rounds" cc nL ret) {a1 a2 : Value} {r : Int32} (hd : decode cc pc = .ok (.invokevirtual 65, 3)) (hR : 3 + 1 ≤ d) (hw : (st.map fun v => v.category).sum ≤ 8) (hC : CX4_searchFrom X.1 [.ref (X.1.2.1 4), a1, a2] M (z_is (some (.int r)) M1)) (kk : Z SX X d nL Q (pc + 3) lv (.int r :: st) M1) : Z SX X d nL Q pc lv (a2 :: a1 :: .ref (X.1.2.1 4) :: st) M :=
  z_callV (As := [a1, a2]) hX lw_good 4 rfl rfl rfl wcX4_searchFrom wnX4 (z_w (List.mem_append_right _ (List.mem_of_getElem? (i := 540) (by decide +kernel))) rfl) wiX4_searchFrom wlX4_searchFrom wyX4_searchFrom hR (by decide) rfl hw hd hC (fun rv M2 h => by obtain ⟨rfl, rfl⟩ := h; exact kk)
theorem mcX4_69 (hX : Cx SX X "NotLikeThem$Rounds" cc nL ret) {x y : Int32} (hd : decode cc pc = .ok (.invokestatic 69, 3)) (hR : 1 ≤ d) (hw : (st.map fun v => v.category).sum ≤ 8) (kk : Z SX X d nL Q (pc + 3) lv (.int (if y < x then y else x) :: st) M) : Z SX X d nL Q pc lv (.int y :: .int x :: st) M := z_mmin hX (z_w (List.mem_append_right _ (List.mem_of_getElem? (i := 552) (by decide +kernel))) rfl) (z_w (List.mem_append_right _ (List.mem_of_getElem? (i := 553) (by decide +kernel))) rfl) (z_w (List.mem_append_right _ (List.mem_of_getElem? (i := 12) (by decide +kernel))) rfl) (z_w (List.mem_append_right _ (List.mem_of_getElem? (i := 554) (by decide +kernel))) rfl) hR hw hd kk
theorem pfX4_74 (hX : Cx SX X "NotLikeThem$Rounds" cc nL ret) {v : Int32} (hd : decode cc pc = .ok (.putfield 74, 3)) (kk : ∀ M1, M1 = z_st M 4 7 v → Z SX X d nL Q (pc + 3) lv st M1) : Z SX X d nL Q pc lv (.int v :: .ref (X.1.2.1 4) :: st) M := z_put hX 4 7 tyX4 tyX4_ok nmX4 rfl rfl inX4 (by decide) rfl (z_w (List.mem_append_right _ (List.mem_of_getElem? (i := 154) (by decide +kernel))) rfl) rfl rfl hd (kk _ rfl)
theorem mcX4_77 (hX : Cx SX X "NotLikeThem$Rounds" cc nL ret) {a1 : Value} (hd : decode cc pc = .ok (.invokevirtual 77, 3)) (hR : 0 + 1 ≤ d) (hw : (st.map fun v => v.category).sum ≤ 8) (hC : CX4_enter X.1 [.ref (X.1.2.1 4), a1] M (z_is none M1)) (kk : Z SX X d nL Q (pc + 3) lv (st) M1) : Z SX X d nL Q pc lv (a1 :: .ref (X.1.2.1 4) :: st) M :=
  z_callV (As := [a1]) hX lw_good 4 rfl rfl rfl wcX4_enter wnX4 (z_w (List.mem_append_right _ (List.mem_of_getElem? (i := 544) (by decide +kernel))) rfl) wiX4_enter wlX4_enter wyX4_enter hR (by decide) rfl hw hd hC (fun rv M2 h => by obtain ⟨rfl, rfl⟩ := h; exact kk)
theorem gfX4_74 (hX : Cx SX X "NotLikeThem$Rounds" cc nL ret) (hd : decode cc pc = .ok (.getfield 74, 3)) (kk : Z SX X d nL Q (pc + 3) lv (.int (M.1 4 7) :: st) M) : Z SX X d nL Q pc lv (.ref (X.1.2.1 4) :: st) M := z_getI hX 4 7 rfl rfl inX4 (by decide) rfl (z_w (List.mem_append_right _ (List.mem_of_getElem? (i := 154) (by decide +kernel))) rfl) hd kk
theorem gfX4_33 (hX : Cx SX X "NotLikeThem$Rounds" cc nL ret) (hd : decode cc pc = .ok (.getfield 33, 3)) (kk : Z SX X d nL Q (pc + 3) lv (.ref (X.1.2.1 31) :: st) M) : Z SX X d nL Q pc lv (.ref (X.1.2.1 4) :: st) M := z_getR hX 4 3 31 rfl rfl inX4 (by decide) rfl (z_w (List.mem_append_right _ (List.mem_of_getElem? (i := 150) (by decide +kernel))) rfl) hd kk
theorem mcX4_81 (hX : Cx SX X "NotLikeThem$Rounds" cc nL ret) {a1 : Value} (hd : decode cc pc = .ok (.invokevirtual 81, 3)) (hR : 1 + 1 ≤ d) (hw : (st.map fun v => v.category).sum ≤ 8) (hC : CX4_followOne X.1 [.ref (X.1.2.1 4), a1] M (z_is none M1)) (kk : Z SX X d nL Q (pc + 3) lv (st) M1) : Z SX X d nL Q pc lv (a1 :: .ref (X.1.2.1 4) :: st) M :=
  z_callV (As := [a1]) hX lw_good 4 rfl rfl rfl wcX4_followOne wnX4 (z_w (List.mem_append_right _ (List.mem_of_getElem? (i := 548) (by decide +kernel))) rfl) wiX4_followOne wlX4_followOne wyX4_followOne hR (by decide) rfl hw hd hC (fun rv M2 h => by obtain ⟨rfl, rfl⟩ := h; exact kk)
theorem mcX4_84 (hX : Cx SX X "NotLikeThem$Rounds" cc nL ret) {a1 a2 : Value} {r : Int32} (hd : decode cc pc = .ok (.invokevirtual 84, 3)) (hR : 2 + 1 ≤ d) (hw : (st.map fun v => v.category).sum ≤ 8) (hC : CX4_goBack X.1 [.ref (X.1.2.1 4), a1, a2] M (z_is (some (.int r)) M1)) (kk : Z SX X d nL Q (pc + 3) lv (.int r :: st) M1) : Z SX X d nL Q pc lv (a2 :: a1 :: .ref (X.1.2.1 4) :: st) M :=
  z_callV (As := [a1, a2]) hX lw_good 4 rfl rfl rfl wcX4_goBack wnX4 (z_w (List.mem_append_right _ (List.mem_of_getElem? (i := 555) (by decide +kernel))) rfl) wiX4_goBack wlX4_goBack wyX4_goBack hR (by decide) rfl hw hd hC (fun rv M2 h => by obtain ⟨rfl, rfl⟩ := h; exact kk)
theorem gfX4_58 (hX : Cx SX X "NotLikeThem$Rounds" cc nL ret) (hd : decode cc pc = .ok (.getfield 58, 3)) (kk : Z SX X d nL Q (pc + 3) lv (.int (M.1 4 6) :: st) M) : Z SX X d nL Q pc lv (.ref (X.1.2.1 4) :: st) M := z_getI hX 4 6 rfl rfl inX4 (by decide) rfl (z_w (List.mem_append_right _ (List.mem_of_getElem? (i := 153) (by decide +kernel))) rfl) hd kk
theorem gfX4_27 (hX : Cx SX X "NotLikeThem$Rounds" cc nL ret) (hd : decode cc pc = .ok (.getfield 27, 3)) (kk : Z SX X d nL Q (pc + 3) lv (.ref (X.1.2.1 30) :: st) M) : Z SX X d nL Q pc lv (.ref (X.1.2.1 4) :: st) M := z_getR hX 4 2 30 rfl rfl inX4 (by decide) rfl (z_w (List.mem_append_right _ (List.mem_of_getElem? (i := 149) (by decide +kernel))) rfl) hd kk
theorem gfX4_39 (hX : Cx SX X "NotLikeThem$Rounds" cc nL ret) (hd : decode cc pc = .ok (.getfield 39, 3)) (kk : Z SX X d nL Q (pc + 3) lv (.ref (X.1.2.1 32) :: st) M) : Z SX X d nL Q pc lv (.ref (X.1.2.1 4) :: st) M := z_getR hX 4 4 32 rfl rfl inX4 (by decide) rfl (z_w (List.mem_append_right _ (List.mem_of_getElem? (i := 151) (by decide +kernel))) rfl) hd kk
theorem gfX4_62 (hX : Cx SX X "NotLikeThem$Rounds" cc nL ret) (hd : decode cc pc = .ok (.getfield 62, 3)) (kk : Z SX X d nL Q (pc + 3) lv (.int (M.1 4 8) :: st) M) : Z SX X d nL Q pc lv (.ref (X.1.2.1 4) :: st) M := z_getI hX 4 8 rfl rfl inX4 (by decide) rfl (z_w (List.mem_append_right _ (List.mem_of_getElem? (i := 155) (by decide +kernel))) rfl) hd kk
theorem mcX4_87 (hX : Cx SX X "NotLikeThem$Rounds" cc nL ret) {a1 a2 : Value} {r : Int32} (hd : decode cc pc = .ok (.invokevirtual 87, 3)) (hR : 1 + 1 ≤ d) (hw : (st.map fun v => v.category).sum ≤ 8) (hC : CX4_close X.1 [.ref (X.1.2.1 4), a1, a2] M (z_is (some (.int r)) M1)) (kk : Z SX X d nL Q (pc + 3) lv (.int r :: st) M1) : Z SX X d nL Q pc lv (a2 :: a1 :: .ref (X.1.2.1 4) :: st) M :=
  z_callV (As := [a1, a2]) hX lw_good 4 rfl rfl rfl wcX4_close wnX4 (z_w (List.mem_append_right _ (List.mem_of_getElem? (i := 559) (by decide +kernel))) rfl) wiX4_close wlX4_close wyX4_close hR (by decide) rfl hw hd hC (fun rv M2 h => by obtain ⟨rfl, rfl⟩ := h; exact kk)
theorem gfX5_15 (hX : Cx SX X "NotLikeThem$Shop" cc nL ret) (hd : decode cc pc = .ok (.getfield 15, 3)) (kk : Z SX X d nL Q (pc + 3) lv (.ref (X.1.2.1 8) :: st) M) : Z SX X d nL Q pc lv (.ref (X.1.2.1 5) :: st) M := z_getR hX 5 1 8 rfl rfl inX5 (by decide) rfl (z_w (List.mem_append_right _ (List.mem_of_getElem? (i := 221) (by decide +kernel))) rfl) hd kk
theorem mcX5_34 (hX : Cx SX X "NotLikeThem$Shop" cc nL ret) {a1 : Value} (hd : decode cc pc = .ok (.invokevirtual 34, 3)) (hR : 3 + 1 ≤ d) (hw : (st.map fun v => v.category).sum ≤ 8) (hC : CX8_stepsBy X.1 [.ref (X.1.2.1 8), a1] M (z_is (some (.ref (X.1.2.1 25))) M1)) (kk : Z SX X d nL Q (pc + 3) lv (.ref (X.1.2.1 25) :: st) M1) : Z SX X d nL Q pc lv (a1 :: .ref (X.1.2.1 8) :: st) M :=
  z_callV (As := [a1]) hX lw_good 8 rfl rfl rfl wcX8_stepsBy wnX8 (z_w (List.mem_append_right _ (List.mem_of_getElem? (i := 715) (by decide +kernel))) rfl) wiX8_stepsBy wlX8_stepsBy wyX8_stepsBy hR (by decide) rfl hw hd hC (fun rv M2 h => by obtain ⟨rfl, rfl⟩ := h; exact kk)
theorem mcX5_40 (hX : Cx SX X "NotLikeThem$Shop" cc nL ret) {a1 : Value} {r : Int32} (hd : decode cc pc = .ok (.invokestatic 40, 3)) (hR : 0 + 1 ≤ d) (hw : (st.map fun v => v.category).sum ≤ 8) (hC : CJ6_bitCount SX X.1 [a1] M (z_is (some (.int r)) M1)) (kk : Z SX X d nL Q (pc + 3) lv (.int r :: st) M1) : Z SX X d nL Q pc lv (a1 :: st) M :=
  z_callS (As := [a1]) hX lw_good wcJ6_bitCount_0f7a4 wnJ6 (z_w (List.mem_append_right _ (List.mem_of_getElem? (i := 716) (by decide +kernel))) rfl) wsJ6_bitCount_0f7a4 wyJ6_bitCount_0f7a4 hR (by decide) rfl hw hd hC (fun rv M2 h => by obtain ⟨rfl, rfl⟩ := h; exact kk)
theorem mcX5_46 (hX : Cx SX X "NotLikeThem$Shop" cc nL ret) {a1 a2 : Value} (hd : decode cc pc = .ok (.invokevirtual 46, 3)) (hR : 4 + 1 ≤ d) (hw : (st.map fun v => v.category).sum ≤ 8) (hC : CX5_tally X.1 [.ref (X.1.2.1 5), a1, a2] M (z_is none M1)) (kk : Z SX X d nL Q (pc + 3) lv (st) M1) : Z SX X d nL Q pc lv (a2 :: a1 :: .ref (X.1.2.1 5) :: st) M :=
  z_callV (As := [a1, a2]) hX lw_good 5 rfl rfl rfl wcX5_tally wnX5 (z_w (List.mem_append_right _ (List.mem_of_getElem? (i := 728) (by decide +kernel))) rfl) wiX5_tally wlX5_tally wyX5_tally hR (by decide) rfl hw hd hC (fun rv M2 h => by obtain ⟨rfl, rfl⟩ := h; exact kk)
theorem gfX5_31 (hX : Cx SX X "NotLikeThem$Shop" cc nL ret) (hd : decode cc pc = .ok (.getfield 31, 3)) (kk : Z SX X d nL Q (pc + 3) lv (.ref (X.1.2.1 30) :: st) M) : Z SX X d nL Q pc lv (.ref (X.1.2.1 5) :: st) M := z_getR hX 5 3 30 rfl rfl inX5 (by decide) rfl (z_w (List.mem_append_right _ (List.mem_of_getElem? (i := 223) (by decide +kernel))) rfl) hd kk
theorem mcX5_50 (hX : Cx SX X "NotLikeThem$Shop" cc nL ret) {x y : Int32} (hd : decode cc pc = .ok (.invokestatic 50, 3)) (hR : 1 ≤ d) (hw : (st.map fun v => v.category).sum ≤ 8) (kk : Z SX X d nL Q (pc + 3) lv (.int (if y < x then y else x) :: st) M) : Z SX X d nL Q pc lv (.int y :: .int x :: st) M := z_mmin hX (z_w (List.mem_append_right _ (List.mem_of_getElem? (i := 733) (by decide +kernel))) rfl) (z_w (List.mem_append_right _ (List.mem_of_getElem? (i := 553) (by decide +kernel))) rfl) (z_w (List.mem_append_right _ (List.mem_of_getElem? (i := 12) (by decide +kernel))) rfl) (z_w (List.mem_append_right _ (List.mem_of_getElem? (i := 554) (by decide +kernel))) rfl) hR hw hd kk
theorem gfX5_9 (hX : Cx SX X "NotLikeThem$Shop" cc nL ret) (hd : decode cc pc = .ok (.getfield 9, 3)) (kk : Z SX X d nL Q (pc + 3) lv (.ref (X.1.2.1 7) :: st) M) : Z SX X d nL Q pc lv (.ref (X.1.2.1 5) :: st) M := z_getR hX 5 0 7 rfl rfl inX5 (by decide) rfl (z_w (List.mem_append_right _ (List.mem_of_getElem? (i := 220) (by decide +kernel))) rfl) hd kk
theorem mcX5_56 (hX : Cx SX X "NotLikeThem$Shop" cc nL ret) {r : Int32} (hd : decode cc pc = .ok (.invokevirtual 56, 3)) (hR : 0 + 1 ≤ d) (hw : (st.map fun v => v.category).sum ≤ 8) (hC : CX7_dresses X.1 [.ref (X.1.2.1 7)] M (z_is (some (.int r)) M1)) (kk : Z SX X d nL Q (pc + 3) lv (.int r :: st) M1) : Z SX X d nL Q pc lv (.ref (X.1.2.1 7) :: st) M :=
  z_callV (As := []) hX lw_good 7 rfl rfl rfl wcX7_dresses wnX7 (z_w (List.mem_append_right _ (List.mem_of_getElem? (i := 732) (by decide +kernel))) rfl) wiX7_dresses wlX7_dresses wyX7_dresses hR (by decide) rfl hw hd hC (fun rv M2 h => by obtain ⟨rfl, rfl⟩ := h; exact kk)
theorem gfX5_25 (hX : Cx SX X "NotLikeThem$Shop" cc nL ret) (hd : decode cc pc = .ok (.getfield 25, 3)) (kk : Z SX X d nL Q (pc + 3) lv (.ref (X.1.2.1 29) :: st) M) : Z SX X d nL Q pc lv (.ref (X.1.2.1 5) :: st) M := z_getR hX 5 2 29 rfl rfl inX5 (by decide) rfl (z_w (List.mem_append_right _ (List.mem_of_getElem? (i := 222) (by decide +kernel))) rfl) hd kk
theorem gfX7_29 (hX : Cx SX X "NotLikeThem$Town" cc nL ret) (hd : decode cc pc = .ok (.getfield 29, 3)) (kk : Z SX X d nL Q (pc + 3) lv (.int (M.1 7 5) :: st) M) : Z SX X d nL Q pc lv (.ref (X.1.2.1 7) :: st) M := z_getI hX 7 5 rfl rfl inX7 (by decide) rfl (z_w (List.mem_append_right _ (List.mem_of_getElem? (i := 67) (by decide +kernel))) rfl) hd kk
theorem gfX7_36 (hX : Cx SX X "NotLikeThem$Town" cc nL ret) (hd : decode cc pc = .ok (.getfield 36, 3)) (kk : Z SX X d nL Q (pc + 3) lv (.int (M.1 7 7) :: st) M) : Z SX X d nL Q pc lv (.ref (X.1.2.1 7) :: st) M := z_getI hX 7 7 rfl rfl inX7 (by decide) rfl (z_w (List.mem_append_right _ (List.mem_of_getElem? (i := 69) (by decide +kernel))) rfl) hd kk
theorem mcX7_39 (hX : Cx SX X "NotLikeThem$Town" cc nL ret) {r : Int32} (hd : decode cc pc = .ok (.invokevirtual 39, 3)) (hR : 0 + 1 ≤ d) (hw : (st.map fun v => v.category).sum ≤ 8) (hC : CX7_dresses X.1 [.ref (X.1.2.1 7)] M (z_is (some (.int r)) M1)) (kk : Z SX X d nL Q (pc + 3) lv (.int r :: st) M1) : Z SX X d nL Q pc lv (.ref (X.1.2.1 7) :: st) M :=
  z_callV (As := []) hX lw_good 7 rfl rfl rfl wcX7_dresses wnX7 (z_w (List.mem_append_right _ (List.mem_of_getElem? (i := 341) (by decide +kernel))) rfl) wiX7_dresses wlX7_dresses wyX7_dresses hR (by decide) rfl hw hd hC (fun rv M2 h => by obtain ⟨rfl, rfl⟩ := h; exact kk)
theorem pfX7_29 (hX : Cx SX X "NotLikeThem$Town" cc nL ret) {v : Int32} (hd : decode cc pc = .ok (.putfield 29, 3)) (kk : ∀ M1, M1 = z_st M 7 5 v → Z SX X d nL Q (pc + 3) lv st M1) : Z SX X d nL Q pc lv (.int v :: .ref (X.1.2.1 7) :: st) M := z_put hX 7 5 tyX7 tyX7_ok nmX7 rfl rfl inX7 (by decide) rfl (z_w (List.mem_append_right _ (List.mem_of_getElem? (i := 67) (by decide +kernel))) rfl) rfl rfl hd (kk _ rfl)
theorem gfX7_11 (hX : Cx SX X "NotLikeThem$Town" cc nL ret) (hd : decode cc pc = .ok (.getfield 11, 3)) (kk : Z SX X d nL Q (pc + 3) lv (.ref (X.1.2.1 20) :: st) M) : Z SX X d nL Q pc lv (.ref (X.1.2.1 7) :: st) M := z_getR hX 7 0 20 rfl rfl inX7 (by decide) rfl (z_w (List.mem_append_right _ (List.mem_of_getElem? (i := 62) (by decide +kernel))) rfl) hd kk
theorem gfX7_16 (hX : Cx SX X "NotLikeThem$Town" cc nL ret) (hd : decode cc pc = .ok (.getfield 16, 3)) (kk : Z SX X d nL Q (pc + 3) lv (.ref (X.1.2.1 21) :: st) M) : Z SX X d nL Q pc lv (.ref (X.1.2.1 7) :: st) M := z_getR hX 7 1 21 rfl rfl inX7 (by decide) rfl (z_w (List.mem_append_right _ (List.mem_of_getElem? (i := 63) (by decide +kernel))) rfl) hd kk
theorem gfX7_20 (hX : Cx SX X "NotLikeThem$Town" cc nL ret) (hd : decode cc pc = .ok (.getfield 20, 3)) (kk : Z SX X d nL Q (pc + 3) lv (.ref (X.1.2.1 22) :: st) M) : Z SX X d nL Q pc lv (.ref (X.1.2.1 7) :: st) M := z_getR hX 7 2 22 rfl rfl inX7 (by decide) rfl (z_w (List.mem_append_right _ (List.mem_of_getElem? (i := 64) (by decide +kernel))) rfl) hd kk
theorem mcX7_43 (hX : Cx SX X "NotLikeThem$Town" cc nL ret) {a1 : Value} (hd : decode cc pc = .ok (.invokevirtual 43, 3)) (hR : 0 + 1 ≤ d) (hw : (st.map fun v => v.category).sum ≤ 8) (hC : CX7_changed X.1 [.ref (X.1.2.1 7), a1] M (z_is none M1)) (kk : Z SX X d nL Q (pc + 3) lv (st) M1) : Z SX X d nL Q pc lv (a1 :: .ref (X.1.2.1 7) :: st) M :=
  z_callV (As := [a1]) hX lw_good 7 rfl rfl rfl wcX7_changed wnX7 (z_w (List.mem_append_right _ (List.mem_of_getElem? (i := 273) (by decide +kernel))) rfl) wiX7_changed wlX7_changed wyX7_changed hR (by decide) rfl hw hd hC (fun rv M2 h => by obtain ⟨rfl, rfl⟩ := h; exact kk)
theorem gfX7_26 (hX : Cx SX X "NotLikeThem$Town" cc nL ret) (hd : decode cc pc = .ok (.getfield 26, 3)) (kk : Z SX X d nL Q (pc + 3) lv (.ref (X.1.2.1 24) :: st) M) : Z SX X d nL Q pc lv (.ref (X.1.2.1 7) :: st) M := z_getR hX 7 4 24 rfl rfl inX7 (by decide) rfl (z_w (List.mem_append_right _ (List.mem_of_getElem? (i := 66) (by decide +kernel))) rfl) hd kk
theorem gfX7_33 (hX : Cx SX X "NotLikeThem$Town" cc nL ret) (hd : decode cc pc = .ok (.getfield 33, 3)) (kk : Z SX X d nL Q (pc + 3) lv (.int (M.1 7 6) :: st) M) : Z SX X d nL Q pc lv (.ref (X.1.2.1 7) :: st) M := z_getI hX 7 6 rfl rfl inX7 (by decide) rfl (z_w (List.mem_append_right _ (List.mem_of_getElem? (i := 68) (by decide +kernel))) rfl) hd kk
theorem pfX7_33 (hX : Cx SX X "NotLikeThem$Town" cc nL ret) {v : Int32} (hd : decode cc pc = .ok (.putfield 33, 3)) (kk : ∀ M1, M1 = z_st M 7 6 v → Z SX X d nL Q (pc + 3) lv st M1) : Z SX X d nL Q pc lv (.int v :: .ref (X.1.2.1 7) :: st) M := z_put hX 7 6 tyX7 tyX7_ok nmX7 rfl rfl inX7 (by decide) rfl (z_w (List.mem_append_right _ (List.mem_of_getElem? (i := 68) (by decide +kernel))) rfl) rfl rfl hd (kk _ rfl)
theorem pfX7_36 (hX : Cx SX X "NotLikeThem$Town" cc nL ret) {v : Int32} (hd : decode cc pc = .ok (.putfield 36, 3)) (kk : ∀ M1, M1 = z_st M 7 7 v → Z SX X d nL Q (pc + 3) lv st M1) : Z SX X d nL Q pc lv (.int v :: .ref (X.1.2.1 7) :: st) M := z_put hX 7 7 tyX7 tyX7_ok nmX7 rfl rfl inX7 (by decide) rfl (z_w (List.mem_append_right _ (List.mem_of_getElem? (i := 69) (by decide +kernel))) rfl) rfl rfl hd (kk _ rfl)
theorem mcX7_47 (hX : Cx SX X "NotLikeThem$Town" cc nL ret) {a1 : Value} {r : Int32} (hd : decode cc pc = .ok (.invokevirtual 47, 3)) (hR : 0 + 1 ≤ d) (hw : (st.map fun v => v.category).sum ≤ 8) (hC : CX7_seenBy X.1 [.ref (X.1.2.1 7), a1] M (z_is (some (.int r)) M1)) (kk : Z SX X d nL Q (pc + 3) lv (.int r :: st) M1) : Z SX X d nL Q pc lv (a1 :: .ref (X.1.2.1 7) :: st) M :=
  z_callV (As := [a1]) hX lw_good 7 rfl rfl rfl wcX7_seenBy wnX7 (z_w (List.mem_append_right _ (List.mem_of_getElem? (i := 750) (by decide +kernel))) rfl) wiX7_seenBy wlX7_seenBy wyX7_seenBy hR (by decide) rfl hw hd hC (fun rv M2 h => by obtain ⟨rfl, rfl⟩ := h; exact kk)
theorem mcX7_51 (hX : Cx SX X "NotLikeThem$Town" cc nL ret) {a1 a2 : Value} {r : Int32} (hd : decode cc pc = .ok (.invokestatic 51, 3)) (hR : 0 + 1 ≤ d) (hw : (st.map fun v => v.category).sum ≤ 8) (hC : CX7_worn X.1 [a1, a2] M (z_is (some (.int r)) M1)) (kk : Z SX X d nL Q (pc + 3) lv (.int r :: st) M1) : Z SX X d nL Q pc lv (a2 :: a1 :: st) M :=
  z_callS (As := [a1, a2]) hX lw_good wcX7_worn wnX7 (z_w (List.mem_append_right _ (List.mem_of_getElem? (i := 349) (by decide +kernel))) rfl) wsX7_worn wyX7_worn hR (by decide) rfl hw hd hC (fun rv M2 h => by obtain ⟨rfl, rfl⟩ := h; exact kk)
theorem mcX7_55 (hX : Cx SX X "NotLikeThem$Town" cc nL ret) {a1 a2 : Value} {r : Int32} (hd : decode cc pc = .ok (.invokevirtual 55, 3)) (hR : 1 + 1 ≤ d) (hw : (st.map fun v => v.category).sum ≤ 8) (hC : CX7_sumOf X.1 [.ref (X.1.2.1 7), a1, a2] M (z_is (some (.int r)) M1)) (kk : Z SX X d nL Q (pc + 3) lv (.int r :: st) M1) : Z SX X d nL Q pc lv (a2 :: a1 :: .ref (X.1.2.1 7) :: st) M :=
  z_callV (As := [a1, a2]) hX lw_good 7 rfl rfl rfl wcX7_sumOf wnX7 (z_w (List.mem_append_right _ (List.mem_of_getElem? (i := 365) (by decide +kernel))) rfl) wiX7_sumOf wlX7_sumOf wyX7_sumOf hR (by decide) rfl hw hd hC (fun rv M2 h => by obtain ⟨rfl, rfl⟩ := h; exact kk)
theorem mcX7_58 (hX : Cx SX X "NotLikeThem$Town" cc nL ret) {a1 a2 a3 : Value} {r : Int32} (hd : decode cc pc = .ok (.invokestatic 58, 3)) (hR : 0 + 1 ≤ d) (hw : (st.map fun v => v.category).sum ≤ 8) (hC : CX7_nextOf X.1 [a1, a2, a3] M (z_is (some (.int r)) M1)) (kk : Z SX X d nL Q (pc + 3) lv (.int r :: st) M1) : Z SX X d nL Q pc lv (a3 :: a2 :: a1 :: st) M :=
  z_callS (As := [a1, a2, a3]) hX lw_good wcX7_nextOf wnX7 (z_w (List.mem_append_right _ (List.mem_of_getElem? (i := 366) (by decide +kernel))) rfl) wsX7_nextOf wyX7_nextOf hR (by decide) rfl hw hd hC (fun rv M2 h => by obtain ⟨rfl, rfl⟩ := h; exact kk)
theorem mcX7_62 (hX : Cx SX X "NotLikeThem$Town" cc nL ret) {a1 a2 : Value} {r : Int32} (hd : decode cc pc = .ok (.invokevirtual 62, 3)) (hR : 2 + 1 ≤ d) (hw : (st.map fun v => v.category).sum ≤ 8) (hC : CX7_isCalm X.1 [.ref (X.1.2.1 7), a1, a2] M (z_is (some (.int r)) M1)) (kk : Z SX X d nL Q (pc + 3) lv (.int r :: st) M1) : Z SX X d nL Q pc lv (a2 :: a1 :: .ref (X.1.2.1 7) :: st) M :=
  z_callV (As := [a1, a2]) hX lw_good 7 rfl rfl rfl wcX7_isCalm wnX7 (z_w (List.mem_append_right _ (List.mem_of_getElem? (i := 361) (by decide +kernel))) rfl) wiX7_isCalm wlX7_isCalm wyX7_isCalm hR (by decide) rfl hw hd hC (fun rv M2 h => by obtain ⟨rfl, rfl⟩ := h; exact kk)
theorem mcX7_66 (hX : Cx SX X "NotLikeThem$Town" cc nL ret) {a1 : Value} (hd : decode cc pc = .ok (.invokevirtual 66, 3)) (hR : 1 + 1 ≤ d) (hw : (st.map fun v => v.category).sum ≤ 8) (hC : CX7_renew X.1 [.ref (X.1.2.1 7), a1] M (z_is none M1)) (kk : Z SX X d nL Q (pc + 3) lv (st) M1) : Z SX X d nL Q pc lv (a1 :: .ref (X.1.2.1 7) :: st) M :=
  z_callV (As := [a1]) hX lw_good 7 rfl rfl rfl wcX7_renew wnX7 (z_w (List.mem_append_right _ (List.mem_of_getElem? (i := 392) (by decide +kernel))) rfl) wiX7_renew wlX7_renew wyX7_renew hR (by decide) rfl hw hd hC (fun rv M2 h => by obtain ⟨rfl, rfl⟩ := h; exact kk)
theorem mcX7_69 (hX : Cx SX X "NotLikeThem$Town" cc nL ret) {a1 : Value} (hd : decode cc pc = .ok (.invokevirtual 69, 3)) (hR : 0 + 1 ≤ d) (hw : (st.map fun v => v.category).sum ≤ 8) (hC : CX7_fillSums X.1 [.ref (X.1.2.1 7), a1] M (z_is none M1)) (kk : Z SX X d nL Q (pc + 3) lv (st) M1) : Z SX X d nL Q pc lv (a1 :: .ref (X.1.2.1 7) :: st) M :=
  z_callV (As := [a1]) hX lw_good 7 rfl rfl rfl wcX7_fillSums wnX7 (z_w (List.mem_append_right _ (List.mem_of_getElem? (i := 396) (by decide +kernel))) rfl) wiX7_fillSums wlX7_fillSums wyX7_fillSums hR (by decide) rfl hw hd hC (fun rv M2 h => by obtain ⟨rfl, rfl⟩ := h; exact kk)
theorem gfX7_23 (hX : Cx SX X "NotLikeThem$Town" cc nL ret) (hd : decode cc pc = .ok (.getfield 23, 3)) (kk : Z SX X d nL Q (pc + 3) lv (.ref (X.1.2.1 23) :: st) M) : Z SX X d nL Q pc lv (.ref (X.1.2.1 7) :: st) M := z_getR hX 7 3 23 rfl rfl inX7 (by decide) rfl (z_w (List.mem_append_right _ (List.mem_of_getElem? (i := 65) (by decide +kernel))) rfl) hd kk
theorem gfX8_24 (hX : Cx SX X "NotLikeThem$Walk" cc nL ret) (hd : decode cc pc = .ok (.getfield 24, 3)) (kk : Z SX X d nL Q (pc + 3) lv (.int (M.1 8 5) :: st) M) : Z SX X d nL Q pc lv (.ref (X.1.2.1 8) :: st) M := z_getI hX 8 5 rfl rfl inX8 (by decide) rfl (z_w (List.mem_append_right _ (List.mem_of_getElem? (i := 118) (by decide +kernel))) rfl) hd kk
theorem gfX8_28 (hX : Cx SX X "NotLikeThem$Walk" cc nL ret) (hd : decode cc pc = .ok (.getfield 28, 3)) (kk : Z SX X d nL Q (pc + 3) lv (.int (M.1 8 6) :: st) M) : Z SX X d nL Q pc lv (.ref (X.1.2.1 8) :: st) M := z_getI hX 8 6 rfl rfl inX8 (by decide) rfl (z_w (List.mem_append_right _ (List.mem_of_getElem? (i := 119) (by decide +kernel))) rfl) hd kk
theorem gfX8_37 (hX : Cx SX X "NotLikeThem$Walk" cc nL ret) (hd : decode cc pc = .ok (.getfield 37, 3)) (kk : Z SX X d nL Q (pc + 3) lv (.ref (X.1.2.1 7) :: st) M) : Z SX X d nL Q pc lv (.ref (X.1.2.1 8) :: st) M := z_getR hX 8 0 7 rfl rfl inX8 (by decide) rfl (z_w (List.mem_append_right _ (List.mem_of_getElem? (i := 113) (by decide +kernel))) rfl) hd kk
theorem mcX8_41 (hX : Cx SX X "NotLikeThem$Walk" cc nL ret) {r : Int32} (hd : decode cc pc = .ok (.invokevirtual 41, 3)) (hR : 0 + 1 ≤ d) (hw : (st.map fun v => v.category).sum ≤ 8) (hC : CX7_version X.1 [.ref (X.1.2.1 7)] M (z_is (some (.int r)) M1)) (kk : Z SX X d nL Q (pc + 3) lv (.int r :: st) M1) : Z SX X d nL Q pc lv (.ref (X.1.2.1 7) :: st) M :=
  z_callV (As := []) hX lw_good 7 rfl rfl rfl wcX7_version wnX7 (z_w (List.mem_append_right _ (List.mem_of_getElem? (i := 384) (by decide +kernel))) rfl) wiX7_version wlX7_version wyX7_version hR (by decide) rfl hw hd hC (fun rv M2 h => by obtain ⟨rfl, rfl⟩ := h; exact kk)
theorem mcX8_47 (hX : Cx SX X "NotLikeThem$Walk" cc nL ret) (hd : decode cc pc = .ok (.invokevirtual 47, 3)) (hR : 2 + 1 ≤ d) (hw : (st.map fun v => v.category).sum ≤ 8) (hC : CX7_restless X.1 [.ref (X.1.2.1 7)] M (z_is (some (.ref (X.1.2.1 24))) M1)) (kk : Z SX X d nL Q (pc + 3) lv (.ref (X.1.2.1 24) :: st) M1) : Z SX X d nL Q pc lv (.ref (X.1.2.1 7) :: st) M :=
  z_callV (As := []) hX lw_good 7 rfl rfl rfl wcX7_restless wnX7 (z_w (List.mem_append_right _ (List.mem_of_getElem? (i := 388) (by decide +kernel))) rfl) wiX7_restless wlX7_restless wyX7_restless hR (by decide) rfl hw hd hC (fun rv M2 h => by obtain ⟨rfl, rfl⟩ := h; exact kk)
theorem mcX8_51 (hX : Cx SX X "NotLikeThem$Walk" cc nL ret) {r : Int32} (hd : decode cc pc = .ok (.invokevirtual 51, 3)) (hR : 0 + 1 ≤ d) (hw : (st.map fun v => v.category).sum ≤ 8) (hC : CX7_dresses X.1 [.ref (X.1.2.1 7)] M (z_is (some (.int r)) M1)) (kk : Z SX X d nL Q (pc + 3) lv (.int r :: st) M1) : Z SX X d nL Q pc lv (.ref (X.1.2.1 7) :: st) M :=
  z_callV (As := []) hX lw_good 7 rfl rfl rfl wcX7_dresses wnX7 (z_w (List.mem_append_right _ (List.mem_of_getElem? (i := 400) (by decide +kernel))) rfl) wiX7_dresses wlX7_dresses wyX7_dresses hR (by decide) rfl hw hd hC (fun rv M2 h => by obtain ⟨rfl, rfl⟩ := h; exact kk)
theorem gfX8_9 (hX : Cx SX X "NotLikeThem$Walk" cc nL ret) (hd : decode cc pc = .ok (.getfield 9, 3)) (kk : Z SX X d nL Q (pc + 3) lv (.ref (X.1.2.1 25) :: st) M) : Z SX X d nL Q pc lv (.ref (X.1.2.1 8) :: st) M := z_getR hX 8 1 25 rfl rfl inX8 (by decide) rfl (z_w (List.mem_append_right _ (List.mem_of_getElem? (i := 114) (by decide +kernel))) rfl) hd kk
theorem mcX8_54 (hX : Cx SX X "NotLikeThem$Walk" cc nL ret) {a1 a2 : Value} {r : Int32} (hd : decode cc pc = .ok (.invokevirtual 54, 3)) (hR : 1 + 1 ≤ d) (hw : (st.map fun v => v.category).sum ≤ 8) (hC : CX8_oneByOne X.1 [.ref (X.1.2.1 8), a1, a2] M (z_is (some (.int r)) M1)) (kk : Z SX X d nL Q (pc + 3) lv (.int r :: st) M1) : Z SX X d nL Q pc lv (a2 :: a1 :: .ref (X.1.2.1 8) :: st) M :=
  z_callV (As := [a1, a2]) hX lw_good 8 rfl rfl rfl wcX8_oneByOne wnX8 (z_w (List.mem_append_right _ (List.mem_of_getElem? (i := 401) (by decide +kernel))) rfl) wiX8_oneByOne wlX8_oneByOne wyX8_oneByOne hR (by decide) rfl hw hd hC (fun rv M2 h => by obtain ⟨rfl, rfl⟩ := h; exact kk)
theorem pfX8_24 (hX : Cx SX X "NotLikeThem$Walk" cc nL ret) {v : Int32} (hd : decode cc pc = .ok (.putfield 24, 3)) (kk : ∀ M1, M1 = z_st M 8 5 v → Z SX X d nL Q (pc + 3) lv st M1) : Z SX X d nL Q pc lv (.int v :: .ref (X.1.2.1 8) :: st) M := z_put hX 8 5 tyX8 tyX8_ok nmX8 rfl rfl inX8 (by decide) rfl (z_w (List.mem_append_right _ (List.mem_of_getElem? (i := 118) (by decide +kernel))) rfl) rfl rfl hd (kk _ rfl)
theorem pfX8_28 (hX : Cx SX X "NotLikeThem$Walk" cc nL ret) {v : Int32} (hd : decode cc pc = .ok (.putfield 28, 3)) (kk : ∀ M1, M1 = z_st M 8 6 v → Z SX X d nL Q (pc + 3) lv st M1) : Z SX X d nL Q pc lv (.int v :: .ref (X.1.2.1 8) :: st) M := z_put hX 8 6 tyX8 tyX8_ok nmX8 rfl rfl inX8 (by decide) rfl (z_w (List.mem_append_right _ (List.mem_of_getElem? (i := 119) (by decide +kernel))) rfl) rfl rfl hd (kk _ rfl)
theorem mcX8_58 (hX : Cx SX X "NotLikeThem$Walk" cc nL ret) {r : Int32} (hd : decode cc pc = .ok (.invokevirtual 58, 3)) (hR : 0 + 1 ≤ d) (hw : (st.map fun v => v.category).sum ≤ 8) (hC : CX7_size X.1 [.ref (X.1.2.1 7)] M (z_is (some (.int r)) M1)) (kk : Z SX X d nL Q (pc + 3) lv (.int r :: st) M1) : Z SX X d nL Q pc lv (.ref (X.1.2.1 7) :: st) M :=
  z_callV (As := []) hX lw_good 7 rfl rfl rfl wcX7_size wnX7 (z_w (List.mem_append_right _ (List.mem_of_getElem? (i := 405) (by decide +kernel))) rfl) wiX7_size wlX7_size wyX7_size hR (by decide) rfl hw hd hC (fun rv M2 h => by obtain ⟨rfl, rfl⟩ := h; exact kk)
theorem mcX8_61 (hX : Cx SX X "NotLikeThem$Walk" cc nL ret) {a1 : Value} (hd : decode cc pc = .ok (.invokevirtual 61, 3)) (hR : 3 + 1 ≤ d) (hw : (st.map fun v => v.category).sum ≤ 8) (hC : CX8_stepsBy X.1 [.ref (X.1.2.1 8), a1] M (z_is (some (.ref (X.1.2.1 25))) M1)) (kk : Z SX X d nL Q (pc + 3) lv (.ref (X.1.2.1 25) :: st) M1) : Z SX X d nL Q pc lv (a1 :: .ref (X.1.2.1 8) :: st) M :=
  z_callV (As := [a1]) hX lw_good 8 rfl rfl rfl wcX8_stepsBy wnX8 (z_w (List.mem_append_right _ (List.mem_of_getElem? (i := 380) (by decide +kernel))) rfl) wiX8_stepsBy wlX8_stepsBy wyX8_stepsBy hR (by decide) rfl hw hd hC (fun rv M2 h => by obtain ⟨rfl, rfl⟩ := h; exact kk)
theorem mcX8_65 (hX : Cx SX X "NotLikeThem$Walk" cc nL ret) {a1 : Value} (hd : decode cc pc = .ok (.invokevirtual 65, 3)) (hR : 4 + 1 ≤ d) (hw : (st.map fun v => v.category).sum ≤ 8) (hC : CX8_findRings X.1 [.ref (X.1.2.1 8), a1] M (z_is none M1)) (kk : Z SX X d nL Q (pc + 3) lv (st) M1) : Z SX X d nL Q pc lv (a1 :: .ref (X.1.2.1 8) :: st) M :=
  z_callV (As := [a1]) hX lw_good 8 rfl rfl rfl wcX8_findRings wnX8 (z_w (List.mem_append_right _ (List.mem_of_getElem? (i := 414) (by decide +kernel))) rfl) wiX8_findRings wlX8_findRings wyX8_findRings hR (by decide) rfl hw hd hC (fun rv M2 h => by obtain ⟨rfl, rfl⟩ := h; exact kk)
theorem gfX8_18 (hX : Cx SX X "NotLikeThem$Walk" cc nL ret) (hd : decode cc pc = .ok (.getfield 18, 3)) (kk : Z SX X d nL Q (pc + 3) lv (.ref (X.1.2.1 27) :: st) M) : Z SX X d nL Q pc lv (.ref (X.1.2.1 8) :: st) M := z_getR hX 8 3 27 rfl rfl inX8 (by decide) rfl (z_w (List.mem_append_right _ (List.mem_of_getElem? (i := 116) (by decide +kernel))) rfl) hd kk
theorem gfX8_15 (hX : Cx SX X "NotLikeThem$Walk" cc nL ret) (hd : decode cc pc = .ok (.getfield 15, 3)) (kk : Z SX X d nL Q (pc + 3) lv (.ref (X.1.2.1 26) :: st) M) : Z SX X d nL Q pc lv (.ref (X.1.2.1 8) :: st) M := z_getR hX 8 2 26 rfl rfl inX8 (by decide) rfl (z_w (List.mem_append_right _ (List.mem_of_getElem? (i := 115) (by decide +kernel))) rfl) hd kk
theorem mcX8_69 (hX : Cx SX X "NotLikeThem$Walk" cc nL ret) {x y : Int32} (hd : decode cc pc = .ok (.invokestatic 69, 3)) (hR : 1 ≤ d) (hw : (st.map fun v => v.category).sum ≤ 8) (kk : Z SX X d nL Q (pc + 3) lv (.int (if x < y then y else x) :: st) M) : Z SX X d nL Q pc lv (.int y :: .int x :: st) M := z_mmax hX (z_w (List.mem_append_right _ (List.mem_of_getElem? (i := 458) (by decide +kernel))) rfl) (z_w (List.mem_append_right _ (List.mem_of_getElem? (i := 459) (by decide +kernel))) rfl) (z_w (List.mem_append_right _ (List.mem_of_getElem? (i := 12) (by decide +kernel))) rfl) (z_w (List.mem_append_right _ (List.mem_of_getElem? (i := 460) (by decide +kernel))) rfl) hR hw hd kk
theorem mcX8_75 (hX : Cx SX X "NotLikeThem$Walk" cc nL ret) {a1 a2 : Value} {r : Int32} (hd : decode cc pc = .ok (.invokevirtual 75, 3)) (hR : 4 + 1 ≤ d) (hw : (st.map fun v => v.category).sum ≤ 8) (hC : CX8_lengthOf X.1 [.ref (X.1.2.1 8), a1, a2] M (z_is (some (.int r)) M1)) (kk : Z SX X d nL Q (pc + 3) lv (.int r :: st) M1) : Z SX X d nL Q pc lv (a2 :: a1 :: .ref (X.1.2.1 8) :: st) M :=
  z_callV (As := [a1, a2]) hX lw_good 8 rfl rfl rfl wcX8_lengthOf wnX8 (z_w (List.mem_append_right _ (List.mem_of_getElem? (i := 469) (by decide +kernel))) rfl) wiX8_lengthOf wlX8_lengthOf wyX8_lengthOf hR (by decide) rfl hw hd hC (fun rv M2 h => by obtain ⟨rfl, rfl⟩ := h; exact kk)
theorem gfX8_31 (hX : Cx SX X "NotLikeThem$Walk" cc nL ret) (hd : decode cc pc = .ok (.getfield 31, 3)) (kk : Z SX X d nL Q (pc + 3) lv (.int (M.1 8 7) :: st) M) : Z SX X d nL Q pc lv (.ref (X.1.2.1 8) :: st) M := z_getI hX 8 7 rfl rfl inX8 (by decide) rfl (z_w (List.mem_append_right _ (List.mem_of_getElem? (i := 120) (by decide +kernel))) rfl) hd kk
theorem gfX8_34 (hX : Cx SX X "NotLikeThem$Walk" cc nL ret) (hd : decode cc pc = .ok (.getfield 34, 3)) (kk : Z SX X d nL Q (pc + 3) lv (.int (M.1 8 8) :: st) M) : Z SX X d nL Q pc lv (.ref (X.1.2.1 8) :: st) M := z_getI hX 8 8 rfl rfl inX8 (by decide) rfl (z_w (List.mem_append_right _ (List.mem_of_getElem? (i := 121) (by decide +kernel))) rfl) hd kk
theorem mcX8_78 (hX : Cx SX X "NotLikeThem$Walk" cc nL ret) {a1 : Value} {r : Int32} (hd : decode cc pc = .ok (.invokevirtual 78, 3)) (hR : 0 + 1 ≤ d) (hw : (st.map fun v => v.category).sum ≤ 8) (hC : CX8_takeOff X.1 [.ref (X.1.2.1 8), a1] M (z_is (some (.int r)) M1)) (kk : Z SX X d nL Q (pc + 3) lv (.int r :: st) M1) : Z SX X d nL Q pc lv (a1 :: .ref (X.1.2.1 8) :: st) M :=
  z_callV (As := [a1]) hX lw_good 8 rfl rfl rfl wcX8_takeOff wnX8 (z_w (List.mem_append_right _ (List.mem_of_getElem? (i := 418) (by decide +kernel))) rfl) wiX8_takeOff wlX8_takeOff wyX8_takeOff hR (by decide) rfl hw hd hC (fun rv M2 h => by obtain ⟨rfl, rfl⟩ := h; exact kk)
theorem mcX8_82 (hX : Cx SX X "NotLikeThem$Walk" cc nL ret) {a1 a2 : Value} (hd : decode cc pc = .ok (.invokevirtual 82, 3)) (hR : 0 + 1 ≤ d) (hw : (st.map fun v => v.category).sum ≤ 8) (hC : CX8_goRound X.1 [.ref (X.1.2.1 8), a1, a2] M (z_is none M1)) (kk : Z SX X d nL Q (pc + 3) lv (st) M1) : Z SX X d nL Q pc lv (a2 :: a1 :: .ref (X.1.2.1 8) :: st) M :=
  z_callV (As := [a1, a2]) hX lw_good 8 rfl rfl rfl wcX8_goRound wnX8 (z_w (List.mem_append_right _ (List.mem_of_getElem? (i := 422) (by decide +kernel))) rfl) wiX8_goRound wlX8_goRound wyX8_goRound hR (by decide) rfl hw hd hC (fun rv M2 h => by obtain ⟨rfl, rfl⟩ := h; exact kk)
theorem gfX8_21 (hX : Cx SX X "NotLikeThem$Walk" cc nL ret) (hd : decode cc pc = .ok (.getfield 21, 3)) (kk : Z SX X d nL Q (pc + 3) lv (.ref (X.1.2.1 28) :: st) M) : Z SX X d nL Q pc lv (.ref (X.1.2.1 8) :: st) M := z_getR hX 8 4 28 rfl rfl inX8 (by decide) rfl (z_w (List.mem_append_right _ (List.mem_of_getElem? (i := 117) (by decide +kernel))) rfl) hd kk
theorem pfX8_31 (hX : Cx SX X "NotLikeThem$Walk" cc nL ret) {v : Int32} (hd : decode cc pc = .ok (.putfield 31, 3)) (kk : ∀ M1, M1 = z_st M 8 7 v → Z SX X d nL Q (pc + 3) lv st M1) : Z SX X d nL Q pc lv (.int v :: .ref (X.1.2.1 8) :: st) M := z_put hX 8 7 tyX8 tyX8_ok nmX8 rfl rfl inX8 (by decide) rfl (z_w (List.mem_append_right _ (List.mem_of_getElem? (i := 120) (by decide +kernel))) rfl) rfl rfl hd (kk _ rfl)
theorem pfX8_34 (hX : Cx SX X "NotLikeThem$Walk" cc nL ret) {v : Int32} (hd : decode cc pc = .ok (.putfield 34, 3)) (kk : ∀ M1, M1 = z_st M 8 8 v → Z SX X d nL Q (pc + 3) lv st M1) : Z SX X d nL Q pc lv (.int v :: .ref (X.1.2.1 8) :: st) M := z_put hX 8 8 tyX8 tyX8_ok nmX8 rfl rfl inX8 (by decide) rfl (z_w (List.mem_append_right _ (List.mem_of_getElem? (i := 121) (by decide +kernel))) rfl) rfl rfl hd (kk _ rfl)
theorem mcX9_74 (hX : Cx SX X "NotLikeThem" cc nL ret) {a1 a2 a3 : Value} {r : Int32} (hd : decode cc pc = .ok (.invokestatic 74, 3)) (hR : 0 + 1 ≤ d) (hw : (st.map fun v => v.category).sum ≤ 8) (hC : CX9_within X.1 [a1, a2, a3] M (z_is (some (.int r)) M1)) (kk : Z SX X d nL Q (pc + 3) lv (.int r :: st) M1) : Z SX X d nL Q pc lv (a3 :: a2 :: a1 :: st) M :=
  z_callS (As := [a1, a2, a3]) hX lw_good wcX9_within wnX9 (z_w (List.mem_append_right _ (List.mem_of_getElem? (i := 262) (by decide +kernel))) rfl) wsX9_within wyX9_within hR (by decide) rfl hw hd hC (fun rv M2 h => by obtain ⟨rfl, rfl⟩ := h; exact kk)
theorem gfX9_15 (hX : Cx SX X "NotLikeThem" cc nL ret) (hd : decode cc pc = .ok (.getfield 15, 3)) (kk : Z SX X d nL Q (pc + 3) lv (.ref (X.1.2.1 7) :: st) M) : Z SX X d nL Q pc lv (.ref (X.1.2.1 9) :: st) M := z_getR hX 9 0 7 rfl rfl inX9 (by decide) rfl (z_w (List.mem_append_right _ (List.mem_of_getElem? (i := 233) (by decide +kernel))) rfl) hd kk
theorem mcX9_78 (hX : Cx SX X "NotLikeThem" cc nL ret) {r : Int32} (hd : decode cc pc = .ok (.invokevirtual 78, 3)) (hR : 0 + 1 ≤ d) (hw : (st.map fun v => v.category).sum ≤ 8) (hC : CX7_size X.1 [.ref (X.1.2.1 7)] M (z_is (some (.int r)) M1)) (kk : Z SX X d nL Q (pc + 3) lv (.int r :: st) M1) : Z SX X d nL Q pc lv (.ref (X.1.2.1 7) :: st) M :=
  z_callV (As := []) hX lw_good 7 rfl rfl rfl wcX7_size wnX7 (z_w (List.mem_append_right _ (List.mem_of_getElem? (i := 265) (by decide +kernel))) rfl) wiX7_size wlX7_size wyX7_size hR (by decide) rfl hw hd hC (fun rv M2 h => by obtain ⟨rfl, rfl⟩ := h; exact kk)
theorem mcX9_82 (hX : Cx SX X "NotLikeThem" cc nL ret) {a1 : Value} (hd : decode cc pc = .ok (.invokevirtual 82, 3)) (hR : 1 + 1 ≤ d) (hw : (st.map fun v => v.category).sum ≤ 8) (hC : CX7_startAnew X.1 [.ref (X.1.2.1 7), a1] M (z_is none M1)) (kk : Z SX X d nL Q (pc + 3) lv (st) M1) : Z SX X d nL Q pc lv (a1 :: .ref (X.1.2.1 7) :: st) M :=
  z_callV (As := [a1]) hX lw_good 7 rfl rfl rfl wcX7_startAnew wnX7 (z_w (List.mem_append_right _ (List.mem_of_getElem? (i := 269) (by decide +kernel))) rfl) wiX7_startAnew wlX7_startAnew wyX7_startAnew hR (by decide) rfl hw hd hC (fun rv M2 h => by obtain ⟨rfl, rfl⟩ := h; exact kk)
theorem gfX9_61 (hX : Cx SX X "NotLikeThem" cc nL ret) (hd : decode cc pc = .ok (.getfield 61, 3)) (kk : Z SX X d nL Q (pc + 3) lv (.ref (X.1.2.1 2) :: st) M) : Z SX X d nL Q pc lv (.ref (X.1.2.1 9) :: st) M := z_getR hX 9 6 2 rfl rfl inX9 (by decide) rfl (z_w (List.mem_append_right _ (List.mem_of_getElem? (i := 239) (by decide +kernel))) rfl) hd kk
theorem mcX9_86 (hX : Cx SX X "NotLikeThem" cc nL ret) (hd : decode cc pc = .ok (.invokevirtual 86, 3)) (hR : 0 + 1 ≤ d) (hw : (st.map fun v => v.category).sum ≤ 8) (hC : CX2_clear X.1 [.ref (X.1.2.1 2)] M (z_is none M1)) (kk : Z SX X d nL Q (pc + 3) lv (st) M1) : Z SX X d nL Q pc lv (.ref (X.1.2.1 2) :: st) M :=
  z_callV (As := []) hX lw_good 2 rfl rfl rfl wcX2_clear wnX2 (z_w (List.mem_append_right _ (List.mem_of_getElem? (i := 277) (by decide +kernel))) rfl) wiX2_clear wlX2_clear wyX2_clear hR (by decide) rfl hw hd hC (fun rv M2 h => by obtain ⟨rfl, rfl⟩ := h; exact kk)
theorem mcX9_89 (hX : Cx SX X "NotLikeThem" cc nL ret) {a1 : Value} {r : Int32} (hd : decode cc pc = .ok (.invokevirtual 89, 3)) (hR : 0 + 1 ≤ d) (hw : (st.map fun v => v.category).sum ≤ 8) (hC : CX7_has X.1 [.ref (X.1.2.1 7), a1] M (z_is (some (.int r)) M1)) (kk : Z SX X d nL Q (pc + 3) lv (.int r :: st) M1) : Z SX X d nL Q pc lv (a1 :: .ref (X.1.2.1 7) :: st) M :=
  z_callV (As := [a1]) hX lw_good 7 rfl rfl rfl wcX7_has wnX7 (z_w (List.mem_append_right _ (List.mem_of_getElem? (i := 285) (by decide +kernel))) rfl) wiX7_has wlX7_has wyX7_has hR (by decide) rfl hw hd hC (fun rv M2 h => by obtain ⟨rfl, rfl⟩ := h; exact kk)
theorem mcX9_93 (hX : Cx SX X "NotLikeThem" cc nL ret) {a1 a2 : Value} {r : Int32} (hd : decode cc pc = .ok (.invokevirtual 93, 3)) (hR : 0 + 1 ≤ d) (hw : (st.map fun v => v.category).sum ≤ 8) (hC : CX7_weight X.1 [.ref (X.1.2.1 7), a1, a2] M (z_is (some (.int r)) M1)) (kk : Z SX X d nL Q (pc + 3) lv (.int r :: st) M1) : Z SX X d nL Q pc lv (a2 :: a1 :: .ref (X.1.2.1 7) :: st) M :=
  z_callV (As := [a1, a2]) hX lw_good 7 rfl rfl rfl wcX7_weight wnX7 (z_w (List.mem_append_right _ (List.mem_of_getElem? (i := 289) (by decide +kernel))) rfl) wiX7_weight wlX7_weight wyX7_weight hR (by decide) rfl hw hd hC (fun rv M2 h => by obtain ⟨rfl, rfl⟩ := h; exact kk)
theorem mcX9_97 (hX : Cx SX X "NotLikeThem" cc nL ret) {a1 a2 a3 : Value} (hd : decode cc pc = .ok (.invokevirtual 97, 3)) (hR : 1 + 1 ≤ d) (hw : (st.map fun v => v.category).sum ≤ 8) (hC : CX7_setWeight X.1 [.ref (X.1.2.1 7), a1, a2, a3] M (z_is none M1)) (kk : Z SX X d nL Q (pc + 3) lv (st) M1) : Z SX X d nL Q pc lv (a3 :: a2 :: a1 :: .ref (X.1.2.1 7) :: st) M :=
  z_callV (As := [a1, a2, a3]) hX lw_good 7 rfl rfl rfl wcX7_setWeight wnX7 (z_w (List.mem_append_right _ (List.mem_of_getElem? (i := 293) (by decide +kernel))) rfl) wiX7_setWeight wlX7_setWeight wyX7_setWeight hR (by decide) rfl hw hd hC (fun rv M2 h => by obtain ⟨rfl, rfl⟩ := h; exact kk)
theorem mcX9_101 (hX : Cx SX X "NotLikeThem" cc nL ret) {a1 : Value} {r : Int32} (hd : decode cc pc = .ok (.invokevirtual 101, 3)) (hR : 0 + 1 ≤ d) (hw : (st.map fun v => v.category).sum ≤ 8) (hC : CX7_kind X.1 [.ref (X.1.2.1 7), a1] M (z_is (some (.int r)) M1)) (kk : Z SX X d nL Q (pc + 3) lv (.int r :: st) M1) : Z SX X d nL Q pc lv (a1 :: .ref (X.1.2.1 7) :: st) M :=
  z_callV (As := [a1]) hX lw_good 7 rfl rfl rfl wcX7_kind wnX7 (z_w (List.mem_append_right _ (List.mem_of_getElem? (i := 301) (by decide +kernel))) rfl) wiX7_kind wlX7_kind wyX7_kind hR (by decide) rfl hw hd hC (fun rv M2 h => by obtain ⟨rfl, rfl⟩ := h; exact kk)
theorem mcX9_105 (hX : Cx SX X "NotLikeThem" cc nL ret) {a1 a2 : Value} (hd : decode cc pc = .ok (.invokevirtual 105, 3)) (hR : 1 + 1 ≤ d) (hw : (st.map fun v => v.category).sum ≤ 8) (hC : CX7_setKind X.1 [.ref (X.1.2.1 7), a1, a2] M (z_is none M1)) (kk : Z SX X d nL Q (pc + 3) lv (st) M1) : Z SX X d nL Q pc lv (a2 :: a1 :: .ref (X.1.2.1 7) :: st) M :=
  z_callV (As := [a1, a2]) hX lw_good 7 rfl rfl rfl wcX7_setKind wnX7 (z_w (List.mem_append_right _ (List.mem_of_getElem? (i := 305) (by decide +kernel))) rfl) wiX7_setKind wlX7_setKind wyX7_setKind hR (by decide) rfl hw hd hC (fun rv M2 h => by obtain ⟨rfl, rfl⟩ := h; exact kk)
theorem mcX9_109 (hX : Cx SX X "NotLikeThem" cc nL ret) {a1 : Value} {r : Int32} (hd : decode cc pc = .ok (.invokevirtual 109, 3)) (hR : 0 + 1 ≤ d) (hw : (st.map fun v => v.category).sum ≤ 8) (hC : CX7_lean X.1 [.ref (X.1.2.1 7), a1] M (z_is (some (.int r)) M1)) (kk : Z SX X d nL Q (pc + 3) lv (.int r :: st) M1) : Z SX X d nL Q pc lv (a1 :: .ref (X.1.2.1 7) :: st) M :=
  z_callV (As := [a1]) hX lw_good 7 rfl rfl rfl wcX7_lean wnX7 (z_w (List.mem_append_right _ (List.mem_of_getElem? (i := 309) (by decide +kernel))) rfl) wiX7_lean wlX7_lean wyX7_lean hR (by decide) rfl hw hd hC (fun rv M2 h => by obtain ⟨rfl, rfl⟩ := h; exact kk)
theorem mcX9_112 (hX : Cx SX X "NotLikeThem" cc nL ret) {a1 a2 : Value} (hd : decode cc pc = .ok (.invokevirtual 112, 3)) (hR : 1 + 1 ≤ d) (hw : (st.map fun v => v.category).sum ≤ 8) (hC : CX7_setLean X.1 [.ref (X.1.2.1 7), a1, a2] M (z_is none M1)) (kk : Z SX X d nL Q (pc + 3) lv (st) M1) : Z SX X d nL Q pc lv (a2 :: a1 :: .ref (X.1.2.1 7) :: st) M :=
  z_callV (As := [a1, a2]) hX lw_good 7 rfl rfl rfl wcX7_setLean wnX7 (z_w (List.mem_append_right _ (List.mem_of_getElem? (i := 313) (by decide +kernel))) rfl) wiX7_setLean wlX7_setLean wyX7_setLean hR (by decide) rfl hw hd hC (fun rv M2 h => by obtain ⟨rfl, rfl⟩ := h; exact kk)
theorem mcX9_115 (hX : Cx SX X "NotLikeThem" cc nL ret) {a1 : Value} {r : Int32} (hd : decode cc pc = .ok (.invokevirtual 115, 3)) (hR : 0 + 1 ≤ d) (hw : (st.map fun v => v.category).sum ≤ 8) (hC : CX7_seenBy X.1 [.ref (X.1.2.1 7), a1] M (z_is (some (.int r)) M1)) (kk : Z SX X d nL Q (pc + 3) lv (.int r :: st) M1) : Z SX X d nL Q pc lv (a1 :: .ref (X.1.2.1 7) :: st) M :=
  z_callV (As := [a1]) hX lw_good 7 rfl rfl rfl wcX7_seenBy wnX7 (z_w (List.mem_append_right _ (List.mem_of_getElem? (i := 321) (by decide +kernel))) rfl) wiX7_seenBy wlX7_seenBy wyX7_seenBy hR (by decide) rfl hw hd hC (fun rv M2 h => by obtain ⟨rfl, rfl⟩ := h; exact kk)
theorem mcX9_118 (hX : Cx SX X "NotLikeThem" cc nL ret) {a1 : Value} {r : Int32} (hd : decode cc pc = .ok (.invokevirtual 118, 3)) (hR : 0 + 1 ≤ d) (hw : (st.map fun v => v.category).sum ≤ 8) (hC : CX7_seeing X.1 [.ref (X.1.2.1 7), a1] M (z_is (some (.int r)) M1)) (kk : Z SX X d nL Q (pc + 3) lv (.int r :: st) M1) : Z SX X d nL Q pc lv (a1 :: .ref (X.1.2.1 7) :: st) M :=
  z_callV (As := [a1]) hX lw_good 7 rfl rfl rfl wcX7_seeing wnX7 (z_w (List.mem_append_right _ (List.mem_of_getElem? (i := 325) (by decide +kernel))) rfl) wiX7_seeing wlX7_seeing wyX7_seeing hR (by decide) rfl hw hd hC (fun rv M2 h => by obtain ⟨rfl, rfl⟩ := h; exact kk)
theorem mcX9_121 (hX : Cx SX X "NotLikeThem" cc nL ret) {a1 : Value} {r : Int32} (hd : decode cc pc = .ok (.invokevirtual 121, 3)) (hR : 1 + 1 ≤ d) (hw : (st.map fun v => v.category).sum ≤ 8) (hC : CX7_isDress X.1 [.ref (X.1.2.1 7), a1] M (z_is (some (.int r)) M1)) (kk : Z SX X d nL Q (pc + 3) lv (.int r :: st) M1) : Z SX X d nL Q pc lv (a1 :: .ref (X.1.2.1 7) :: st) M :=
  z_callV (As := [a1]) hX lw_good 7 rfl rfl rfl wcX7_isDress wnX7 (z_w (List.mem_append_right _ (List.mem_of_getElem? (i := 337) (by decide +kernel))) rfl) wiX7_isDress wlX7_isDress wyX7_isDress hR (by decide) rfl hw hd hC (fun rv M2 h => by obtain ⟨rfl, rfl⟩ := h; exact kk)
theorem mcX9_124 (hX : Cx SX X "NotLikeThem" cc nL ret) {a1 a2 : Value} {r : Int32} (hd : decode cc pc = .ok (.invokevirtual 124, 3)) (hR : 1 + 1 ≤ d) (hw : (st.map fun v => v.category).sum ≤ 8) (hC : CX7_sumOf X.1 [.ref (X.1.2.1 7), a1, a2] M (z_is (some (.int r)) M1)) (kk : Z SX X d nL Q (pc + 3) lv (.int r :: st) M1) : Z SX X d nL Q pc lv (a2 :: a1 :: .ref (X.1.2.1 7) :: st) M :=
  z_callV (As := [a1, a2]) hX lw_good 7 rfl rfl rfl wcX7_sumOf wnX7 (z_w (List.mem_append_right _ (List.mem_of_getElem? (i := 345) (by decide +kernel))) rfl) wiX7_sumOf wlX7_sumOf wyX7_sumOf hR (by decide) rfl hw hd hC (fun rv M2 h => by obtain ⟨rfl, rfl⟩ := h; exact kk)
theorem mcX9_127 (hX : Cx SX X "NotLikeThem" cc nL ret) {r : Int32} (hd : decode cc pc = .ok (.invokevirtual 127, 3)) (hR : 0 + 1 ≤ d) (hw : (st.map fun v => v.category).sum ≤ 8) (hC : CX7_dresses X.1 [.ref (X.1.2.1 7)] M (z_is (some (.int r)) M1)) (kk : Z SX X d nL Q (pc + 3) lv (.int r :: st) M1) : Z SX X d nL Q pc lv (.ref (X.1.2.1 7) :: st) M :=
  z_callV (As := []) hX lw_good 7 rfl rfl rfl wcX7_dresses wnX7 (z_w (List.mem_append_right _ (List.mem_of_getElem? (i := 356) (by decide +kernel))) rfl) wiX7_dresses wlX7_dresses wyX7_dresses hR (by decide) rfl hw hd hC (fun rv M2 h => by obtain ⟨rfl, rfl⟩ := h; exact kk)
theorem mcX9_130 (hX : Cx SX X "NotLikeThem" cc nL ret) {a1 : Value} {r : Int32} (hd : decode cc pc = .ok (.invokevirtual 130, 3)) (hR : 3 + 1 ≤ d) (hw : (st.map fun v => v.category).sum ≤ 8) (hC : CX7_restlessIn X.1 [.ref (X.1.2.1 7), a1] M (z_is (some (.int r)) M1)) (kk : Z SX X d nL Q (pc + 3) lv (.int r :: st) M1) : Z SX X d nL Q pc lv (a1 :: .ref (X.1.2.1 7) :: st) M :=
  z_callV (As := [a1]) hX lw_good 7 rfl rfl rfl wcX7_restlessIn wnX7 (z_w (List.mem_append_right _ (List.mem_of_getElem? (i := 357) (by decide +kernel))) rfl) wiX7_restlessIn wlX7_restlessIn wyX7_restlessIn hR (by decide) rfl hw hd hC (fun rv M2 h => by obtain ⟨rfl, rfl⟩ := h; exact kk)
theorem mcX9_133 (hX : Cx SX X "NotLikeThem" cc nL ret) {a1 : Value} {r : Int32} (hd : decode cc pc = .ok (.invokestatic 133, 3)) (hR : 0 + 1 ≤ d) (hw : (st.map fun v => v.category).sum ≤ 8) (hC : CX9_isWay X.1 [a1] M (z_is (some (.int r)) M1)) (kk : Z SX X d nL Q (pc + 3) lv (.int r :: st) M1) : Z SX X d nL Q pc lv (a1 :: st) M :=
  z_callS (As := [a1]) hX lw_good wcX9_isWay wnX9 (z_w (List.mem_append_right _ (List.mem_of_getElem? (i := 373) (by decide +kernel))) rfl) wsX9_isWay wyX9_isWay hR (by decide) rfl hw hd hC (fun rv M2 h => by obtain ⟨rfl, rfl⟩ := h; exact kk)
theorem gfX9_38 (hX : Cx SX X "NotLikeThem" cc nL ret) (hd : decode cc pc = .ok (.getfield 38, 3)) (kk : Z SX X d nL Q (pc + 3) lv (.ref (X.1.2.1 8) :: st) M) : Z SX X d nL Q pc lv (.ref (X.1.2.1 9) :: st) M := z_getR hX 9 3 8 rfl rfl inX9 (by decide) rfl (z_w (List.mem_append_right _ (List.mem_of_getElem? (i := 236) (by decide +kernel))) rfl) hd kk
theorem mcX9_136 (hX : Cx SX X "NotLikeThem" cc nL ret) {a1 a2 a3 : Value} {r : Int32} (hd : decode cc pc = .ok (.invokevirtual 136, 3)) (hR : 4 + 1 ≤ d) (hw : (st.map fun v => v.category).sum ≤ 8) (hC : CX8_behind X.1 [.ref (X.1.2.1 8), a1, a2, a3] M (z_is (some (.int r)) M1)) (kk : Z SX X d nL Q (pc + 3) lv (.int r :: st) M1) : Z SX X d nL Q pc lv (a3 :: a2 :: a1 :: .ref (X.1.2.1 8) :: st) M :=
  z_callV (As := [a1, a2, a3]) hX lw_good 8 rfl rfl rfl wcX8_behind wnX8 (z_w (List.mem_append_right _ (List.mem_of_getElem? (i := 376) (by decide +kernel))) rfl) wiX8_behind wlX8_behind wyX8_behind hR (by decide) rfl hw hd hC (fun rv M2 h => by obtain ⟨rfl, rfl⟩ := h; exact kk)
theorem mcX9_140 (hX : Cx SX X "NotLikeThem" cc nL ret) {a1 a2 : Value} {r : Int32} (hd : decode cc pc = .ok (.invokevirtual 140, 3)) (hR : 5 + 1 ≤ d) (hw : (st.map fun v => v.category).sum ≤ 8) (hC : CX8_stepsToRing X.1 [.ref (X.1.2.1 8), a1, a2] M (z_is (some (.int r)) M1)) (kk : Z SX X d nL Q (pc + 3) lv (.int r :: st) M1) : Z SX X d nL Q pc lv (a2 :: a1 :: .ref (X.1.2.1 8) :: st) M :=
  z_callV (As := [a1, a2]) hX lw_good 8 rfl rfl rfl wcX8_stepsToRing wnX8 (z_w (List.mem_append_right _ (List.mem_of_getElem? (i := 410) (by decide +kernel))) rfl) wiX8_stepsToRing wlX8_stepsToRing wyX8_stepsToRing hR (by decide) rfl hw hd hC (fun rv M2 h => by obtain ⟨rfl, rfl⟩ := h; exact kk)
theorem mcX9_143 (hX : Cx SX X "NotLikeThem" cc nL ret) {a1 a2 : Value} {r : Int32} (hd : decode cc pc = .ok (.invokevirtual 143, 3)) (hR : 5 + 1 ≤ d) (hw : (st.map fun v => v.category).sum ≤ 8) (hC : CX8_entered X.1 [.ref (X.1.2.1 8), a1, a2] M (z_is (some (.int r)) M1)) (kk : Z SX X d nL Q (pc + 3) lv (.int r :: st) M1) : Z SX X d nL Q pc lv (a2 :: a1 :: .ref (X.1.2.1 8) :: st) M :=
  z_callV (As := [a1, a2]) hX lw_good 8 rfl rfl rfl wcX8_entered wnX8 (z_w (List.mem_append_right _ (List.mem_of_getElem? (i := 426) (by decide +kernel))) rfl) wiX8_entered wlX8_entered wyX8_entered hR (by decide) rfl hw hd hC (fun rv M2 h => by obtain ⟨rfl, rfl⟩ := h; exact kk)
theorem mcX9_146 (hX : Cx SX X "NotLikeThem" cc nL ret) {a1 a2 : Value} {r : Int32} (hd : decode cc pc = .ok (.invokevirtual 146, 3)) (hR : 4 + 1 ≤ d) (hw : (st.map fun v => v.category).sum ≤ 8) (hC : CX8_lengthOf X.1 [.ref (X.1.2.1 8), a1, a2] M (z_is (some (.int r)) M1)) (kk : Z SX X d nL Q (pc + 3) lv (.int r :: st) M1) : Z SX X d nL Q pc lv (a2 :: a1 :: .ref (X.1.2.1 8) :: st) M :=
  z_callV (As := [a1, a2]) hX lw_good 8 rfl rfl rfl wcX8_lengthOf wnX8 (z_w (List.mem_append_right _ (List.mem_of_getElem? (i := 430) (by decide +kernel))) rfl) wiX8_lengthOf wlX8_lengthOf wyX8_lengthOf hR (by decide) rfl hw hd hC (fun rv M2 h => by obtain ⟨rfl, rfl⟩ := h; exact kk)
theorem mcX9_149 (hX : Cx SX X "NotLikeThem" cc nL ret) {a1 : Value} {r : Int32} (hd : decode cc pc = .ok (.invokevirtual 149, 3)) (hR : 5 + 1 ≤ d) (hw : (st.map fun v => v.category).sum ≤ 8) (hC : CX8_ringCount X.1 [.ref (X.1.2.1 8), a1] M (z_is (some (.int r)) M1)) (kk : Z SX X d nL Q (pc + 3) lv (.int r :: st) M1) : Z SX X d nL Q pc lv (a1 :: .ref (X.1.2.1 8) :: st) M :=
  z_callV (As := [a1]) hX lw_good 8 rfl rfl rfl wcX8_ringCount wnX8 (z_w (List.mem_append_right _ (List.mem_of_getElem? (i := 438) (by decide +kernel))) rfl) wiX8_ringCount wlX8_ringCount wyX8_ringCount hR (by decide) rfl hw hd hC (fun rv M2 h => by obtain ⟨rfl, rfl⟩ := h; exact kk)
theorem mcX9_152 (hX : Cx SX X "NotLikeThem" cc nL ret) {a1 a2 : Value} {r : Int32} (hd : decode cc pc = .ok (.invokevirtual 152, 3)) (hR : 5 + 1 ≤ d) (hw : (st.map fun v => v.category).sum ≤ 8) (hC : CX8_leastOfRing X.1 [.ref (X.1.2.1 8), a1, a2] M (z_is (some (.int r)) M1)) (kk : Z SX X d nL Q (pc + 3) lv (.int r :: st) M1) : Z SX X d nL Q pc lv (a2 :: a1 :: .ref (X.1.2.1 8) :: st) M :=
  z_callV (As := [a1, a2]) hX lw_good 8 rfl rfl rfl wcX8_leastOfRing wnX8 (z_w (List.mem_append_right _ (List.mem_of_getElem? (i := 446) (by decide +kernel))) rfl) wiX8_leastOfRing wlX8_leastOfRing wyX8_leastOfRing hR (by decide) rfl hw hd hC (fun rv M2 h => by obtain ⟨rfl, rfl⟩ := h; exact kk)
theorem mcX9_155 (hX : Cx SX X "NotLikeThem" cc nL ret) {a1 a2 : Value} {r : Int32} (hd : decode cc pc = .ok (.invokevirtual 155, 3)) (hR : 5 + 1 ≤ d) (hw : (st.map fun v => v.category).sum ≤ 8) (hC : CX8_drawnTo X.1 [.ref (X.1.2.1 8), a1, a2] M (z_is (some (.int r)) M1)) (kk : Z SX X d nL Q (pc + 3) lv (.int r :: st) M1) : Z SX X d nL Q pc lv (a2 :: a1 :: .ref (X.1.2.1 8) :: st) M :=
  z_callV (As := [a1, a2]) hX lw_good 8 rfl rfl rfl wcX8_drawnTo wnX8 (z_w (List.mem_append_right _ (List.mem_of_getElem? (i := 450) (by decide +kernel))) rfl) wiX8_drawnTo wlX8_drawnTo wyX8_drawnTo hR (by decide) rfl hw hd hC (fun rv M2 h => by obtain ⟨rfl, rfl⟩ := h; exact kk)
theorem mcX9_158 (hX : Cx SX X "NotLikeThem" cc nL ret) {a1 a2 : Value} {r : Int32} (hd : decode cc pc = .ok (.invokevirtual 158, 3)) (hR : 5 + 1 ≤ d) (hw : (st.map fun v => v.category).sum ≤ 8) (hC : CX8_farthestFrom X.1 [.ref (X.1.2.1 8), a1, a2] M (z_is (some (.int r)) M1)) (kk : Z SX X d nL Q (pc + 3) lv (.int r :: st) M1) : Z SX X d nL Q pc lv (a2 :: a1 :: .ref (X.1.2.1 8) :: st) M :=
  z_callV (As := [a1, a2]) hX lw_good 8 rfl rfl rfl wcX8_farthestFrom wnX8 (z_w (List.mem_append_right _ (List.mem_of_getElem? (i := 454) (by decide +kernel))) rfl) wiX8_farthestFrom wlX8_farthestFrom wyX8_farthestFrom hR (by decide) rfl hw hd hC (fun rv M2 h => by obtain ⟨rfl, rfl⟩ := h; exact kk)
theorem mcX9_161 (hX : Cx SX X "NotLikeThem" cc nL ret) {a1 : Value} {r : Int32} (hd : decode cc pc = .ok (.invokevirtual 161, 3)) (hR : 5 + 1 ≤ d) (hw : (st.map fun v => v.category).sum ≤ 8) (hC : CX8_greatestLength X.1 [.ref (X.1.2.1 8), a1] M (z_is (some (.int r)) M1)) (kk : Z SX X d nL Q (pc + 3) lv (.int r :: st) M1) : Z SX X d nL Q pc lv (a1 :: .ref (X.1.2.1 8) :: st) M :=
  z_callV (As := [a1]) hX lw_good 8 rfl rfl rfl wcX8_greatestLength wnX8 (z_w (List.mem_append_right _ (List.mem_of_getElem? (i := 465) (by decide +kernel))) rfl) wiX8_greatestLength wlX8_greatestLength wyX8_greatestLength hR (by decide) rfl hw hd hC (fun rv M2 h => by obtain ⟨rfl, rfl⟩ := h; exact kk)
theorem gfX9_31 (hX : Cx SX X "NotLikeThem" cc nL ret) (hd : decode cc pc = .ok (.getfield 31, 3)) (kk : Z SX X d nL Q (pc + 3) lv (.ref (X.1.2.1 3) :: st) M) : Z SX X d nL Q pc lv (.ref (X.1.2.1 9) :: st) M := z_getR hX 9 2 3 rfl rfl inX9 (by decide) rfl (z_w (List.mem_append_right _ (List.mem_of_getElem? (i := 235) (by decide +kernel))) rfl) hd kk
theorem mcX9_164 (hX : Cx SX X "NotLikeThem" cc nL ret) {r : Int32} (hd : decode cc pc = .ok (.invokevirtual 164, 3)) (hR : 3 + 1 ≤ d) (hw : (st.map fun v => v.category).sum ≤ 8) (hC : CX3_howMany X.1 [.ref (X.1.2.1 3)] M (z_is (some (.int r)) M1)) (kk : Z SX X d nL Q (pc + 3) lv (.int r :: st) M1) : Z SX X d nL Q pc lv (.ref (X.1.2.1 3) :: st) M :=
  z_callV (As := []) hX lw_good 3 rfl rfl rfl wcX3_howMany wnX3 (z_w (List.mem_append_right _ (List.mem_of_getElem? (i := 474) (by decide +kernel))) rfl) wiX3_howMany wlX3_howMany wyX3_howMany hR (by decide) rfl hw hd hC (fun rv M2 h => by obtain ⟨rfl, rfl⟩ := h; exact kk)
theorem mcX9_167 (hX : Cx SX X "NotLikeThem" cc nL ret) {a1 : Value} {r : Int32} (hd : decode cc pc = .ok (.invokevirtual 167, 3)) (hR : 3 + 1 ≤ d) (hw : (st.map fun v => v.category).sum ≤ 8) (hC : CX3_dressOf X.1 [.ref (X.1.2.1 3), a1] M (z_is (some (.int r)) M1)) (kk : Z SX X d nL Q (pc + 3) lv (.int r :: st) M1) : Z SX X d nL Q pc lv (a1 :: .ref (X.1.2.1 3) :: st) M :=
  z_callV (As := [a1]) hX lw_good 3 rfl rfl rfl wcX3_dressOf wnX3 (z_w (List.mem_append_right _ (List.mem_of_getElem? (i := 484) (by decide +kernel))) rfl) wiX3_dressOf wlX3_dressOf wyX3_dressOf hR (by decide) rfl hw hd hC (fun rv M2 h => by obtain ⟨rfl, rfl⟩ := h; exact kk)
theorem gfX9_24 (hX : Cx SX X "NotLikeThem" cc nL ret) (hd : decode cc pc = .ok (.getfield 24, 3)) (kk : Z SX X d nL Q (pc + 3) lv (.ref (X.1.2.1 1) :: st) M) : Z SX X d nL Q pc lv (.ref (X.1.2.1 9) :: st) M := z_getR hX 9 1 1 rfl rfl inX9 (by decide) rfl (z_w (List.mem_append_right _ (List.mem_of_getElem? (i := 234) (by decide +kernel))) rfl) hd kk
theorem mcX9_170 (hX : Cx SX X "NotLikeThem" cc nL ret) {r : Int32} (hd : decode cc pc = .ok (.invokevirtual 170, 3)) (hR : 2 + 1 ≤ d) (hw : (st.map fun v => v.category).sum ≤ 8) (hC : CX1_isDefined X.1 [.ref (X.1.2.1 1)] M (z_is (some (.int r)) M1)) (kk : Z SX X d nL Q (pc + 3) lv (.int r :: st) M1) : Z SX X d nL Q pc lv (.ref (X.1.2.1 1) :: st) M :=
  z_callV (As := []) hX lw_good 1 rfl rfl rfl wcX1_isDefined wnX1 (z_w (List.mem_append_right _ (List.mem_of_getElem? (i := 492) (by decide +kernel))) rfl) wiX1_isDefined wlX1_isDefined wyX1_isDefined hR (by decide) rfl hw hd hC (fun rv M2 h => by obtain ⟨rfl, rfl⟩ := h; exact kk)
theorem mcX9_174 (hX : Cx SX X "NotLikeThem" cc nL ret) {a1 : Value} {r : Int32} (hd : decode cc pc = .ok (.invokevirtual 174, 3)) (hR : 2 + 1 ≤ d) (hw : (st.map fun v => v.category).sum ≤ 8) (hC : CX1_of X.1 [.ref (X.1.2.1 1), a1] M (z_is (some (.int r)) M1)) (kk : Z SX X d nL Q (pc + 3) lv (.int r :: st) M1) : Z SX X d nL Q pc lv (a1 :: .ref (X.1.2.1 1) :: st) M :=
  z_callV (As := [a1]) hX lw_good 1 rfl rfl rfl wcX1_of wnX1 (z_w (List.mem_append_right _ (List.mem_of_getElem? (i := 511) (by decide +kernel))) rfl) wiX1_of wlX1_of wyX1_of hR (by decide) rfl hw hd hC (fun rv M2 h => by obtain ⟨rfl, rfl⟩ := h; exact kk)
theorem mcX9_177 (hX : Cx SX X "NotLikeThem" cc nL ret) {a1 a2 : Value} {r : Int32} (hd : decode cc pc = .ok (.invokevirtual 177, 3)) (hR : 2 + 1 ≤ d) (hw : (st.map fun v => v.category).sum ≤ 8) (hC : CX7_isCalm X.1 [.ref (X.1.2.1 7), a1, a2] M (z_is (some (.int r)) M1)) (kk : Z SX X d nL Q (pc + 3) lv (.int r :: st) M1) : Z SX X d nL Q pc lv (a2 :: a1 :: .ref (X.1.2.1 7) :: st) M :=
  z_callV (As := [a1, a2]) hX lw_good 7 rfl rfl rfl wcX7_isCalm wnX7 (z_w (List.mem_append_right _ (List.mem_of_getElem? (i := 529) (by decide +kernel))) rfl) wiX7_isCalm wlX7_isCalm wyX7_isCalm hR (by decide) rfl hw hd hC (fun rv M2 h => by obtain ⟨rfl, rfl⟩ := h; exact kk)
theorem gfX9_47 (hX : Cx SX X "NotLikeThem" cc nL ret) (hd : decode cc pc = .ok (.getfield 47, 3)) (kk : Z SX X d nL Q (pc + 3) lv (.ref (X.1.2.1 4) :: st) M) : Z SX X d nL Q pc lv (.ref (X.1.2.1 9) :: st) M := z_getR hX 9 4 4 rfl rfl inX9 (by decide) rfl (z_w (List.mem_append_right _ (List.mem_of_getElem? (i := 237) (by decide +kernel))) rfl) hd kk
theorem mcX9_181 (hX : Cx SX X "NotLikeThem" cc nL ret) {r : Int32} (hd : decode cc pc = .ok (.invokevirtual 181, 3)) (hR : 4 + 1 ≤ d) (hw : (st.map fun v => v.category).sum ≤ 8) (hC : CX4_leastDress X.1 [.ref (X.1.2.1 4)] M (z_is (some (.int r)) M1)) (kk : Z SX X d nL Q (pc + 3) lv (.int r :: st) M1) : Z SX X d nL Q pc lv (.ref (X.1.2.1 4) :: st) M :=
  z_callV (As := []) hX lw_good 4 rfl rfl rfl wcX4_leastDress wnX4 (z_w (List.mem_append_right _ (List.mem_of_getElem? (i := 534) (by decide +kernel))) rfl) wiX4_leastDress wlX4_leastDress wyX4_leastDress hR (by decide) rfl hw hd hC (fun rv M2 h => by obtain ⟨rfl, rfl⟩ := h; exact kk)
theorem mcX9_184 (hX : Cx SX X "NotLikeThem" cc nL ret) {a1 : Value} {r : Int32} (hd : decode cc pc = .ok (.invokevirtual 184, 3)) (hR : 0 + 1 ≤ d) (hw : (st.map fun v => v.category).sum ≤ 8) (hC : CX7_countKind X.1 [.ref (X.1.2.1 7), a1] M (z_is (some (.int r)) M1)) (kk : Z SX X d nL Q (pc + 3) lv (.int r :: st) M1) : Z SX X d nL Q pc lv (a1 :: .ref (X.1.2.1 7) :: st) M :=
  z_callV (As := [a1]) hX lw_good 7 rfl rfl rfl wcX7_countKind wnX7 (z_w (List.mem_append_right _ (List.mem_of_getElem? (i := 571) (by decide +kernel))) rfl) wiX7_countKind wlX7_countKind wyX7_countKind hR (by decide) rfl hw hd hC (fun rv M2 h => by obtain ⟨rfl, rfl⟩ := h; exact kk)
theorem mcX9_187 (hX : Cx SX X "NotLikeThem" cc nL ret) {r : Int32} (hd : decode cc pc = .ok (.invokevirtual 187, 3)) (hR : 3 + 1 ≤ d) (hw : (st.map fun v => v.category).sum ≤ 8) (hC : CX3_fewestRestless X.1 [.ref (X.1.2.1 3)] M (z_is (some (.int r)) M1)) (kk : Z SX X d nL Q (pc + 3) lv (.int r :: st) M1) : Z SX X d nL Q pc lv (.ref (X.1.2.1 3) :: st) M :=
  z_callV (As := []) hX lw_good 3 rfl rfl rfl wcX3_fewestRestless wnX3 (z_w (List.mem_append_right _ (List.mem_of_getElem? (i := 572) (by decide +kernel))) rfl) wiX3_fewestRestless wlX3_fewestRestless wyX3_fewestRestless hR (by decide) rfl hw hd hC (fun rv M2 h => by obtain ⟨rfl, rfl⟩ := h; exact kk)
theorem mcX9_190 (hX : Cx SX X "NotLikeThem" cc nL ret) {a1 : Value} {r : Int32} (hd : decode cc pc = .ok (.invokestatic 190, 3)) (hR : 0 + 1 ≤ d) (hw : (st.map fun v => v.category).sum ≤ 8) (hC : CJ6_bitCount SX X.1 [a1] M (z_is (some (.int r)) M1)) (kk : Z SX X d nL Q (pc + 3) lv (.int r :: st) M1) : Z SX X d nL Q pc lv (a1 :: st) M :=
  z_callS (As := [a1]) hX lw_good wcJ6_bitCount_0f7a4 wnJ6 (z_w (List.mem_append_right _ (List.mem_of_getElem? (i := 582) (by decide +kernel))) rfl) wsJ6_bitCount_0f7a4 wyJ6_bitCount_0f7a4 hR (by decide) rfl hw hd hC (fun rv M2 h => by obtain ⟨rfl, rfl⟩ := h; exact kk)
theorem mcX9_195 (hX : Cx SX X "NotLikeThem" cc nL ret) {r : Int32} (hd : decode cc pc = .ok (.invokevirtual 195, 3)) (hR : 3 + 1 ≤ d) (hw : (st.map fun v => v.category).sum ≤ 8) (hC : CX3_leastOfFewestRestless X.1 [.ref (X.1.2.1 3)] M (z_is (some (.int r)) M1)) (kk : Z SX X d nL Q (pc + 3) lv (.int r :: st) M1) : Z SX X d nL Q pc lv (.ref (X.1.2.1 3) :: st) M :=
  z_callV (As := []) hX lw_good 3 rfl rfl rfl wcX3_leastOfFewestRestless wnX3 (z_w (List.mem_append_right _ (List.mem_of_getElem? (i := 591) (by decide +kernel))) rfl) wiX3_leastOfFewestRestless wlX3_leastOfFewestRestless wyX3_leastOfFewestRestless hR (by decide) rfl hw hd hC (fun rv M2 h => by obtain ⟨rfl, rfl⟩ := h; exact kk)
theorem gfX9_54 (hX : Cx SX X "NotLikeThem" cc nL ret) (hd : decode cc pc = .ok (.getfield 54, 3)) (kk : Z SX X d nL Q (pc + 3) lv (.ref (X.1.2.1 0) :: st) M) : Z SX X d nL Q pc lv (.ref (X.1.2.1 9) :: st) M := z_getR hX 9 5 0 rfl rfl inX9 (by decide) rfl (z_w (List.mem_append_right _ (List.mem_of_getElem? (i := 238) (by decide +kernel))) rfl) hd kk
theorem mcX9_198 (hX : Cx SX X "NotLikeThem" cc nL ret) {a1 a2 : Value} {r : Int32} (hd : decode cc pc = .ok (.invokevirtual 198, 3)) (hR : 3 + 1 ≤ d) (hw : (st.map fun v => v.category).sum ≤ 8) (hC : CX0_canReach X.1 [.ref (X.1.2.1 0), a1, a2] M (z_is (some (.int r)) M1)) (kk : Z SX X d nL Q (pc + 3) lv (.int r :: st) M1) : Z SX X d nL Q pc lv (a2 :: a1 :: .ref (X.1.2.1 0) :: st) M :=
  z_callV (As := [a1, a2]) hX lw_good 0 rfl rfl rfl wcX0_canReach wnX0 (z_w (List.mem_append_right _ (List.mem_of_getElem? (i := 599) (by decide +kernel))) rfl) wiX0_canReach wlX0_canReach wyX0_canReach hR (by decide) rfl hw hd hC (fun rv M2 h => by obtain ⟨rfl, rfl⟩ := h; exact kk)
theorem mcX9_201 (hX : Cx SX X "NotLikeThem" cc nL ret) {a1 : Value} {r : Int32} (hd : decode cc pc = .ok (.invokevirtual 201, 3)) (hR : 3 + 1 ≤ d) (hw : (st.map fun v => v.category).sum ≤ 8) (hC : CX0_restsFrom X.1 [.ref (X.1.2.1 0), a1] M (z_is (some (.int r)) M1)) (kk : Z SX X d nL Q (pc + 3) lv (.int r :: st) M1) : Z SX X d nL Q pc lv (a1 :: .ref (X.1.2.1 0) :: st) M :=
  z_callV (As := [a1]) hX lw_good 0 rfl rfl rfl wcX0_restsFrom wnX0 (z_w (List.mem_append_right _ (List.mem_of_getElem? (i := 614) (by decide +kernel))) rfl) wiX0_restsFrom wlX0_restsFrom wyX0_restsFrom hR (by decide) rfl hw hd hC (fun rv M2 h => by obtain ⟨rfl, rfl⟩ := h; exact kk)
theorem mcX9_204 (hX : Cx SX X "NotLikeThem" cc nL ret) {a1 : Value} {r : Int32} (hd : decode cc pc = .ok (.invokevirtual 204, 3)) (hR : 3 + 1 ≤ d) (hw : (st.map fun v => v.category).sum ≤ 8) (hC : CX0_fewestDraws X.1 [.ref (X.1.2.1 0), a1] M (z_is (some (.int r)) M1)) (kk : Z SX X d nL Q (pc + 3) lv (.int r :: st) M1) : Z SX X d nL Q pc lv (a1 :: .ref (X.1.2.1 0) :: st) M :=
  z_callV (As := [a1]) hX lw_good 0 rfl rfl rfl wcX0_fewestDraws wnX0 (z_w (List.mem_append_right _ (List.mem_of_getElem? (i := 622) (by decide +kernel))) rfl) wiX0_fewestDraws wlX0_fewestDraws wyX0_fewestDraws hR (by decide) rfl hw hd hC (fun rv M2 h => by obtain ⟨rfl, rfl⟩ := h; exact kk)
theorem mcX9_209 (hX : Cx SX X "NotLikeThem" cc nL ret) {a1 a2 a3 : Value} {r : Int64} (hd : decode cc pc = .ok (.invokevirtual 209, 3)) (hR : 3 + 1 ≤ d) (hw : (st.map fun v => v.category).sum ≤ 8) (hC : CX0_fraction X.1 [.ref (X.1.2.1 0), a1, a2, a3] M (z_is (some (.long r)) M1)) (kk : Z SX X d nL Q (pc + 3) lv (.long r :: st) M1) : Z SX X d nL Q pc lv (a3 :: a2 :: a1 :: .ref (X.1.2.1 0) :: st) M :=
  z_callV (As := [a1, a2, a3]) hX lw_good 0 rfl rfl rfl wcX0_fraction wnX0 (z_w (List.mem_append_right _ (List.mem_of_getElem? (i := 631) (by decide +kernel))) rfl) wiX0_fraction wlX0_fraction wyX0_fraction hR (by decide) rfl hw hd hC (fun rv M2 h => by obtain ⟨rfl, rfl⟩ := h; exact kk)
theorem mcX9_213 (hX : Cx SX X "NotLikeThem" cc nL ret) {r : Int32} (hd : decode cc pc = .ok (.invokevirtual 213, 3)) (hR : 0 + 1 ≤ d) (hw : (st.map fun v => v.category).sum ≤ 8) (hC : CX2_isFull X.1 [.ref (X.1.2.1 2)] M (z_is (some (.int r)) M1)) (kk : Z SX X d nL Q (pc + 3) lv (.int r :: st) M1) : Z SX X d nL Q pc lv (.ref (X.1.2.1 2) :: st) M :=
  z_callV (As := []) hX lw_good 2 rfl rfl rfl wcX2_isFull wnX2 (z_w (List.mem_append_right _ (List.mem_of_getElem? (i := 652) (by decide +kernel))) rfl) wiX2_isFull wlX2_isFull wyX2_isFull hR (by decide) rfl hw hd hC (fun rv M2 h => by obtain ⟨rfl, rfl⟩ := h; exact kk)
theorem mcX9_216 (hX : Cx SX X "NotLikeThem" cc nL ret) {a1 : Value} (hd : decode cc pc = .ok (.invokevirtual 216, 3)) (hR : 1 + 1 ≤ d) (hw : (st.map fun v => v.category).sum ≤ 8) (hC : CX2_add X.1 [.ref (X.1.2.1 2), a1] M (z_is none M1)) (kk : Z SX X d nL Q (pc + 3) lv (st) M1) : Z SX X d nL Q pc lv (a1 :: .ref (X.1.2.1 2) :: st) M :=
  z_callV (As := [a1]) hX lw_good 2 rfl rfl rfl wcX2_add wnX2 (z_w (List.mem_append_right _ (List.mem_of_getElem? (i := 656) (by decide +kernel))) rfl) wiX2_add wlX2_add wyX2_add hR (by decide) rfl hw hd hC (fun rv M2 h => by obtain ⟨rfl, rfl⟩ := h; exact kk)
theorem mcX9_219 (hX : Cx SX X "NotLikeThem" cc nL ret) {r : Int32} (hd : decode cc pc = .ok (.invokevirtual 219, 3)) (hR : 0 + 1 ≤ d) (hw : (st.map fun v => v.category).sum ≤ 8) (hC : CX2_size X.1 [.ref (X.1.2.1 2)] M (z_is (some (.int r)) M1)) (kk : Z SX X d nL Q (pc + 3) lv (.int r :: st) M1) : Z SX X d nL Q pc lv (.ref (X.1.2.1 2) :: st) M :=
  z_callV (As := []) hX lw_good 2 rfl rfl rfl wcX2_size wnX2 (z_w (List.mem_append_right _ (List.mem_of_getElem? (i := 661) (by decide +kernel))) rfl) wiX2_size wlX2_size wyX2_size hR (by decide) rfl hw hd hC (fun rv M2 h => by obtain ⟨rfl, rfl⟩ := h; exact kk)
theorem mcX9_220 (hX : Cx SX X "NotLikeThem" cc nL ret) {a1 : Value} {r : Int32} (hd : decode cc pc = .ok (.invokevirtual 220, 3)) (hR : 2 + 1 ≤ d) (hw : (st.map fun v => v.category).sum ≤ 8) (hC : CX2_kindsOf X.1 [.ref (X.1.2.1 2), a1] M (z_is (some (.int r)) M1)) (kk : Z SX X d nL Q (pc + 3) lv (.int r :: st) M1) : Z SX X d nL Q pc lv (a1 :: .ref (X.1.2.1 2) :: st) M :=
  z_callV (As := [a1]) hX lw_good 2 rfl rfl rfl wcX2_kindsOf wnX2 (z_w (List.mem_append_right _ (List.mem_of_getElem? (i := 673) (by decide +kernel))) rfl) wiX2_kindsOf wlX2_kindsOf wyX2_kindsOf hR (by decide) rfl hw hd hC (fun rv M2 h => by obtain ⟨rfl, rfl⟩ := h; exact kk)
theorem mcX9_223 (hX : Cx SX X "NotLikeThem" cc nL ret) {r : Int64} (hd : decode cc pc = .ok (.invokevirtual 223, 3)) (hR : 3 + 1 ≤ d) (hw : (st.map fun v => v.category).sum ≤ 8) (hC : CX2_explanations X.1 [.ref (X.1.2.1 2)] M (z_is (some (.long r)) M1)) (kk : Z SX X d nL Q (pc + 3) lv (.long r :: st) M1) : Z SX X d nL Q pc lv (.ref (X.1.2.1 2) :: st) M :=
  z_callV (As := []) hX lw_good 2 rfl rfl rfl wcX2_explanations wnX2 (z_w (List.mem_append_right _ (List.mem_of_getElem? (i := 684) (by decide +kernel))) rfl) wiX2_explanations wlX2_explanations wyX2_explanations hR (by decide) rfl hw hd hC (fun rv M2 h => by obtain ⟨rfl, rfl⟩ := h; exact kk)
theorem mcX9_227 (hX : Cx SX X "NotLikeThem" cc nL ret) {r : Int32} (hd : decode cc pc = .ok (.invokevirtual 227, 3)) (hR : 3 + 1 ≤ d) (hw : (st.map fun v => v.category).sum ≤ 8) (hC : CX2_settleKinds X.1 [.ref (X.1.2.1 2)] M (z_is (some (.int r)) M1)) (kk : Z SX X d nL Q (pc + 3) lv (.int r :: st) M1) : Z SX X d nL Q pc lv (.ref (X.1.2.1 2) :: st) M :=
  z_callV (As := []) hX lw_good 2 rfl rfl rfl wcX2_settleKinds wnX2 (z_w (List.mem_append_right _ (List.mem_of_getElem? (i := 695) (by decide +kernel))) rfl) wiX2_settleKinds wlX2_settleKinds wyX2_settleKinds hR (by decide) rfl hw hd hC (fun rv M2 h => by obtain ⟨rfl, rfl⟩ := h; exact kk)
theorem mcX9_230 (hX : Cx SX X "NotLikeThem" cc nL ret) {a1 : Value} {r : Int32} (hd : decode cc pc = .ok (.invokestatic 230, 3)) (hR : 1 + 1 ≤ d) (hw : (st.map fun v => v.category).sum ≤ 8) (hC : CX9_isShopRun X.1 [a1] M (z_is (some (.int r)) M1)) (kk : Z SX X d nL Q (pc + 3) lv (.int r :: st) M1) : Z SX X d nL Q pc lv (a1 :: st) M :=
  z_callS (As := [a1]) hX lw_good wcX9_isShopRun wnX9 (z_w (List.mem_append_right _ (List.mem_of_getElem? (i := 708) (by decide +kernel))) rfl) wsX9_isShopRun wyX9_isShopRun hR (by decide) rfl hw hd hC (fun rv M2 h => by obtain ⟨rfl, rfl⟩ := h; exact kk)
theorem gfX9_70 (hX : Cx SX X "NotLikeThem" cc nL ret) (hd : decode cc pc = .ok (.getfield 70, 3)) (kk : Z SX X d nL Q (pc + 3) lv (.ref (X.1.2.1 5) :: st) M) : Z SX X d nL Q pc lv (.ref (X.1.2.1 9) :: st) M := z_getR hX 9 7 5 rfl rfl inX9 (by decide) rfl (z_w (List.mem_append_right _ (List.mem_of_getElem? (i := 240) (by decide +kernel))) rfl) hd kk
theorem mcX9_233 (hX : Cx SX X "NotLikeThem" cc nL ret) {a1 a2 a3 : Value} {r : Int32} (hd : decode cc pc = .ok (.invokevirtual 233, 3)) (hR : 4 + 1 ≤ d) (hw : (st.map fun v => v.category).sum ≤ 8) (hC : CX5_askedFrom X.1 [.ref (X.1.2.1 5), a1, a2, a3] M (z_is (some (.int r)) M1)) (kk : Z SX X d nL Q (pc + 3) lv (.int r :: st) M1) : Z SX X d nL Q pc lv (a3 :: a2 :: a1 :: .ref (X.1.2.1 5) :: st) M :=
  z_callV (As := [a1, a2, a3]) hX lw_good 5 rfl rfl rfl wcX5_askedFrom wnX5 (z_w (List.mem_append_right _ (List.mem_of_getElem? (i := 711) (by decide +kernel))) rfl) wiX5_askedFrom wlX5_askedFrom wyX5_askedFrom hR (by decide) rfl hw hd hC (fun rv M2 h => by obtain ⟨rfl, rfl⟩ := h; exact kk)
theorem mcX9_236 (hX : Cx SX X "NotLikeThem" cc nL ret) {a1 : Value} {r : Int32} (hd : decode cc pc = .ok (.invokestatic 236, 3)) (hR : 1 + 1 ≤ d) (hw : (st.map fun v => v.category).sum ≤ 8) (hC : CX9_isMoney X.1 [a1] M (z_is (some (.int r)) M1)) (kk : Z SX X d nL Q (pc + 3) lv (.int r :: st) M1) : Z SX X d nL Q pc lv (a1 :: st) M :=
  z_callS (As := [a1]) hX lw_good wcX9_isMoney wnX9 (z_w (List.mem_append_right _ (List.mem_of_getElem? (i := 721) (by decide +kernel))) rfl) wsX9_isMoney wyX9_isMoney hR (by decide) rfl hw hd hC (fun rv M2 h => by obtain ⟨rfl, rfl⟩ := h; exact kk)
theorem mcX9_239 (hX : Cx SX X "NotLikeThem" cc nL ret) {a1 a2 a3 a4 a5 : Value} {r : Int32} (hd : decode cc pc = .ok (.invokevirtual 239, 3)) (hR : 5 + 1 ≤ d) (hw : (st.map fun v => v.category).sum ≤ 8) (hC : CX5_gainBy X.1 [.ref (X.1.2.1 5), a1, a2, a3, a4, a5] M (z_is (some (.int r)) M1)) (kk : Z SX X d nL Q (pc + 3) lv (.int r :: st) M1) : Z SX X d nL Q pc lv (a5 :: a4 :: a3 :: a2 :: a1 :: .ref (X.1.2.1 5) :: st) M :=
  z_callV (As := [a1, a2, a3, a4, a5]) hX lw_good 5 rfl rfl rfl wcX5_gainBy wnX5 (z_w (List.mem_append_right _ (List.mem_of_getElem? (i := 724) (by decide +kernel))) rfl) wiX5_gainBy wlX5_gainBy wyX5_gainBy hR (by decide) rfl hw hd hC (fun rv M2 h => by obtain ⟨rfl, rfl⟩ := h; exact kk)
theorem mcX9_243 (hX : Cx SX X "NotLikeThem" cc nL ret) {a1 a2 a3 a4 : Value} {r : Int32} (hd : decode cc pc = .ok (.invokevirtual 243, 3)) (hR : 5 + 1 ≤ d) (hw : (st.map fun v => v.category).sum ≤ 8) (hC : CX5_bestStock X.1 [.ref (X.1.2.1 5), a1, a2, a3, a4] M (z_is (some (.int r)) M1)) (kk : Z SX X d nL Q (pc + 3) lv (.int r :: st) M1) : Z SX X d nL Q pc lv (a4 :: a3 :: a2 :: a1 :: .ref (X.1.2.1 5) :: st) M :=
  z_callV (As := [a1, a2, a3, a4]) hX lw_good 5 rfl rfl rfl wcX5_bestStock wnX5 (z_w (List.mem_append_right _ (List.mem_of_getElem? (i := 738) (by decide +kernel))) rfl) wiX5_bestStock wlX5_bestStock wyX5_bestStock hR (by decide) rfl hw hd hC (fun rv M2 h => by obtain ⟨rfl, rfl⟩ := h; exact kk)
theorem mcX9_247 (hX : Cx SX X "NotLikeThem" cc nL ret) {r : Int32} (hd : decode cc pc = .ok (.invokevirtual 247, 3)) (hR : 1 + 1 ≤ d) (hw : (st.map fun v => v.category).sum ≤ 8) (hC : CX7_ties X.1 [.ref (X.1.2.1 7)] M (z_is (some (.int r)) M1)) (kk : Z SX X d nL Q (pc + 3) lv (.int r :: st) M1) : Z SX X d nL Q pc lv (.ref (X.1.2.1 7) :: st) M :=
  z_callV (As := []) hX lw_good 7 rfl rfl rfl wcX7_ties wnX7 (z_w (List.mem_append_right _ (List.mem_of_getElem? (i := 746) (by decide +kernel))) rfl) wiX7_ties wlX7_ties wyX7_ties hR (by decide) rfl hw hd hC (fun rv M2 h => by obtain ⟨rfl, rfl⟩ := h; exact kk)
theorem gfX10_7 (hX : Cx SM X "NotLikeThemModel" cc nL ret) (hd : decode cc pc = .ok (.getfield 7, 3)) (kk : Z SM X d nL Q (pc + 3) lv (.int (M.1 0 0) :: st) M) : Z SM X d nL Q pc lv (.ref (X.1.2.1 0) :: st) M := z_getI hX 0 0 rfl rfl inX10 (by decide) rfl (z_w (List.mem_append_right _ (List.mem_of_getElem? (i := 757) (by decide +kernel))) rfl) hd kk
theorem mcX10_60 (hX : Cx SM X "NotLikeThemModel" cc nL ret) {a1 a2 a3 : Value} {r : Int32} (hd : decode cc pc = .ok (.invokestatic 60, 3)) (hR : 0 + 1 ≤ d) (hw : (st.map fun v => v.category).sum ≤ 8) (hC : CX10_in X.1 [a1, a2, a3] M (z_is (some (.int r)) M1)) (kk : Z SM X d nL Q (pc + 3) lv (.int r :: st) M1) : Z SM X d nL Q pc lv (a3 :: a2 :: a1 :: st) M :=
  z_callS (As := [a1, a2, a3]) hX lw_good wcX10_in wnX10 (z_w (List.mem_append_right _ (List.mem_of_getElem? (i := 826) (by decide +kernel))) rfl) wsX10_in wyX10_in hR (by decide) rfl hw hd hC (fun rv M2 h => by obtain ⟨rfl, rfl⟩ := h; exact kk)
theorem pfX10_7 (hX : Cx SM X "NotLikeThemModel" cc nL ret) {v : Int32} (hd : decode cc pc = .ok (.putfield 7, 3)) (kk : ∀ M1, M1 = z_st M 0 0 v → Z SM X d nL Q (pc + 3) lv st M1) : Z SM X d nL Q pc lv (.int v :: .ref (X.1.2.1 0) :: st) M := z_put hX 0 0 tyX10 tyX10_ok nmX10 rfl rfl inX10 (by decide) rfl (z_w (List.mem_append_right _ (List.mem_of_getElem? (i := 757) (by decide +kernel))) rfl) rfl rfl hd (kk _ rfl)
theorem pfX10_66 (hX : Cx SM X "NotLikeThemModel" cc nL ret) {v : Int32} (hd : decode cc pc = .ok (.putfield 66, 3)) (kk : ∀ M1, M1 = z_st M 0 18 v → Z SM X d nL Q (pc + 3) lv st M1) : Z SM X d nL Q pc lv (.int v :: .ref (X.1.2.1 0) :: st) M := z_put hX 0 18 tyX10 tyX10_ok nmX10 rfl rfl inX10 (by decide) rfl (z_w (List.mem_append_right _ (List.mem_of_getElem? (i := 775) (by decide +kernel))) rfl) rfl rfl hd (kk _ rfl)
theorem gfX10_13 (hX : Cx SM X "NotLikeThemModel" cc nL ret) (hd : decode cc pc = .ok (.getfield 13, 3)) (kk : Z SM X d nL Q (pc + 3) lv (.ref (X.1.2.1 1) :: st) M) : Z SM X d nL Q pc lv (.ref (X.1.2.1 0) :: st) M := z_getR hX 0 1 1 rfl rfl inX10 (by decide) rfl (z_w (List.mem_append_right _ (List.mem_of_getElem? (i := 758) (by decide +kernel))) rfl) hd kk
theorem gfX10_17 (hX : Cx SM X "NotLikeThemModel" cc nL ret) (hd : decode cc pc = .ok (.getfield 17, 3)) (kk : Z SM X d nL Q (pc + 3) lv (.ref (X.1.2.1 2) :: st) M) : Z SM X d nL Q pc lv (.ref (X.1.2.1 0) :: st) M := z_getR hX 0 2 2 rfl rfl inX10 (by decide) rfl (z_w (List.mem_append_right _ (List.mem_of_getElem? (i := 759) (by decide +kernel))) rfl) hd kk
theorem gfX10_20 (hX : Cx SM X "NotLikeThemModel" cc nL ret) (hd : decode cc pc = .ok (.getfield 20, 3)) (kk : Z SM X d nL Q (pc + 3) lv (.ref (X.1.2.1 3) :: st) M) : Z SM X d nL Q pc lv (.ref (X.1.2.1 0) :: st) M := z_getR hX 0 3 3 rfl rfl inX10 (by decide) rfl (z_w (List.mem_append_right _ (List.mem_of_getElem? (i := 760) (by decide +kernel))) rfl) hd kk
theorem mcX10_69 (hX : Cx SM X "NotLikeThemModel" cc nL ret) {a1 : Value} {r : Int32} (hd : decode cc pc = .ok (.invokevirtual 69, 3)) (hR : 1 + 1 ≤ d) (hw : (st.map fun v => v.category).sum ≤ 8) (hC : CX10_isPerson X.1 [.ref (X.1.2.1 0), a1] M (z_is (some (.int r)) M1)) (kk : Z SM X d nL Q (pc + 3) lv (.int r :: st) M1) : Z SM X d nL Q pc lv (a1 :: .ref (X.1.2.1 0) :: st) M :=
  z_callV (As := [a1]) hX lw_good 0 rfl rfl rfl wcX10_isPerson wnX10 (z_w (List.mem_append_right _ (List.mem_of_getElem? (i := 833) (by decide +kernel))) rfl) wiX10_isPerson wlX10_isPerson wyX10_isPerson hR (by decide) rfl hw hd hC (fun rv M2 h => by obtain ⟨rfl, rfl⟩ := h; exact kk)
theorem mcX10_79 (hX : Cx SM X "NotLikeThemModel" cc nL ret) {a1 a2 : Value} {r : Int32} (hd : decode cc pc = .ok (.invokevirtual 79, 3)) (hR : 0 + 1 ≤ d) (hw : (st.map fun v => v.category).sum ≤ 8) (hC : CX10_sumOf X.1 [.ref (X.1.2.1 0), a1, a2] M (z_is (some (.int r)) M1)) (kk : Z SM X d nL Q (pc + 3) lv (.int r :: st) M1) : Z SM X d nL Q pc lv (a2 :: a1 :: .ref (X.1.2.1 0) :: st) M :=
  z_callV (As := [a1, a2]) hX lw_good 0 rfl rfl rfl wcX10_sumOf wnX10 (z_w (List.mem_append_right _ (List.mem_of_getElem? (i := 860) (by decide +kernel))) rfl) wiX10_sumOf wlX10_sumOf wyX10_sumOf hR (by decide) rfl hw hd hC (fun rv M2 h => by obtain ⟨rfl, rfl⟩ := h; exact kk)
theorem mcX10_83 (hX : Cx SM X "NotLikeThemModel" cc nL ret) {a1 a2 a3 : Value} {r : Int32} (hd : decode cc pc = .ok (.invokevirtual 83, 3)) (hR : 1 + 1 ≤ d) (hw : (st.map fun v => v.category).sum ≤ 8) (hC : CX10_nextOf X.1 [.ref (X.1.2.1 0), a1, a2, a3] M (z_is (some (.int r)) M1)) (kk : Z SM X d nL Q (pc + 3) lv (.int r :: st) M1) : Z SM X d nL Q pc lv (a3 :: a2 :: a1 :: .ref (X.1.2.1 0) :: st) M :=
  z_callV (As := [a1, a2, a3]) hX lw_good 0 rfl rfl rfl wcX10_nextOf wnX10 (z_w (List.mem_append_right _ (List.mem_of_getElem? (i := 872) (by decide +kernel))) rfl) wiX10_nextOf wlX10_nextOf wyX10_nextOf hR (by decide) rfl hw hd hC (fun rv M2 h => by obtain ⟨rfl, rfl⟩ := h; exact kk)
theorem mcX10_87 (hX : Cx SM X "NotLikeThemModel" cc nL ret) {a1 a2 a3 : Value} {r : Int32} (hd : decode cc pc = .ok (.invokevirtual 87, 3)) (hR : 0 + 1 ≤ d) (hw : (st.map fun v => v.category).sum ≤ 8) (hC : CX10_with X.1 [.ref (X.1.2.1 0), a1, a2, a3] M (z_is (some (.int r)) M1)) (kk : Z SM X d nL Q (pc + 3) lv (.int r :: st) M1) : Z SM X d nL Q pc lv (a3 :: a2 :: a1 :: .ref (X.1.2.1 0) :: st) M :=
  z_callV (As := [a1, a2, a3]) hX lw_good 0 rfl rfl rfl wcX10_with wnX10 (z_w (List.mem_append_right _ (List.mem_of_getElem? (i := 888) (by decide +kernel))) rfl) wiX10_with wlX10_with wyX10_with hR (by decide) rfl hw hd hC (fun rv M2 h => by obtain ⟨rfl, rfl⟩ := h; exact kk)
theorem mcX10_90 (hX : Cx SM X "NotLikeThemModel" cc nL ret) {a1 : Value} {r : Int32} (hd : decode cc pc = .ok (.invokevirtual 90, 3)) (hR : 1 + 1 ≤ d) (hw : (st.map fun v => v.category).sum ≤ 8) (hC : CX10_isDress X.1 [.ref (X.1.2.1 0), a1] M (z_is (some (.int r)) M1)) (kk : Z SM X d nL Q (pc + 3) lv (.int r :: st) M1) : Z SM X d nL Q pc lv (a1 :: .ref (X.1.2.1 0) :: st) M :=
  z_callV (As := [a1]) hX lw_good 0 rfl rfl rfl wcX10_isDress wnX10 (z_w (List.mem_append_right _ (List.mem_of_getElem? (i := 856) (by decide +kernel))) rfl) wiX10_isDress wlX10_isDress wyX10_isDress hR (by decide) rfl hw hd hC (fun rv M2 h => by obtain ⟨rfl, rfl⟩ := h; exact kk)
theorem mcX10_93 (hX : Cx SM X "NotLikeThemModel" cc nL ret) {a1 : Value} {r : Int32} (hd : decode cc pc = .ok (.invokevirtual 93, 3)) (hR : 2 + 1 ≤ d) (hw : (st.map fun v => v.category).sum ≤ 8) (hC : CX10_calmOf X.1 [.ref (X.1.2.1 0), a1] M (z_is (some (.int r)) M1)) (kk : Z SM X d nL Q (pc + 3) lv (.int r :: st) M1) : Z SM X d nL Q pc lv (a1 :: .ref (X.1.2.1 0) :: st) M :=
  z_callV (As := [a1]) hX lw_good 0 rfl rfl rfl wcX10_calmOf wnX10 (z_w (List.mem_append_right _ (List.mem_of_getElem? (i := 868) (by decide +kernel))) rfl) wiX10_calmOf wlX10_calmOf wyX10_calmOf hR (by decide) rfl hw hd hC (fun rv M2 h => by obtain ⟨rfl, rfl⟩ := h; exact kk)
theorem mcX10_97 (hX : Cx SM X "NotLikeThemModel" cc nL ret) {a1 : Value} {r : Int32} (hd : decode cc pc = .ok (.invokestatic 97, 3)) (hR : 1 + 1 ≤ d) (hw : (st.map fun v => v.category).sum ≤ 8) (hC : CX10_isWay X.1 [a1] M (z_is (some (.int r)) M1)) (kk : Z SM X d nL Q (pc + 3) lv (.int r :: st) M1) : Z SM X d nL Q pc lv (a1 :: st) M :=
  z_callS (As := [a1]) hX lw_good wcX10_isWay wnX10 (z_w (List.mem_append_right _ (List.mem_of_getElem? (i := 880) (by decide +kernel))) rfl) wsX10_isWay wyX10_isWay hR (by decide) rfl hw hd hC (fun rv M2 h => by obtain ⟨rfl, rfl⟩ := h; exact kk)
theorem mcX10_102 (hX : Cx SM X "NotLikeThemModel" cc nL ret) {a1 a2 : Value} {r : Int32} (hd : decode cc pc = .ok (.invokevirtual 102, 3)) (hR : 2 + 1 ≤ d) (hw : (st.map fun v => v.category).sum ≤ 8) (hC : CX10_stepFrom X.1 [.ref (X.1.2.1 0), a1, a2] M (z_is (some (.int r)) M1)) (kk : Z SM X d nL Q (pc + 3) lv (.int r :: st) M1) : Z SM X d nL Q pc lv (a2 :: a1 :: .ref (X.1.2.1 0) :: st) M :=
  z_callV (As := [a1, a2]) hX lw_good 0 rfl rfl rfl wcX10_stepFrom wnX10 (z_w (List.mem_append_right _ (List.mem_of_getElem? (i := 884) (by decide +kernel))) rfl) wiX10_stepFrom wlX10_stepFrom wyX10_stepFrom hR (by decide) rfl hw hd hC (fun rv M2 h => by obtain ⟨rfl, rfl⟩ := h; exact kk)
theorem mcX10_105 (hX : Cx SM X "NotLikeThemModel" cc nL ret) {r : Int32} (hd : decode cc pc = .ok (.invokevirtual 105, 3)) (hR : 0 + 1 ≤ d) (hw : (st.map fun v => v.category).sum ≤ 8) (hC : CX10_all X.1 [.ref (X.1.2.1 0)] M (z_is (some (.int r)) M1)) (kk : Z SM X d nL Q (pc + 3) lv (.int r :: st) M1) : Z SM X d nL Q pc lv (.ref (X.1.2.1 0) :: st) M :=
  z_callV (As := []) hX lw_good 0 rfl rfl rfl wcX10_all wnX10 (z_w (List.mem_append_right _ (List.mem_of_getElem? (i := 901) (by decide +kernel))) rfl) wiX10_all wlX10_all wyX10_all hR (by decide) rfl hw hd hC (fun rv M2 h => by obtain ⟨rfl, rfl⟩ := h; exact kk)
theorem gfX10_23 (hX : Cx SM X "NotLikeThemModel" cc nL ret) (hd : decode cc pc = .ok (.getfield 23, 3)) (kk : Z SM X d nL Q (pc + 3) lv (.ref (X.1.2.1 4) :: st) M) : Z SM X d nL Q pc lv (.ref (X.1.2.1 0) :: st) M := z_getR hX 0 4 4 rfl rfl inX10 (by decide) rfl (z_w (List.mem_append_right _ (List.mem_of_getElem? (i := 761) (by decide +kernel))) rfl) hd kk
theorem gfX10_26 (hX : Cx SM X "NotLikeThemModel" cc nL ret) (hd : decode cc pc = .ok (.getfield 26, 3)) (kk : Z SM X d nL Q (pc + 3) lv (.ref (X.1.2.1 5) :: st) M) : Z SM X d nL Q pc lv (.ref (X.1.2.1 0) :: st) M := z_getR hX 0 5 5 rfl rfl inX10 (by decide) rfl (z_w (List.mem_append_right _ (List.mem_of_getElem? (i := 762) (by decide +kernel))) rfl) hd kk
theorem pfX10_109 (hX : Cx SM X "NotLikeThemModel" cc nL ret) {v : Int32} (hd : decode cc pc = .ok (.putfield 109, 3)) (kk : ∀ M1, M1 = z_st M 0 6 v → Z SM X d nL Q (pc + 3) lv st M1) : Z SM X d nL Q pc lv (.int v :: .ref (X.1.2.1 0) :: st) M := z_put hX 0 6 tyX10 tyX10_ok nmX10 rfl rfl inX10 (by decide) rfl (z_w (List.mem_append_right _ (List.mem_of_getElem? (i := 763) (by decide +kernel))) rfl) rfl rfl hd (kk _ rfl)
theorem pfX10_112 (hX : Cx SM X "NotLikeThemModel" cc nL ret) {v : Int32} (hd : decode cc pc = .ok (.putfield 112, 3)) (kk : ∀ M1, M1 = z_st M 0 7 v → Z SM X d nL Q (pc + 3) lv st M1) : Z SM X d nL Q pc lv (.int v :: .ref (X.1.2.1 0) :: st) M := z_put hX 0 7 tyX10 tyX10_ok nmX10 rfl rfl inX10 (by decide) rfl (z_w (List.mem_append_right _ (List.mem_of_getElem? (i := 764) (by decide +kernel))) rfl) rfl rfl hd (kk _ rfl)
theorem gfX10_112 (hX : Cx SM X "NotLikeThemModel" cc nL ret) (hd : decode cc pc = .ok (.getfield 112, 3)) (kk : Z SM X d nL Q (pc + 3) lv (.int (M.1 0 7) :: st) M) : Z SM X d nL Q pc lv (.ref (X.1.2.1 0) :: st) M := z_getI hX 0 7 rfl rfl inX10 (by decide) rfl (z_w (List.mem_append_right _ (List.mem_of_getElem? (i := 764) (by decide +kernel))) rfl) hd kk
theorem pfX10_115 (hX : Cx SM X "NotLikeThemModel" cc nL ret) {v : Int32} (hd : decode cc pc = .ok (.putfield 115, 3)) (kk : ∀ M1, M1 = z_st M 0 8 v → Z SM X d nL Q (pc + 3) lv st M1) : Z SM X d nL Q pc lv (.int v :: .ref (X.1.2.1 0) :: st) M := z_put hX 0 8 tyX10 tyX10_ok nmX10 rfl rfl inX10 (by decide) rfl (z_w (List.mem_append_right _ (List.mem_of_getElem? (i := 765) (by decide +kernel))) rfl) rfl rfl hd (kk _ rfl)
theorem mcX10_120 (hX : Cx SM X "NotLikeThemModel" cc nL ret) {a1 : Value} (hd : decode cc pc = .ok (.invokevirtual 120, 3)) (hR : 3 + 1 ≤ d) (hw : (st.map fun v => v.category).sum ≤ 8) (hC : CX10_layLeads X.1 [.ref (X.1.2.1 0), a1] M (z_is none M1)) (kk : Z SM X d nL Q (pc + 3) lv (st) M1) : Z SM X d nL Q pc lv (a1 :: .ref (X.1.2.1 0) :: st) M :=
  z_callV (As := [a1]) hX lw_good 0 rfl rfl rfl wcX10_layLeads wnX10 (z_w (List.mem_append_right _ (List.mem_of_getElem? (i := 897) (by decide +kernel))) rfl) wiX10_layLeads wlX10_layLeads wyX10_layLeads hR (by decide) rfl hw hd hC (fun rv M2 h => by obtain ⟨rfl, rfl⟩ := h; exact kk)
theorem mcX10_124 (hX : Cx SM X "NotLikeThemModel" cc nL ret) {a1 : Value} (hd : decode cc pc = .ok (.invokevirtual 124, 3)) (hR : 1 + 1 ≤ d) (hw : (st.map fun v => v.category).sum ≤ 8) (hC : CX10_layRun X.1 [.ref (X.1.2.1 0), a1] M (z_is none M1)) (kk : Z SM X d nL Q (pc + 3) lv (st) M1) : Z SM X d nL Q pc lv (a1 :: .ref (X.1.2.1 0) :: st) M :=
  z_callV (As := [a1]) hX lw_good 0 rfl rfl rfl wcX10_layRun wnX10 (z_w (List.mem_append_right _ (List.mem_of_getElem? (i := 905) (by decide +kernel))) rfl) wiX10_layRun wlX10_layRun wyX10_layRun hR (by decide) rfl hw hd hC (fun rv M2 h => by obtain ⟨rfl, rfl⟩ := h; exact kk)
theorem gfX10_109 (hX : Cx SM X "NotLikeThemModel" cc nL ret) (hd : decode cc pc = .ok (.getfield 109, 3)) (kk : Z SM X d nL Q (pc + 3) lv (.int (M.1 0 6) :: st) M) : Z SM X d nL Q pc lv (.ref (X.1.2.1 0) :: st) M := z_getI hX 0 6 rfl rfl inX10 (by decide) rfl (z_w (List.mem_append_right _ (List.mem_of_getElem? (i := 763) (by decide +kernel))) rfl) hd kk
theorem gfX10_115 (hX : Cx SM X "NotLikeThemModel" cc nL ret) (hd : decode cc pc = .ok (.getfield 115, 3)) (kk : Z SM X d nL Q (pc + 3) lv (.int (M.1 0 8) :: st) M) : Z SM X d nL Q pc lv (.ref (X.1.2.1 0) :: st) M := z_getI hX 0 8 rfl rfl inX10 (by decide) rfl (z_w (List.mem_append_right _ (List.mem_of_getElem? (i := 765) (by decide +kernel))) rfl) hd kk
theorem gfX10_29 (hX : Cx SM X "NotLikeThemModel" cc nL ret) (hd : decode cc pc = .ok (.getfield 29, 3)) (kk : Z SM X d nL Q (pc + 3) lv (.ref (X.1.2.1 6) :: st) M) : Z SM X d nL Q pc lv (.ref (X.1.2.1 0) :: st) M := z_getR hX 0 9 6 rfl rfl inX10 (by decide) rfl (z_w (List.mem_append_right _ (List.mem_of_getElem? (i := 766) (by decide +kernel))) rfl) hd kk
theorem gfX10_35 (hX : Cx SM X "NotLikeThemModel" cc nL ret) (hd : decode cc pc = .ok (.getfield 35, 3)) (kk : Z SM X d nL Q (pc + 3) lv (.ref (X.1.2.1 8) :: st) M) : Z SM X d nL Q pc lv (.ref (X.1.2.1 0) :: st) M := z_getR hX 0 11 8 rfl rfl inX10 (by decide) rfl (z_w (List.mem_append_right _ (List.mem_of_getElem? (i := 768) (by decide +kernel))) rfl) hd kk
theorem mcX10_127 (hX : Cx SM X "NotLikeThemModel" cc nL ret) {r : Int32} (hd : decode cc pc = .ok (.invokevirtual 127, 3)) (hR : 0 + 1 ≤ d) (hw : (st.map fun v => v.category).sum ≤ 8) (hC : CX10_leastOfRing X.1 [.ref (X.1.2.1 0)] M (z_is (some (.int r)) M1)) (kk : Z SM X d nL Q (pc + 3) lv (.int r :: st) M1) : Z SM X d nL Q pc lv (.ref (X.1.2.1 0) :: st) M :=
  z_callV (As := []) hX lw_good 0 rfl rfl rfl wcX10_leastOfRing wnX10 (z_w (List.mem_append_right _ (List.mem_of_getElem? (i := 917) (by decide +kernel))) rfl) wiX10_leastOfRing wlX10_leastOfRing wyX10_leastOfRing hR (by decide) rfl hw hd hC (fun rv M2 h => by obtain ⟨rfl, rfl⟩ := h; exact kk)
theorem gfX10_32 (hX : Cx SM X "NotLikeThemModel" cc nL ret) (hd : decode cc pc = .ok (.getfield 32, 3)) (kk : Z SM X d nL Q (pc + 3) lv (.ref (X.1.2.1 7) :: st) M) : Z SM X d nL Q pc lv (.ref (X.1.2.1 0) :: st) M := z_getR hX 0 10 7 rfl rfl inX10 (by decide) rfl (z_w (List.mem_append_right _ (List.mem_of_getElem? (i := 767) (by decide +kernel))) rfl) hd kk
theorem mcX10_130 (hX : Cx SM X "NotLikeThemModel" cc nL ret) {a1 : Value} (hd : decode cc pc = .ok (.invokevirtual 130, 3)) (hR : 4 + 1 ≤ d) (hw : (st.map fun v => v.category).sum ≤ 8) (hC : CX10_layRings X.1 [.ref (X.1.2.1 0), a1] M (z_is none M1)) (kk : Z SM X d nL Q (pc + 3) lv (st) M1) : Z SM X d nL Q pc lv (a1 :: .ref (X.1.2.1 0) :: st) M :=
  z_callV (As := [a1]) hX lw_good 0 rfl rfl rfl wcX10_layRings wnX10 (z_w (List.mem_append_right _ (List.mem_of_getElem? (i := 913) (by decide +kernel))) rfl) wiX10_layRings wlX10_layRings wyX10_layRings hR (by decide) rfl hw hd hC (fun rv M2 h => by obtain ⟨rfl, rfl⟩ := h; exact kk)
theorem mcX10_133 (hX : Cx SM X "NotLikeThemModel" cc nL ret) {a1 : Value} {r : Int32} (hd : decode cc pc = .ok (.invokevirtual 133, 3)) (hR : 3 + 1 ≤ d) (hw : (st.map fun v => v.category).sum ≤ 8) (hC : CX10_isRest X.1 [.ref (X.1.2.1 0), a1] M (z_is (some (.int r)) M1)) (kk : Z SM X d nL Q (pc + 3) lv (.int r :: st) M1) : Z SM X d nL Q pc lv (a1 :: .ref (X.1.2.1 0) :: st) M :=
  z_callV (As := [a1]) hX lw_good 0 rfl rfl rfl wcX10_isRest wnX10 (z_w (List.mem_append_right _ (List.mem_of_getElem? (i := 933) (by decide +kernel))) rfl) wiX10_isRest wlX10_isRest wyX10_isRest hR (by decide) rfl hw hd hC (fun rv M2 h => by obtain ⟨rfl, rfl⟩ := h; exact kk)
theorem mcX10_136 (hX : Cx SM X "NotLikeThemModel" cc nL ret) {a1 : Value} {r : Int32} (hd : decode cc pc = .ok (.invokevirtual 136, 3)) (hR : 4 + 1 ≤ d) (hw : (st.map fun v => v.category).sum ≤ 8) (hC : CX10_restOf X.1 [.ref (X.1.2.1 0), a1] M (z_is (some (.int r)) M1)) (kk : Z SM X d nL Q (pc + 3) lv (.int r :: st) M1) : Z SM X d nL Q pc lv (a1 :: .ref (X.1.2.1 0) :: st) M :=
  z_callV (As := [a1]) hX lw_good 0 rfl rfl rfl wcX10_restOf wnX10 (z_w (List.mem_append_right _ (List.mem_of_getElem? (i := 941) (by decide +kernel))) rfl) wiX10_restOf wlX10_restOf wyX10_restOf hR (by decide) rfl hw hd hC (fun rv M2 h => by obtain ⟨rfl, rfl⟩ := h; exact kk)
theorem mcX10_139 (hX : Cx SM X "NotLikeThemModel" cc nL ret) {r : Int32} (hd : decode cc pc = .ok (.invokevirtual 139, 3)) (hR : 0 + 1 ≤ d) (hw : (st.map fun v => v.category).sum ≤ 8) (hC : CX10_isEven X.1 [.ref (X.1.2.1 0)] M (z_is (some (.int r)) M1)) (kk : Z SM X d nL Q (pc + 3) lv (.int r :: st) M1) : Z SM X d nL Q pc lv (.ref (X.1.2.1 0) :: st) M :=
  z_callV (As := []) hX lw_good 0 rfl rfl rfl wcX10_isEven wnX10 (z_w (List.mem_append_right _ (List.mem_of_getElem? (i := 949) (by decide +kernel))) rfl) wiX10_isEven wlX10_isEven wyX10_isEven hR (by decide) rfl hw hd hC (fun rv M2 h => by obtain ⟨rfl, rfl⟩ := h; exact kk)
theorem mcX10_143 (hX : Cx SM X "NotLikeThemModel" cc nL ret) {a1 a2 : Value} {r : Int32} (hd : decode cc pc = .ok (.invokevirtual 143, 3)) (hR : 0 + 1 ≤ d) (hw : (st.map fun v => v.category).sum ≤ 8) (hC : CX10_loneOf X.1 [.ref (X.1.2.1 0), a1, a2] M (z_is (some (.int r)) M1)) (kk : Z SM X d nL Q (pc + 3) lv (.int r :: st) M1) : Z SM X d nL Q pc lv (a2 :: a1 :: .ref (X.1.2.1 0) :: st) M :=
  z_callV (As := [a1, a2]) hX lw_good 0 rfl rfl rfl wcX10_loneOf wnX10 (z_w (List.mem_append_right _ (List.mem_of_getElem? (i := 961) (by decide +kernel))) rfl) wiX10_loneOf wlX10_loneOf wyX10_loneOf hR (by decide) rfl hw hd hC (fun rv M2 h => by obtain ⟨rfl, rfl⟩ := h; exact kk)
theorem gfX10_44 (hX : Cx SM X "NotLikeThemModel" cc nL ret) (hd : decode cc pc = .ok (.getfield 44, 3)) (kk : Z SM X d nL Q (pc + 3) lv (.ref (X.1.2.1 11) :: st) M) : Z SM X d nL Q pc lv (.ref (X.1.2.1 0) :: st) M := z_getR hX 0 14 11 rfl rfl inX10 (by decide) rfl (z_w (List.mem_append_right _ (List.mem_of_getElem? (i := 771) (by decide +kernel))) rfl) hd kk
theorem gfX10_38 (hX : Cx SM X "NotLikeThemModel" cc nL ret) (hd : decode cc pc = .ok (.getfield 38, 3)) (kk : Z SM X d nL Q (pc + 3) lv (.ref (X.1.2.1 9) :: st) M) : Z SM X d nL Q pc lv (.ref (X.1.2.1 0) :: st) M := z_getR hX 0 12 9 rfl rfl inX10 (by decide) rfl (z_w (List.mem_append_right _ (List.mem_of_getElem? (i := 769) (by decide +kernel))) rfl) hd kk
theorem gfX10_41 (hX : Cx SM X "NotLikeThemModel" cc nL ret) (hd : decode cc pc = .ok (.getfield 41, 3)) (kk : Z SM X d nL Q (pc + 3) lv (.ref (X.1.2.1 10) :: st) M) : Z SM X d nL Q pc lv (.ref (X.1.2.1 0) :: st) M := z_getR hX 0 13 10 rfl rfl inX10 (by decide) rfl (z_w (List.mem_append_right _ (List.mem_of_getElem? (i := 770) (by decide +kernel))) rfl) hd kk
theorem pfX10_146 (hX : Cx SM X "NotLikeThemModel" cc nL ret) {v : Int32} (hd : decode cc pc = .ok (.putfield 146, 3)) (kk : ∀ M1, M1 = z_st M 0 15 v → Z SM X d nL Q (pc + 3) lv st M1) : Z SM X d nL Q pc lv (.int v :: .ref (X.1.2.1 0) :: st) M := z_put hX 0 15 tyX10 tyX10_ok nmX10 rfl rfl inX10 (by decide) rfl (z_w (List.mem_append_right _ (List.mem_of_getElem? (i := 772) (by decide +kernel))) rfl) rfl rfl hd (kk _ rfl)
theorem gfX10_146 (hX : Cx SM X "NotLikeThemModel" cc nL ret) (hd : decode cc pc = .ok (.getfield 146, 3)) (kk : Z SM X d nL Q (pc + 3) lv (.int (M.1 0 15) :: st) M) : Z SM X d nL Q pc lv (.ref (X.1.2.1 0) :: st) M := z_getI hX 0 15 rfl rfl inX10 (by decide) rfl (z_w (List.mem_append_right _ (List.mem_of_getElem? (i := 772) (by decide +kernel))) rfl) hd kk
theorem mcX10_149 (hX : Cx SM X "NotLikeThemModel" cc nL ret) {a1 : Value} (hd : decode cc pc = .ok (.invokevirtual 149, 3)) (hR : 1 + 1 ≤ d) (hw : (st.map fun v => v.category).sum ≤ 8) (hC : CX10_layFar X.1 [.ref (X.1.2.1 0), a1] M (z_is none M1)) (kk : Z SM X d nL Q (pc + 3) lv (st) M1) : Z SM X d nL Q pc lv (a1 :: .ref (X.1.2.1 0) :: st) M :=
  z_callV (As := [a1]) hX lw_good 0 rfl rfl rfl wcX10_layFar wnX10 (z_w (List.mem_append_right _ (List.mem_of_getElem? (i := 981) (by decide +kernel))) rfl) wiX10_layFar wlX10_layFar wyX10_layFar hR (by decide) rfl hw hd hC (fun rv M2 h => by obtain ⟨rfl, rfl⟩ := h; exact kk)
theorem mcX10_152 (hX : Cx SM X "NotLikeThemModel" cc nL ret) (hd : decode cc pc = .ok (.invokevirtual 152, 3)) (hR : 3 + 1 ≤ d) (hw : (st.map fun v => v.category).sum ≤ 8) (hC : CX10_layCalms X.1 [.ref (X.1.2.1 0)] M (z_is none M1)) (kk : Z SM X d nL Q (pc + 3) lv (st) M1) : Z SM X d nL Q pc lv (.ref (X.1.2.1 0) :: st) M :=
  z_callV (As := []) hX lw_good 0 rfl rfl rfl wcX10_layCalms wnX10 (z_w (List.mem_append_right _ (List.mem_of_getElem? (i := 973) (by decide +kernel))) rfl) wiX10_layCalms wlX10_layCalms wyX10_layCalms hR (by decide) rfl hw hd hC (fun rv M2 h => by obtain ⟨rfl, rfl⟩ := h; exact kk)
theorem mcX10_155 (hX : Cx SM X "NotLikeThemModel" cc nL ret) {a1 : Value} {r : Int32} (hd : decode cc pc = .ok (.invokevirtual 155, 3)) (hR : 2 + 1 ≤ d) (hw : (st.map fun v => v.category).sum ≤ 8) (hC : CX10_comesBack X.1 [.ref (X.1.2.1 0), a1] M (z_is (some (.int r)) M1)) (kk : Z SM X d nL Q (pc + 3) lv (.int r :: st) M1) : Z SM X d nL Q pc lv (a1 :: .ref (X.1.2.1 0) :: st) M :=
  z_callV (As := [a1]) hX lw_good 0 rfl rfl rfl wcX10_comesBack wnX10 (z_w (List.mem_append_right _ (List.mem_of_getElem? (i := 977) (by decide +kernel))) rfl) wiX10_comesBack wlX10_comesBack wyX10_comesBack hR (by decide) rfl hw hd hC (fun rv M2 h => by obtain ⟨rfl, rfl⟩ := h; exact kk)
theorem mcX10_158 (hX : Cx SM X "NotLikeThemModel" cc nL ret) {r : Int32} (hd : decode cc pc = .ok (.invokevirtual 158, 3)) (hR : 4 + 1 ≤ d) (hw : (st.map fun v => v.category).sum ≤ 8) (hC : CX10_witnessNow X.1 [.ref (X.1.2.1 0)] M (z_is (some (.int r)) M1)) (kk : Z SM X d nL Q (pc + 3) lv (.int r :: st) M1) : Z SM X d nL Q pc lv (.ref (X.1.2.1 0) :: st) M :=
  z_callV (As := []) hX lw_good 0 rfl rfl rfl wcX10_witnessNow wnX10 (z_w (List.mem_append_right _ (List.mem_of_getElem? (i := 969) (by decide +kernel))) rfl) wiX10_witnessNow wlX10_witnessNow wyX10_witnessNow hR (by decide) rfl hw hd hC (fun rv M2 h => by obtain ⟨rfl, rfl⟩ := h; exact kk)
theorem mcX10_161 (hX : Cx SM X "NotLikeThemModel" cc nL ret) {a1 : Value} {r : Int32} (hd : decode cc pc = .ok (.invokestatic 161, 3)) (hR : 0 + 1 ≤ d) (hw : (st.map fun v => v.category).sum ≤ 8) (hC : CX10_ones X.1 [a1] M (z_is (some (.int r)) M1)) (kk : Z SM X d nL Q (pc + 3) lv (.int r :: st) M1) : Z SM X d nL Q pc lv (a1 :: st) M :=
  z_callS (As := [a1]) hX lw_good wcX10_ones wnX10 (z_w (List.mem_append_right _ (List.mem_of_getElem? (i := 997) (by decide +kernel))) rfl) wsX10_ones wyX10_ones hR (by decide) rfl hw hd hC (fun rv M2 h => by obtain ⟨rfl, rfl⟩ := h; exact kk)
theorem mcX10_164 (hX : Cx SM X "NotLikeThemModel" cc nL ret) {r : Int32} (hd : decode cc pc = .ok (.invokevirtual 164, 3)) (hR : 3 + 1 ≤ d) (hw : (st.map fun v => v.category).sum ≤ 8) (hC : CX10_turnedNow X.1 [.ref (X.1.2.1 0)] M (z_is (some (.int r)) M1)) (kk : Z SM X d nL Q (pc + 3) lv (.int r :: st) M1) : Z SM X d nL Q pc lv (.ref (X.1.2.1 0) :: st) M :=
  z_callV (As := []) hX lw_good 0 rfl rfl rfl wcX10_turnedNow wnX10 (z_w (List.mem_append_right _ (List.mem_of_getElem? (i := 993) (by decide +kernel))) rfl) wiX10_turnedNow wlX10_turnedNow wyX10_turnedNow hR (by decide) rfl hw hd hC (fun rv M2 h => by obtain ⟨rfl, rfl⟩ := h; exact kk)
theorem gfX10_51 (hX : Cx SM X "NotLikeThemModel" cc nL ret) (hd : decode cc pc = .ok (.getfield 51, 3)) (kk : Z SM X d nL Q (pc + 3) lv (.ref (X.1.2.1 13) :: st) M) : Z SM X d nL Q pc lv (.ref (X.1.2.1 0) :: st) M := z_getR hX 0 17 13 rfl rfl inX10 (by decide) rfl (z_w (List.mem_append_right _ (List.mem_of_getElem? (i := 774) (by decide +kernel))) rfl) hd kk
theorem gfX10_47 (hX : Cx SM X "NotLikeThemModel" cc nL ret) (hd : decode cc pc = .ok (.getfield 47, 3)) (kk : Z SM X d nL Q (pc + 3) lv (.ref (X.1.2.1 12) :: st) M) : Z SM X d nL Q pc lv (.ref (X.1.2.1 0) :: st) M := z_getR hX 0 16 12 rfl rfl inX10 (by decide) rfl (z_w (List.mem_append_right _ (List.mem_of_getElem? (i := 773) (by decide +kernel))) rfl) hd kk
theorem mcX10_173 (hX : Cx SM X "NotLikeThemModel" cc nL ret) (hd : decode cc pc = .ok (.invokevirtual 173, 3)) (hR : 3 + 1 ≤ d) (hw : (st.map fun v => v.category).sum ≤ 8) (hC : CX10_draw X.1 [.ref (X.1.2.1 0)] M (z_is none M1)) (kk : Z SM X d nL Q (pc + 3) lv (st) M1) : Z SM X d nL Q pc lv (.ref (X.1.2.1 0) :: st) M :=
  z_callV (As := []) hX lw_good 0 rfl rfl rfl wcX10_draw wnX10 (z_w (List.mem_append_right _ (List.mem_of_getElem? (i := 1026) (by decide +kernel))) rfl) wiX10_draw wlX10_draw wyX10_draw hR (by decide) rfl hw hd hC (fun rv M2 h => by obtain ⟨rfl, rfl⟩ := h; exact kk)
theorem gfX10_66 (hX : Cx SM X "NotLikeThemModel" cc nL ret) (hd : decode cc pc = .ok (.getfield 66, 3)) (kk : Z SM X d nL Q (pc + 3) lv (.int (M.1 0 18) :: st) M) : Z SM X d nL Q pc lv (.ref (X.1.2.1 0) :: st) M := z_getI hX 0 18 rfl rfl inX10 (by decide) rfl (z_w (List.mem_append_right _ (List.mem_of_getElem? (i := 775) (by decide +kernel))) rfl) hd kk
theorem gfX10_54 (hX : Cx SM X "NotLikeThemModel" cc nL ret) (hd : decode cc pc = .ok (.getfield 54, 3)) (kk : Z SM X d nL Q (pc + 3) lv (.ref (X.1.2.1 14) :: st) M) : Z SM X d nL Q pc lv (.ref (X.1.2.1 0) :: st) M := z_getR hX 0 19 14 rfl rfl inX10 (by decide) rfl (z_w (List.mem_append_right _ (List.mem_of_getElem? (i := 776) (by decide +kernel))) rfl) hd kk
theorem mcX10_176 (hX : Cx SM X "NotLikeThemModel" cc nL ret) {a1 : Value} {r : Int32} (hd : decode cc pc = .ok (.invokevirtual 176, 3)) (hR : 2 + 1 ≤ d) (hw : (st.map fun v => v.category).sum ≤ 8) (hC : CX10_maybeOf X.1 [.ref (X.1.2.1 0), a1] M (z_is (some (.int r)) M1)) (kk : Z SM X d nL Q (pc + 3) lv (.int r :: st) M1) : Z SM X d nL Q pc lv (a1 :: .ref (X.1.2.1 0) :: st) M :=
  z_callV (As := [a1]) hX lw_good 0 rfl rfl rfl wcX10_maybeOf wnX10 (z_w (List.mem_append_right _ (List.mem_of_getElem? (i := 1043) (by decide +kernel))) rfl) wiX10_maybeOf wlX10_maybeOf wyX10_maybeOf hR (by decide) rfl hw hd hC (fun rv M2 h => by obtain ⟨rfl, rfl⟩ := h; exact kk)
theorem mcX10_179 (hX : Cx SM X "NotLikeThemModel" cc nL ret) {r : Int64} (hd : decode cc pc = .ok (.invokevirtual 179, 3)) (hR : 3 + 1 ≤ d) (hw : (st.map fun v => v.category).sum ≤ 8) (hC : CX10_ways X.1 [.ref (X.1.2.1 0)] M (z_is (some (.long r)) M1)) (kk : Z SM X d nL Q (pc + 3) lv (.long r :: st) M1) : Z SM X d nL Q pc lv (.ref (X.1.2.1 0) :: st) M :=
  z_callV (As := []) hX lw_good 0 rfl rfl rfl wcX10_ways wnX10 (z_w (List.mem_append_right _ (List.mem_of_getElem? (i := 1055) (by decide +kernel))) rfl) wiX10_ways wlX10_ways wyX10_ways hR (by decide) rfl hw hd hC (fun rv M2 h => by obtain ⟨rfl, rfl⟩ := h; exact kk)
theorem mcX10_185 (hX : Cx SM X "NotLikeThemModel" cc nL ret) {a1 a2 : Value} {r : Int32} (hd : decode cc pc = .ok (.invokevirtual 185, 3)) (hR : 1 + 1 ≤ d) (hw : (st.map fun v => v.category).sum ≤ 8) (hC : CX10_askedOf X.1 [.ref (X.1.2.1 0), a1, a2] M (z_is (some (.int r)) M1)) (kk : Z SM X d nL Q (pc + 3) lv (.int r :: st) M1) : Z SM X d nL Q pc lv (a2 :: a1 :: .ref (X.1.2.1 0) :: st) M :=
  z_callV (As := [a1, a2]) hX lw_good 0 rfl rfl rfl wcX10_askedOf wnX10 (z_w (List.mem_append_right _ (List.mem_of_getElem? (i := 1061) (by decide +kernel))) rfl) wiX10_askedOf wlX10_askedOf wyX10_askedOf hR (by decide) rfl hw hd hC (fun rv M2 h => by obtain ⟨rfl, rfl⟩ := h; exact kk)
theorem gfX10_57 (hX : Cx SM X "NotLikeThemModel" cc nL ret) (hd : decode cc pc = .ok (.getfield 57, 3)) (kk : Z SM X d nL Q (pc + 3) lv (.ref (X.1.2.1 15) :: st) M) : Z SM X d nL Q pc lv (.ref (X.1.2.1 0) :: st) M := z_getR hX 0 20 15 rfl rfl inX10 (by decide) rfl (z_w (List.mem_append_right _ (List.mem_of_getElem? (i := 777) (by decide +kernel))) rfl) hd kk
theorem mcX10_190 (hX : Cx SM X "NotLikeThemModel" cc nL ret) {a1 a2 a3 a4 : Value} {r : Int32} (hd : decode cc pc = .ok (.invokestatic 190, 3)) (hR : 2 + 1 ≤ d) (hw : (st.map fun v => v.category).sum ≤ 8) (hC : CX10_isShop X.1 [a1, a2, a3, a4] M (z_is (some (.int r)) M1)) (kk : Z SM X d nL Q (pc + 3) lv (.int r :: st) M1) : Z SM X d nL Q pc lv (a4 :: a3 :: a2 :: a1 :: st) M :=
  z_callS (As := [a1, a2, a3, a4]) hX lw_good wcX10_isShop wnX10 (z_w (List.mem_append_right _ (List.mem_of_getElem? (i := 1069) (by decide +kernel))) rfl) wsX10_isShop wyX10_isShop hR (by decide) rfl hw hd hC (fun rv M2 h => by obtain ⟨rfl, rfl⟩ := h; exact kk)
theorem mcX10_196 (hX : Cx SM X "NotLikeThemModel" cc nL ret) {a1 a2 : Value} (hd : decode cc pc = .ok (.invokevirtual 196, 3)) (hR : 4 + 1 ≤ d) (hw : (st.map fun v => v.category).sum ≤ 8) (hC : CX10_layAsks X.1 [.ref (X.1.2.1 0), a1, a2] M (z_is none M1)) (kk : Z SM X d nL Q (pc + 3) lv (st) M1) : Z SM X d nL Q pc lv (a2 :: a1 :: .ref (X.1.2.1 0) :: st) M :=
  z_callV (As := [a1, a2]) hX lw_good 0 rfl rfl rfl wcX10_layAsks wnX10 (z_w (List.mem_append_right _ (List.mem_of_getElem? (i := 1074) (by decide +kernel))) rfl) wiX10_layAsks wlX10_layAsks wyX10_layAsks hR (by decide) rfl hw hd hC (fun rv M2 h => by obtain ⟨rfl, rfl⟩ := h; exact kk)
theorem mcX10_200 (hX : Cx SM X "NotLikeThemModel" cc nL ret) {a1 a2 a3 : Value} {r : Int32} (hd : decode cc pc = .ok (.invokevirtual 200, 3)) (hR : 1 + 1 ≤ d) (hw : (st.map fun v => v.category).sum ≤ 8) (hC : CX10_gainOf X.1 [.ref (X.1.2.1 0), a1, a2, a3] M (z_is (some (.int r)) M1)) (kk : Z SM X d nL Q (pc + 3) lv (.int r :: st) M1) : Z SM X d nL Q pc lv (a3 :: a2 :: a1 :: .ref (X.1.2.1 0) :: st) M :=
  z_callV (As := [a1, a2, a3]) hX lw_good 0 rfl rfl rfl wcX10_gainOf wnX10 (z_w (List.mem_append_right _ (List.mem_of_getElem? (i := 1078) (by decide +kernel))) rfl) wiX10_gainOf wlX10_gainOf wyX10_gainOf hR (by decide) rfl hw hd hC (fun rv M2 h => by obtain ⟨rfl, rfl⟩ := h; exact kk)
end SysRows
end
section
theorem dX0_canReach_0 : decode cX0_canReach 0 = .ok (.aload_n 0, 1) := by decide +kernel
theorem dX0_canReach_1 : decode cX0_canReach 1 = .ok (.iload_n 1, 1) := by decide +kernel
theorem dX0_canReach_2 : decode cX0_canReach 2 = .ok (.aload_n 0, 1) := by decide +kernel
theorem dX0_canReach_3 : decode cX0_canReach 3 = .ok (.getfield 18, 3) := by decide +kernel
theorem dX0_canReach_6 : decode cX0_canReach 6 = .ok (.invokevirtual 37, 3) := by decide +kernel
theorem dX0_canReach_9 : decode cX0_canReach 9 = .ok (.invokevirtual 43, 3) := by decide +kernel
theorem dX0_canReach_12 : decode cX0_canReach 12 = .ok (.pop, 1) := by decide +kernel
theorem dX0_canReach_13 : decode cX0_canReach 13 = .ok (.aload_n 0, 1) := by decide +kernel
theorem dX0_canReach_14 : decode cX0_canReach 14 = .ok (.getfield 28, 3) := by decide +kernel
theorem dX0_canReach_17 : decode cX0_canReach 17 = .ok (.iload_n 2, 1) := by decide +kernel
theorem dX0_canReach_18 : decode cX0_canReach 18 = .ok (.iaload, 1) := by decide +kernel
theorem dX0_canReach_19 : decode cX0_canReach 19 = .ok (.ifCond .lt 7, 3) := by decide +kernel
theorem dX0_canReach_22 : decode cX0_canReach 22 = .ok (.iconst 1, 1) := by decide +kernel
theorem dX0_canReach_23 : decode cX0_canReach 23 = .ok (.goto 4, 3) := by decide +kernel
theorem dX0_canReach_26 : decode cX0_canReach 26 = .ok (.iconst 0, 1) := by decide +kernel
theorem dX0_canReach_27 : decode cX0_canReach 27 = .ok (.ireturn, 1) := by decide +kernel
theorem dX0_restsFrom_0 : decode cX0_restsFrom 0 = .ok (.aload_n 0, 1) := by decide +kernel
theorem dX0_restsFrom_1 : decode cX0_restsFrom 1 = .ok (.getfield 18, 3) := by decide +kernel
theorem dX0_restsFrom_4 : decode cX0_restsFrom 4 = .ok (.invokevirtual 37, 3) := by decide +kernel
theorem dX0_restsFrom_7 : decode cX0_restsFrom 7 = .ok (.astore_n 2, 1) := by decide +kernel
theorem dX0_restsFrom_8 : decode cX0_restsFrom 8 = .ok (.aload_n 0, 1) := by decide +kernel
theorem dX0_restsFrom_9 : decode cX0_restsFrom 9 = .ok (.iload_n 1, 1) := by decide +kernel
theorem dX0_restsFrom_10 : decode cX0_restsFrom 10 = .ok (.aload_n 2, 1) := by decide +kernel
theorem dX0_restsFrom_11 : decode cX0_restsFrom 11 = .ok (.invokevirtual 43, 3) := by decide +kernel
theorem dX0_restsFrom_14 : decode cX0_restsFrom 14 = .ok (.istore_n 3, 1) := by decide +kernel
theorem dX0_restsFrom_15 : decode cX0_restsFrom 15 = .ok (.iconst 0, 1) := by decide +kernel
theorem dX0_restsFrom_16 : decode cX0_restsFrom 16 = .ok (.istore 4, 2) := by decide +kernel
theorem dX0_restsFrom_18 : decode cX0_restsFrom 18 = .ok (.iconst 0, 1) := by decide +kernel
theorem dX0_restsFrom_19 : decode cX0_restsFrom 19 = .ok (.istore 5, 2) := by decide +kernel
theorem dX0_restsFrom_21 : decode cX0_restsFrom 21 = .ok (.iload 5, 2) := by decide +kernel
theorem dX0_restsFrom_23 : decode cX0_restsFrom 23 = .ok (.iload_n 3, 1) := by decide +kernel
theorem dX0_restsFrom_24 : decode cX0_restsFrom 24 = .ok (.if_icmp .ge 24, 3) := by decide +kernel
theorem dX0_restsFrom_27 : decode cX0_restsFrom 27 = .ok (.aload_n 2, 1) := by decide +kernel
theorem dX0_restsFrom_28 : decode cX0_restsFrom 28 = .ok (.aload_n 0, 1) := by decide +kernel
theorem dX0_restsFrom_29 : decode cX0_restsFrom 29 = .ok (.getfield 34, 3) := by decide +kernel
theorem dX0_restsFrom_32 : decode cX0_restsFrom 32 = .ok (.iload 5, 2) := by decide +kernel
theorem dX0_restsFrom_34 : decode cX0_restsFrom 34 = .ok (.iaload, 1) := by decide +kernel
theorem dX0_restsFrom_35 : decode cX0_restsFrom 35 = .ok (.iaload, 1) := by decide +kernel
theorem dX0_restsFrom_36 : decode cX0_restsFrom 36 = .ok (.ifCond .ne 6, 3) := by decide +kernel
theorem dX0_restsFrom_39 : decode cX0_restsFrom 39 = .ok (.iinc 4 1, 3) := by decide +kernel
theorem dX0_restsFrom_42 : decode cX0_restsFrom 42 = .ok (.iinc 5 1, 3) := by decide +kernel
theorem dX0_restsFrom_45 : decode cX0_restsFrom 45 = .ok (.goto (-24), 3) := by decide +kernel
theorem dX0_restsFrom_48 : decode cX0_restsFrom 48 = .ok (.iload 4, 2) := by decide +kernel
theorem dX0_restsFrom_50 : decode cX0_restsFrom 50 = .ok (.ireturn, 1) := by decide +kernel
theorem dX0_fewestDraws_0 : decode cX0_fewestDraws 0 = .ok (.aload_n 0, 1) := by decide +kernel
theorem dX0_fewestDraws_1 : decode cX0_fewestDraws 1 = .ok (.getfield 18, 3) := by decide +kernel
theorem dX0_fewestDraws_4 : decode cX0_fewestDraws 4 = .ok (.invokevirtual 37, 3) := by decide +kernel
theorem dX0_fewestDraws_7 : decode cX0_fewestDraws 7 = .ok (.astore_n 2, 1) := by decide +kernel
theorem dX0_fewestDraws_8 : decode cX0_fewestDraws 8 = .ok (.aload_n 0, 1) := by decide +kernel
theorem dX0_fewestDraws_9 : decode cX0_fewestDraws 9 = .ok (.iload_n 1, 1) := by decide +kernel
theorem dX0_fewestDraws_10 : decode cX0_fewestDraws 10 = .ok (.aload_n 2, 1) := by decide +kernel
theorem dX0_fewestDraws_11 : decode cX0_fewestDraws 11 = .ok (.invokevirtual 43, 3) := by decide +kernel
theorem dX0_fewestDraws_14 : decode cX0_fewestDraws 14 = .ok (.istore_n 3, 1) := by decide +kernel
theorem dX0_fewestDraws_15 : decode cX0_fewestDraws 15 = .ok (.iconst 0, 1) := by decide +kernel
theorem dX0_fewestDraws_16 : decode cX0_fewestDraws 16 = .ok (.istore 4, 2) := by decide +kernel
theorem dX0_fewestDraws_18 : decode cX0_fewestDraws 18 = .ok (.iload 4, 2) := by decide +kernel
theorem dX0_fewestDraws_20 : decode cX0_fewestDraws 20 = .ok (.iload_n 3, 1) := by decide +kernel
theorem dX0_fewestDraws_21 : decode cX0_fewestDraws 21 = .ok (.if_icmp .ge 34, 3) := by decide +kernel
theorem dX0_fewestDraws_24 : decode cX0_fewestDraws 24 = .ok (.aload_n 2, 1) := by decide +kernel
theorem dX0_fewestDraws_25 : decode cX0_fewestDraws 25 = .ok (.aload_n 0, 1) := by decide +kernel
theorem dX0_fewestDraws_26 : decode cX0_fewestDraws 26 = .ok (.getfield 34, 3) := by decide +kernel
theorem dX0_fewestDraws_29 : decode cX0_fewestDraws 29 = .ok (.iload 4, 2) := by decide +kernel
theorem dX0_fewestDraws_31 : decode cX0_fewestDraws 31 = .ok (.iaload, 1) := by decide +kernel
theorem dX0_fewestDraws_32 : decode cX0_fewestDraws 32 = .ok (.iaload, 1) := by decide +kernel
theorem dX0_fewestDraws_33 : decode cX0_fewestDraws 33 = .ok (.ifCond .ne 16, 3) := by decide +kernel
theorem dX0_fewestDraws_36 : decode cX0_fewestDraws 36 = .ok (.aload_n 0, 1) := by decide +kernel
theorem dX0_fewestDraws_37 : decode cX0_fewestDraws 37 = .ok (.getfield 28, 3) := by decide +kernel
theorem dX0_fewestDraws_40 : decode cX0_fewestDraws 40 = .ok (.aload_n 0, 1) := by decide +kernel
theorem dX0_fewestDraws_41 : decode cX0_fewestDraws 41 = .ok (.getfield 34, 3) := by decide +kernel
theorem dX0_fewestDraws_44 : decode cX0_fewestDraws 44 = .ok (.iload 4, 2) := by decide +kernel
theorem dX0_fewestDraws_46 : decode cX0_fewestDraws 46 = .ok (.iaload, 1) := by decide +kernel
theorem dX0_fewestDraws_47 : decode cX0_fewestDraws 47 = .ok (.iaload, 1) := by decide +kernel
theorem dX0_fewestDraws_48 : decode cX0_fewestDraws 48 = .ok (.ireturn, 1) := by decide +kernel
theorem dX0_fewestDraws_49 : decode cX0_fewestDraws 49 = .ok (.iinc 4 1, 3) := by decide +kernel
theorem dX0_fewestDraws_52 : decode cX0_fewestDraws 52 = .ok (.goto (-34), 3) := by decide +kernel
theorem dX0_fewestDraws_55 : decode cX0_fewestDraws 55 = .ok (.iconst (-1), 1) := by decide +kernel
theorem dX0_fewestDraws_56 : decode cX0_fewestDraws 56 = .ok (.ireturn, 1) := by decide +kernel
theorem dX0_search_0 : decode cX0_search 0 = .ok (.aload_n 0, 1) := by decide +kernel
theorem dX0_search_1 : decode cX0_search 1 = .ok (.getfield 18, 3) := by decide +kernel
theorem dX0_search_4 : decode cX0_search 4 = .ok (.invokevirtual 47, 3) := by decide +kernel
theorem dX0_search_7 : decode cX0_search 7 = .ok (.istore_n 3, 1) := by decide +kernel
theorem dX0_search_8 : decode cX0_search 8 = .ok (.iconst 0, 1) := by decide +kernel
theorem dX0_search_9 : decode cX0_search 9 = .ok (.istore 4, 2) := by decide +kernel
theorem dX0_search_11 : decode cX0_search 11 = .ok (.iload 4, 2) := by decide +kernel
theorem dX0_search_13 : decode cX0_search 13 = .ok (.iload_n 3, 1) := by decide +kernel
theorem dX0_search_14 : decode cX0_search 14 = .ok (.if_icmp .ge 17, 3) := by decide +kernel
theorem dX0_search_17 : decode cX0_search 17 = .ok (.aload_n 0, 1) := by decide +kernel
theorem dX0_search_18 : decode cX0_search 18 = .ok (.getfield 28, 3) := by decide +kernel
theorem dX0_search_21 : decode cX0_search 21 = .ok (.iload 4, 2) := by decide +kernel
theorem dX0_search_23 : decode cX0_search 23 = .ok (.iconst (-1), 1) := by decide +kernel
theorem dX0_search_24 : decode cX0_search 24 = .ok (.iastore, 1) := by decide +kernel
theorem dX0_search_25 : decode cX0_search 25 = .ok (.iinc 4 1, 3) := by decide +kernel
theorem dX0_search_28 : decode cX0_search 28 = .ok (.goto (-17), 3) := by decide +kernel
theorem dX0_search_31 : decode cX0_search 31 = .ok (.aload_n 0, 1) := by decide +kernel
theorem dX0_search_32 : decode cX0_search 32 = .ok (.getfield 28, 3) := by decide +kernel
theorem dX0_search_35 : decode cX0_search 35 = .ok (.iload_n 1, 1) := by decide +kernel
theorem dX0_search_36 : decode cX0_search 36 = .ok (.iconst 0, 1) := by decide +kernel
theorem dX0_search_37 : decode cX0_search 37 = .ok (.iastore, 1) := by decide +kernel
theorem dX0_search_38 : decode cX0_search 38 = .ok (.aload_n 0, 1) := by decide +kernel
theorem dX0_search_39 : decode cX0_search 39 = .ok (.getfield 34, 3) := by decide +kernel
theorem dX0_search_42 : decode cX0_search 42 = .ok (.iconst 0, 1) := by decide +kernel
theorem dX0_search_43 : decode cX0_search 43 = .ok (.iload_n 1, 1) := by decide +kernel
theorem dX0_search_44 : decode cX0_search 44 = .ok (.iastore, 1) := by decide +kernel
theorem dX0_search_45 : decode cX0_search 45 = .ok (.iconst 1, 1) := by decide +kernel
theorem dX0_search_46 : decode cX0_search 46 = .ok (.istore 4, 2) := by decide +kernel
theorem dX0_search_48 : decode cX0_search 48 = .ok (.iconst 0, 1) := by decide +kernel
theorem dX0_search_49 : decode cX0_search 49 = .ok (.istore 5, 2) := by decide +kernel
theorem dX0_search_51 : decode cX0_search 51 = .ok (.iload 5, 2) := by decide +kernel
theorem dX0_search_53 : decode cX0_search 53 = .ok (.iload 4, 2) := by decide +kernel
theorem dX0_search_55 : decode cX0_search 55 = .ok (.if_icmp .ge 106, 3) := by decide +kernel
theorem dX0_search_58 : decode cX0_search 58 = .ok (.iload 5, 2) := by decide +kernel
theorem dX0_search_60 : decode cX0_search 60 = .ok (.iload_n 3, 1) := by decide +kernel
theorem dX0_search_61 : decode cX0_search 61 = .ok (.if_icmp .ge 100, 3) := by decide +kernel
theorem dX0_search_64 : decode cX0_search 64 = .ok (.aload_n 0, 1) := by decide +kernel
theorem dX0_search_65 : decode cX0_search 65 = .ok (.getfield 34, 3) := by decide +kernel
theorem dX0_search_68 : decode cX0_search 68 = .ok (.iload 5, 2) := by decide +kernel
theorem dX0_search_70 : decode cX0_search 70 = .ok (.iaload, 1) := by decide +kernel
theorem dX0_search_71 : decode cX0_search 71 = .ok (.istore 6, 2) := by decide +kernel
theorem dX0_search_73 : decode cX0_search 73 = .ok (.iconst 0, 1) := by decide +kernel
theorem dX0_search_74 : decode cX0_search 74 = .ok (.istore 7, 2) := by decide +kernel
theorem dX0_search_76 : decode cX0_search 76 = .ok (.iload 7, 2) := by decide +kernel
theorem dX0_search_78 : decode cX0_search 78 = .ok (.aload_n 0, 1) := by decide +kernel
theorem dX0_search_79 : decode cX0_search 79 = .ok (.getfield 18, 3) := by decide +kernel
theorem dX0_search_82 : decode cX0_search 82 = .ok (.invokevirtual 51, 3) := by decide +kernel
theorem dX0_search_85 : decode cX0_search 85 = .ok (.if_icmp .ge 70, 3) := by decide +kernel
theorem dX0_search_88 : decode cX0_search 88 = .ok (.aload_n 2, 1) := by decide +kernel
theorem dX0_search_89 : decode cX0_search 89 = .ok (.iload 6, 2) := by decide +kernel
theorem dX0_search_91 : decode cX0_search 91 = .ok (.iaload, 1) := by decide +kernel
theorem dX0_search_92 : decode cX0_search 92 = .ok (.iconst 1, 1) := by decide +kernel
theorem dX0_search_93 : decode cX0_search 93 = .ok (.iload 7, 2) := by decide +kernel
theorem dX0_search_95 : decode cX0_search 95 = .ok (.ishl, 1) := by decide +kernel
theorem dX0_search_96 : decode cX0_search 96 = .ok (.iand, 1) := by decide +kernel
theorem dX0_search_97 : decode cX0_search 97 = .ok (.istore 8, 2) := by decide +kernel
theorem dX0_search_99 : decode cX0_search 99 = .ok (.iload 6, 2) := by decide +kernel
theorem dX0_search_101 : decode cX0_search 101 = .ok (.iload 8, 2) := by decide +kernel
theorem dX0_search_103 : decode cX0_search 103 = .ok (.ixor, 1) := by decide +kernel
theorem dX0_search_104 : decode cX0_search 104 = .ok (.istore 9, 2) := by decide +kernel
theorem dX0_search_106 : decode cX0_search 106 = .ok (.iload 8, 2) := by decide +kernel
theorem dX0_search_108 : decode cX0_search 108 = .ok (.ifCond .eq 41, 3) := by decide +kernel
theorem dX0_search_111 : decode cX0_search 111 = .ok (.aload_n 0, 1) := by decide +kernel
theorem dX0_search_112 : decode cX0_search 112 = .ok (.getfield 28, 3) := by decide +kernel
theorem dX0_search_115 : decode cX0_search 115 = .ok (.iload 9, 2) := by decide +kernel
theorem dX0_search_117 : decode cX0_search 117 = .ok (.iaload, 1) := by decide +kernel
theorem dX0_search_118 : decode cX0_search 118 = .ok (.ifCond .ge 31, 3) := by decide +kernel
theorem dX0_search_121 : decode cX0_search 121 = .ok (.aload_n 0, 1) := by decide +kernel
theorem dX0_search_122 : decode cX0_search 122 = .ok (.getfield 28, 3) := by decide +kernel
theorem dX0_search_125 : decode cX0_search 125 = .ok (.iload 9, 2) := by decide +kernel
theorem dX0_search_127 : decode cX0_search 127 = .ok (.aload_n 0, 1) := by decide +kernel
theorem dX0_search_128 : decode cX0_search 128 = .ok (.getfield 28, 3) := by decide +kernel
theorem dX0_search_131 : decode cX0_search 131 = .ok (.iload 6, 2) := by decide +kernel
theorem dX0_search_133 : decode cX0_search 133 = .ok (.iaload, 1) := by decide +kernel
theorem dX0_search_134 : decode cX0_search 134 = .ok (.iconst 1, 1) := by decide +kernel
theorem dX0_search_135 : decode cX0_search 135 = .ok (.iadd, 1) := by decide +kernel
theorem dX0_search_136 : decode cX0_search 136 = .ok (.iastore, 1) := by decide +kernel
theorem dX0_search_137 : decode cX0_search 137 = .ok (.aload_n 0, 1) := by decide +kernel
theorem dX0_search_138 : decode cX0_search 138 = .ok (.getfield 34, 3) := by decide +kernel
theorem dX0_search_141 : decode cX0_search 141 = .ok (.iload 4, 2) := by decide +kernel
theorem dX0_search_143 : decode cX0_search 143 = .ok (.iinc 4 1, 3) := by decide +kernel
theorem dX0_search_146 : decode cX0_search 146 = .ok (.iload 9, 2) := by decide +kernel
theorem dX0_search_148 : decode cX0_search 148 = .ok (.iastore, 1) := by decide +kernel
theorem dX0_search_149 : decode cX0_search 149 = .ok (.iinc 7 1, 3) := by decide +kernel
theorem dX0_search_152 : decode cX0_search 152 = .ok (.goto (-76), 3) := by decide +kernel
theorem dX0_search_155 : decode cX0_search 155 = .ok (.iinc 5 1, 3) := by decide +kernel
theorem dX0_search_158 : decode cX0_search 158 = .ok (.goto (-107), 3) := by decide +kernel
theorem dX0_search_161 : decode cX0_search 161 = .ok (.iload 4, 2) := by decide +kernel
theorem dX0_search_163 : decode cX0_search 163 = .ok (.ireturn, 1) := by decide +kernel
theorem dX0_fraction_0 : decode cX0_fraction 0 = .ok (.aload_n 0, 1) := by decide +kernel
theorem dX0_fraction_1 : decode cX0_fraction 1 = .ok (.getfield 18, 3) := by decide +kernel
theorem dX0_fraction_4 : decode cX0_fraction 4 = .ok (.invokevirtual 37, 3) := by decide +kernel
theorem dX0_fraction_7 : decode cX0_fraction 7 = .ok (.astore 4, 2) := by decide +kernel
theorem dX0_fraction_9 : decode cX0_fraction 9 = .ok (.aload_n 0, 1) := by decide +kernel
theorem dX0_fraction_10 : decode cX0_fraction 10 = .ok (.getfield 18, 3) := by decide +kernel
theorem dX0_fraction_13 : decode cX0_fraction 13 = .ok (.invokevirtual 47, 3) := by decide +kernel
theorem dX0_fraction_16 : decode cX0_fraction 16 = .ok (.istore 5, 2) := by decide +kernel
theorem dX0_fraction_18 : decode cX0_fraction 18 = .ok (.iconst 0, 1) := by decide +kernel
theorem dX0_fraction_19 : decode cX0_fraction 19 = .ok (.istore 6, 2) := by decide +kernel
theorem dX0_fraction_21 : decode cX0_fraction 21 = .ok (.iload 6, 2) := by decide +kernel
theorem dX0_fraction_23 : decode cX0_fraction 23 = .ok (.iload 5, 2) := by decide +kernel
theorem dX0_fraction_25 : decode cX0_fraction 25 = .ok (.if_icmp .ge 17, 3) := by decide +kernel
theorem dX0_fraction_28 : decode cX0_fraction 28 = .ok (.aload_n 0, 1) := by decide +kernel
theorem dX0_fraction_29 : decode cX0_fraction 29 = .ok (.getfield 9, 3) := by decide +kernel
theorem dX0_fraction_32 : decode cX0_fraction 32 = .ok (.iload 6, 2) := by decide +kernel
theorem dX0_fraction_34 : decode cX0_fraction 34 = .ok (.lconst 0, 1) := by decide +kernel
theorem dX0_fraction_35 : decode cX0_fraction 35 = .ok (.lastore, 1) := by decide +kernel
theorem dX0_fraction_36 : decode cX0_fraction 36 = .ok (.iinc 6 1, 3) := by decide +kernel
theorem dX0_fraction_39 : decode cX0_fraction 39 = .ok (.goto (-18), 3) := by decide +kernel
theorem dX0_fraction_42 : decode cX0_fraction 42 = .ok (.aload_n 0, 1) := by decide +kernel
theorem dX0_fraction_43 : decode cX0_fraction 43 = .ok (.getfield 9, 3) := by decide +kernel
theorem dX0_fraction_46 : decode cX0_fraction 46 = .ok (.iload_n 1, 1) := by decide +kernel
theorem dX0_fraction_47 : decode cX0_fraction 47 = .ok (.lconst 1, 1) := by decide +kernel
theorem dX0_fraction_48 : decode cX0_fraction 48 = .ok (.lastore, 1) := by decide +kernel
theorem dX0_fraction_49 : decode cX0_fraction 49 = .ok (.lconst 1, 1) := by decide +kernel
theorem dX0_fraction_50 : decode cX0_fraction 50 = .ok (.lstore 6, 2) := by decide +kernel
theorem dX0_fraction_52 : decode cX0_fraction 52 = .ok (.iconst 0, 1) := by decide +kernel
theorem dX0_fraction_53 : decode cX0_fraction 53 = .ok (.istore 8, 2) := by decide +kernel
theorem dX0_fraction_55 : decode cX0_fraction 55 = .ok (.iload 8, 2) := by decide +kernel
theorem dX0_fraction_57 : decode cX0_fraction 57 = .ok (.iload_n 2, 1) := by decide +kernel
theorem dX0_fraction_58 : decode cX0_fraction 58 = .ok (.if_icmp .ge 25, 3) := by decide +kernel
theorem dX0_fraction_61 : decode cX0_fraction 61 = .ok (.aload_n 0, 1) := by decide +kernel
theorem dX0_fraction_62 : decode cX0_fraction 62 = .ok (.aload 4, 2) := by decide +kernel
theorem dX0_fraction_64 : decode cX0_fraction 64 = .ok (.iload 5, 2) := by decide +kernel
theorem dX0_fraction_66 : decode cX0_fraction 66 = .ok (.invokevirtual 54, 3) := by decide +kernel
theorem dX0_fraction_69 : decode cX0_fraction 69 = .ok (.lload 6, 2) := by decide +kernel
theorem dX0_fraction_71 : decode cX0_fraction 71 = .ok (.ldc2_w 58, 3) := by decide +kernel
theorem dX0_fraction_74 : decode cX0_fraction 74 = .ok (.lmul, 1) := by decide +kernel
theorem dX0_fraction_75 : decode cX0_fraction 75 = .ok (.lstore 6, 2) := by decide +kernel
theorem dX0_fraction_77 : decode cX0_fraction 77 = .ok (.iinc 8 1, 3) := by decide +kernel
theorem dX0_fraction_80 : decode cX0_fraction 80 = .ok (.goto (-25), 3) := by decide +kernel
theorem dX0_fraction_83 : decode cX0_fraction 83 = .ok (.lconst 0, 1) := by decide +kernel
theorem dX0_fraction_84 : decode cX0_fraction 84 = .ok (.lstore 8, 2) := by decide +kernel
theorem dX0_fraction_86 : decode cX0_fraction 86 = .ok (.iconst 0, 1) := by decide +kernel
theorem dX0_fraction_87 : decode cX0_fraction 87 = .ok (.istore 10, 2) := by decide +kernel
theorem dX0_fraction_89 : decode cX0_fraction 89 = .ok (.iload 10, 2) := by decide +kernel
theorem dX0_fraction_91 : decode cX0_fraction 91 = .ok (.iload 5, 2) := by decide +kernel
theorem dX0_fraction_93 : decode cX0_fraction 93 = .ok (.if_icmp .ge 29, 3) := by decide +kernel
theorem dX0_fraction_96 : decode cX0_fraction 96 = .ok (.aload 4, 2) := by decide +kernel
theorem dX0_fraction_98 : decode cX0_fraction 98 = .ok (.iload 10, 2) := by decide +kernel
theorem dX0_fraction_100 : decode cX0_fraction 100 = .ok (.iaload, 1) := by decide +kernel
theorem dX0_fraction_101 : decode cX0_fraction 101 = .ok (.ifCond .ne 15, 3) := by decide +kernel
theorem dX0_fraction_104 : decode cX0_fraction 104 = .ok (.lload 8, 2) := by decide +kernel
theorem dX0_fraction_106 : decode cX0_fraction 106 = .ok (.aload_n 0, 1) := by decide +kernel
theorem dX0_fraction_107 : decode cX0_fraction 107 = .ok (.getfield 9, 3) := by decide +kernel
theorem dX0_fraction_110 : decode cX0_fraction 110 = .ok (.iload 10, 2) := by decide +kernel
theorem dX0_fraction_112 : decode cX0_fraction 112 = .ok (.laload, 1) := by decide +kernel
theorem dX0_fraction_113 : decode cX0_fraction 113 = .ok (.ladd, 1) := by decide +kernel
theorem dX0_fraction_114 : decode cX0_fraction 114 = .ok (.lstore 8, 2) := by decide +kernel
theorem dX0_fraction_116 : decode cX0_fraction 116 = .ok (.iinc 10 1, 3) := by decide +kernel
theorem dX0_fraction_119 : decode cX0_fraction 119 = .ok (.goto (-30), 3) := by decide +kernel
theorem dX0_fraction_122 : decode cX0_fraction 122 = .ok (.lload 6, 2) := by decide +kernel
theorem dX0_fraction_124 : decode cX0_fraction 124 = .ok (.lload 8, 2) := by decide +kernel
theorem dX0_fraction_126 : decode cX0_fraction 126 = .ok (.invokestatic 60, 3) := by decide +kernel
theorem dX0_fraction_129 : decode cX0_fraction 129 = .ok (.lstore 10, 2) := by decide +kernel
theorem dX0_fraction_131 : decode cX0_fraction 131 = .ok (.lload 10, 2) := by decide +kernel
theorem dX0_fraction_133 : decode cX0_fraction 133 = .ok (.lconst 0, 1) := by decide +kernel
theorem dX0_fraction_134 : decode cX0_fraction 134 = .ok (.lcmp, 1) := by decide +kernel
theorem dX0_fraction_135 : decode cX0_fraction 135 = .ok (.ifCond .gt 5, 3) := by decide +kernel
theorem dX0_fraction_138 : decode cX0_fraction 138 = .ok (.lconst 0, 1) := by decide +kernel
theorem dX0_fraction_139 : decode cX0_fraction 139 = .ok (.lreturn, 1) := by decide +kernel
theorem dX0_fraction_140 : decode cX0_fraction 140 = .ok (.iload_n 3, 1) := by decide +kernel
theorem dX0_fraction_141 : decode cX0_fraction 141 = .ok (.ifCond .eq 11, 3) := by decide +kernel
theorem dX0_fraction_144 : decode cX0_fraction 144 = .ok (.lload 8, 2) := by decide +kernel
theorem dX0_fraction_146 : decode cX0_fraction 146 = .ok (.lload 10, 2) := by decide +kernel
theorem dX0_fraction_148 : decode cX0_fraction 148 = .ok (.ldiv, 1) := by decide +kernel
theorem dX0_fraction_149 : decode cX0_fraction 149 = .ok (.goto 8, 3) := by decide +kernel
theorem dX0_fraction_152 : decode cX0_fraction 152 = .ok (.lload 6, 2) := by decide +kernel
theorem dX0_fraction_154 : decode cX0_fraction 154 = .ok (.lload 10, 2) := by decide +kernel
theorem dX0_fraction_156 : decode cX0_fraction 156 = .ok (.ldiv, 1) := by decide +kernel
theorem dX0_fraction_157 : decode cX0_fraction 157 = .ok (.lreturn, 1) := by decide +kernel
theorem dX0_drawOnce_0 : decode cX0_drawOnce 0 = .ok (.iconst 0, 1) := by decide +kernel
theorem dX0_drawOnce_1 : decode cX0_drawOnce 1 = .ok (.istore_n 3, 1) := by decide +kernel
theorem dX0_drawOnce_2 : decode cX0_drawOnce 2 = .ok (.iload_n 3, 1) := by decide +kernel
theorem dX0_drawOnce_3 : decode cX0_drawOnce 3 = .ok (.iload_n 2, 1) := by decide +kernel
theorem dX0_drawOnce_4 : decode cX0_drawOnce 4 = .ok (.if_icmp .ge 16, 3) := by decide +kernel
theorem dX0_drawOnce_7 : decode cX0_drawOnce 7 = .ok (.aload_n 0, 1) := by decide +kernel
theorem dX0_drawOnce_8 : decode cX0_drawOnce 8 = .ok (.getfield 15, 3) := by decide +kernel
theorem dX0_drawOnce_11 : decode cX0_drawOnce 11 = .ok (.iload_n 3, 1) := by decide +kernel
theorem dX0_drawOnce_12 : decode cX0_drawOnce 12 = .ok (.lconst 0, 1) := by decide +kernel
theorem dX0_drawOnce_13 : decode cX0_drawOnce 13 = .ok (.lastore, 1) := by decide +kernel
theorem dX0_drawOnce_14 : decode cX0_drawOnce 14 = .ok (.iinc 3 1, 3) := by decide +kernel
theorem dX0_drawOnce_17 : decode cX0_drawOnce 17 = .ok (.goto (-15), 3) := by decide +kernel
theorem dX0_drawOnce_20 : decode cX0_drawOnce 20 = .ok (.iconst 0, 1) := by decide +kernel
theorem dX0_drawOnce_21 : decode cX0_drawOnce 21 = .ok (.istore_n 3, 1) := by decide +kernel
theorem dX0_drawOnce_22 : decode cX0_drawOnce 22 = .ok (.iload_n 3, 1) := by decide +kernel
theorem dX0_drawOnce_23 : decode cX0_drawOnce 23 = .ok (.iload_n 2, 1) := by decide +kernel
theorem dX0_drawOnce_24 : decode cX0_drawOnce 24 = .ok (.if_icmp .ge 28, 3) := by decide +kernel
theorem dX0_drawOnce_27 : decode cX0_drawOnce 27 = .ok (.aload_n 0, 1) := by decide +kernel
theorem dX0_drawOnce_28 : decode cX0_drawOnce 28 = .ok (.getfield 9, 3) := by decide +kernel
theorem dX0_drawOnce_31 : decode cX0_drawOnce 31 = .ok (.iload_n 3, 1) := by decide +kernel
theorem dX0_drawOnce_32 : decode cX0_drawOnce 32 = .ok (.laload, 1) := by decide +kernel
theorem dX0_drawOnce_33 : decode cX0_drawOnce 33 = .ok (.lconst 0, 1) := by decide +kernel
theorem dX0_drawOnce_34 : decode cX0_drawOnce 34 = .ok (.lcmp, 1) := by decide +kernel
theorem dX0_drawOnce_35 : decode cX0_drawOnce 35 = .ok (.ifCond .le 11, 3) := by decide +kernel
theorem dX0_drawOnce_38 : decode cX0_drawOnce 38 = .ok (.aload_n 0, 1) := by decide +kernel
theorem dX0_drawOnce_39 : decode cX0_drawOnce 39 = .ok (.iload_n 3, 1) := by decide +kernel
theorem dX0_drawOnce_40 : decode cX0_drawOnce 40 = .ok (.aload_n 1, 1) := by decide +kernel
theorem dX0_drawOnce_41 : decode cX0_drawOnce 41 = .ok (.iload_n 3, 1) := by decide +kernel
theorem dX0_drawOnce_42 : decode cX0_drawOnce 42 = .ok (.iaload, 1) := by decide +kernel
theorem dX0_drawOnce_43 : decode cX0_drawOnce 43 = .ok (.invokevirtual 64, 3) := by decide +kernel
theorem dX0_drawOnce_46 : decode cX0_drawOnce 46 = .ok (.iinc 3 1, 3) := by decide +kernel
theorem dX0_drawOnce_49 : decode cX0_drawOnce 49 = .ok (.goto (-27), 3) := by decide +kernel
theorem dX0_drawOnce_52 : decode cX0_drawOnce 52 = .ok (.iconst 0, 1) := by decide +kernel
theorem dX0_drawOnce_53 : decode cX0_drawOnce 53 = .ok (.istore_n 3, 1) := by decide +kernel
theorem dX0_drawOnce_54 : decode cX0_drawOnce 54 = .ok (.iload_n 3, 1) := by decide +kernel
theorem dX0_drawOnce_55 : decode cX0_drawOnce 55 = .ok (.iload_n 2, 1) := by decide +kernel
theorem dX0_drawOnce_56 : decode cX0_drawOnce 56 = .ok (.if_icmp .ge 21, 3) := by decide +kernel
theorem dX0_drawOnce_59 : decode cX0_drawOnce 59 = .ok (.aload_n 0, 1) := by decide +kernel
theorem dX0_drawOnce_60 : decode cX0_drawOnce 60 = .ok (.getfield 9, 3) := by decide +kernel
theorem dX0_drawOnce_63 : decode cX0_drawOnce 63 = .ok (.iload_n 3, 1) := by decide +kernel
theorem dX0_drawOnce_64 : decode cX0_drawOnce 64 = .ok (.aload_n 0, 1) := by decide +kernel
theorem dX0_drawOnce_65 : decode cX0_drawOnce 65 = .ok (.getfield 15, 3) := by decide +kernel
theorem dX0_drawOnce_68 : decode cX0_drawOnce 68 = .ok (.iload_n 3, 1) := by decide +kernel
theorem dX0_drawOnce_69 : decode cX0_drawOnce 69 = .ok (.laload, 1) := by decide +kernel
theorem dX0_drawOnce_70 : decode cX0_drawOnce 70 = .ok (.lastore, 1) := by decide +kernel
theorem dX0_drawOnce_71 : decode cX0_drawOnce 71 = .ok (.iinc 3 1, 3) := by decide +kernel
theorem dX0_drawOnce_74 : decode cX0_drawOnce 74 = .ok (.goto (-20), 3) := by decide +kernel
theorem dX0_drawOnce_77 : decode cX0_drawOnce 77 = .ok (.return_, 1) := by decide +kernel
theorem dX0_handOn_0 : decode cX0_handOn 0 = .ok (.iload_n 2, 1) := by decide +kernel
theorem dX0_handOn_1 : decode cX0_handOn 1 = .ok (.invokestatic 68, 3) := by decide +kernel
theorem dX0_handOn_4 : decode cX0_handOn 4 = .ok (.istore_n 3, 1) := by decide +kernel
theorem dX0_handOn_5 : decode cX0_handOn 5 = .ok (.iload_n 3, 1) := by decide +kernel
theorem dX0_handOn_6 : decode cX0_handOn 6 = .ok (.ifCond .ne 23, 3) := by decide +kernel
theorem dX0_handOn_9 : decode cX0_handOn 9 = .ok (.aload_n 0, 1) := by decide +kernel
theorem dX0_handOn_10 : decode cX0_handOn 10 = .ok (.getfield 15, 3) := by decide +kernel
theorem dX0_handOn_13 : decode cX0_handOn 13 = .ok (.iload_n 1, 1) := by decide +kernel
theorem dX0_handOn_14 : decode cX0_handOn 14 = .ok (.dup2, 1) := by decide +kernel
theorem dX0_handOn_15 : decode cX0_handOn 15 = .ok (.laload, 1) := by decide +kernel
theorem dX0_handOn_16 : decode cX0_handOn 16 = .ok (.aload_n 0, 1) := by decide +kernel
theorem dX0_handOn_17 : decode cX0_handOn 17 = .ok (.getfield 9, 3) := by decide +kernel
theorem dX0_handOn_20 : decode cX0_handOn 20 = .ok (.iload_n 1, 1) := by decide +kernel
theorem dX0_handOn_21 : decode cX0_handOn 21 = .ok (.laload, 1) := by decide +kernel
theorem dX0_handOn_22 : decode cX0_handOn 22 = .ok (.ldc2_w 58, 3) := by decide +kernel
theorem dX0_handOn_25 : decode cX0_handOn 25 = .ok (.lmul, 1) := by decide +kernel
theorem dX0_handOn_26 : decode cX0_handOn 26 = .ok (.ladd, 1) := by decide +kernel
theorem dX0_handOn_27 : decode cX0_handOn 27 = .ok (.lastore, 1) := by decide +kernel
theorem dX0_handOn_28 : decode cX0_handOn 28 = .ok (.return_, 1) := by decide +kernel
theorem dX0_handOn_29 : decode cX0_handOn 29 = .ok (.aload_n 0, 1) := by decide +kernel
theorem dX0_handOn_30 : decode cX0_handOn 30 = .ok (.getfield 9, 3) := by decide +kernel
theorem dX0_handOn_33 : decode cX0_handOn 33 = .ok (.iload_n 1, 1) := by decide +kernel
theorem dX0_handOn_34 : decode cX0_handOn 34 = .ok (.laload, 1) := by decide +kernel
theorem dX0_handOn_35 : decode cX0_handOn 35 = .ok (.sipush 2520, 3) := by decide +kernel
theorem dX0_handOn_38 : decode cX0_handOn 38 = .ok (.iload_n 3, 1) := by decide +kernel
theorem dX0_handOn_39 : decode cX0_handOn 39 = .ok (.idiv, 1) := by decide +kernel
theorem dX0_handOn_40 : decode cX0_handOn 40 = .ok (.i2l, 1) := by decide +kernel
theorem dX0_handOn_41 : decode cX0_handOn 41 = .ok (.lmul, 1) := by decide +kernel
theorem dX0_handOn_42 : decode cX0_handOn 42 = .ok (.lstore 4, 2) := by decide +kernel
theorem dX0_handOn_44 : decode cX0_handOn 44 = .ok (.iconst 0, 1) := by decide +kernel
theorem dX0_handOn_45 : decode cX0_handOn 45 = .ok (.istore 6, 2) := by decide +kernel
theorem dX0_handOn_47 : decode cX0_handOn 47 = .ok (.iload 6, 2) := by decide +kernel
theorem dX0_handOn_49 : decode cX0_handOn 49 = .ok (.aload_n 0, 1) := by decide +kernel
theorem dX0_handOn_50 : decode cX0_handOn 50 = .ok (.getfield 18, 3) := by decide +kernel
theorem dX0_handOn_53 : decode cX0_handOn 53 = .ok (.invokevirtual 51, 3) := by decide +kernel
theorem dX0_handOn_56 : decode cX0_handOn 56 = .ok (.if_icmp .ge 36, 3) := by decide +kernel
theorem dX0_handOn_59 : decode cX0_handOn 59 = .ok (.iload_n 2, 1) := by decide +kernel
theorem dX0_handOn_60 : decode cX0_handOn 60 = .ok (.iconst 1, 1) := by decide +kernel
theorem dX0_handOn_61 : decode cX0_handOn 61 = .ok (.iload 6, 2) := by decide +kernel
theorem dX0_handOn_63 : decode cX0_handOn 63 = .ok (.ishl, 1) := by decide +kernel
theorem dX0_handOn_64 : decode cX0_handOn 64 = .ok (.iand, 1) := by decide +kernel
theorem dX0_handOn_65 : decode cX0_handOn 65 = .ok (.istore 7, 2) := by decide +kernel
theorem dX0_handOn_67 : decode cX0_handOn 67 = .ok (.iload 7, 2) := by decide +kernel
theorem dX0_handOn_69 : decode cX0_handOn 69 = .ok (.ifCond .eq 17, 3) := by decide +kernel
theorem dX0_handOn_72 : decode cX0_handOn 72 = .ok (.aload_n 0, 1) := by decide +kernel
theorem dX0_handOn_73 : decode cX0_handOn 73 = .ok (.getfield 15, 3) := by decide +kernel
theorem dX0_handOn_76 : decode cX0_handOn 76 = .ok (.iload_n 1, 1) := by decide +kernel
theorem dX0_handOn_77 : decode cX0_handOn 77 = .ok (.iload 7, 2) := by decide +kernel
theorem dX0_handOn_79 : decode cX0_handOn 79 = .ok (.ixor, 1) := by decide +kernel
theorem dX0_handOn_80 : decode cX0_handOn 80 = .ok (.dup2, 1) := by decide +kernel
theorem dX0_handOn_81 : decode cX0_handOn 81 = .ok (.laload, 1) := by decide +kernel
theorem dX0_handOn_82 : decode cX0_handOn 82 = .ok (.lload 4, 2) := by decide +kernel
theorem dX0_handOn_84 : decode cX0_handOn 84 = .ok (.ladd, 1) := by decide +kernel
theorem dX0_handOn_85 : decode cX0_handOn 85 = .ok (.lastore, 1) := by decide +kernel
theorem dX0_handOn_86 : decode cX0_handOn 86 = .ok (.iinc 6 1, 3) := by decide +kernel
theorem dX0_handOn_89 : decode cX0_handOn 89 = .ok (.goto (-42), 3) := by decide +kernel
theorem dX0_handOn_92 : decode cX0_handOn 92 = .ok (.return_, 1) := by decide +kernel
theorem dX0_commonDivisor_0 : decode cX0_commonDivisor 0 = .ok (.lload_n 0, 1) := by decide +kernel
theorem dX0_commonDivisor_1 : decode cX0_commonDivisor 1 = .ok (.lstore 4, 2) := by decide +kernel
theorem dX0_commonDivisor_3 : decode cX0_commonDivisor 3 = .ok (.lload_n 2, 1) := by decide +kernel
theorem dX0_commonDivisor_4 : decode cX0_commonDivisor 4 = .ok (.lstore 6, 2) := by decide +kernel
theorem dX0_commonDivisor_6 : decode cX0_commonDivisor 6 = .ok (.iconst 0, 1) := by decide +kernel
theorem dX0_commonDivisor_7 : decode cX0_commonDivisor 7 = .ok (.istore 8, 2) := by decide +kernel
theorem dX0_commonDivisor_9 : decode cX0_commonDivisor 9 = .ok (.iload 8, 2) := by decide +kernel
theorem dX0_commonDivisor_11 : decode cX0_commonDivisor 11 = .ok (.sipush 200, 3) := by decide +kernel
theorem dX0_commonDivisor_14 : decode cX0_commonDivisor 14 = .ok (.if_icmp .ge 31, 3) := by decide +kernel
theorem dX0_commonDivisor_17 : decode cX0_commonDivisor 17 = .ok (.lload 6, 2) := by decide +kernel
theorem dX0_commonDivisor_19 : decode cX0_commonDivisor 19 = .ok (.lconst 0, 1) := by decide +kernel
theorem dX0_commonDivisor_20 : decode cX0_commonDivisor 20 = .ok (.lcmp, 1) := by decide +kernel
theorem dX0_commonDivisor_21 : decode cX0_commonDivisor 21 = .ok (.ifCond .eq 24, 3) := by decide +kernel
theorem dX0_commonDivisor_24 : decode cX0_commonDivisor 24 = .ok (.lload 4, 2) := by decide +kernel
theorem dX0_commonDivisor_26 : decode cX0_commonDivisor 26 = .ok (.lload 6, 2) := by decide +kernel
theorem dX0_commonDivisor_28 : decode cX0_commonDivisor 28 = .ok (.lrem, 1) := by decide +kernel
theorem dX0_commonDivisor_29 : decode cX0_commonDivisor 29 = .ok (.lstore 9, 2) := by decide +kernel
theorem dX0_commonDivisor_31 : decode cX0_commonDivisor 31 = .ok (.lload 6, 2) := by decide +kernel
theorem dX0_commonDivisor_33 : decode cX0_commonDivisor 33 = .ok (.lstore 4, 2) := by decide +kernel
theorem dX0_commonDivisor_35 : decode cX0_commonDivisor 35 = .ok (.lload 9, 2) := by decide +kernel
theorem dX0_commonDivisor_37 : decode cX0_commonDivisor 37 = .ok (.lstore 6, 2) := by decide +kernel
theorem dX0_commonDivisor_39 : decode cX0_commonDivisor 39 = .ok (.iinc 8 1, 3) := by decide +kernel
theorem dX0_commonDivisor_42 : decode cX0_commonDivisor 42 = .ok (.goto (-33), 3) := by decide +kernel
theorem dX0_commonDivisor_45 : decode cX0_commonDivisor 45 = .ok (.lload 4, 2) := by decide +kernel
theorem dX0_commonDivisor_47 : decode cX0_commonDivisor 47 = .ok (.lreturn, 1) := by decide +kernel
theorem dX1_isDefined_0 : decode cX1_isDefined 0 = .ok (.aload_n 0, 1) := by decide +kernel
theorem dX1_isDefined_1 : decode cX1_isDefined 1 = .ok (.getfield 9, 3) := by decide +kernel
theorem dX1_isDefined_4 : decode cX1_isDefined 4 = .ok (.iconst 3, 1) := by decide +kernel
theorem dX1_isDefined_5 : decode cX1_isDefined 5 = .ok (.invokevirtual 15, 3) := by decide +kernel
theorem dX1_isDefined_8 : decode cX1_isDefined 8 = .ok (.ifCond .le 5, 3) := by decide +kernel
theorem dX1_isDefined_11 : decode cX1_isDefined 11 = .ok (.iconst 0, 1) := by decide +kernel
theorem dX1_isDefined_12 : decode cX1_isDefined 12 = .ok (.ireturn, 1) := by decide +kernel
theorem dX1_isDefined_13 : decode cX1_isDefined 13 = .ok (.iconst 0, 1) := by decide +kernel
theorem dX1_isDefined_14 : decode cX1_isDefined 14 = .ok (.istore_n 1, 1) := by decide +kernel
theorem dX1_isDefined_15 : decode cX1_isDefined 15 = .ok (.iload_n 1, 1) := by decide +kernel
theorem dX1_isDefined_16 : decode cX1_isDefined 16 = .ok (.aload_n 0, 1) := by decide +kernel
theorem dX1_isDefined_17 : decode cX1_isDefined 17 = .ok (.getfield 9, 3) := by decide +kernel
theorem dX1_isDefined_20 : decode cX1_isDefined 20 = .ok (.invokevirtual 21, 3) := by decide +kernel
theorem dX1_isDefined_23 : decode cX1_isDefined 23 = .ok (.if_icmp .ge 33, 3) := by decide +kernel
theorem dX1_isDefined_26 : decode cX1_isDefined 26 = .ok (.iconst 0, 1) := by decide +kernel
theorem dX1_isDefined_27 : decode cX1_isDefined 27 = .ok (.istore_n 2, 1) := by decide +kernel
theorem dX1_isDefined_28 : decode cX1_isDefined 28 = .ok (.iload_n 2, 1) := by decide +kernel
theorem dX1_isDefined_29 : decode cX1_isDefined 29 = .ok (.iload_n 1, 1) := by decide +kernel
theorem dX1_isDefined_30 : decode cX1_isDefined 30 = .ok (.if_icmp .ge 20, 3) := by decide +kernel
theorem dX1_isDefined_33 : decode cX1_isDefined 33 = .ok (.aload_n 0, 1) := by decide +kernel
theorem dX1_isDefined_34 : decode cX1_isDefined 34 = .ok (.iload_n 1, 1) := by decide +kernel
theorem dX1_isDefined_35 : decode cX1_isDefined 35 = .ok (.iload_n 2, 1) := by decide +kernel
theorem dX1_isDefined_36 : decode cX1_isDefined 36 = .ok (.invokevirtual 25, 3) := by decide +kernel
theorem dX1_isDefined_39 : decode cX1_isDefined 39 = .ok (.ifCond .ne 5, 3) := by decide +kernel
theorem dX1_isDefined_42 : decode cX1_isDefined 42 = .ok (.iconst 0, 1) := by decide +kernel
theorem dX1_isDefined_43 : decode cX1_isDefined 43 = .ok (.ireturn, 1) := by decide +kernel
theorem dX1_isDefined_44 : decode cX1_isDefined 44 = .ok (.iinc 2 1, 3) := by decide +kernel
theorem dX1_isDefined_47 : decode cX1_isDefined 47 = .ok (.goto (-19), 3) := by decide +kernel
theorem dX1_isDefined_50 : decode cX1_isDefined 50 = .ok (.iinc 1 1, 3) := by decide +kernel
theorem dX1_isDefined_53 : decode cX1_isDefined 53 = .ok (.goto (-38), 3) := by decide +kernel
theorem dX1_isDefined_56 : decode cX1_isDefined 56 = .ok (.iconst 1, 1) := by decide +kernel
theorem dX1_isDefined_57 : decode cX1_isDefined 57 = .ok (.ireturn, 1) := by decide +kernel
theorem dX1_isEvenPair_0 : decode cX1_isEvenPair 0 = .ok (.aload_n 0, 1) := by decide +kernel
theorem dX1_isEvenPair_1 : decode cX1_isEvenPair 1 = .ok (.getfield 9, 3) := by decide +kernel
theorem dX1_isEvenPair_4 : decode cX1_isEvenPair 4 = .ok (.iload_n 1, 1) := by decide +kernel
theorem dX1_isEvenPair_5 : decode cX1_isEvenPair 5 = .ok (.iload_n 2, 1) := by decide +kernel
theorem dX1_isEvenPair_6 : decode cX1_isEvenPair 6 = .ok (.invokevirtual 29, 3) := by decide +kernel
theorem dX1_isEvenPair_9 : decode cX1_isEvenPair 9 = .ok (.istore_n 3, 1) := by decide +kernel
theorem dX1_isEvenPair_10 : decode cX1_isEvenPair 10 = .ok (.iload_n 3, 1) := by decide +kernel
theorem dX1_isEvenPair_11 : decode cX1_isEvenPair 11 = .ok (.aload_n 0, 1) := by decide +kernel
theorem dX1_isEvenPair_12 : decode cX1_isEvenPair 12 = .ok (.getfield 9, 3) := by decide +kernel
theorem dX1_isEvenPair_15 : decode cX1_isEvenPair 15 = .ok (.iload_n 2, 1) := by decide +kernel
theorem dX1_isEvenPair_16 : decode cX1_isEvenPair 16 = .ok (.iload_n 1, 1) := by decide +kernel
theorem dX1_isEvenPair_17 : decode cX1_isEvenPair 17 = .ok (.invokevirtual 29, 3) := by decide +kernel
theorem dX1_isEvenPair_20 : decode cX1_isEvenPair 20 = .ok (.if_icmp .eq 5, 3) := by decide +kernel
theorem dX1_isEvenPair_23 : decode cX1_isEvenPair 23 = .ok (.iconst 0, 1) := by decide +kernel
theorem dX1_isEvenPair_24 : decode cX1_isEvenPair 24 = .ok (.ireturn, 1) := by decide +kernel
theorem dX1_isEvenPair_25 : decode cX1_isEvenPair 25 = .ok (.iload_n 3, 1) := by decide +kernel
theorem dX1_isEvenPair_26 : decode cX1_isEvenPair 26 = .ok (.ifCond .ne 5, 3) := by decide +kernel
theorem dX1_isEvenPair_29 : decode cX1_isEvenPair 29 = .ok (.iconst 1, 1) := by decide +kernel
theorem dX1_isEvenPair_30 : decode cX1_isEvenPair 30 = .ok (.ireturn, 1) := by decide +kernel
theorem dX1_isEvenPair_31 : decode cX1_isEvenPair 31 = .ok (.aload_n 0, 1) := by decide +kernel
theorem dX1_isEvenPair_32 : decode cX1_isEvenPair 32 = .ok (.getfield 9, 3) := by decide +kernel
theorem dX1_isEvenPair_35 : decode cX1_isEvenPair 35 = .ok (.iload_n 1, 1) := by decide +kernel
theorem dX1_isEvenPair_36 : decode cX1_isEvenPair 36 = .ok (.invokevirtual 33, 3) := by decide +kernel
theorem dX1_isEvenPair_39 : decode cX1_isEvenPair 39 = .ok (.istore 4, 2) := by decide +kernel
theorem dX1_isEvenPair_41 : decode cX1_isEvenPair 41 = .ok (.aload_n 0, 1) := by decide +kernel
theorem dX1_isEvenPair_42 : decode cX1_isEvenPair 42 = .ok (.getfield 9, 3) := by decide +kernel
theorem dX1_isEvenPair_45 : decode cX1_isEvenPair 45 = .ok (.iload_n 2, 1) := by decide +kernel
theorem dX1_isEvenPair_46 : decode cX1_isEvenPair 46 = .ok (.invokevirtual 33, 3) := by decide +kernel
theorem dX1_isEvenPair_49 : decode cX1_isEvenPair 49 = .ok (.istore 5, 2) := by decide +kernel
theorem dX1_isEvenPair_51 : decode cX1_isEvenPair 51 = .ok (.iload 4, 2) := by decide +kernel
theorem dX1_isEvenPair_53 : decode cX1_isEvenPair 53 = .ok (.iconst 1, 1) := by decide +kernel
theorem dX1_isEvenPair_54 : decode cX1_isEvenPair 54 = .ok (.if_icmp .ne 8, 3) := by decide +kernel
theorem dX1_isEvenPair_57 : decode cX1_isEvenPair 57 = .ok (.iload 5, 2) := by decide +kernel
theorem dX1_isEvenPair_59 : decode cX1_isEvenPair 59 = .ok (.ifCond .eq 14, 3) := by decide +kernel
theorem dX1_isEvenPair_62 : decode cX1_isEvenPair 62 = .ok (.iload 4, 2) := by decide +kernel
theorem dX1_isEvenPair_64 : decode cX1_isEvenPair 64 = .ok (.ifCond .ne 13, 3) := by decide +kernel
theorem dX1_isEvenPair_67 : decode cX1_isEvenPair 67 = .ok (.iload 5, 2) := by decide +kernel
theorem dX1_isEvenPair_69 : decode cX1_isEvenPair 69 = .ok (.iconst 1, 1) := by decide +kernel
theorem dX1_isEvenPair_70 : decode cX1_isEvenPair 70 = .ok (.if_icmp .ne 7, 3) := by decide +kernel
theorem dX1_isEvenPair_73 : decode cX1_isEvenPair 73 = .ok (.iconst 1, 1) := by decide +kernel
theorem dX1_isEvenPair_74 : decode cX1_isEvenPair 74 = .ok (.goto 4, 3) := by decide +kernel
theorem dX1_isEvenPair_77 : decode cX1_isEvenPair 77 = .ok (.iconst 0, 1) := by decide +kernel
theorem dX1_isEvenPair_78 : decode cX1_isEvenPair 78 = .ok (.istore 6, 2) := by decide +kernel
theorem dX1_isEvenPair_80 : decode cX1_isEvenPair 80 = .ok (.iload 6, 2) := by decide +kernel
theorem dX1_isEvenPair_82 : decode cX1_isEvenPair 82 = .ok (.ifCond .ne 7, 3) := by decide +kernel
theorem dX1_isEvenPair_85 : decode cX1_isEvenPair 85 = .ok (.iconst 1, 1) := by decide +kernel
theorem dX1_isEvenPair_86 : decode cX1_isEvenPair 86 = .ok (.goto 4, 3) := by decide +kernel
theorem dX1_isEvenPair_89 : decode cX1_isEvenPair 89 = .ok (.iconst 0, 1) := by decide +kernel
theorem dX1_isEvenPair_90 : decode cX1_isEvenPair 90 = .ok (.ireturn, 1) := by decide +kernel
theorem dX1_of_0 : decode cX1_of 0 = .ok (.iconst 0, 1) := by decide +kernel
theorem dX1_of_1 : decode cX1_of 1 = .ok (.istore_n 2, 1) := by decide +kernel
theorem dX1_of_2 : decode cX1_of 2 = .ok (.iconst 0, 1) := by decide +kernel
theorem dX1_of_3 : decode cX1_of 3 = .ok (.istore_n 3, 1) := by decide +kernel
theorem dX1_of_4 : decode cX1_of 4 = .ok (.iload_n 3, 1) := by decide +kernel
theorem dX1_of_5 : decode cX1_of 5 = .ok (.aload_n 0, 1) := by decide +kernel
theorem dX1_of_6 : decode cX1_of 6 = .ok (.getfield 9, 3) := by decide +kernel
theorem dX1_of_9 : decode cX1_of 9 = .ok (.invokevirtual 21, 3) := by decide +kernel
theorem dX1_of_12 : decode cX1_of 12 = .ok (.if_icmp .ge 44, 3) := by decide +kernel
theorem dX1_of_15 : decode cX1_of 15 = .ok (.iload_n 2, 1) := by decide +kernel
theorem dX1_of_16 : decode cX1_of 16 = .ok (.aload_n 0, 1) := by decide +kernel
theorem dX1_of_17 : decode cX1_of 17 = .ok (.iload_n 3, 1) := by decide +kernel
theorem dX1_of_18 : decode cX1_of 18 = .ok (.iload_n 1, 1) := by decide +kernel
theorem dX1_of_19 : decode cX1_of 19 = .ok (.invokevirtual 36, 3) := by decide +kernel
theorem dX1_of_22 : decode cX1_of 22 = .ok (.iadd, 1) := by decide +kernel
theorem dX1_of_23 : decode cX1_of 23 = .ok (.istore_n 2, 1) := by decide +kernel
theorem dX1_of_24 : decode cX1_of 24 = .ok (.iconst 0, 1) := by decide +kernel
theorem dX1_of_25 : decode cX1_of 25 = .ok (.istore 4, 2) := by decide +kernel
theorem dX1_of_27 : decode cX1_of 27 = .ok (.iload 4, 2) := by decide +kernel
theorem dX1_of_29 : decode cX1_of 29 = .ok (.iload_n 3, 1) := by decide +kernel
theorem dX1_of_30 : decode cX1_of 30 = .ok (.if_icmp .ge 20, 3) := by decide +kernel
theorem dX1_of_33 : decode cX1_of 33 = .ok (.iload_n 2, 1) := by decide +kernel
theorem dX1_of_34 : decode cX1_of 34 = .ok (.aload_n 0, 1) := by decide +kernel
theorem dX1_of_35 : decode cX1_of 35 = .ok (.iload_n 3, 1) := by decide +kernel
theorem dX1_of_36 : decode cX1_of 36 = .ok (.iload 4, 2) := by decide +kernel
theorem dX1_of_38 : decode cX1_of 38 = .ok (.iload_n 1, 1) := by decide +kernel
theorem dX1_of_39 : decode cX1_of 39 = .ok (.invokevirtual 39, 3) := by decide +kernel
theorem dX1_of_42 : decode cX1_of 42 = .ok (.iadd, 1) := by decide +kernel
theorem dX1_of_43 : decode cX1_of 43 = .ok (.istore_n 2, 1) := by decide +kernel
theorem dX1_of_44 : decode cX1_of 44 = .ok (.iinc 4 1, 3) := by decide +kernel
theorem dX1_of_47 : decode cX1_of 47 = .ok (.goto (-20), 3) := by decide +kernel
theorem dX1_of_50 : decode cX1_of 50 = .ok (.iinc 3 1, 3) := by decide +kernel
theorem dX1_of_53 : decode cX1_of 53 = .ok (.goto (-49), 3) := by decide +kernel
theorem dX1_of_56 : decode cX1_of 56 = .ok (.iload_n 2, 1) := by decide +kernel
theorem dX1_of_57 : decode cX1_of 57 = .ok (.ireturn, 1) := by decide +kernel
theorem dX1_ofPair_0 : decode cX1_ofPair 0 = .ok (.aload_n 0, 1) := by decide +kernel
theorem dX1_ofPair_1 : decode cX1_ofPair 1 = .ok (.getfield 9, 3) := by decide +kernel
theorem dX1_ofPair_4 : decode cX1_ofPair 4 = .ok (.iload_n 1, 1) := by decide +kernel
theorem dX1_ofPair_5 : decode cX1_ofPair 5 = .ok (.invokevirtual 33, 3) := by decide +kernel
theorem dX1_ofPair_8 : decode cX1_ofPair 8 = .ok (.istore 4, 2) := by decide +kernel
theorem dX1_ofPair_10 : decode cX1_ofPair 10 = .ok (.aload_n 0, 1) := by decide +kernel
theorem dX1_ofPair_11 : decode cX1_ofPair 11 = .ok (.getfield 9, 3) := by decide +kernel
theorem dX1_ofPair_14 : decode cX1_ofPair 14 = .ok (.iload_n 2, 1) := by decide +kernel
theorem dX1_ofPair_15 : decode cX1_ofPair 15 = .ok (.invokevirtual 33, 3) := by decide +kernel
theorem dX1_ofPair_18 : decode cX1_ofPair 18 = .ok (.istore 5, 2) := by decide +kernel
theorem dX1_ofPair_20 : decode cX1_ofPair 20 = .ok (.iload 4, 2) := by decide +kernel
theorem dX1_ofPair_22 : decode cX1_ofPair 22 = .ok (.iconst 2, 1) := by decide +kernel
theorem dX1_ofPair_23 : decode cX1_ofPair 23 = .ok (.if_icmp .ne 11, 3) := by decide +kernel
theorem dX1_ofPair_26 : decode cX1_ofPair 26 = .ok (.iload 5, 2) := by decide +kernel
theorem dX1_ofPair_28 : decode cX1_ofPair 28 = .ok (.iconst 2, 1) := by decide +kernel
theorem dX1_ofPair_29 : decode cX1_ofPair 29 = .ok (.if_icmp .ne 5, 3) := by decide +kernel
theorem dX1_ofPair_32 : decode cX1_ofPair 32 = .ok (.iconst 0, 1) := by decide +kernel
theorem dX1_ofPair_33 : decode cX1_ofPair 33 = .ok (.ireturn, 1) := by decide +kernel
theorem dX1_ofPair_34 : decode cX1_ofPair 34 = .ok (.iload_n 3, 1) := by decide +kernel
theorem dX1_ofPair_35 : decode cX1_ofPair 35 = .ok (.iload_n 1, 1) := by decide +kernel
theorem dX1_ofPair_36 : decode cX1_ofPair 36 = .ok (.invokestatic 43, 3) := by decide +kernel
theorem dX1_ofPair_39 : decode cX1_ofPair 39 = .ok (.iload_n 3, 1) := by decide +kernel
theorem dX1_ofPair_40 : decode cX1_ofPair 40 = .ok (.iload_n 2, 1) := by decide +kernel
theorem dX1_ofPair_41 : decode cX1_ofPair 41 = .ok (.invokestatic 43, 3) := by decide +kernel
theorem dX1_ofPair_44 : decode cX1_ofPair 44 = .ok (.if_icmp .ne 7, 3) := by decide +kernel
theorem dX1_ofPair_47 : decode cX1_ofPair 47 = .ok (.iconst 1, 1) := by decide +kernel
theorem dX1_ofPair_48 : decode cX1_ofPair 48 = .ok (.goto 4, 3) := by decide +kernel
theorem dX1_ofPair_51 : decode cX1_ofPair 51 = .ok (.iconst 0, 1) := by decide +kernel
theorem dX1_ofPair_52 : decode cX1_ofPair 52 = .ok (.istore 6, 2) := by decide +kernel
theorem dX1_ofPair_54 : decode cX1_ofPair 54 = .ok (.iload 4, 2) := by decide +kernel
theorem dX1_ofPair_56 : decode cX1_ofPair 56 = .ok (.iconst 1, 1) := by decide +kernel
theorem dX1_ofPair_57 : decode cX1_ofPair 57 = .ok (.if_icmp .eq 9, 3) := by decide +kernel
theorem dX1_ofPair_60 : decode cX1_ofPair 60 = .ok (.iload 5, 2) := by decide +kernel
theorem dX1_ofPair_62 : decode cX1_ofPair 62 = .ok (.iconst 1, 1) := by decide +kernel
theorem dX1_ofPair_63 : decode cX1_ofPair 63 = .ok (.if_icmp .ne 7, 3) := by decide +kernel
theorem dX1_ofPair_66 : decode cX1_ofPair 66 = .ok (.iconst 1, 1) := by decide +kernel
theorem dX1_ofPair_67 : decode cX1_ofPair 67 = .ok (.goto 4, 3) := by decide +kernel
theorem dX1_ofPair_70 : decode cX1_ofPair 70 = .ok (.iconst 0, 1) := by decide +kernel
theorem dX1_ofPair_71 : decode cX1_ofPair 71 = .ok (.istore 7, 2) := by decide +kernel
theorem dX1_ofPair_73 : decode cX1_ofPair 73 = .ok (.iload 6, 2) := by decide +kernel
theorem dX1_ofPair_75 : decode cX1_ofPair 75 = .ok (.iload 7, 2) := by decide +kernel
theorem dX1_ofPair_77 : decode cX1_ofPair 77 = .ok (.if_icmp .eq 15, 3) := by decide +kernel
theorem dX1_ofPair_80 : decode cX1_ofPair 80 = .ok (.aload_n 0, 1) := by decide +kernel
theorem dX1_ofPair_81 : decode cX1_ofPair 81 = .ok (.getfield 9, 3) := by decide +kernel
theorem dX1_ofPair_84 : decode cX1_ofPair 84 = .ok (.iload_n 1, 1) := by decide +kernel
theorem dX1_ofPair_85 : decode cX1_ofPair 85 = .ok (.iload_n 2, 1) := by decide +kernel
theorem dX1_ofPair_86 : decode cX1_ofPair 86 = .ok (.invokevirtual 29, 3) := by decide +kernel
theorem dX1_ofPair_89 : decode cX1_ofPair 89 = .ok (.goto 13, 3) := by decide +kernel
theorem dX1_ofPair_92 : decode cX1_ofPair 92 = .ok (.aload_n 0, 1) := by decide +kernel
theorem dX1_ofPair_93 : decode cX1_ofPair 93 = .ok (.getfield 9, 3) := by decide +kernel
theorem dX1_ofPair_96 : decode cX1_ofPair 96 = .ok (.iload_n 1, 1) := by decide +kernel
theorem dX1_ofPair_97 : decode cX1_ofPair 97 = .ok (.iload_n 2, 1) := by decide +kernel
theorem dX1_ofPair_98 : decode cX1_ofPair 98 = .ok (.invokevirtual 29, 3) := by decide +kernel
theorem dX1_ofPair_101 : decode cX1_ofPair 101 = .ok (.ineg, 1) := by decide +kernel
theorem dX1_ofPair_102 : decode cX1_ofPair 102 = .ok (.ireturn, 1) := by decide +kernel
theorem dX1_ofLean_0 : decode cX1_ofLean 0 = .ok (.aload_n 0, 1) := by decide +kernel
theorem dX1_ofLean_1 : decode cX1_ofLean 1 = .ok (.getfield 9, 3) := by decide +kernel
theorem dX1_ofLean_4 : decode cX1_ofLean 4 = .ok (.iload_n 1, 1) := by decide +kernel
theorem dX1_ofLean_5 : decode cX1_ofLean 5 = .ok (.invokevirtual 33, 3) := by decide +kernel
theorem dX1_ofLean_8 : decode cX1_ofLean 8 = .ok (.istore_n 3, 1) := by decide +kernel
theorem dX1_ofLean_9 : decode cX1_ofLean 9 = .ok (.iload_n 3, 1) := by decide +kernel
theorem dX1_ofLean_10 : decode cX1_ofLean 10 = .ok (.ifCond .eq 10, 3) := by decide +kernel
theorem dX1_ofLean_13 : decode cX1_ofLean 13 = .ok (.iload_n 3, 1) := by decide +kernel
theorem dX1_ofLean_14 : decode cX1_ofLean 14 = .ok (.iconst 1, 1) := by decide +kernel
theorem dX1_ofLean_15 : decode cX1_ofLean 15 = .ok (.if_icmp .eq 5, 3) := by decide +kernel
theorem dX1_ofLean_18 : decode cX1_ofLean 18 = .ok (.iconst 0, 1) := by decide +kernel
theorem dX1_ofLean_19 : decode cX1_ofLean 19 = .ok (.ireturn, 1) := by decide +kernel
theorem dX1_ofLean_20 : decode cX1_ofLean 20 = .ok (.iload_n 2, 1) := by decide +kernel
theorem dX1_ofLean_21 : decode cX1_ofLean 21 = .ok (.iload_n 1, 1) := by decide +kernel
theorem dX1_ofLean_22 : decode cX1_ofLean 22 = .ok (.invokestatic 43, 3) := by decide +kernel
theorem dX1_ofLean_25 : decode cX1_ofLean 25 = .ok (.iconst 1, 1) := by decide +kernel
theorem dX1_ofLean_26 : decode cX1_ofLean 26 = .ok (.if_icmp .ne 7, 3) := by decide +kernel
theorem dX1_ofLean_29 : decode cX1_ofLean 29 = .ok (.iconst 1, 1) := by decide +kernel
theorem dX1_ofLean_30 : decode cX1_ofLean 30 = .ok (.goto 4, 3) := by decide +kernel
theorem dX1_ofLean_33 : decode cX1_ofLean 33 = .ok (.iconst 0, 1) := by decide +kernel
theorem dX1_ofLean_34 : decode cX1_ofLean 34 = .ok (.istore 4, 2) := by decide +kernel
theorem dX1_ofLean_36 : decode cX1_ofLean 36 = .ok (.iload 4, 2) := by decide +kernel
theorem dX1_ofLean_38 : decode cX1_ofLean 38 = .ok (.iload_n 3, 1) := by decide +kernel
theorem dX1_ofLean_39 : decode cX1_ofLean 39 = .ok (.ifCond .ne 7, 3) := by decide +kernel
theorem dX1_ofLean_42 : decode cX1_ofLean 42 = .ok (.iconst 1, 1) := by decide +kernel
theorem dX1_ofLean_43 : decode cX1_ofLean 43 = .ok (.goto 4, 3) := by decide +kernel
theorem dX1_ofLean_46 : decode cX1_ofLean 46 = .ok (.iconst 0, 1) := by decide +kernel
theorem dX1_ofLean_47 : decode cX1_ofLean 47 = .ok (.if_icmp .ne 14, 3) := by decide +kernel
theorem dX1_ofLean_50 : decode cX1_ofLean 50 = .ok (.aload_n 0, 1) := by decide +kernel
theorem dX1_ofLean_51 : decode cX1_ofLean 51 = .ok (.getfield 9, 3) := by decide +kernel
theorem dX1_ofLean_54 : decode cX1_ofLean 54 = .ok (.iload_n 1, 1) := by decide +kernel
theorem dX1_ofLean_55 : decode cX1_ofLean 55 = .ok (.invokevirtual 46, 3) := by decide +kernel
theorem dX1_ofLean_58 : decode cX1_ofLean 58 = .ok (.goto 12, 3) := by decide +kernel
theorem dX1_ofLean_61 : decode cX1_ofLean 61 = .ok (.aload_n 0, 1) := by decide +kernel
theorem dX1_ofLean_62 : decode cX1_ofLean 62 = .ok (.getfield 9, 3) := by decide +kernel
theorem dX1_ofLean_65 : decode cX1_ofLean 65 = .ok (.iload_n 1, 1) := by decide +kernel
theorem dX1_ofLean_66 : decode cX1_ofLean 66 = .ok (.invokevirtual 46, 3) := by decide +kernel
theorem dX1_ofLean_69 : decode cX1_ofLean 69 = .ok (.ineg, 1) := by decide +kernel
theorem dX1_ofLean_70 : decode cX1_ofLean 70 = .ok (.ireturn, 1) := by decide +kernel
theorem dX2_size_0 : decode cX2_size 0 = .ok (.aload_n 0, 1) := by decide +kernel
theorem dX2_size_1 : decode cX2_size 1 = .ok (.getfield 15, 3) := by decide +kernel
theorem dX2_size_4 : decode cX2_size 4 = .ok (.ireturn, 1) := by decide +kernel
theorem dX2_isFull_0 : decode cX2_isFull 0 = .ok (.aload_n 0, 1) := by decide +kernel
theorem dX2_isFull_1 : decode cX2_isFull 1 = .ok (.getfield 15, 3) := by decide +kernel
theorem dX2_isFull_4 : decode cX2_isFull 4 = .ok (.bipush 8, 2) := by decide +kernel
theorem dX2_isFull_6 : decode cX2_isFull 6 = .ok (.if_icmp .lt 7, 3) := by decide +kernel
theorem dX2_isFull_9 : decode cX2_isFull 9 = .ok (.iconst 1, 1) := by decide +kernel
theorem dX2_isFull_10 : decode cX2_isFull 10 = .ok (.goto 4, 3) := by decide +kernel
theorem dX2_isFull_13 : decode cX2_isFull 13 = .ok (.iconst 0, 1) := by decide +kernel
theorem dX2_isFull_14 : decode cX2_isFull 14 = .ok (.ireturn, 1) := by decide +kernel
theorem dX2_add_0 : decode cX2_add 0 = .ok (.aload_n 0, 1) := by decide +kernel
theorem dX2_add_1 : decode cX2_add 1 = .ok (.invokevirtual 23, 3) := by decide +kernel
theorem dX2_add_4 : decode cX2_add 4 = .ok (.ifCond .eq 4, 3) := by decide +kernel
theorem dX2_add_7 : decode cX2_add 7 = .ok (.return_, 1) := by decide +kernel
theorem dX2_add_8 : decode cX2_add 8 = .ok (.aload_n 0, 1) := by decide +kernel
theorem dX2_add_9 : decode cX2_add 9 = .ok (.getfield 9, 3) := by decide +kernel
theorem dX2_add_12 : decode cX2_add 12 = .ok (.aload_n 0, 1) := by decide +kernel
theorem dX2_add_13 : decode cX2_add 13 = .ok (.getfield 15, 3) := by decide +kernel
theorem dX2_add_16 : decode cX2_add 16 = .ok (.iload_n 1, 1) := by decide +kernel
theorem dX2_add_17 : decode cX2_add 17 = .ok (.iastore, 1) := by decide +kernel
theorem dX2_add_18 : decode cX2_add 18 = .ok (.aload_n 0, 1) := by decide +kernel
theorem dX2_add_19 : decode cX2_add 19 = .ok (.dup, 1) := by decide +kernel
theorem dX2_add_20 : decode cX2_add 20 = .ok (.getfield 15, 3) := by decide +kernel
theorem dX2_add_23 : decode cX2_add 23 = .ok (.iconst 1, 1) := by decide +kernel
theorem dX2_add_24 : decode cX2_add 24 = .ok (.iadd, 1) := by decide +kernel
theorem dX2_add_25 : decode cX2_add 25 = .ok (.putfield 15, 3) := by decide +kernel
theorem dX2_add_28 : decode cX2_add 28 = .ok (.return_, 1) := by decide +kernel
theorem dX2_clear_0 : decode cX2_clear 0 = .ok (.aload_n 0, 1) := by decide +kernel
theorem dX2_clear_1 : decode cX2_clear 1 = .ok (.iconst 0, 1) := by decide +kernel
theorem dX2_clear_2 : decode cX2_clear 2 = .ok (.putfield 15, 3) := by decide +kernel
theorem dX2_clear_5 : decode cX2_clear 5 = .ok (.return_, 1) := by decide +kernel
theorem dX2_kindsOf_0 : decode cX2_kindsOf 0 = .ok (.bipush 15, 2) := by decide +kernel
theorem dX2_kindsOf_2 : decode cX2_kindsOf 2 = .ok (.istore_n 2, 1) := by decide +kernel
theorem dX2_kindsOf_3 : decode cX2_kindsOf 3 = .ok (.iconst 0, 1) := by decide +kernel
theorem dX2_kindsOf_4 : decode cX2_kindsOf 4 = .ok (.istore_n 3, 1) := by decide +kernel
theorem dX2_kindsOf_5 : decode cX2_kindsOf 5 = .ok (.iload_n 3, 1) := by decide +kernel
theorem dX2_kindsOf_6 : decode cX2_kindsOf 6 = .ok (.iconst 1, 1) := by decide +kernel
theorem dX2_kindsOf_7 : decode cX2_kindsOf 7 = .ok (.iadd, 1) := by decide +kernel
theorem dX2_kindsOf_8 : decode cX2_kindsOf 8 = .ok (.aload_n 0, 1) := by decide +kernel
theorem dX2_kindsOf_9 : decode cX2_kindsOf 9 = .ok (.getfield 15, 3) := by decide +kernel
theorem dX2_kindsOf_12 : decode cX2_kindsOf 12 = .ok (.if_icmp .ge 89, 3) := by decide +kernel
theorem dX2_kindsOf_15 : decode cX2_kindsOf 15 = .ok (.aload_n 0, 1) := by decide +kernel
theorem dX2_kindsOf_16 : decode cX2_kindsOf 16 = .ok (.getfield 19, 3) := by decide +kernel
theorem dX2_kindsOf_19 : decode cX2_kindsOf 19 = .ok (.iload_n 1, 1) := by decide +kernel
theorem dX2_kindsOf_20 : decode cX2_kindsOf 20 = .ok (.aload_n 0, 1) := by decide +kernel
theorem dX2_kindsOf_21 : decode cX2_kindsOf 21 = .ok (.getfield 9, 3) := by decide +kernel
theorem dX2_kindsOf_24 : decode cX2_kindsOf 24 = .ok (.iload_n 3, 1) := by decide +kernel
theorem dX2_kindsOf_25 : decode cX2_kindsOf 25 = .ok (.iaload, 1) := by decide +kernel
theorem dX2_kindsOf_26 : decode cX2_kindsOf 26 = .ok (.invokevirtual 27, 3) := by decide +kernel
theorem dX2_kindsOf_29 : decode cX2_kindsOf 29 = .ok (.istore 4, 2) := by decide +kernel
theorem dX2_kindsOf_31 : decode cX2_kindsOf 31 = .ok (.aload_n 0, 1) := by decide +kernel
theorem dX2_kindsOf_32 : decode cX2_kindsOf 32 = .ok (.getfield 9, 3) := by decide +kernel
theorem dX2_kindsOf_35 : decode cX2_kindsOf 35 = .ok (.iload_n 3, 1) := by decide +kernel
theorem dX2_kindsOf_36 : decode cX2_kindsOf 36 = .ok (.iaload, 1) := by decide +kernel
theorem dX2_kindsOf_37 : decode cX2_kindsOf 37 = .ok (.iload_n 1, 1) := by decide +kernel
theorem dX2_kindsOf_38 : decode cX2_kindsOf 38 = .ok (.invokestatic 33, 3) := by decide +kernel
theorem dX2_kindsOf_41 : decode cX2_kindsOf 41 = .ok (.istore 5, 2) := by decide +kernel
theorem dX2_kindsOf_43 : decode cX2_kindsOf 43 = .ok (.aload_n 0, 1) := by decide +kernel
theorem dX2_kindsOf_44 : decode cX2_kindsOf 44 = .ok (.getfield 9, 3) := by decide +kernel
theorem dX2_kindsOf_47 : decode cX2_kindsOf 47 = .ok (.iload_n 3, 1) := by decide +kernel
theorem dX2_kindsOf_48 : decode cX2_kindsOf 48 = .ok (.iconst 1, 1) := by decide +kernel
theorem dX2_kindsOf_49 : decode cX2_kindsOf 49 = .ok (.iadd, 1) := by decide +kernel
theorem dX2_kindsOf_50 : decode cX2_kindsOf 50 = .ok (.iaload, 1) := by decide +kernel
theorem dX2_kindsOf_51 : decode cX2_kindsOf 51 = .ok (.iload_n 1, 1) := by decide +kernel
theorem dX2_kindsOf_52 : decode cX2_kindsOf 52 = .ok (.invokestatic 33, 3) := by decide +kernel
theorem dX2_kindsOf_55 : decode cX2_kindsOf 55 = .ok (.istore 6, 2) := by decide +kernel
theorem dX2_kindsOf_57 : decode cX2_kindsOf 57 = .ok (.iconst 0, 1) := by decide +kernel
theorem dX2_kindsOf_58 : decode cX2_kindsOf 58 = .ok (.istore 7, 2) := by decide +kernel
theorem dX2_kindsOf_60 : decode cX2_kindsOf 60 = .ok (.iload 7, 2) := by decide +kernel
theorem dX2_kindsOf_62 : decode cX2_kindsOf 62 = .ok (.iconst 4, 1) := by decide +kernel
theorem dX2_kindsOf_63 : decode cX2_kindsOf 63 = .ok (.if_icmp .ge 32, 3) := by decide +kernel
theorem dX2_kindsOf_66 : decode cX2_kindsOf 66 = .ok (.iload 7, 2) := by decide +kernel
theorem dX2_kindsOf_68 : decode cX2_kindsOf 68 = .ok (.iload 4, 2) := by decide +kernel
theorem dX2_kindsOf_70 : decode cX2_kindsOf 70 = .ok (.iload 5, 2) := by decide +kernel
theorem dX2_kindsOf_72 : decode cX2_kindsOf 72 = .ok (.invokestatic 36, 3) := by decide +kernel
theorem dX2_kindsOf_75 : decode cX2_kindsOf 75 = .ok (.iload 6, 2) := by decide +kernel
theorem dX2_kindsOf_77 : decode cX2_kindsOf 77 = .ok (.if_icmp .eq 12, 3) := by decide +kernel
theorem dX2_kindsOf_80 : decode cX2_kindsOf 80 = .ok (.iload_n 2, 1) := by decide +kernel
theorem dX2_kindsOf_81 : decode cX2_kindsOf 81 = .ok (.iconst 1, 1) := by decide +kernel
theorem dX2_kindsOf_82 : decode cX2_kindsOf 82 = .ok (.iload 7, 2) := by decide +kernel
theorem dX2_kindsOf_84 : decode cX2_kindsOf 84 = .ok (.ishl, 1) := by decide +kernel
theorem dX2_kindsOf_85 : decode cX2_kindsOf 85 = .ok (.iconst (-1), 1) := by decide +kernel
theorem dX2_kindsOf_86 : decode cX2_kindsOf 86 = .ok (.ixor, 1) := by decide +kernel
theorem dX2_kindsOf_87 : decode cX2_kindsOf 87 = .ok (.iand, 1) := by decide +kernel
theorem dX2_kindsOf_88 : decode cX2_kindsOf 88 = .ok (.istore_n 2, 1) := by decide +kernel
theorem dX2_kindsOf_89 : decode cX2_kindsOf 89 = .ok (.iinc 7 1, 3) := by decide +kernel
theorem dX2_kindsOf_92 : decode cX2_kindsOf 92 = .ok (.goto (-32), 3) := by decide +kernel
theorem dX2_kindsOf_95 : decode cX2_kindsOf 95 = .ok (.iinc 3 1, 3) := by decide +kernel
theorem dX2_kindsOf_98 : decode cX2_kindsOf 98 = .ok (.goto (-93), 3) := by decide +kernel
theorem dX2_kindsOf_101 : decode cX2_kindsOf 101 = .ok (.iload_n 2, 1) := by decide +kernel
theorem dX2_kindsOf_102 : decode cX2_kindsOf 102 = .ok (.ireturn, 1) := by decide +kernel
theorem dX2_explanations_0 : decode cX2_explanations 0 = .ok (.lconst 1, 1) := by decide +kernel
theorem dX2_explanations_1 : decode cX2_explanations 1 = .ok (.lstore_n 1, 1) := by decide +kernel
theorem dX2_explanations_2 : decode cX2_explanations 2 = .ok (.iconst 0, 1) := by decide +kernel
theorem dX2_explanations_3 : decode cX2_explanations 3 = .ok (.istore_n 3, 1) := by decide +kernel
theorem dX2_explanations_4 : decode cX2_explanations 4 = .ok (.iload_n 3, 1) := by decide +kernel
theorem dX2_explanations_5 : decode cX2_explanations 5 = .ok (.aload_n 0, 1) := by decide +kernel
theorem dX2_explanations_6 : decode cX2_explanations 6 = .ok (.getfield 19, 3) := by decide +kernel
theorem dX2_explanations_9 : decode cX2_explanations 9 = .ok (.invokevirtual 40, 3) := by decide +kernel
theorem dX2_explanations_12 : decode cX2_explanations 12 = .ok (.if_icmp .ge 21, 3) := by decide +kernel
theorem dX2_explanations_15 : decode cX2_explanations 15 = .ok (.lload_n 1, 1) := by decide +kernel
theorem dX2_explanations_16 : decode cX2_explanations 16 = .ok (.aload_n 0, 1) := by decide +kernel
theorem dX2_explanations_17 : decode cX2_explanations 17 = .ok (.iload_n 3, 1) := by decide +kernel
theorem dX2_explanations_18 : decode cX2_explanations 18 = .ok (.invokevirtual 43, 3) := by decide +kernel
theorem dX2_explanations_21 : decode cX2_explanations 21 = .ok (.invokestatic 47, 3) := by decide +kernel
theorem dX2_explanations_24 : decode cX2_explanations 24 = .ok (.i2l, 1) := by decide +kernel
theorem dX2_explanations_25 : decode cX2_explanations 25 = .ok (.lmul, 1) := by decide +kernel
theorem dX2_explanations_26 : decode cX2_explanations 26 = .ok (.lstore_n 1, 1) := by decide +kernel
theorem dX2_explanations_27 : decode cX2_explanations 27 = .ok (.iinc 3 1, 3) := by decide +kernel
theorem dX2_explanations_30 : decode cX2_explanations 30 = .ok (.goto (-26), 3) := by decide +kernel
theorem dX2_explanations_33 : decode cX2_explanations 33 = .ok (.lload_n 1, 1) := by decide +kernel
theorem dX2_explanations_34 : decode cX2_explanations 34 = .ok (.lreturn, 1) := by decide +kernel
theorem dX2_settleKinds_0 : decode cX2_settleKinds 0 = .ok (.iconst 0, 1) := by decide +kernel
theorem dX2_settleKinds_1 : decode cX2_settleKinds 1 = .ok (.istore_n 1, 1) := by decide +kernel
theorem dX2_settleKinds_2 : decode cX2_settleKinds 2 = .ok (.iconst 0, 1) := by decide +kernel
theorem dX2_settleKinds_3 : decode cX2_settleKinds 3 = .ok (.istore_n 2, 1) := by decide +kernel
theorem dX2_settleKinds_4 : decode cX2_settleKinds 4 = .ok (.iload_n 2, 1) := by decide +kernel
theorem dX2_settleKinds_5 : decode cX2_settleKinds 5 = .ok (.aload_n 0, 1) := by decide +kernel
theorem dX2_settleKinds_6 : decode cX2_settleKinds 6 = .ok (.getfield 19, 3) := by decide +kernel
theorem dX2_settleKinds_9 : decode cX2_settleKinds 9 = .ok (.invokevirtual 40, 3) := by decide +kernel
theorem dX2_settleKinds_12 : decode cX2_settleKinds 12 = .ok (.if_icmp .ge 42, 3) := by decide +kernel
theorem dX2_settleKinds_15 : decode cX2_settleKinds 15 = .ok (.aload_n 0, 1) := by decide +kernel
theorem dX2_settleKinds_16 : decode cX2_settleKinds 16 = .ok (.iload_n 2, 1) := by decide +kernel
theorem dX2_settleKinds_17 : decode cX2_settleKinds 17 = .ok (.invokevirtual 43, 3) := by decide +kernel
theorem dX2_settleKinds_20 : decode cX2_settleKinds 20 = .ok (.invokestatic 52, 3) := by decide +kernel
theorem dX2_settleKinds_23 : decode cX2_settleKinds 23 = .ok (.istore_n 3, 1) := by decide +kernel
theorem dX2_settleKinds_24 : decode cX2_settleKinds 24 = .ok (.iload_n 3, 1) := by decide +kernel
theorem dX2_settleKinds_25 : decode cX2_settleKinds 25 = .ok (.aload_n 0, 1) := by decide +kernel
theorem dX2_settleKinds_26 : decode cX2_settleKinds 26 = .ok (.getfield 19, 3) := by decide +kernel
theorem dX2_settleKinds_29 : decode cX2_settleKinds 29 = .ok (.iload_n 2, 1) := by decide +kernel
theorem dX2_settleKinds_30 : decode cX2_settleKinds 30 = .ok (.invokevirtual 55, 3) := by decide +kernel
theorem dX2_settleKinds_33 : decode cX2_settleKinds 33 = .ok (.if_icmp .eq 15, 3) := by decide +kernel
theorem dX2_settleKinds_36 : decode cX2_settleKinds 36 = .ok (.aload_n 0, 1) := by decide +kernel
theorem dX2_settleKinds_37 : decode cX2_settleKinds 37 = .ok (.getfield 19, 3) := by decide +kernel
theorem dX2_settleKinds_40 : decode cX2_settleKinds 40 = .ok (.iload_n 2, 1) := by decide +kernel
theorem dX2_settleKinds_41 : decode cX2_settleKinds 41 = .ok (.iload_n 3, 1) := by decide +kernel
theorem dX2_settleKinds_42 : decode cX2_settleKinds 42 = .ok (.invokevirtual 58, 3) := by decide +kernel
theorem dX2_settleKinds_45 : decode cX2_settleKinds 45 = .ok (.iinc 1 1, 3) := by decide +kernel
theorem dX2_settleKinds_48 : decode cX2_settleKinds 48 = .ok (.iinc 2 1, 3) := by decide +kernel
theorem dX2_settleKinds_51 : decode cX2_settleKinds 51 = .ok (.goto (-47), 3) := by decide +kernel
theorem dX2_settleKinds_54 : decode cX2_settleKinds 54 = .ok (.iload_n 1, 1) := by decide +kernel
theorem dX2_settleKinds_55 : decode cX2_settleKinds 55 = .ok (.ireturn, 1) := by decide +kernel
theorem dX2_leastKind_0 : decode cX2_leastKind 0 = .ok (.iconst 0, 1) := by decide +kernel
theorem dX2_leastKind_1 : decode cX2_leastKind 1 = .ok (.istore_n 1, 1) := by decide +kernel
theorem dX2_leastKind_2 : decode cX2_leastKind 2 = .ok (.iload_n 1, 1) := by decide +kernel
theorem dX2_leastKind_3 : decode cX2_leastKind 3 = .ok (.iconst 3, 1) := by decide +kernel
theorem dX2_leastKind_4 : decode cX2_leastKind 4 = .ok (.if_icmp .ge 17, 3) := by decide +kernel
theorem dX2_leastKind_7 : decode cX2_leastKind 7 = .ok (.iload_n 0, 1) := by decide +kernel
theorem dX2_leastKind_8 : decode cX2_leastKind 8 = .ok (.iload_n 1, 1) := by decide +kernel
theorem dX2_leastKind_9 : decode cX2_leastKind 9 = .ok (.ishr, 1) := by decide +kernel
theorem dX2_leastKind_10 : decode cX2_leastKind 10 = .ok (.iconst 1, 1) := by decide +kernel
theorem dX2_leastKind_11 : decode cX2_leastKind 11 = .ok (.iand, 1) := by decide +kernel
theorem dX2_leastKind_12 : decode cX2_leastKind 12 = .ok (.ifCond .ne 9, 3) := by decide +kernel
theorem dX2_leastKind_15 : decode cX2_leastKind 15 = .ok (.iinc 1 1, 3) := by decide +kernel
theorem dX2_leastKind_18 : decode cX2_leastKind 18 = .ok (.goto (-16), 3) := by decide +kernel
theorem dX2_leastKind_21 : decode cX2_leastKind 21 = .ok (.iload_n 1, 1) := by decide +kernel
theorem dX2_leastKind_22 : decode cX2_leastKind 22 = .ok (.ireturn, 1) := by decide +kernel
theorem dX3_howMany_0 : decode cX3_howMany 0 = .ok (.aload_n 0, 1) := by decide +kernel
theorem dX3_howMany_1 : decode cX3_howMany 1 = .ok (.getfield 7, 3) := by decide +kernel
theorem dX3_howMany_4 : decode cX3_howMany 4 = .ok (.invokevirtual 13, 3) := by decide +kernel
theorem dX3_howMany_7 : decode cX3_howMany 7 = .ok (.astore_n 1, 1) := by decide +kernel
theorem dX3_howMany_8 : decode cX3_howMany 8 = .ok (.aload_n 0, 1) := by decide +kernel
theorem dX3_howMany_9 : decode cX3_howMany 9 = .ok (.getfield 7, 3) := by decide +kernel
theorem dX3_howMany_12 : decode cX3_howMany 12 = .ok (.invokevirtual 19, 3) := by decide +kernel
theorem dX3_howMany_15 : decode cX3_howMany 15 = .ok (.istore_n 2, 1) := by decide +kernel
theorem dX3_howMany_16 : decode cX3_howMany 16 = .ok (.iconst 0, 1) := by decide +kernel
theorem dX3_howMany_17 : decode cX3_howMany 17 = .ok (.istore_n 3, 1) := by decide +kernel
theorem dX3_howMany_18 : decode cX3_howMany 18 = .ok (.iconst 0, 1) := by decide +kernel
theorem dX3_howMany_19 : decode cX3_howMany 19 = .ok (.istore 4, 2) := by decide +kernel
theorem dX3_howMany_21 : decode cX3_howMany 21 = .ok (.iload 4, 2) := by decide +kernel
theorem dX3_howMany_23 : decode cX3_howMany 23 = .ok (.iload_n 2, 1) := by decide +kernel
theorem dX3_howMany_24 : decode cX3_howMany 24 = .ok (.if_icmp .ge 19, 3) := by decide +kernel
theorem dX3_howMany_27 : decode cX3_howMany 27 = .ok (.aload_n 1, 1) := by decide +kernel
theorem dX3_howMany_28 : decode cX3_howMany 28 = .ok (.iload 4, 2) := by decide +kernel
theorem dX3_howMany_30 : decode cX3_howMany 30 = .ok (.iaload, 1) := by decide +kernel
theorem dX3_howMany_31 : decode cX3_howMany 31 = .ok (.ifCond .ne 6, 3) := by decide +kernel
theorem dX3_howMany_34 : decode cX3_howMany 34 = .ok (.iinc 3 1, 3) := by decide +kernel
theorem dX3_howMany_37 : decode cX3_howMany 37 = .ok (.iinc 4 1, 3) := by decide +kernel
theorem dX3_howMany_40 : decode cX3_howMany 40 = .ok (.goto (-19), 3) := by decide +kernel
theorem dX3_howMany_43 : decode cX3_howMany 43 = .ok (.iload_n 3, 1) := by decide +kernel
theorem dX3_howMany_44 : decode cX3_howMany 44 = .ok (.ireturn, 1) := by decide +kernel
theorem dX3_dressOf_0 : decode cX3_dressOf 0 = .ok (.aload_n 0, 1) := by decide +kernel
theorem dX3_dressOf_1 : decode cX3_dressOf 1 = .ok (.getfield 7, 3) := by decide +kernel
theorem dX3_dressOf_4 : decode cX3_dressOf 4 = .ok (.invokevirtual 13, 3) := by decide +kernel
theorem dX3_dressOf_7 : decode cX3_dressOf 7 = .ok (.astore_n 2, 1) := by decide +kernel
theorem dX3_dressOf_8 : decode cX3_dressOf 8 = .ok (.aload_n 0, 1) := by decide +kernel
theorem dX3_dressOf_9 : decode cX3_dressOf 9 = .ok (.getfield 7, 3) := by decide +kernel
theorem dX3_dressOf_12 : decode cX3_dressOf 12 = .ok (.invokevirtual 19, 3) := by decide +kernel
theorem dX3_dressOf_15 : decode cX3_dressOf 15 = .ok (.istore_n 3, 1) := by decide +kernel
theorem dX3_dressOf_16 : decode cX3_dressOf 16 = .ok (.iload_n 1, 1) := by decide +kernel
theorem dX3_dressOf_17 : decode cX3_dressOf 17 = .ok (.istore 4, 2) := by decide +kernel
theorem dX3_dressOf_19 : decode cX3_dressOf 19 = .ok (.iconst 0, 1) := by decide +kernel
theorem dX3_dressOf_20 : decode cX3_dressOf 20 = .ok (.istore 5, 2) := by decide +kernel
theorem dX3_dressOf_22 : decode cX3_dressOf 22 = .ok (.iload 5, 2) := by decide +kernel
theorem dX3_dressOf_24 : decode cX3_dressOf 24 = .ok (.iload_n 3, 1) := by decide +kernel
theorem dX3_dressOf_25 : decode cX3_dressOf 25 = .ok (.if_icmp .ge 32, 3) := by decide +kernel
theorem dX3_dressOf_28 : decode cX3_dressOf 28 = .ok (.iload 4, 2) := by decide +kernel
theorem dX3_dressOf_30 : decode cX3_dressOf 30 = .ok (.ifCond .lt 27, 3) := by decide +kernel
theorem dX3_dressOf_33 : decode cX3_dressOf 33 = .ok (.aload_n 2, 1) := by decide +kernel
theorem dX3_dressOf_34 : decode cX3_dressOf 34 = .ok (.iload 5, 2) := by decide +kernel
theorem dX3_dressOf_36 : decode cX3_dressOf 36 = .ok (.iaload, 1) := by decide +kernel
theorem dX3_dressOf_37 : decode cX3_dressOf 37 = .ok (.ifCond .ne 14, 3) := by decide +kernel
theorem dX3_dressOf_40 : decode cX3_dressOf 40 = .ok (.iload 4, 2) := by decide +kernel
theorem dX3_dressOf_42 : decode cX3_dressOf 42 = .ok (.ifCond .ne 6, 3) := by decide +kernel
theorem dX3_dressOf_45 : decode cX3_dressOf 45 = .ok (.iload 5, 2) := by decide +kernel
theorem dX3_dressOf_47 : decode cX3_dressOf 47 = .ok (.ireturn, 1) := by decide +kernel
theorem dX3_dressOf_48 : decode cX3_dressOf 48 = .ok (.iinc 4 (-1), 3) := by decide +kernel
theorem dX3_dressOf_51 : decode cX3_dressOf 51 = .ok (.iinc 5 1, 3) := by decide +kernel
theorem dX3_dressOf_54 : decode cX3_dressOf 54 = .ok (.goto (-32), 3) := by decide +kernel
theorem dX3_dressOf_57 : decode cX3_dressOf 57 = .ok (.iconst (-1), 1) := by decide +kernel
theorem dX3_dressOf_58 : decode cX3_dressOf 58 = .ok (.ireturn, 1) := by decide +kernel
theorem dX3_fewestRestless_0 : decode cX3_fewestRestless 0 = .ok (.aload_n 0, 1) := by decide +kernel
theorem dX3_fewestRestless_1 : decode cX3_fewestRestless 1 = .ok (.getfield 7, 3) := by decide +kernel
theorem dX3_fewestRestless_4 : decode cX3_fewestRestless 4 = .ok (.invokevirtual 13, 3) := by decide +kernel
theorem dX3_fewestRestless_7 : decode cX3_fewestRestless 7 = .ok (.astore_n 1, 1) := by decide +kernel
theorem dX3_fewestRestless_8 : decode cX3_fewestRestless 8 = .ok (.aload_n 0, 1) := by decide +kernel
theorem dX3_fewestRestless_9 : decode cX3_fewestRestless 9 = .ok (.getfield 7, 3) := by decide +kernel
theorem dX3_fewestRestless_12 : decode cX3_fewestRestless 12 = .ok (.invokevirtual 19, 3) := by decide +kernel
theorem dX3_fewestRestless_15 : decode cX3_fewestRestless 15 = .ok (.istore_n 2, 1) := by decide +kernel
theorem dX3_fewestRestless_16 : decode cX3_fewestRestless 16 = .ok (.aload_n 1, 1) := by decide +kernel
theorem dX3_fewestRestless_17 : decode cX3_fewestRestless 17 = .ok (.iconst 0, 1) := by decide +kernel
theorem dX3_fewestRestless_18 : decode cX3_fewestRestless 18 = .ok (.iaload, 1) := by decide +kernel
theorem dX3_fewestRestless_19 : decode cX3_fewestRestless 19 = .ok (.istore_n 3, 1) := by decide +kernel
theorem dX3_fewestRestless_20 : decode cX3_fewestRestless 20 = .ok (.iconst 1, 1) := by decide +kernel
theorem dX3_fewestRestless_21 : decode cX3_fewestRestless 21 = .ok (.istore 4, 2) := by decide +kernel
theorem dX3_fewestRestless_23 : decode cX3_fewestRestless 23 = .ok (.iload 4, 2) := by decide +kernel
theorem dX3_fewestRestless_25 : decode cX3_fewestRestless 25 = .ok (.iload_n 2, 1) := by decide +kernel
theorem dX3_fewestRestless_26 : decode cX3_fewestRestless 26 = .ok (.if_icmp .ge 46, 3) := by decide +kernel
theorem dX3_fewestRestless_29 : decode cX3_fewestRestless 29 = .ok (.aload_n 1, 1) := by decide +kernel
theorem dX3_fewestRestless_30 : decode cX3_fewestRestless 30 = .ok (.iload 4, 2) := by decide +kernel
theorem dX3_fewestRestless_32 : decode cX3_fewestRestless 32 = .ok (.iaload, 1) := by decide +kernel
theorem dX3_fewestRestless_33 : decode cX3_fewestRestless 33 = .ok (.invokestatic 23, 3) := by decide +kernel
theorem dX3_fewestRestless_36 : decode cX3_fewestRestless 36 = .ok (.iload_n 3, 1) := by decide +kernel
theorem dX3_fewestRestless_37 : decode cX3_fewestRestless 37 = .ok (.invokestatic 23, 3) := by decide +kernel
theorem dX3_fewestRestless_40 : decode cX3_fewestRestless 40 = .ok (.isub, 1) := by decide +kernel
theorem dX3_fewestRestless_41 : decode cX3_fewestRestless 41 = .ok (.istore 5, 2) := by decide +kernel
theorem dX3_fewestRestless_43 : decode cX3_fewestRestless 43 = .ok (.iload 5, 2) := by decide +kernel
theorem dX3_fewestRestless_45 : decode cX3_fewestRestless 45 = .ok (.ifCond .lt 16, 3) := by decide +kernel
theorem dX3_fewestRestless_48 : decode cX3_fewestRestless 48 = .ok (.iload 5, 2) := by decide +kernel
theorem dX3_fewestRestless_50 : decode cX3_fewestRestless 50 = .ok (.ifCond .ne 16, 3) := by decide +kernel
theorem dX3_fewestRestless_53 : decode cX3_fewestRestless 53 = .ok (.aload_n 1, 1) := by decide +kernel
theorem dX3_fewestRestless_54 : decode cX3_fewestRestless 54 = .ok (.iload 4, 2) := by decide +kernel
theorem dX3_fewestRestless_56 : decode cX3_fewestRestless 56 = .ok (.iaload, 1) := by decide +kernel
theorem dX3_fewestRestless_57 : decode cX3_fewestRestless 57 = .ok (.iload_n 3, 1) := by decide +kernel
theorem dX3_fewestRestless_58 : decode cX3_fewestRestless 58 = .ok (.if_icmp .ge 8, 3) := by decide +kernel
theorem dX3_fewestRestless_61 : decode cX3_fewestRestless 61 = .ok (.aload_n 1, 1) := by decide +kernel
theorem dX3_fewestRestless_62 : decode cX3_fewestRestless 62 = .ok (.iload 4, 2) := by decide +kernel
theorem dX3_fewestRestless_64 : decode cX3_fewestRestless 64 = .ok (.iaload, 1) := by decide +kernel
theorem dX3_fewestRestless_65 : decode cX3_fewestRestless 65 = .ok (.istore_n 3, 1) := by decide +kernel
theorem dX3_fewestRestless_66 : decode cX3_fewestRestless 66 = .ok (.iinc 4 1, 3) := by decide +kernel
theorem dX3_fewestRestless_69 : decode cX3_fewestRestless 69 = .ok (.goto (-46), 3) := by decide +kernel
theorem dX3_fewestRestless_72 : decode cX3_fewestRestless 72 = .ok (.iload_n 3, 1) := by decide +kernel
theorem dX3_fewestRestless_73 : decode cX3_fewestRestless 73 = .ok (.ireturn, 1) := by decide +kernel
theorem dX3_leastOfFewestRestless_0 : decode cX3_leastOfFewestRestless 0 = .ok (.aload_n 0, 1) := by decide +kernel
theorem dX3_leastOfFewestRestless_1 : decode cX3_leastOfFewestRestless 1 = .ok (.getfield 7, 3) := by decide +kernel
theorem dX3_leastOfFewestRestless_4 : decode cX3_leastOfFewestRestless 4 = .ok (.invokevirtual 13, 3) := by decide +kernel
theorem dX3_leastOfFewestRestless_7 : decode cX3_leastOfFewestRestless 7 = .ok (.astore_n 1, 1) := by decide +kernel
theorem dX3_leastOfFewestRestless_8 : decode cX3_leastOfFewestRestless 8 = .ok (.aload_n 0, 1) := by decide +kernel
theorem dX3_leastOfFewestRestless_9 : decode cX3_leastOfFewestRestless 9 = .ok (.getfield 7, 3) := by decide +kernel
theorem dX3_leastOfFewestRestless_12 : decode cX3_leastOfFewestRestless 12 = .ok (.invokevirtual 19, 3) := by decide +kernel
theorem dX3_leastOfFewestRestless_15 : decode cX3_leastOfFewestRestless 15 = .ok (.istore_n 2, 1) := by decide +kernel
theorem dX3_leastOfFewestRestless_16 : decode cX3_leastOfFewestRestless 16 = .ok (.iconst 0, 1) := by decide +kernel
theorem dX3_leastOfFewestRestless_17 : decode cX3_leastOfFewestRestless 17 = .ok (.istore_n 3, 1) := by decide +kernel
theorem dX3_leastOfFewestRestless_18 : decode cX3_leastOfFewestRestless 18 = .ok (.iconst 1, 1) := by decide +kernel
theorem dX3_leastOfFewestRestless_19 : decode cX3_leastOfFewestRestless 19 = .ok (.istore 4, 2) := by decide +kernel
theorem dX3_leastOfFewestRestless_21 : decode cX3_leastOfFewestRestless 21 = .ok (.iload 4, 2) := by decide +kernel
theorem dX3_leastOfFewestRestless_23 : decode cX3_leastOfFewestRestless 23 = .ok (.iload_n 2, 1) := by decide +kernel
theorem dX3_leastOfFewestRestless_24 : decode cX3_leastOfFewestRestless 24 = .ok (.if_icmp .ge 28, 3) := by decide +kernel
theorem dX3_leastOfFewestRestless_27 : decode cX3_leastOfFewestRestless 27 = .ok (.aload_n 1, 1) := by decide +kernel
theorem dX3_leastOfFewestRestless_28 : decode cX3_leastOfFewestRestless 28 = .ok (.iload 4, 2) := by decide +kernel
theorem dX3_leastOfFewestRestless_30 : decode cX3_leastOfFewestRestless 30 = .ok (.iaload, 1) := by decide +kernel
theorem dX3_leastOfFewestRestless_31 : decode cX3_leastOfFewestRestless 31 = .ok (.invokestatic 23, 3) := by decide +kernel
theorem dX3_leastOfFewestRestless_34 : decode cX3_leastOfFewestRestless 34 = .ok (.aload_n 1, 1) := by decide +kernel
theorem dX3_leastOfFewestRestless_35 : decode cX3_leastOfFewestRestless 35 = .ok (.iload_n 3, 1) := by decide +kernel
theorem dX3_leastOfFewestRestless_36 : decode cX3_leastOfFewestRestless 36 = .ok (.iaload, 1) := by decide +kernel
theorem dX3_leastOfFewestRestless_37 : decode cX3_leastOfFewestRestless 37 = .ok (.invokestatic 23, 3) := by decide +kernel
theorem dX3_leastOfFewestRestless_40 : decode cX3_leastOfFewestRestless 40 = .ok (.if_icmp .ge 6, 3) := by decide +kernel
theorem dX3_leastOfFewestRestless_43 : decode cX3_leastOfFewestRestless 43 = .ok (.iload 4, 2) := by decide +kernel
theorem dX3_leastOfFewestRestless_45 : decode cX3_leastOfFewestRestless 45 = .ok (.istore_n 3, 1) := by decide +kernel
theorem dX3_leastOfFewestRestless_46 : decode cX3_leastOfFewestRestless 46 = .ok (.iinc 4 1, 3) := by decide +kernel
theorem dX3_leastOfFewestRestless_49 : decode cX3_leastOfFewestRestless 49 = .ok (.goto (-28), 3) := by decide +kernel
theorem dX3_leastOfFewestRestless_52 : decode cX3_leastOfFewestRestless 52 = .ok (.iload_n 3, 1) := by decide +kernel
theorem dX3_leastOfFewestRestless_53 : decode cX3_leastOfFewestRestless 53 = .ok (.ireturn, 1) := by decide +kernel
theorem dX4_leastDress_0 : decode cX4_leastDress 0 = .ok (.aload_n 0, 1) := by decide +kernel
theorem dX4_leastDress_1 : decode cX4_leastDress 1 = .ok (.getfield 9, 3) := by decide +kernel
theorem dX4_leastDress_4 : decode cX4_leastDress 4 = .ok (.invokevirtual 48, 3) := by decide +kernel
theorem dX4_leastDress_7 : decode cX4_leastDress 7 = .ok (.astore_n 1, 1) := by decide +kernel
theorem dX4_leastDress_8 : decode cX4_leastDress 8 = .ok (.aload_n 0, 1) := by decide +kernel
theorem dX4_leastDress_9 : decode cX4_leastDress 9 = .ok (.getfield 9, 3) := by decide +kernel
theorem dX4_leastDress_12 : decode cX4_leastDress 12 = .ok (.invokevirtual 54, 3) := by decide +kernel
theorem dX4_leastDress_15 : decode cX4_leastDress 15 = .ok (.istore_n 2, 1) := by decide +kernel
theorem dX4_leastDress_16 : decode cX4_leastDress 16 = .ok (.iconst 0, 1) := by decide +kernel
theorem dX4_leastDress_17 : decode cX4_leastDress 17 = .ok (.istore_n 3, 1) := by decide +kernel
theorem dX4_leastDress_18 : decode cX4_leastDress 18 = .ok (.iload_n 3, 1) := by decide +kernel
theorem dX4_leastDress_19 : decode cX4_leastDress 19 = .ok (.iload_n 2, 1) := by decide +kernel
theorem dX4_leastDress_20 : decode cX4_leastDress 20 = .ok (.if_icmp .ge 25, 3) := by decide +kernel
theorem dX4_leastDress_23 : decode cX4_leastDress 23 = .ok (.aload_n 0, 1) := by decide +kernel
theorem dX4_leastDress_24 : decode cX4_leastDress 24 = .ok (.getfield 21, 3) := by decide +kernel
theorem dX4_leastDress_27 : decode cX4_leastDress 27 = .ok (.iload_n 3, 1) := by decide +kernel
theorem dX4_leastDress_28 : decode cX4_leastDress 28 = .ok (.iconst 0, 1) := by decide +kernel
theorem dX4_leastDress_29 : decode cX4_leastDress 29 = .ok (.iastore, 1) := by decide +kernel
theorem dX4_leastDress_30 : decode cX4_leastDress 30 = .ok (.aload_n 0, 1) := by decide +kernel
theorem dX4_leastDress_31 : decode cX4_leastDress 31 = .ok (.getfield 45, 3) := by decide +kernel
theorem dX4_leastDress_34 : decode cX4_leastDress 34 = .ok (.iload_n 3, 1) := by decide +kernel
theorem dX4_leastDress_35 : decode cX4_leastDress 35 = .ok (.aload_n 1, 1) := by decide +kernel
theorem dX4_leastDress_36 : decode cX4_leastDress 36 = .ok (.iload_n 3, 1) := by decide +kernel
theorem dX4_leastDress_37 : decode cX4_leastDress 37 = .ok (.iaload, 1) := by decide +kernel
theorem dX4_leastDress_38 : decode cX4_leastDress 38 = .ok (.iastore, 1) := by decide +kernel
theorem dX4_leastDress_39 : decode cX4_leastDress 39 = .ok (.iinc 3 1, 3) := by decide +kernel
theorem dX4_leastDress_42 : decode cX4_leastDress 42 = .ok (.goto (-24), 3) := by decide +kernel
theorem dX4_leastDress_45 : decode cX4_leastDress 45 = .ok (.aload_n 0, 1) := by decide +kernel
theorem dX4_leastDress_46 : decode cX4_leastDress 46 = .ok (.iconst 0, 1) := by decide +kernel
theorem dX4_leastDress_47 : decode cX4_leastDress 47 = .ok (.putfield 58, 3) := by decide +kernel
theorem dX4_leastDress_50 : decode cX4_leastDress 50 = .ok (.aload_n 0, 1) := by decide +kernel
theorem dX4_leastDress_51 : decode cX4_leastDress 51 = .ok (.iconst 0, 1) := by decide +kernel
theorem dX4_leastDress_52 : decode cX4_leastDress 52 = .ok (.putfield 62, 3) := by decide +kernel
theorem dX4_leastDress_55 : decode cX4_leastDress 55 = .ok (.iload_n 2, 1) := by decide +kernel
theorem dX4_leastDress_56 : decode cX4_leastDress 56 = .ok (.istore_n 3, 1) := by decide +kernel
theorem dX4_leastDress_57 : decode cX4_leastDress 57 = .ok (.iconst 0, 1) := by decide +kernel
theorem dX4_leastDress_58 : decode cX4_leastDress 58 = .ok (.istore 4, 2) := by decide +kernel
theorem dX4_leastDress_60 : decode cX4_leastDress 60 = .ok (.iload 4, 2) := by decide +kernel
theorem dX4_leastDress_62 : decode cX4_leastDress 62 = .ok (.iload_n 3, 1) := by decide +kernel
theorem dX4_leastDress_63 : decode cX4_leastDress 63 = .ok (.if_icmp .ge 31, 3) := by decide +kernel
theorem dX4_leastDress_66 : decode cX4_leastDress 66 = .ok (.aload_n 0, 1) := by decide +kernel
theorem dX4_leastDress_67 : decode cX4_leastDress 67 = .ok (.getfield 21, 3) := by decide +kernel
theorem dX4_leastDress_70 : decode cX4_leastDress 70 = .ok (.iload 4, 2) := by decide +kernel
theorem dX4_leastDress_72 : decode cX4_leastDress 72 = .ok (.iaload, 1) := by decide +kernel
theorem dX4_leastDress_73 : decode cX4_leastDress 73 = .ok (.ifCond .ne 15, 3) := by decide +kernel
theorem dX4_leastDress_76 : decode cX4_leastDress 76 = .ok (.iload_n 3, 1) := by decide +kernel
theorem dX4_leastDress_77 : decode cX4_leastDress 77 = .ok (.aload_n 0, 1) := by decide +kernel
theorem dX4_leastDress_78 : decode cX4_leastDress 78 = .ok (.iload 4, 2) := by decide +kernel
theorem dX4_leastDress_80 : decode cX4_leastDress 80 = .ok (.iload_n 2, 1) := by decide +kernel
theorem dX4_leastDress_81 : decode cX4_leastDress 81 = .ok (.invokevirtual 65, 3) := by decide +kernel
theorem dX4_leastDress_84 : decode cX4_leastDress 84 = .ok (.invokestatic 69, 3) := by decide +kernel
theorem dX4_leastDress_87 : decode cX4_leastDress 87 = .ok (.istore_n 3, 1) := by decide +kernel
theorem dX4_leastDress_88 : decode cX4_leastDress 88 = .ok (.iinc 4 1, 3) := by decide +kernel
theorem dX4_leastDress_91 : decode cX4_leastDress 91 = .ok (.goto (-31), 3) := by decide +kernel
theorem dX4_leastDress_94 : decode cX4_leastDress 94 = .ok (.iload_n 3, 1) := by decide +kernel
theorem dX4_leastDress_95 : decode cX4_leastDress 95 = .ok (.iload_n 2, 1) := by decide +kernel
theorem dX4_leastDress_96 : decode cX4_leastDress 96 = .ok (.if_icmp .ge 7, 3) := by decide +kernel
theorem dX4_leastDress_99 : decode cX4_leastDress 99 = .ok (.iload_n 3, 1) := by decide +kernel
theorem dX4_leastDress_100 : decode cX4_leastDress 100 = .ok (.goto 4, 3) := by decide +kernel
theorem dX4_leastDress_103 : decode cX4_leastDress 103 = .ok (.iconst (-1), 1) := by decide +kernel
theorem dX4_leastDress_104 : decode cX4_leastDress 104 = .ok (.ireturn, 1) := by decide +kernel
theorem dX4_searchFrom_0 : decode cX4_searchFrom 0 = .ok (.sipush 11264, 3) := by decide +kernel
theorem dX4_searchFrom_3 : decode cX4_searchFrom 3 = .ok (.istore_n 3, 1) := by decide +kernel
theorem dX4_searchFrom_4 : decode cX4_searchFrom 4 = .ok (.iload_n 2, 1) := by decide +kernel
theorem dX4_searchFrom_5 : decode cX4_searchFrom 5 = .ok (.istore 4, 2) := by decide +kernel
theorem dX4_searchFrom_7 : decode cX4_searchFrom 7 = .ok (.aload_n 0, 1) := by decide +kernel
theorem dX4_searchFrom_8 : decode cX4_searchFrom 8 = .ok (.iconst 0, 1) := by decide +kernel
theorem dX4_searchFrom_9 : decode cX4_searchFrom 9 = .ok (.putfield 74, 3) := by decide +kernel
theorem dX4_searchFrom_12 : decode cX4_searchFrom 12 = .ok (.aload_n 0, 1) := by decide +kernel
theorem dX4_searchFrom_13 : decode cX4_searchFrom 13 = .ok (.iload_n 1, 1) := by decide +kernel
theorem dX4_searchFrom_14 : decode cX4_searchFrom 14 = .ok (.invokevirtual 77, 3) := by decide +kernel
theorem dX4_searchFrom_17 : decode cX4_searchFrom 17 = .ok (.iconst 0, 1) := by decide +kernel
theorem dX4_searchFrom_18 : decode cX4_searchFrom 18 = .ok (.istore 5, 2) := by decide +kernel
theorem dX4_searchFrom_20 : decode cX4_searchFrom 20 = .ok (.iload 5, 2) := by decide +kernel
theorem dX4_searchFrom_22 : decode cX4_searchFrom 22 = .ok (.iload_n 3, 1) := by decide +kernel
theorem dX4_searchFrom_23 : decode cX4_searchFrom 23 = .ok (.if_icmp .ge 62, 3) := by decide +kernel
theorem dX4_searchFrom_26 : decode cX4_searchFrom 26 = .ok (.aload_n 0, 1) := by decide +kernel
theorem dX4_searchFrom_27 : decode cX4_searchFrom 27 = .ok (.getfield 74, 3) := by decide +kernel
theorem dX4_searchFrom_30 : decode cX4_searchFrom 30 = .ok (.ifCond .le 55, 3) := by decide +kernel
theorem dX4_searchFrom_33 : decode cX4_searchFrom 33 = .ok (.aload_n 0, 1) := by decide +kernel
theorem dX4_searchFrom_34 : decode cX4_searchFrom 34 = .ok (.getfield 33, 3) := by decide +kernel
theorem dX4_searchFrom_37 : decode cX4_searchFrom 37 = .ok (.aload_n 0, 1) := by decide +kernel
theorem dX4_searchFrom_38 : decode cX4_searchFrom 38 = .ok (.getfield 74, 3) := by decide +kernel
theorem dX4_searchFrom_41 : decode cX4_searchFrom 41 = .ok (.iconst 1, 1) := by decide +kernel
theorem dX4_searchFrom_42 : decode cX4_searchFrom 42 = .ok (.isub, 1) := by decide +kernel
theorem dX4_searchFrom_43 : decode cX4_searchFrom 43 = .ok (.iaload, 1) := by decide +kernel
theorem dX4_searchFrom_44 : decode cX4_searchFrom 44 = .ok (.istore 6, 2) := by decide +kernel
theorem dX4_searchFrom_46 : decode cX4_searchFrom 46 = .ok (.aload_n 0, 1) := by decide +kernel
theorem dX4_searchFrom_47 : decode cX4_searchFrom 47 = .ok (.getfield 45, 3) := by decide +kernel
theorem dX4_searchFrom_50 : decode cX4_searchFrom 50 = .ok (.iload 6, 2) := by decide +kernel
theorem dX4_searchFrom_52 : decode cX4_searchFrom 52 = .ok (.iaload, 1) := by decide +kernel
theorem dX4_searchFrom_53 : decode cX4_searchFrom 53 = .ok (.ifCond .eq 12, 3) := by decide +kernel
theorem dX4_searchFrom_56 : decode cX4_searchFrom 56 = .ok (.aload_n 0, 1) := by decide +kernel
theorem dX4_searchFrom_57 : decode cX4_searchFrom 57 = .ok (.iload 6, 2) := by decide +kernel
theorem dX4_searchFrom_59 : decode cX4_searchFrom 59 = .ok (.invokevirtual 81, 3) := by decide +kernel
theorem dX4_searchFrom_62 : decode cX4_searchFrom 62 = .ok (.goto 17, 3) := by decide +kernel
theorem dX4_searchFrom_65 : decode cX4_searchFrom 65 = .ok (.iload 4, 2) := by decide +kernel
theorem dX4_searchFrom_67 : decode cX4_searchFrom 67 = .ok (.aload_n 0, 1) := by decide +kernel
theorem dX4_searchFrom_68 : decode cX4_searchFrom 68 = .ok (.iload 6, 2) := by decide +kernel
theorem dX4_searchFrom_70 : decode cX4_searchFrom 70 = .ok (.iload_n 2, 1) := by decide +kernel
theorem dX4_searchFrom_71 : decode cX4_searchFrom 71 = .ok (.invokevirtual 84, 3) := by decide +kernel
theorem dX4_searchFrom_74 : decode cX4_searchFrom 74 = .ok (.invokestatic 69, 3) := by decide +kernel
theorem dX4_searchFrom_77 : decode cX4_searchFrom 77 = .ok (.istore 4, 2) := by decide +kernel
theorem dX4_searchFrom_79 : decode cX4_searchFrom 79 = .ok (.iinc 5 1, 3) := by decide +kernel
theorem dX4_searchFrom_82 : decode cX4_searchFrom 82 = .ok (.goto (-62), 3) := by decide +kernel
theorem dX4_searchFrom_85 : decode cX4_searchFrom 85 = .ok (.iload 4, 2) := by decide +kernel
theorem dX4_searchFrom_87 : decode cX4_searchFrom 87 = .ok (.ireturn, 1) := by decide +kernel
theorem dX4_enter_0 : decode cX4_enter 0 = .ok (.aload_n 0, 1) := by decide +kernel
theorem dX4_enter_1 : decode cX4_enter 1 = .ok (.dup, 1) := by decide +kernel
theorem dX4_enter_2 : decode cX4_enter 2 = .ok (.getfield 58, 3) := by decide +kernel
theorem dX4_enter_5 : decode cX4_enter 5 = .ok (.iconst 1, 1) := by decide +kernel
theorem dX4_enter_6 : decode cX4_enter 6 = .ok (.iadd, 1) := by decide +kernel
theorem dX4_enter_7 : decode cX4_enter 7 = .ok (.putfield 58, 3) := by decide +kernel
theorem dX4_enter_10 : decode cX4_enter 10 = .ok (.aload_n 0, 1) := by decide +kernel
theorem dX4_enter_11 : decode cX4_enter 11 = .ok (.getfield 21, 3) := by decide +kernel
theorem dX4_enter_14 : decode cX4_enter 14 = .ok (.iload_n 1, 1) := by decide +kernel
theorem dX4_enter_15 : decode cX4_enter 15 = .ok (.aload_n 0, 1) := by decide +kernel
theorem dX4_enter_16 : decode cX4_enter 16 = .ok (.getfield 58, 3) := by decide +kernel
theorem dX4_enter_19 : decode cX4_enter 19 = .ok (.iastore, 1) := by decide +kernel
theorem dX4_enter_20 : decode cX4_enter 20 = .ok (.aload_n 0, 1) := by decide +kernel
theorem dX4_enter_21 : decode cX4_enter 21 = .ok (.getfield 27, 3) := by decide +kernel
theorem dX4_enter_24 : decode cX4_enter 24 = .ok (.iload_n 1, 1) := by decide +kernel
theorem dX4_enter_25 : decode cX4_enter 25 = .ok (.aload_n 0, 1) := by decide +kernel
theorem dX4_enter_26 : decode cX4_enter 26 = .ok (.getfield 58, 3) := by decide +kernel
theorem dX4_enter_29 : decode cX4_enter 29 = .ok (.iastore, 1) := by decide +kernel
theorem dX4_enter_30 : decode cX4_enter 30 = .ok (.aload_n 0, 1) := by decide +kernel
theorem dX4_enter_31 : decode cX4_enter 31 = .ok (.getfield 33, 3) := by decide +kernel
theorem dX4_enter_34 : decode cX4_enter 34 = .ok (.aload_n 0, 1) := by decide +kernel
theorem dX4_enter_35 : decode cX4_enter 35 = .ok (.dup, 1) := by decide +kernel
theorem dX4_enter_36 : decode cX4_enter 36 = .ok (.getfield 74, 3) := by decide +kernel
theorem dX4_enter_39 : decode cX4_enter 39 = .ok (.dup_x1, 1) := by decide +kernel
theorem dX4_enter_40 : decode cX4_enter 40 = .ok (.iconst 1, 1) := by decide +kernel
theorem dX4_enter_41 : decode cX4_enter 41 = .ok (.iadd, 1) := by decide +kernel
theorem dX4_enter_42 : decode cX4_enter 42 = .ok (.putfield 74, 3) := by decide +kernel
theorem dX4_enter_45 : decode cX4_enter 45 = .ok (.iload_n 1, 1) := by decide +kernel
theorem dX4_enter_46 : decode cX4_enter 46 = .ok (.iastore, 1) := by decide +kernel
theorem dX4_enter_47 : decode cX4_enter 47 = .ok (.aload_n 0, 1) := by decide +kernel
theorem dX4_enter_48 : decode cX4_enter 48 = .ok (.getfield 39, 3) := by decide +kernel
theorem dX4_enter_51 : decode cX4_enter 51 = .ok (.aload_n 0, 1) := by decide +kernel
theorem dX4_enter_52 : decode cX4_enter 52 = .ok (.dup, 1) := by decide +kernel
theorem dX4_enter_53 : decode cX4_enter 53 = .ok (.getfield 62, 3) := by decide +kernel
theorem dX4_enter_56 : decode cX4_enter 56 = .ok (.dup_x1, 1) := by decide +kernel
theorem dX4_enter_57 : decode cX4_enter 57 = .ok (.iconst 1, 1) := by decide +kernel
theorem dX4_enter_58 : decode cX4_enter 58 = .ok (.iadd, 1) := by decide +kernel
theorem dX4_enter_59 : decode cX4_enter 59 = .ok (.putfield 62, 3) := by decide +kernel
theorem dX4_enter_62 : decode cX4_enter 62 = .ok (.iload_n 1, 1) := by decide +kernel
theorem dX4_enter_63 : decode cX4_enter 63 = .ok (.iastore, 1) := by decide +kernel
theorem dX4_enter_64 : decode cX4_enter 64 = .ok (.return_, 1) := by decide +kernel
theorem dX4_followOne_0 : decode cX4_followOne 0 = .ok (.aload_n 0, 1) := by decide +kernel
theorem dX4_followOne_1 : decode cX4_followOne 1 = .ok (.getfield 45, 3) := by decide +kernel
theorem dX4_followOne_4 : decode cX4_followOne 4 = .ok (.iload_n 1, 1) := by decide +kernel
theorem dX4_followOne_5 : decode cX4_followOne 5 = .ok (.iaload, 1) := by decide +kernel
theorem dX4_followOne_6 : decode cX4_followOne 6 = .ok (.aload_n 0, 1) := by decide +kernel
theorem dX4_followOne_7 : decode cX4_followOne 7 = .ok (.getfield 45, 3) := by decide +kernel
theorem dX4_followOne_10 : decode cX4_followOne 10 = .ok (.iload_n 1, 1) := by decide +kernel
theorem dX4_followOne_11 : decode cX4_followOne 11 = .ok (.iaload, 1) := by decide +kernel
theorem dX4_followOne_12 : decode cX4_followOne 12 = .ok (.ineg, 1) := by decide +kernel
theorem dX4_followOne_13 : decode cX4_followOne 13 = .ok (.iand, 1) := by decide +kernel
theorem dX4_followOne_14 : decode cX4_followOne 14 = .ok (.istore_n 2, 1) := by decide +kernel
theorem dX4_followOne_15 : decode cX4_followOne 15 = .ok (.aload_n 0, 1) := by decide +kernel
theorem dX4_followOne_16 : decode cX4_followOne 16 = .ok (.getfield 45, 3) := by decide +kernel
theorem dX4_followOne_19 : decode cX4_followOne 19 = .ok (.iload_n 1, 1) := by decide +kernel
theorem dX4_followOne_20 : decode cX4_followOne 20 = .ok (.dup2, 1) := by decide +kernel
theorem dX4_followOne_21 : decode cX4_followOne 21 = .ok (.iaload, 1) := by decide +kernel
theorem dX4_followOne_22 : decode cX4_followOne 22 = .ok (.iload_n 2, 1) := by decide +kernel
theorem dX4_followOne_23 : decode cX4_followOne 23 = .ok (.ixor, 1) := by decide +kernel
theorem dX4_followOne_24 : decode cX4_followOne 24 = .ok (.iastore, 1) := by decide +kernel
theorem dX4_followOne_25 : decode cX4_followOne 25 = .ok (.iload_n 1, 1) := by decide +kernel
theorem dX4_followOne_26 : decode cX4_followOne 26 = .ok (.iload_n 2, 1) := by decide +kernel
theorem dX4_followOne_27 : decode cX4_followOne 27 = .ok (.ixor, 1) := by decide +kernel
theorem dX4_followOne_28 : decode cX4_followOne 28 = .ok (.istore_n 3, 1) := by decide +kernel
theorem dX4_followOne_29 : decode cX4_followOne 29 = .ok (.aload_n 0, 1) := by decide +kernel
theorem dX4_followOne_30 : decode cX4_followOne 30 = .ok (.getfield 21, 3) := by decide +kernel
theorem dX4_followOne_33 : decode cX4_followOne 33 = .ok (.iload_n 3, 1) := by decide +kernel
theorem dX4_followOne_34 : decode cX4_followOne 34 = .ok (.iaload, 1) := by decide +kernel
theorem dX4_followOne_35 : decode cX4_followOne 35 = .ok (.ifCond .ne 11, 3) := by decide +kernel
theorem dX4_followOne_38 : decode cX4_followOne 38 = .ok (.aload_n 0, 1) := by decide +kernel
theorem dX4_followOne_39 : decode cX4_followOne 39 = .ok (.iload_n 3, 1) := by decide +kernel
theorem dX4_followOne_40 : decode cX4_followOne 40 = .ok (.invokevirtual 77, 3) := by decide +kernel
theorem dX4_followOne_43 : decode cX4_followOne 43 = .ok (.goto 36, 3) := by decide +kernel
theorem dX4_followOne_46 : decode cX4_followOne 46 = .ok (.aload_n 0, 1) := by decide +kernel
theorem dX4_followOne_47 : decode cX4_followOne 47 = .ok (.getfield 27, 3) := by decide +kernel
theorem dX4_followOne_50 : decode cX4_followOne 50 = .ok (.iload_n 3, 1) := by decide +kernel
theorem dX4_followOne_51 : decode cX4_followOne 51 = .ok (.iaload, 1) := by decide +kernel
theorem dX4_followOne_52 : decode cX4_followOne 52 = .ok (.sipush 1025, 3) := by decide +kernel
theorem dX4_followOne_55 : decode cX4_followOne 55 = .ok (.if_icmp .eq 24, 3) := by decide +kernel
theorem dX4_followOne_58 : decode cX4_followOne 58 = .ok (.aload_n 0, 1) := by decide +kernel
theorem dX4_followOne_59 : decode cX4_followOne 59 = .ok (.getfield 27, 3) := by decide +kernel
theorem dX4_followOne_62 : decode cX4_followOne 62 = .ok (.iload_n 1, 1) := by decide +kernel
theorem dX4_followOne_63 : decode cX4_followOne 63 = .ok (.aload_n 0, 1) := by decide +kernel
theorem dX4_followOne_64 : decode cX4_followOne 64 = .ok (.getfield 27, 3) := by decide +kernel
theorem dX4_followOne_67 : decode cX4_followOne 67 = .ok (.iload_n 1, 1) := by decide +kernel
theorem dX4_followOne_68 : decode cX4_followOne 68 = .ok (.iaload, 1) := by decide +kernel
theorem dX4_followOne_69 : decode cX4_followOne 69 = .ok (.aload_n 0, 1) := by decide +kernel
theorem dX4_followOne_70 : decode cX4_followOne 70 = .ok (.getfield 21, 3) := by decide +kernel
theorem dX4_followOne_73 : decode cX4_followOne 73 = .ok (.iload_n 3, 1) := by decide +kernel
theorem dX4_followOne_74 : decode cX4_followOne 74 = .ok (.iaload, 1) := by decide +kernel
theorem dX4_followOne_75 : decode cX4_followOne 75 = .ok (.invokestatic 69, 3) := by decide +kernel
theorem dX4_followOne_78 : decode cX4_followOne 78 = .ok (.iastore, 1) := by decide +kernel
theorem dX4_followOne_79 : decode cX4_followOne 79 = .ok (.return_, 1) := by decide +kernel
theorem dX4_goBack_0 : decode cX4_goBack 0 = .ok (.aload_n 0, 1) := by decide +kernel
theorem dX4_goBack_1 : decode cX4_goBack 1 = .ok (.dup, 1) := by decide +kernel
theorem dX4_goBack_2 : decode cX4_goBack 2 = .ok (.getfield 74, 3) := by decide +kernel
theorem dX4_goBack_5 : decode cX4_goBack 5 = .ok (.iconst 1, 1) := by decide +kernel
theorem dX4_goBack_6 : decode cX4_goBack 6 = .ok (.isub, 1) := by decide +kernel
theorem dX4_goBack_7 : decode cX4_goBack 7 = .ok (.putfield 74, 3) := by decide +kernel
theorem dX4_goBack_10 : decode cX4_goBack 10 = .ok (.aload_n 0, 1) := by decide +kernel
theorem dX4_goBack_11 : decode cX4_goBack 11 = .ok (.getfield 27, 3) := by decide +kernel
theorem dX4_goBack_14 : decode cX4_goBack 14 = .ok (.iload_n 1, 1) := by decide +kernel
theorem dX4_goBack_15 : decode cX4_goBack 15 = .ok (.iaload, 1) := by decide +kernel
theorem dX4_goBack_16 : decode cX4_goBack 16 = .ok (.aload_n 0, 1) := by decide +kernel
theorem dX4_goBack_17 : decode cX4_goBack 17 = .ok (.getfield 21, 3) := by decide +kernel
theorem dX4_goBack_20 : decode cX4_goBack 20 = .ok (.iload_n 1, 1) := by decide +kernel
theorem dX4_goBack_21 : decode cX4_goBack 21 = .ok (.iaload, 1) := by decide +kernel
theorem dX4_goBack_22 : decode cX4_goBack 22 = .ok (.if_icmp .ne 10, 3) := by decide +kernel
theorem dX4_goBack_25 : decode cX4_goBack 25 = .ok (.aload_n 0, 1) := by decide +kernel
theorem dX4_goBack_26 : decode cX4_goBack 26 = .ok (.iload_n 1, 1) := by decide +kernel
theorem dX4_goBack_27 : decode cX4_goBack 27 = .ok (.iload_n 2, 1) := by decide +kernel
theorem dX4_goBack_28 : decode cX4_goBack 28 = .ok (.invokevirtual 87, 3) := by decide +kernel
theorem dX4_goBack_31 : decode cX4_goBack 31 = .ok (.ireturn, 1) := by decide +kernel
theorem dX4_goBack_32 : decode cX4_goBack 32 = .ok (.aload_n 0, 1) := by decide +kernel
theorem dX4_goBack_33 : decode cX4_goBack 33 = .ok (.getfield 74, 3) := by decide +kernel
theorem dX4_goBack_36 : decode cX4_goBack 36 = .ok (.ifCond .le 36, 3) := by decide +kernel
theorem dX4_goBack_39 : decode cX4_goBack 39 = .ok (.aload_n 0, 1) := by decide +kernel
theorem dX4_goBack_40 : decode cX4_goBack 40 = .ok (.getfield 33, 3) := by decide +kernel
theorem dX4_goBack_43 : decode cX4_goBack 43 = .ok (.aload_n 0, 1) := by decide +kernel
theorem dX4_goBack_44 : decode cX4_goBack 44 = .ok (.getfield 74, 3) := by decide +kernel
theorem dX4_goBack_47 : decode cX4_goBack 47 = .ok (.iconst 1, 1) := by decide +kernel
theorem dX4_goBack_48 : decode cX4_goBack 48 = .ok (.isub, 1) := by decide +kernel
theorem dX4_goBack_49 : decode cX4_goBack 49 = .ok (.iaload, 1) := by decide +kernel
theorem dX4_goBack_50 : decode cX4_goBack 50 = .ok (.istore_n 3, 1) := by decide +kernel
theorem dX4_goBack_51 : decode cX4_goBack 51 = .ok (.aload_n 0, 1) := by decide +kernel
theorem dX4_goBack_52 : decode cX4_goBack 52 = .ok (.getfield 27, 3) := by decide +kernel
theorem dX4_goBack_55 : decode cX4_goBack 55 = .ok (.iload_n 3, 1) := by decide +kernel
theorem dX4_goBack_56 : decode cX4_goBack 56 = .ok (.aload_n 0, 1) := by decide +kernel
theorem dX4_goBack_57 : decode cX4_goBack 57 = .ok (.getfield 27, 3) := by decide +kernel
theorem dX4_goBack_60 : decode cX4_goBack 60 = .ok (.iload_n 3, 1) := by decide +kernel
theorem dX4_goBack_61 : decode cX4_goBack 61 = .ok (.iaload, 1) := by decide +kernel
theorem dX4_goBack_62 : decode cX4_goBack 62 = .ok (.aload_n 0, 1) := by decide +kernel
theorem dX4_goBack_63 : decode cX4_goBack 63 = .ok (.getfield 27, 3) := by decide +kernel
theorem dX4_goBack_66 : decode cX4_goBack 66 = .ok (.iload_n 1, 1) := by decide +kernel
theorem dX4_goBack_67 : decode cX4_goBack 67 = .ok (.iaload, 1) := by decide +kernel
theorem dX4_goBack_68 : decode cX4_goBack 68 = .ok (.invokestatic 69, 3) := by decide +kernel
theorem dX4_goBack_71 : decode cX4_goBack 71 = .ok (.iastore, 1) := by decide +kernel
theorem dX4_goBack_72 : decode cX4_goBack 72 = .ok (.iload_n 2, 1) := by decide +kernel
theorem dX4_goBack_73 : decode cX4_goBack 73 = .ok (.ireturn, 1) := by decide +kernel
theorem dX4_close_0 : decode cX4_close 0 = .ok (.iload_n 1, 1) := by decide +kernel
theorem dX4_close_1 : decode cX4_close 1 = .ok (.istore_n 3, 1) := by decide +kernel
theorem dX4_close_2 : decode cX4_close 2 = .ok (.iconst 0, 1) := by decide +kernel
theorem dX4_close_3 : decode cX4_close 3 = .ok (.istore 4, 2) := by decide +kernel
theorem dX4_close_5 : decode cX4_close 5 = .ok (.iconst (-1), 1) := by decide +kernel
theorem dX4_close_6 : decode cX4_close 6 = .ok (.istore 5, 2) := by decide +kernel
theorem dX4_close_8 : decode cX4_close 8 = .ok (.aload_n 0, 1) := by decide +kernel
theorem dX4_close_9 : decode cX4_close 9 = .ok (.getfield 62, 3) := by decide +kernel
theorem dX4_close_12 : decode cX4_close 12 = .ok (.ifCond .le 50, 3) := by decide +kernel
theorem dX4_close_15 : decode cX4_close 15 = .ok (.iload 5, 2) := by decide +kernel
theorem dX4_close_17 : decode cX4_close 17 = .ok (.iload_n 1, 1) := by decide +kernel
theorem dX4_close_18 : decode cX4_close 18 = .ok (.if_icmp .eq 44, 3) := by decide +kernel
theorem dX4_close_21 : decode cX4_close 21 = .ok (.aload_n 0, 1) := by decide +kernel
theorem dX4_close_22 : decode cX4_close 22 = .ok (.getfield 39, 3) := by decide +kernel
theorem dX4_close_25 : decode cX4_close 25 = .ok (.aload_n 0, 1) := by decide +kernel
theorem dX4_close_26 : decode cX4_close 26 = .ok (.dup, 1) := by decide +kernel
theorem dX4_close_27 : decode cX4_close 27 = .ok (.getfield 62, 3) := by decide +kernel
theorem dX4_close_30 : decode cX4_close 30 = .ok (.iconst 1, 1) := by decide +kernel
theorem dX4_close_31 : decode cX4_close 31 = .ok (.isub, 1) := by decide +kernel
theorem dX4_close_32 : decode cX4_close 32 = .ok (.dup_x1, 1) := by decide +kernel
theorem dX4_close_33 : decode cX4_close 33 = .ok (.putfield 62, 3) := by decide +kernel
theorem dX4_close_36 : decode cX4_close 36 = .ok (.iaload, 1) := by decide +kernel
theorem dX4_close_37 : decode cX4_close 37 = .ok (.istore 5, 2) := by decide +kernel
theorem dX4_close_39 : decode cX4_close 39 = .ok (.aload_n 0, 1) := by decide +kernel
theorem dX4_close_40 : decode cX4_close 40 = .ok (.getfield 27, 3) := by decide +kernel
theorem dX4_close_43 : decode cX4_close 43 = .ok (.iload 5, 2) := by decide +kernel
theorem dX4_close_45 : decode cX4_close 45 = .ok (.sipush 1025, 3) := by decide +kernel
theorem dX4_close_48 : decode cX4_close 48 = .ok (.iastore, 1) := by decide +kernel
theorem dX4_close_49 : decode cX4_close 49 = .ok (.iload_n 3, 1) := by decide +kernel
theorem dX4_close_50 : decode cX4_close 50 = .ok (.iload 5, 2) := by decide +kernel
theorem dX4_close_52 : decode cX4_close 52 = .ok (.invokestatic 69, 3) := by decide +kernel
theorem dX4_close_55 : decode cX4_close 55 = .ok (.istore_n 3, 1) := by decide +kernel
theorem dX4_close_56 : decode cX4_close 56 = .ok (.iinc 4 1, 3) := by decide +kernel
theorem dX4_close_59 : decode cX4_close 59 = .ok (.goto (-51), 3) := by decide +kernel
theorem dX4_close_62 : decode cX4_close 62 = .ok (.iload 4, 2) := by decide +kernel
theorem dX4_close_64 : decode cX4_close 64 = .ok (.iconst 1, 1) := by decide +kernel
theorem dX4_close_65 : decode cX4_close 65 = .ok (.if_icmp .le 7, 3) := by decide +kernel
theorem dX4_close_68 : decode cX4_close 68 = .ok (.iload_n 3, 1) := by decide +kernel
theorem dX4_close_69 : decode cX4_close 69 = .ok (.goto 4, 3) := by decide +kernel
theorem dX4_close_72 : decode cX4_close 72 = .ok (.iload_n 2, 1) := by decide +kernel
theorem dX4_close_73 : decode cX4_close 73 = .ok (.ireturn, 1) := by decide +kernel
theorem dJ6_bitCount_0f7a4_0 : decode cJ6_bitCount_0f7a4 0 = .ok (.iload_n 0, 1) := by decide +kernel
theorem dJ6_bitCount_0f7a4_1 : decode cJ6_bitCount_0f7a4 1 = .ok (.iload_n 0, 1) := by decide +kernel
theorem dJ6_bitCount_0f7a4_2 : decode cJ6_bitCount_0f7a4 2 = .ok (.iconst 1, 1) := by decide +kernel
theorem dJ6_bitCount_0f7a4_3 : decode cJ6_bitCount_0f7a4 3 = .ok (.iushr, 1) := by decide +kernel
theorem dJ6_bitCount_0f7a4_4 : decode cJ6_bitCount_0f7a4 4 = .ok (.ldc_w 265, 3) := by decide +kernel
theorem dJ6_bitCount_0f7a4_7 : decode cJ6_bitCount_0f7a4 7 = .ok (.iand, 1) := by decide +kernel
theorem dJ6_bitCount_0f7a4_8 : decode cJ6_bitCount_0f7a4 8 = .ok (.isub, 1) := by decide +kernel
theorem dJ6_bitCount_0f7a4_9 : decode cJ6_bitCount_0f7a4 9 = .ok (.istore_n 0, 1) := by decide +kernel
theorem dJ6_bitCount_0f7a4_10 : decode cJ6_bitCount_0f7a4 10 = .ok (.iload_n 0, 1) := by decide +kernel
theorem dJ6_bitCount_0f7a4_11 : decode cJ6_bitCount_0f7a4 11 = .ok (.ldc_w 266, 3) := by decide +kernel
theorem dJ6_bitCount_0f7a4_14 : decode cJ6_bitCount_0f7a4 14 = .ok (.iand, 1) := by decide +kernel
theorem dJ6_bitCount_0f7a4_15 : decode cJ6_bitCount_0f7a4 15 = .ok (.iload_n 0, 1) := by decide +kernel
theorem dJ6_bitCount_0f7a4_16 : decode cJ6_bitCount_0f7a4 16 = .ok (.iconst 2, 1) := by decide +kernel
theorem dJ6_bitCount_0f7a4_17 : decode cJ6_bitCount_0f7a4 17 = .ok (.iushr, 1) := by decide +kernel
theorem dJ6_bitCount_0f7a4_18 : decode cJ6_bitCount_0f7a4 18 = .ok (.ldc_w 266, 3) := by decide +kernel
theorem dJ6_bitCount_0f7a4_21 : decode cJ6_bitCount_0f7a4 21 = .ok (.iand, 1) := by decide +kernel
theorem dJ6_bitCount_0f7a4_22 : decode cJ6_bitCount_0f7a4 22 = .ok (.iadd, 1) := by decide +kernel
theorem dJ6_bitCount_0f7a4_23 : decode cJ6_bitCount_0f7a4 23 = .ok (.istore_n 0, 1) := by decide +kernel
theorem dJ6_bitCount_0f7a4_24 : decode cJ6_bitCount_0f7a4 24 = .ok (.iload_n 0, 1) := by decide +kernel
theorem dJ6_bitCount_0f7a4_25 : decode cJ6_bitCount_0f7a4 25 = .ok (.iload_n 0, 1) := by decide +kernel
theorem dJ6_bitCount_0f7a4_26 : decode cJ6_bitCount_0f7a4 26 = .ok (.iconst 4, 1) := by decide +kernel
theorem dJ6_bitCount_0f7a4_27 : decode cJ6_bitCount_0f7a4 27 = .ok (.iushr, 1) := by decide +kernel
theorem dJ6_bitCount_0f7a4_28 : decode cJ6_bitCount_0f7a4 28 = .ok (.iadd, 1) := by decide +kernel
theorem dJ6_bitCount_0f7a4_29 : decode cJ6_bitCount_0f7a4 29 = .ok (.ldc_w 267, 3) := by decide +kernel
theorem dJ6_bitCount_0f7a4_32 : decode cJ6_bitCount_0f7a4 32 = .ok (.iand, 1) := by decide +kernel
theorem dJ6_bitCount_0f7a4_33 : decode cJ6_bitCount_0f7a4 33 = .ok (.istore_n 0, 1) := by decide +kernel
theorem dJ6_bitCount_0f7a4_34 : decode cJ6_bitCount_0f7a4 34 = .ok (.iload_n 0, 1) := by decide +kernel
theorem dJ6_bitCount_0f7a4_35 : decode cJ6_bitCount_0f7a4 35 = .ok (.iload_n 0, 1) := by decide +kernel
theorem dJ6_bitCount_0f7a4_36 : decode cJ6_bitCount_0f7a4 36 = .ok (.bipush 8, 2) := by decide +kernel
theorem dJ6_bitCount_0f7a4_38 : decode cJ6_bitCount_0f7a4 38 = .ok (.iushr, 1) := by decide +kernel
theorem dJ6_bitCount_0f7a4_39 : decode cJ6_bitCount_0f7a4 39 = .ok (.iadd, 1) := by decide +kernel
theorem dJ6_bitCount_0f7a4_40 : decode cJ6_bitCount_0f7a4 40 = .ok (.istore_n 0, 1) := by decide +kernel
theorem dJ6_bitCount_0f7a4_41 : decode cJ6_bitCount_0f7a4 41 = .ok (.iload_n 0, 1) := by decide +kernel
theorem dJ6_bitCount_0f7a4_42 : decode cJ6_bitCount_0f7a4 42 = .ok (.iload_n 0, 1) := by decide +kernel
theorem dJ6_bitCount_0f7a4_43 : decode cJ6_bitCount_0f7a4 43 = .ok (.bipush 16, 2) := by decide +kernel
theorem dJ6_bitCount_0f7a4_45 : decode cJ6_bitCount_0f7a4 45 = .ok (.iushr, 1) := by decide +kernel
theorem dJ6_bitCount_0f7a4_46 : decode cJ6_bitCount_0f7a4 46 = .ok (.iadd, 1) := by decide +kernel
theorem dJ6_bitCount_0f7a4_47 : decode cJ6_bitCount_0f7a4 47 = .ok (.istore_n 0, 1) := by decide +kernel
theorem dJ6_bitCount_0f7a4_48 : decode cJ6_bitCount_0f7a4 48 = .ok (.iload_n 0, 1) := by decide +kernel
theorem dJ6_bitCount_0f7a4_49 : decode cJ6_bitCount_0f7a4 49 = .ok (.bipush 63, 2) := by decide +kernel
theorem dJ6_bitCount_0f7a4_51 : decode cJ6_bitCount_0f7a4 51 = .ok (.iand, 1) := by decide +kernel
theorem dJ6_bitCount_0f7a4_52 : decode cJ6_bitCount_0f7a4 52 = .ok (.ireturn, 1) := by decide +kernel
end
section
theorem dX5_askedFrom_0 : decode cX5_askedFrom 0 = .ok (.aload_n 0, 1) := by decide +kernel
theorem dX5_askedFrom_1 : decode cX5_askedFrom 1 = .ok (.getfield 15, 3) := by decide +kernel
theorem dX5_askedFrom_4 : decode cX5_askedFrom 4 = .ok (.iload_n 2, 1) := by decide +kernel
theorem dX5_askedFrom_5 : decode cX5_askedFrom 5 = .ok (.invokevirtual 34, 3) := by decide +kernel
theorem dX5_askedFrom_8 : decode cX5_askedFrom 8 = .ok (.astore 4, 2) := by decide +kernel
theorem dX5_askedFrom_10 : decode cX5_askedFrom 10 = .ok (.iload_n 1, 1) := by decide +kernel
theorem dX5_askedFrom_11 : decode cX5_askedFrom 11 = .ok (.istore 5, 2) := by decide +kernel
theorem dX5_askedFrom_13 : decode cX5_askedFrom 13 = .ok (.iconst 0, 1) := by decide +kernel
theorem dX5_askedFrom_14 : decode cX5_askedFrom 14 = .ok (.istore 6, 2) := by decide +kernel
theorem dX5_askedFrom_16 : decode cX5_askedFrom 16 = .ok (.iconst 0, 1) := by decide +kernel
theorem dX5_askedFrom_17 : decode cX5_askedFrom 17 = .ok (.istore 7, 2) := by decide +kernel
theorem dX5_askedFrom_19 : decode cX5_askedFrom 19 = .ok (.iload 7, 2) := by decide +kernel
theorem dX5_askedFrom_21 : decode cX5_askedFrom 21 = .ok (.iload_n 3, 1) := by decide +kernel
theorem dX5_askedFrom_22 : decode cX5_askedFrom 22 = .ok (.if_icmp .ge 34, 3) := by decide +kernel
theorem dX5_askedFrom_25 : decode cX5_askedFrom 25 = .ok (.iload 6, 2) := by decide +kernel
theorem dX5_askedFrom_27 : decode cX5_askedFrom 27 = .ok (.aload 4, 2) := by decide +kernel
theorem dX5_askedFrom_29 : decode cX5_askedFrom 29 = .ok (.iload 5, 2) := by decide +kernel
theorem dX5_askedFrom_31 : decode cX5_askedFrom 31 = .ok (.iaload, 1) := by decide +kernel
theorem dX5_askedFrom_32 : decode cX5_askedFrom 32 = .ok (.iload 5, 2) := by decide +kernel
theorem dX5_askedFrom_34 : decode cX5_askedFrom 34 = .ok (.iconst (-1), 1) := by decide +kernel
theorem dX5_askedFrom_35 : decode cX5_askedFrom 35 = .ok (.ixor, 1) := by decide +kernel
theorem dX5_askedFrom_36 : decode cX5_askedFrom 36 = .ok (.iand, 1) := by decide +kernel
theorem dX5_askedFrom_37 : decode cX5_askedFrom 37 = .ok (.invokestatic 40, 3) := by decide +kernel
theorem dX5_askedFrom_40 : decode cX5_askedFrom 40 = .ok (.iadd, 1) := by decide +kernel
theorem dX5_askedFrom_41 : decode cX5_askedFrom 41 = .ok (.istore 6, 2) := by decide +kernel
theorem dX5_askedFrom_43 : decode cX5_askedFrom 43 = .ok (.aload 4, 2) := by decide +kernel
theorem dX5_askedFrom_45 : decode cX5_askedFrom 45 = .ok (.iload 5, 2) := by decide +kernel
theorem dX5_askedFrom_47 : decode cX5_askedFrom 47 = .ok (.iaload, 1) := by decide +kernel
theorem dX5_askedFrom_48 : decode cX5_askedFrom 48 = .ok (.istore 5, 2) := by decide +kernel
theorem dX5_askedFrom_50 : decode cX5_askedFrom 50 = .ok (.iinc 7 1, 3) := by decide +kernel
theorem dX5_askedFrom_53 : decode cX5_askedFrom 53 = .ok (.goto (-34), 3) := by decide +kernel
theorem dX5_askedFrom_56 : decode cX5_askedFrom 56 = .ok (.iload 6, 2) := by decide +kernel
theorem dX5_askedFrom_58 : decode cX5_askedFrom 58 = .ok (.ireturn, 1) := by decide +kernel
theorem dX5_gainBy_0 : decode cX5_gainBy 0 = .ok (.aload_n 0, 1) := by decide +kernel
theorem dX5_gainBy_1 : decode cX5_gainBy 1 = .ok (.iload_n 1, 1) := by decide +kernel
theorem dX5_gainBy_2 : decode cX5_gainBy 2 = .ok (.iload_n 2, 1) := by decide +kernel
theorem dX5_gainBy_3 : decode cX5_gainBy 3 = .ok (.invokevirtual 46, 3) := by decide +kernel
theorem dX5_gainBy_6 : decode cX5_gainBy 6 = .ok (.iconst 0, 1) := by decide +kernel
theorem dX5_gainBy_7 : decode cX5_gainBy 7 = .ok (.istore 6, 2) := by decide +kernel
theorem dX5_gainBy_9 : decode cX5_gainBy 9 = .ok (.iconst 0, 1) := by decide +kernel
theorem dX5_gainBy_10 : decode cX5_gainBy 10 = .ok (.istore 7, 2) := by decide +kernel
theorem dX5_gainBy_12 : decode cX5_gainBy 12 = .ok (.iload 7, 2) := by decide +kernel
theorem dX5_gainBy_14 : decode cX5_gainBy 14 = .ok (.sipush 500, 3) := by decide +kernel
theorem dX5_gainBy_17 : decode cX5_gainBy 17 = .ok (.if_icmp .gt 28, 3) := by decide +kernel
theorem dX5_gainBy_20 : decode cX5_gainBy 20 = .ok (.iload 6, 2) := by decide +kernel
theorem dX5_gainBy_22 : decode cX5_gainBy 22 = .ok (.aload_n 0, 1) := by decide +kernel
theorem dX5_gainBy_23 : decode cX5_gainBy 23 = .ok (.getfield 31, 3) := by decide +kernel
theorem dX5_gainBy_26 : decode cX5_gainBy 26 = .ok (.iload 7, 2) := by decide +kernel
theorem dX5_gainBy_28 : decode cX5_gainBy 28 = .ok (.iaload, 1) := by decide +kernel
theorem dX5_gainBy_29 : decode cX5_gainBy 29 = .ok (.iload 7, 2) := by decide +kernel
theorem dX5_gainBy_31 : decode cX5_gainBy 31 = .ok (.iload_n 3, 1) := by decide +kernel
theorem dX5_gainBy_32 : decode cX5_gainBy 32 = .ok (.invokestatic 50, 3) := by decide +kernel
theorem dX5_gainBy_35 : decode cX5_gainBy 35 = .ok (.imul, 1) := by decide +kernel
theorem dX5_gainBy_36 : decode cX5_gainBy 36 = .ok (.iadd, 1) := by decide +kernel
theorem dX5_gainBy_37 : decode cX5_gainBy 37 = .ok (.istore 6, 2) := by decide +kernel
theorem dX5_gainBy_39 : decode cX5_gainBy 39 = .ok (.iinc 7 1, 3) := by decide +kernel
theorem dX5_gainBy_42 : decode cX5_gainBy 42 = .ok (.goto (-30), 3) := by decide +kernel
theorem dX5_gainBy_45 : decode cX5_gainBy 45 = .ok (.iload 6, 2) := by decide +kernel
theorem dX5_gainBy_47 : decode cX5_gainBy 47 = .ok (.iload 5, 2) := by decide +kernel
theorem dX5_gainBy_49 : decode cX5_gainBy 49 = .ok (.imul, 1) := by decide +kernel
theorem dX5_gainBy_50 : decode cX5_gainBy 50 = .ok (.aload_n 0, 1) := by decide +kernel
theorem dX5_gainBy_51 : decode cX5_gainBy 51 = .ok (.getfield 9, 3) := by decide +kernel
theorem dX5_gainBy_54 : decode cX5_gainBy 54 = .ok (.invokevirtual 56, 3) := by decide +kernel
theorem dX5_gainBy_57 : decode cX5_gainBy 57 = .ok (.iload_n 3, 1) := by decide +kernel
theorem dX5_gainBy_58 : decode cX5_gainBy 58 = .ok (.imul, 1) := by decide +kernel
theorem dX5_gainBy_59 : decode cX5_gainBy 59 = .ok (.iload 4, 2) := by decide +kernel
theorem dX5_gainBy_61 : decode cX5_gainBy 61 = .ok (.imul, 1) := by decide +kernel
theorem dX5_gainBy_62 : decode cX5_gainBy 62 = .ok (.isub, 1) := by decide +kernel
theorem dX5_gainBy_63 : decode cX5_gainBy 63 = .ok (.ireturn, 1) := by decide +kernel
theorem dX5_bestStock_0 : decode cX5_bestStock 0 = .ok (.aload_n 0, 1) := by decide +kernel
theorem dX5_bestStock_1 : decode cX5_bestStock 1 = .ok (.iload_n 1, 1) := by decide +kernel
theorem dX5_bestStock_2 : decode cX5_bestStock 2 = .ok (.iload_n 2, 1) := by decide +kernel
theorem dX5_bestStock_3 : decode cX5_bestStock 3 = .ok (.invokevirtual 46, 3) := by decide +kernel
theorem dX5_bestStock_6 : decode cX5_bestStock 6 = .ok (.aload_n 0, 1) := by decide +kernel
theorem dX5_bestStock_7 : decode cX5_bestStock 7 = .ok (.getfield 9, 3) := by decide +kernel
theorem dX5_bestStock_10 : decode cX5_bestStock 10 = .ok (.invokevirtual 56, 3) := by decide +kernel
theorem dX5_bestStock_13 : decode cX5_bestStock 13 = .ok (.istore 5, 2) := by decide +kernel
theorem dX5_bestStock_15 : decode cX5_bestStock 15 = .ok (.iconst 0, 1) := by decide +kernel
theorem dX5_bestStock_16 : decode cX5_bestStock 16 = .ok (.istore 6, 2) := by decide +kernel
theorem dX5_bestStock_18 : decode cX5_bestStock 18 = .ok (.iconst 0, 1) := by decide +kernel
theorem dX5_bestStock_19 : decode cX5_bestStock 19 = .ok (.istore 7, 2) := by decide +kernel
theorem dX5_bestStock_21 : decode cX5_bestStock 21 = .ok (.iconst 0, 1) := by decide +kernel
theorem dX5_bestStock_22 : decode cX5_bestStock 22 = .ok (.istore 8, 2) := by decide +kernel
theorem dX5_bestStock_24 : decode cX5_bestStock 24 = .ok (.iload 5, 2) := by decide +kernel
theorem dX5_bestStock_26 : decode cX5_bestStock 26 = .ok (.aload_n 0, 1) := by decide +kernel
theorem dX5_bestStock_27 : decode cX5_bestStock 27 = .ok (.getfield 31, 3) := by decide +kernel
theorem dX5_bestStock_30 : decode cX5_bestStock 30 = .ok (.iconst 0, 1) := by decide +kernel
theorem dX5_bestStock_31 : decode cX5_bestStock 31 = .ok (.iaload, 1) := by decide +kernel
theorem dX5_bestStock_32 : decode cX5_bestStock 32 = .ok (.isub, 1) := by decide +kernel
theorem dX5_bestStock_33 : decode cX5_bestStock 33 = .ok (.istore 9, 2) := by decide +kernel
theorem dX5_bestStock_35 : decode cX5_bestStock 35 = .ok (.iconst 1, 1) := by decide +kernel
theorem dX5_bestStock_36 : decode cX5_bestStock 36 = .ok (.istore 10, 2) := by decide +kernel
theorem dX5_bestStock_38 : decode cX5_bestStock 38 = .ok (.iload 10, 2) := by decide +kernel
theorem dX5_bestStock_40 : decode cX5_bestStock 40 = .ok (.sipush 500, 3) := by decide +kernel
theorem dX5_bestStock_43 : decode cX5_bestStock 43 = .ok (.if_icmp .gt 51, 3) := by decide +kernel
theorem dX5_bestStock_46 : decode cX5_bestStock 46 = .ok (.iload 8, 2) := by decide +kernel
theorem dX5_bestStock_48 : decode cX5_bestStock 48 = .ok (.iload 9, 2) := by decide +kernel
theorem dX5_bestStock_50 : decode cX5_bestStock 50 = .ok (.iload 4, 2) := by decide +kernel
theorem dX5_bestStock_52 : decode cX5_bestStock 52 = .ok (.imul, 1) := by decide +kernel
theorem dX5_bestStock_53 : decode cX5_bestStock 53 = .ok (.iload 5, 2) := by decide +kernel
theorem dX5_bestStock_55 : decode cX5_bestStock 55 = .ok (.iload_n 3, 1) := by decide +kernel
theorem dX5_bestStock_56 : decode cX5_bestStock 56 = .ok (.imul, 1) := by decide +kernel
theorem dX5_bestStock_57 : decode cX5_bestStock 57 = .ok (.isub, 1) := by decide +kernel
theorem dX5_bestStock_58 : decode cX5_bestStock 58 = .ok (.iadd, 1) := by decide +kernel
theorem dX5_bestStock_59 : decode cX5_bestStock 59 = .ok (.istore 8, 2) := by decide +kernel
theorem dX5_bestStock_61 : decode cX5_bestStock 61 = .ok (.iload 8, 2) := by decide +kernel
theorem dX5_bestStock_63 : decode cX5_bestStock 63 = .ok (.iload 7, 2) := by decide +kernel
theorem dX5_bestStock_65 : decode cX5_bestStock 65 = .ok (.if_icmp .le 11, 3) := by decide +kernel
theorem dX5_bestStock_68 : decode cX5_bestStock 68 = .ok (.iload 10, 2) := by decide +kernel
theorem dX5_bestStock_70 : decode cX5_bestStock 70 = .ok (.istore 6, 2) := by decide +kernel
theorem dX5_bestStock_72 : decode cX5_bestStock 72 = .ok (.iload 8, 2) := by decide +kernel
theorem dX5_bestStock_74 : decode cX5_bestStock 74 = .ok (.istore 7, 2) := by decide +kernel
theorem dX5_bestStock_76 : decode cX5_bestStock 76 = .ok (.iload 9, 2) := by decide +kernel
theorem dX5_bestStock_78 : decode cX5_bestStock 78 = .ok (.aload_n 0, 1) := by decide +kernel
theorem dX5_bestStock_79 : decode cX5_bestStock 79 = .ok (.getfield 31, 3) := by decide +kernel
theorem dX5_bestStock_82 : decode cX5_bestStock 82 = .ok (.iload 10, 2) := by decide +kernel
theorem dX5_bestStock_84 : decode cX5_bestStock 84 = .ok (.iaload, 1) := by decide +kernel
theorem dX5_bestStock_85 : decode cX5_bestStock 85 = .ok (.isub, 1) := by decide +kernel
theorem dX5_bestStock_86 : decode cX5_bestStock 86 = .ok (.istore 9, 2) := by decide +kernel
theorem dX5_bestStock_88 : decode cX5_bestStock 88 = .ok (.iinc 10 1, 3) := by decide +kernel
theorem dX5_bestStock_91 : decode cX5_bestStock 91 = .ok (.goto (-53), 3) := by decide +kernel
theorem dX5_bestStock_94 : decode cX5_bestStock 94 = .ok (.iload 6, 2) := by decide +kernel
theorem dX5_bestStock_96 : decode cX5_bestStock 96 = .ok (.ireturn, 1) := by decide +kernel
theorem dX5_tally_0 : decode cX5_tally 0 = .ok (.aload_n 0, 1) := by decide +kernel
theorem dX5_tally_1 : decode cX5_tally 1 = .ok (.getfield 15, 3) := by decide +kernel
theorem dX5_tally_4 : decode cX5_tally 4 = .ok (.iload_n 1, 1) := by decide +kernel
theorem dX5_tally_5 : decode cX5_tally 5 = .ok (.invokevirtual 34, 3) := by decide +kernel
theorem dX5_tally_8 : decode cX5_tally 8 = .ok (.astore_n 3, 1) := by decide +kernel
theorem dX5_tally_9 : decode cX5_tally 9 = .ok (.aload_n 0, 1) := by decide +kernel
theorem dX5_tally_10 : decode cX5_tally 10 = .ok (.getfield 9, 3) := by decide +kernel
theorem dX5_tally_13 : decode cX5_tally 13 = .ok (.invokevirtual 56, 3) := by decide +kernel
theorem dX5_tally_16 : decode cX5_tally 16 = .ok (.istore 4, 2) := by decide +kernel
theorem dX5_tally_18 : decode cX5_tally 18 = .ok (.iconst 0, 1) := by decide +kernel
theorem dX5_tally_19 : decode cX5_tally 19 = .ok (.istore 5, 2) := by decide +kernel
theorem dX5_tally_21 : decode cX5_tally 21 = .ok (.iload 5, 2) := by decide +kernel
theorem dX5_tally_23 : decode cX5_tally 23 = .ok (.sipush 500, 3) := by decide +kernel
theorem dX5_tally_26 : decode cX5_tally 26 = .ok (.if_icmp .gt 17, 3) := by decide +kernel
theorem dX5_tally_29 : decode cX5_tally 29 = .ok (.aload_n 0, 1) := by decide +kernel
theorem dX5_tally_30 : decode cX5_tally 30 = .ok (.getfield 31, 3) := by decide +kernel
theorem dX5_tally_33 : decode cX5_tally 33 = .ok (.iload 5, 2) := by decide +kernel
theorem dX5_tally_35 : decode cX5_tally 35 = .ok (.iconst 0, 1) := by decide +kernel
theorem dX5_tally_36 : decode cX5_tally 36 = .ok (.iastore, 1) := by decide +kernel
theorem dX5_tally_37 : decode cX5_tally 37 = .ok (.iinc 5 1, 3) := by decide +kernel
theorem dX5_tally_40 : decode cX5_tally 40 = .ok (.goto (-19), 3) := by decide +kernel
theorem dX5_tally_43 : decode cX5_tally 43 = .ok (.iconst 0, 1) := by decide +kernel
theorem dX5_tally_44 : decode cX5_tally 44 = .ok (.istore 5, 2) := by decide +kernel
theorem dX5_tally_46 : decode cX5_tally 46 = .ok (.iload 5, 2) := by decide +kernel
theorem dX5_tally_48 : decode cX5_tally 48 = .ok (.iload 4, 2) := by decide +kernel
theorem dX5_tally_50 : decode cX5_tally 50 = .ok (.if_icmp .ge 28, 3) := by decide +kernel
theorem dX5_tally_53 : decode cX5_tally 53 = .ok (.aload_n 0, 1) := by decide +kernel
theorem dX5_tally_54 : decode cX5_tally 54 = .ok (.getfield 25, 3) := by decide +kernel
theorem dX5_tally_57 : decode cX5_tally 57 = .ok (.iload 5, 2) := by decide +kernel
theorem dX5_tally_59 : decode cX5_tally 59 = .ok (.aload_n 3, 1) := by decide +kernel
theorem dX5_tally_60 : decode cX5_tally 60 = .ok (.iload 5, 2) := by decide +kernel
theorem dX5_tally_62 : decode cX5_tally 62 = .ok (.iaload, 1) := by decide +kernel
theorem dX5_tally_63 : decode cX5_tally 63 = .ok (.iload 5, 2) := by decide +kernel
theorem dX5_tally_65 : decode cX5_tally 65 = .ok (.iconst (-1), 1) := by decide +kernel
theorem dX5_tally_66 : decode cX5_tally 66 = .ok (.ixor, 1) := by decide +kernel
theorem dX5_tally_67 : decode cX5_tally 67 = .ok (.iand, 1) := by decide +kernel
theorem dX5_tally_68 : decode cX5_tally 68 = .ok (.invokestatic 40, 3) := by decide +kernel
theorem dX5_tally_71 : decode cX5_tally 71 = .ok (.iastore, 1) := by decide +kernel
theorem dX5_tally_72 : decode cX5_tally 72 = .ok (.iinc 5 1, 3) := by decide +kernel
theorem dX5_tally_75 : decode cX5_tally 75 = .ok (.goto (-29), 3) := by decide +kernel
theorem dX5_tally_78 : decode cX5_tally 78 = .ok (.iconst 0, 1) := by decide +kernel
theorem dX5_tally_79 : decode cX5_tally 79 = .ok (.istore 5, 2) := by decide +kernel
theorem dX5_tally_81 : decode cX5_tally 81 = .ok (.iload 5, 2) := by decide +kernel
theorem dX5_tally_83 : decode cX5_tally 83 = .ok (.iload 4, 2) := by decide +kernel
theorem dX5_tally_85 : decode cX5_tally 85 = .ok (.if_icmp .ge 60, 3) := by decide +kernel
theorem dX5_tally_88 : decode cX5_tally 88 = .ok (.iload 5, 2) := by decide +kernel
theorem dX5_tally_90 : decode cX5_tally 90 = .ok (.istore 6, 2) := by decide +kernel
theorem dX5_tally_92 : decode cX5_tally 92 = .ok (.iconst 0, 1) := by decide +kernel
theorem dX5_tally_93 : decode cX5_tally 93 = .ok (.istore 7, 2) := by decide +kernel
theorem dX5_tally_95 : decode cX5_tally 95 = .ok (.iconst 0, 1) := by decide +kernel
theorem dX5_tally_96 : decode cX5_tally 96 = .ok (.istore 8, 2) := by decide +kernel
theorem dX5_tally_98 : decode cX5_tally 98 = .ok (.iload 8, 2) := by decide +kernel
theorem dX5_tally_100 : decode cX5_tally 100 = .ok (.iload_n 2, 1) := by decide +kernel
theorem dX5_tally_101 : decode cX5_tally 101 = .ok (.if_icmp .ge 27, 3) := by decide +kernel
theorem dX5_tally_104 : decode cX5_tally 104 = .ok (.iload 7, 2) := by decide +kernel
theorem dX5_tally_106 : decode cX5_tally 106 = .ok (.aload_n 0, 1) := by decide +kernel
theorem dX5_tally_107 : decode cX5_tally 107 = .ok (.getfield 25, 3) := by decide +kernel
theorem dX5_tally_110 : decode cX5_tally 110 = .ok (.iload 6, 2) := by decide +kernel
theorem dX5_tally_112 : decode cX5_tally 112 = .ok (.iaload, 1) := by decide +kernel
theorem dX5_tally_113 : decode cX5_tally 113 = .ok (.iadd, 1) := by decide +kernel
theorem dX5_tally_114 : decode cX5_tally 114 = .ok (.istore 7, 2) := by decide +kernel
theorem dX5_tally_116 : decode cX5_tally 116 = .ok (.aload_n 3, 1) := by decide +kernel
theorem dX5_tally_117 : decode cX5_tally 117 = .ok (.iload 6, 2) := by decide +kernel
theorem dX5_tally_119 : decode cX5_tally 119 = .ok (.iaload, 1) := by decide +kernel
theorem dX5_tally_120 : decode cX5_tally 120 = .ok (.istore 6, 2) := by decide +kernel
theorem dX5_tally_122 : decode cX5_tally 122 = .ok (.iinc 8 1, 3) := by decide +kernel
theorem dX5_tally_125 : decode cX5_tally 125 = .ok (.goto (-27), 3) := by decide +kernel
theorem dX5_tally_128 : decode cX5_tally 128 = .ok (.aload_n 0, 1) := by decide +kernel
theorem dX5_tally_129 : decode cX5_tally 129 = .ok (.getfield 31, 3) := by decide +kernel
theorem dX5_tally_132 : decode cX5_tally 132 = .ok (.iload 7, 2) := by decide +kernel
theorem dX5_tally_134 : decode cX5_tally 134 = .ok (.dup2, 1) := by decide +kernel
theorem dX5_tally_135 : decode cX5_tally 135 = .ok (.iaload, 1) := by decide +kernel
theorem dX5_tally_136 : decode cX5_tally 136 = .ok (.iconst 1, 1) := by decide +kernel
theorem dX5_tally_137 : decode cX5_tally 137 = .ok (.iadd, 1) := by decide +kernel
theorem dX5_tally_138 : decode cX5_tally 138 = .ok (.iastore, 1) := by decide +kernel
theorem dX5_tally_139 : decode cX5_tally 139 = .ok (.iinc 5 1, 3) := by decide +kernel
theorem dX5_tally_142 : decode cX5_tally 142 = .ok (.goto (-61), 3) := by decide +kernel
theorem dX5_tally_145 : decode cX5_tally 145 = .ok (.return_, 1) := by decide +kernel
theorem dX7_size_0 : decode cX7_size 0 = .ok (.aload_n 0, 1) := by decide +kernel
theorem dX7_size_1 : decode cX7_size 1 = .ok (.getfield 29, 3) := by decide +kernel
theorem dX7_size_4 : decode cX7_size 4 = .ok (.ireturn, 1) := by decide +kernel
theorem dX7_dresses_0 : decode cX7_dresses 0 = .ok (.iconst 1, 1) := by decide +kernel
theorem dX7_dresses_1 : decode cX7_dresses 1 = .ok (.aload_n 0, 1) := by decide +kernel
theorem dX7_dresses_2 : decode cX7_dresses 2 = .ok (.getfield 29, 3) := by decide +kernel
theorem dX7_dresses_5 : decode cX7_dresses 5 = .ok (.ishl, 1) := by decide +kernel
theorem dX7_dresses_6 : decode cX7_dresses 6 = .ok (.ireturn, 1) := by decide +kernel
theorem dX7_version_0 : decode cX7_version 0 = .ok (.aload_n 0, 1) := by decide +kernel
theorem dX7_version_1 : decode cX7_version 1 = .ok (.getfield 36, 3) := by decide +kernel
theorem dX7_version_4 : decode cX7_version 4 = .ok (.ireturn, 1) := by decide +kernel
theorem dX7_has_0 : decode cX7_has 0 = .ok (.iload_n 1, 1) := by decide +kernel
theorem dX7_has_1 : decode cX7_has 1 = .ok (.ifCond .lt 15, 3) := by decide +kernel
theorem dX7_has_4 : decode cX7_has 4 = .ok (.iload_n 1, 1) := by decide +kernel
theorem dX7_has_5 : decode cX7_has 5 = .ok (.aload_n 0, 1) := by decide +kernel
theorem dX7_has_6 : decode cX7_has 6 = .ok (.getfield 29, 3) := by decide +kernel
theorem dX7_has_9 : decode cX7_has 9 = .ok (.if_icmp .ge 7, 3) := by decide +kernel
theorem dX7_has_12 : decode cX7_has 12 = .ok (.iconst 1, 1) := by decide +kernel
theorem dX7_has_13 : decode cX7_has 13 = .ok (.goto 4, 3) := by decide +kernel
theorem dX7_has_16 : decode cX7_has 16 = .ok (.iconst 0, 1) := by decide +kernel
theorem dX7_has_17 : decode cX7_has 17 = .ok (.ireturn, 1) := by decide +kernel
theorem dX7_isDress_0 : decode cX7_isDress 0 = .ok (.iload_n 1, 1) := by decide +kernel
theorem dX7_isDress_1 : decode cX7_isDress 1 = .ok (.ifCond .lt 15, 3) := by decide +kernel
theorem dX7_isDress_4 : decode cX7_isDress 4 = .ok (.iload_n 1, 1) := by decide +kernel
theorem dX7_isDress_5 : decode cX7_isDress 5 = .ok (.aload_n 0, 1) := by decide +kernel
theorem dX7_isDress_6 : decode cX7_isDress 6 = .ok (.invokevirtual 39, 3) := by decide +kernel
theorem dX7_isDress_9 : decode cX7_isDress 9 = .ok (.if_icmp .ge 7, 3) := by decide +kernel
theorem dX7_isDress_12 : decode cX7_isDress 12 = .ok (.iconst 1, 1) := by decide +kernel
theorem dX7_isDress_13 : decode cX7_isDress 13 = .ok (.goto 4, 3) := by decide +kernel
theorem dX7_isDress_16 : decode cX7_isDress 16 = .ok (.iconst 0, 1) := by decide +kernel
theorem dX7_isDress_17 : decode cX7_isDress 17 = .ok (.ireturn, 1) := by decide +kernel
theorem dX7_startAnew_0 : decode cX7_startAnew 0 = .ok (.aload_n 0, 1) := by decide +kernel
theorem dX7_startAnew_1 : decode cX7_startAnew 1 = .ok (.iload_n 1, 1) := by decide +kernel
theorem dX7_startAnew_2 : decode cX7_startAnew 2 = .ok (.putfield 29, 3) := by decide +kernel
theorem dX7_startAnew_5 : decode cX7_startAnew 5 = .ok (.iconst 0, 1) := by decide +kernel
theorem dX7_startAnew_6 : decode cX7_startAnew 6 = .ok (.istore_n 2, 1) := by decide +kernel
theorem dX7_startAnew_7 : decode cX7_startAnew 7 = .ok (.iload_n 2, 1) := by decide +kernel
theorem dX7_startAnew_8 : decode cX7_startAnew 8 = .ok (.bipush 10, 2) := by decide +kernel
theorem dX7_startAnew_10 : decode cX7_startAnew 10 = .ok (.if_icmp .ge 51, 3) := by decide +kernel
theorem dX7_startAnew_13 : decode cX7_startAnew 13 = .ok (.iconst 0, 1) := by decide +kernel
theorem dX7_startAnew_14 : decode cX7_startAnew 14 = .ok (.istore_n 3, 1) := by decide +kernel
theorem dX7_startAnew_15 : decode cX7_startAnew 15 = .ok (.iload_n 3, 1) := by decide +kernel
theorem dX7_startAnew_16 : decode cX7_startAnew 16 = .ok (.bipush 10, 2) := by decide +kernel
theorem dX7_startAnew_18 : decode cX7_startAnew 18 = .ok (.if_icmp .ge 18, 3) := by decide +kernel
theorem dX7_startAnew_21 : decode cX7_startAnew 21 = .ok (.aload_n 0, 1) := by decide +kernel
theorem dX7_startAnew_22 : decode cX7_startAnew 22 = .ok (.getfield 11, 3) := by decide +kernel
theorem dX7_startAnew_25 : decode cX7_startAnew 25 = .ok (.iload_n 2, 1) := by decide +kernel
theorem dX7_startAnew_26 : decode cX7_startAnew 26 = .ok (.aaload, 1) := by decide +kernel
theorem dX7_startAnew_27 : decode cX7_startAnew 27 = .ok (.iload_n 3, 1) := by decide +kernel
theorem dX7_startAnew_28 : decode cX7_startAnew 28 = .ok (.iconst 0, 1) := by decide +kernel
theorem dX7_startAnew_29 : decode cX7_startAnew 29 = .ok (.iastore, 1) := by decide +kernel
theorem dX7_startAnew_30 : decode cX7_startAnew 30 = .ok (.iinc 3 1, 3) := by decide +kernel
theorem dX7_startAnew_33 : decode cX7_startAnew 33 = .ok (.goto (-18), 3) := by decide +kernel
theorem dX7_startAnew_36 : decode cX7_startAnew 36 = .ok (.aload_n 0, 1) := by decide +kernel
theorem dX7_startAnew_37 : decode cX7_startAnew 37 = .ok (.getfield 16, 3) := by decide +kernel
theorem dX7_startAnew_40 : decode cX7_startAnew 40 = .ok (.iload_n 2, 1) := by decide +kernel
theorem dX7_startAnew_41 : decode cX7_startAnew 41 = .ok (.iconst 0, 1) := by decide +kernel
theorem dX7_startAnew_42 : decode cX7_startAnew 42 = .ok (.iastore, 1) := by decide +kernel
theorem dX7_startAnew_43 : decode cX7_startAnew 43 = .ok (.aload_n 0, 1) := by decide +kernel
theorem dX7_startAnew_44 : decode cX7_startAnew 44 = .ok (.getfield 20, 3) := by decide +kernel
theorem dX7_startAnew_47 : decode cX7_startAnew 47 = .ok (.iload_n 2, 1) := by decide +kernel
theorem dX7_startAnew_48 : decode cX7_startAnew 48 = .ok (.iconst 0, 1) := by decide +kernel
theorem dX7_startAnew_49 : decode cX7_startAnew 49 = .ok (.iastore, 1) := by decide +kernel
theorem dX7_startAnew_50 : decode cX7_startAnew 50 = .ok (.aload_n 0, 1) := by decide +kernel
theorem dX7_startAnew_51 : decode cX7_startAnew 51 = .ok (.iload_n 2, 1) := by decide +kernel
theorem dX7_startAnew_52 : decode cX7_startAnew 52 = .ok (.invokevirtual 43, 3) := by decide +kernel
theorem dX7_startAnew_55 : decode cX7_startAnew 55 = .ok (.iinc 2 1, 3) := by decide +kernel
theorem dX7_startAnew_58 : decode cX7_startAnew 58 = .ok (.goto (-51), 3) := by decide +kernel
theorem dX7_startAnew_61 : decode cX7_startAnew 61 = .ok (.iconst 0, 1) := by decide +kernel
theorem dX7_startAnew_62 : decode cX7_startAnew 62 = .ok (.istore_n 2, 1) := by decide +kernel
theorem dX7_startAnew_63 : decode cX7_startAnew 63 = .ok (.iload_n 2, 1) := by decide +kernel
theorem dX7_startAnew_64 : decode cX7_startAnew 64 = .ok (.sipush 1024, 3) := by decide +kernel
theorem dX7_startAnew_67 : decode cX7_startAnew 67 = .ok (.if_icmp .ge 16, 3) := by decide +kernel
theorem dX7_startAnew_70 : decode cX7_startAnew 70 = .ok (.aload_n 0, 1) := by decide +kernel
theorem dX7_startAnew_71 : decode cX7_startAnew 71 = .ok (.getfield 26, 3) := by decide +kernel
theorem dX7_startAnew_74 : decode cX7_startAnew 74 = .ok (.iload_n 2, 1) := by decide +kernel
theorem dX7_startAnew_75 : decode cX7_startAnew 75 = .ok (.iconst 0, 1) := by decide +kernel
theorem dX7_startAnew_76 : decode cX7_startAnew 76 = .ok (.iastore, 1) := by decide +kernel
theorem dX7_startAnew_77 : decode cX7_startAnew 77 = .ok (.iinc 2 1, 3) := by decide +kernel
theorem dX7_startAnew_80 : decode cX7_startAnew 80 = .ok (.goto (-17), 3) := by decide +kernel
theorem dX7_startAnew_83 : decode cX7_startAnew 83 = .ok (.return_, 1) := by decide +kernel
theorem dX7_weight_0 : decode cX7_weight 0 = .ok (.aload_n 0, 1) := by decide +kernel
theorem dX7_weight_1 : decode cX7_weight 1 = .ok (.getfield 11, 3) := by decide +kernel
theorem dX7_weight_4 : decode cX7_weight 4 = .ok (.iload_n 1, 1) := by decide +kernel
theorem dX7_weight_5 : decode cX7_weight 5 = .ok (.aaload, 1) := by decide +kernel
theorem dX7_weight_6 : decode cX7_weight 6 = .ok (.iload_n 2, 1) := by decide +kernel
theorem dX7_weight_7 : decode cX7_weight 7 = .ok (.iaload, 1) := by decide +kernel
theorem dX7_weight_8 : decode cX7_weight 8 = .ok (.ireturn, 1) := by decide +kernel
theorem dX7_setWeight_0 : decode cX7_setWeight 0 = .ok (.aload_n 0, 1) := by decide +kernel
theorem dX7_setWeight_1 : decode cX7_setWeight 1 = .ok (.getfield 11, 3) := by decide +kernel
theorem dX7_setWeight_4 : decode cX7_setWeight 4 = .ok (.iload_n 1, 1) := by decide +kernel
theorem dX7_setWeight_5 : decode cX7_setWeight 5 = .ok (.aaload, 1) := by decide +kernel
theorem dX7_setWeight_6 : decode cX7_setWeight 6 = .ok (.iload_n 2, 1) := by decide +kernel
theorem dX7_setWeight_7 : decode cX7_setWeight 7 = .ok (.iload_n 3, 1) := by decide +kernel
theorem dX7_setWeight_8 : decode cX7_setWeight 8 = .ok (.iastore, 1) := by decide +kernel
theorem dX7_setWeight_9 : decode cX7_setWeight 9 = .ok (.aload_n 0, 1) := by decide +kernel
theorem dX7_setWeight_10 : decode cX7_setWeight 10 = .ok (.iload_n 1, 1) := by decide +kernel
theorem dX7_setWeight_11 : decode cX7_setWeight 11 = .ok (.invokevirtual 43, 3) := by decide +kernel
theorem dX7_setWeight_14 : decode cX7_setWeight 14 = .ok (.return_, 1) := by decide +kernel
theorem dX7_kind_0 : decode cX7_kind 0 = .ok (.aload_n 0, 1) := by decide +kernel
theorem dX7_kind_1 : decode cX7_kind 1 = .ok (.getfield 16, 3) := by decide +kernel
theorem dX7_kind_4 : decode cX7_kind 4 = .ok (.iload_n 1, 1) := by decide +kernel
theorem dX7_kind_5 : decode cX7_kind 5 = .ok (.iaload, 1) := by decide +kernel
theorem dX7_kind_6 : decode cX7_kind 6 = .ok (.ireturn, 1) := by decide +kernel
theorem dX7_setKind_0 : decode cX7_setKind 0 = .ok (.aload_n 0, 1) := by decide +kernel
theorem dX7_setKind_1 : decode cX7_setKind 1 = .ok (.getfield 16, 3) := by decide +kernel
theorem dX7_setKind_4 : decode cX7_setKind 4 = .ok (.iload_n 1, 1) := by decide +kernel
theorem dX7_setKind_5 : decode cX7_setKind 5 = .ok (.iload_n 2, 1) := by decide +kernel
theorem dX7_setKind_6 : decode cX7_setKind 6 = .ok (.iastore, 1) := by decide +kernel
theorem dX7_setKind_7 : decode cX7_setKind 7 = .ok (.aload_n 0, 1) := by decide +kernel
theorem dX7_setKind_8 : decode cX7_setKind 8 = .ok (.iload_n 1, 1) := by decide +kernel
theorem dX7_setKind_9 : decode cX7_setKind 9 = .ok (.invokevirtual 43, 3) := by decide +kernel
theorem dX7_setKind_12 : decode cX7_setKind 12 = .ok (.return_, 1) := by decide +kernel
theorem dX7_lean_0 : decode cX7_lean 0 = .ok (.aload_n 0, 1) := by decide +kernel
theorem dX7_lean_1 : decode cX7_lean 1 = .ok (.getfield 20, 3) := by decide +kernel
theorem dX7_lean_4 : decode cX7_lean 4 = .ok (.iload_n 1, 1) := by decide +kernel
theorem dX7_lean_5 : decode cX7_lean 5 = .ok (.iaload, 1) := by decide +kernel
theorem dX7_lean_6 : decode cX7_lean 6 = .ok (.ireturn, 1) := by decide +kernel
theorem dX7_setLean_0 : decode cX7_setLean 0 = .ok (.aload_n 0, 1) := by decide +kernel
theorem dX7_setLean_1 : decode cX7_setLean 1 = .ok (.getfield 20, 3) := by decide +kernel
theorem dX7_setLean_4 : decode cX7_setLean 4 = .ok (.iload_n 1, 1) := by decide +kernel
theorem dX7_setLean_5 : decode cX7_setLean 5 = .ok (.iload_n 2, 1) := by decide +kernel
theorem dX7_setLean_6 : decode cX7_setLean 6 = .ok (.iastore, 1) := by decide +kernel
theorem dX7_setLean_7 : decode cX7_setLean 7 = .ok (.aload_n 0, 1) := by decide +kernel
theorem dX7_setLean_8 : decode cX7_setLean 8 = .ok (.iload_n 1, 1) := by decide +kernel
theorem dX7_setLean_9 : decode cX7_setLean 9 = .ok (.invokevirtual 43, 3) := by decide +kernel
theorem dX7_setLean_12 : decode cX7_setLean 12 = .ok (.return_, 1) := by decide +kernel
theorem dX7_changed_0 : decode cX7_changed 0 = .ok (.aload_n 0, 1) := by decide +kernel
theorem dX7_changed_1 : decode cX7_changed 1 = .ok (.dup, 1) := by decide +kernel
theorem dX7_changed_2 : decode cX7_changed 2 = .ok (.getfield 33, 3) := by decide +kernel
theorem dX7_changed_5 : decode cX7_changed 5 = .ok (.iconst 1, 1) := by decide +kernel
theorem dX7_changed_6 : decode cX7_changed 6 = .ok (.iload_n 1, 1) := by decide +kernel
theorem dX7_changed_7 : decode cX7_changed 7 = .ok (.ishl, 1) := by decide +kernel
theorem dX7_changed_8 : decode cX7_changed 8 = .ok (.ior, 1) := by decide +kernel
theorem dX7_changed_9 : decode cX7_changed 9 = .ok (.putfield 33, 3) := by decide +kernel
theorem dX7_changed_12 : decode cX7_changed 12 = .ok (.aload_n 0, 1) := by decide +kernel
theorem dX7_changed_13 : decode cX7_changed 13 = .ok (.dup, 1) := by decide +kernel
theorem dX7_changed_14 : decode cX7_changed 14 = .ok (.getfield 36, 3) := by decide +kernel
theorem dX7_changed_17 : decode cX7_changed 17 = .ok (.iconst 1, 1) := by decide +kernel
theorem dX7_changed_18 : decode cX7_changed 18 = .ok (.iadd, 1) := by decide +kernel
theorem dX7_changed_19 : decode cX7_changed 19 = .ok (.putfield 36, 3) := by decide +kernel
theorem dX7_changed_22 : decode cX7_changed 22 = .ok (.return_, 1) := by decide +kernel
theorem dX7_seenBy_0 : decode cX7_seenBy 0 = .ok (.iconst 0, 1) := by decide +kernel
theorem dX7_seenBy_1 : decode cX7_seenBy 1 = .ok (.istore_n 2, 1) := by decide +kernel
theorem dX7_seenBy_2 : decode cX7_seenBy 2 = .ok (.iconst 0, 1) := by decide +kernel
theorem dX7_seenBy_3 : decode cX7_seenBy 3 = .ok (.istore_n 3, 1) := by decide +kernel
theorem dX7_seenBy_4 : decode cX7_seenBy 4 = .ok (.iload_n 3, 1) := by decide +kernel
theorem dX7_seenBy_5 : decode cX7_seenBy 5 = .ok (.aload_n 0, 1) := by decide +kernel
theorem dX7_seenBy_6 : decode cX7_seenBy 6 = .ok (.getfield 29, 3) := by decide +kernel
theorem dX7_seenBy_9 : decode cX7_seenBy 9 = .ok (.if_icmp .ge 23, 3) := by decide +kernel
theorem dX7_seenBy_12 : decode cX7_seenBy 12 = .ok (.aload_n 0, 1) := by decide +kernel
theorem dX7_seenBy_13 : decode cX7_seenBy 13 = .ok (.getfield 11, 3) := by decide +kernel
theorem dX7_seenBy_16 : decode cX7_seenBy 16 = .ok (.iload_n 1, 1) := by decide +kernel
theorem dX7_seenBy_17 : decode cX7_seenBy 17 = .ok (.aaload, 1) := by decide +kernel
theorem dX7_seenBy_18 : decode cX7_seenBy 18 = .ok (.iload_n 3, 1) := by decide +kernel
theorem dX7_seenBy_19 : decode cX7_seenBy 19 = .ok (.iaload, 1) := by decide +kernel
theorem dX7_seenBy_20 : decode cX7_seenBy 20 = .ok (.ifCond .le 6, 3) := by decide +kernel
theorem dX7_seenBy_23 : decode cX7_seenBy 23 = .ok (.iinc 2 1, 3) := by decide +kernel
theorem dX7_seenBy_26 : decode cX7_seenBy 26 = .ok (.iinc 3 1, 3) := by decide +kernel
theorem dX7_seenBy_29 : decode cX7_seenBy 29 = .ok (.goto (-25), 3) := by decide +kernel
theorem dX7_seenBy_32 : decode cX7_seenBy 32 = .ok (.iload_n 2, 1) := by decide +kernel
theorem dX7_seenBy_33 : decode cX7_seenBy 33 = .ok (.ireturn, 1) := by decide +kernel
theorem dX7_seeing_0 : decode cX7_seeing 0 = .ok (.iconst 0, 1) := by decide +kernel
theorem dX7_seeing_1 : decode cX7_seeing 1 = .ok (.istore_n 2, 1) := by decide +kernel
theorem dX7_seeing_2 : decode cX7_seeing 2 = .ok (.iconst 0, 1) := by decide +kernel
theorem dX7_seeing_3 : decode cX7_seeing 3 = .ok (.istore_n 3, 1) := by decide +kernel
theorem dX7_seeing_4 : decode cX7_seeing 4 = .ok (.iload_n 3, 1) := by decide +kernel
theorem dX7_seeing_5 : decode cX7_seeing 5 = .ok (.aload_n 0, 1) := by decide +kernel
theorem dX7_seeing_6 : decode cX7_seeing 6 = .ok (.getfield 29, 3) := by decide +kernel
theorem dX7_seeing_9 : decode cX7_seeing 9 = .ok (.if_icmp .ge 23, 3) := by decide +kernel
theorem dX7_seeing_12 : decode cX7_seeing 12 = .ok (.aload_n 0, 1) := by decide +kernel
theorem dX7_seeing_13 : decode cX7_seeing 13 = .ok (.getfield 11, 3) := by decide +kernel
theorem dX7_seeing_16 : decode cX7_seeing 16 = .ok (.iload_n 3, 1) := by decide +kernel
theorem dX7_seeing_17 : decode cX7_seeing 17 = .ok (.aaload, 1) := by decide +kernel
theorem dX7_seeing_18 : decode cX7_seeing 18 = .ok (.iload_n 1, 1) := by decide +kernel
theorem dX7_seeing_19 : decode cX7_seeing 19 = .ok (.iaload, 1) := by decide +kernel
theorem dX7_seeing_20 : decode cX7_seeing 20 = .ok (.ifCond .le 6, 3) := by decide +kernel
theorem dX7_seeing_23 : decode cX7_seeing 23 = .ok (.iinc 2 1, 3) := by decide +kernel
theorem dX7_seeing_26 : decode cX7_seeing 26 = .ok (.iinc 3 1, 3) := by decide +kernel
theorem dX7_seeing_29 : decode cX7_seeing 29 = .ok (.goto (-25), 3) := by decide +kernel
theorem dX7_seeing_32 : decode cX7_seeing 32 = .ok (.iload_n 2, 1) := by decide +kernel
theorem dX7_seeing_33 : decode cX7_seeing 33 = .ok (.ireturn, 1) := by decide +kernel
theorem dX7_ties_0 : decode cX7_ties 0 = .ok (.iconst 0, 1) := by decide +kernel
theorem dX7_ties_1 : decode cX7_ties 1 = .ok (.istore_n 1, 1) := by decide +kernel
theorem dX7_ties_2 : decode cX7_ties 2 = .ok (.iconst 0, 1) := by decide +kernel
theorem dX7_ties_3 : decode cX7_ties 3 = .ok (.istore_n 2, 1) := by decide +kernel
theorem dX7_ties_4 : decode cX7_ties 4 = .ok (.iload_n 2, 1) := by decide +kernel
theorem dX7_ties_5 : decode cX7_ties 5 = .ok (.aload_n 0, 1) := by decide +kernel
theorem dX7_ties_6 : decode cX7_ties 6 = .ok (.getfield 29, 3) := by decide +kernel
theorem dX7_ties_9 : decode cX7_ties 9 = .ok (.if_icmp .ge 17, 3) := by decide +kernel
theorem dX7_ties_12 : decode cX7_ties 12 = .ok (.iload_n 1, 1) := by decide +kernel
theorem dX7_ties_13 : decode cX7_ties 13 = .ok (.aload_n 0, 1) := by decide +kernel
theorem dX7_ties_14 : decode cX7_ties 14 = .ok (.iload_n 2, 1) := by decide +kernel
theorem dX7_ties_15 : decode cX7_ties 15 = .ok (.invokevirtual 47, 3) := by decide +kernel
theorem dX7_ties_18 : decode cX7_ties 18 = .ok (.iadd, 1) := by decide +kernel
theorem dX7_ties_19 : decode cX7_ties 19 = .ok (.istore_n 1, 1) := by decide +kernel
theorem dX7_ties_20 : decode cX7_ties 20 = .ok (.iinc 2 1, 3) := by decide +kernel
theorem dX7_ties_23 : decode cX7_ties 23 = .ok (.goto (-19), 3) := by decide +kernel
theorem dX7_ties_26 : decode cX7_ties 26 = .ok (.iload_n 1, 1) := by decide +kernel
theorem dX7_ties_27 : decode cX7_ties 27 = .ok (.ireturn, 1) := by decide +kernel
theorem dX7_countKind_0 : decode cX7_countKind 0 = .ok (.iconst 0, 1) := by decide +kernel
theorem dX7_countKind_1 : decode cX7_countKind 1 = .ok (.istore_n 2, 1) := by decide +kernel
theorem dX7_countKind_2 : decode cX7_countKind 2 = .ok (.iconst 0, 1) := by decide +kernel
theorem dX7_countKind_3 : decode cX7_countKind 3 = .ok (.istore_n 3, 1) := by decide +kernel
theorem dX7_countKind_4 : decode cX7_countKind 4 = .ok (.iload_n 3, 1) := by decide +kernel
theorem dX7_countKind_5 : decode cX7_countKind 5 = .ok (.aload_n 0, 1) := by decide +kernel
theorem dX7_countKind_6 : decode cX7_countKind 6 = .ok (.getfield 29, 3) := by decide +kernel
theorem dX7_countKind_9 : decode cX7_countKind 9 = .ok (.if_icmp .ge 22, 3) := by decide +kernel
theorem dX7_countKind_12 : decode cX7_countKind 12 = .ok (.aload_n 0, 1) := by decide +kernel
theorem dX7_countKind_13 : decode cX7_countKind 13 = .ok (.getfield 16, 3) := by decide +kernel
theorem dX7_countKind_16 : decode cX7_countKind 16 = .ok (.iload_n 3, 1) := by decide +kernel
theorem dX7_countKind_17 : decode cX7_countKind 17 = .ok (.iaload, 1) := by decide +kernel
theorem dX7_countKind_18 : decode cX7_countKind 18 = .ok (.iload_n 1, 1) := by decide +kernel
theorem dX7_countKind_19 : decode cX7_countKind 19 = .ok (.if_icmp .ne 6, 3) := by decide +kernel
theorem dX7_countKind_22 : decode cX7_countKind 22 = .ok (.iinc 2 1, 3) := by decide +kernel
theorem dX7_countKind_25 : decode cX7_countKind 25 = .ok (.iinc 3 1, 3) := by decide +kernel
theorem dX7_countKind_28 : decode cX7_countKind 28 = .ok (.goto (-24), 3) := by decide +kernel
theorem dX7_countKind_31 : decode cX7_countKind 31 = .ok (.iload_n 2, 1) := by decide +kernel
theorem dX7_countKind_32 : decode cX7_countKind 32 = .ok (.ireturn, 1) := by decide +kernel
theorem dX7_sumOf_0 : decode cX7_sumOf 0 = .ok (.aload_n 0, 1) := by decide +kernel
theorem dX7_sumOf_1 : decode cX7_sumOf 1 = .ok (.getfield 20, 3) := by decide +kernel
theorem dX7_sumOf_4 : decode cX7_sumOf 4 = .ok (.iload_n 1, 1) := by decide +kernel
theorem dX7_sumOf_5 : decode cX7_sumOf 5 = .ok (.iaload, 1) := by decide +kernel
theorem dX7_sumOf_6 : decode cX7_sumOf 6 = .ok (.istore_n 3, 1) := by decide +kernel
theorem dX7_sumOf_7 : decode cX7_sumOf 7 = .ok (.iconst 0, 1) := by decide +kernel
theorem dX7_sumOf_8 : decode cX7_sumOf 8 = .ok (.istore 4, 2) := by decide +kernel
theorem dX7_sumOf_10 : decode cX7_sumOf 10 = .ok (.iload 4, 2) := by decide +kernel
theorem dX7_sumOf_12 : decode cX7_sumOf 12 = .ok (.aload_n 0, 1) := by decide +kernel
theorem dX7_sumOf_13 : decode cX7_sumOf 13 = .ok (.getfield 29, 3) := by decide +kernel
theorem dX7_sumOf_16 : decode cX7_sumOf 16 = .ok (.if_icmp .ge 41, 3) := by decide +kernel
theorem dX7_sumOf_19 : decode cX7_sumOf 19 = .ok (.aload_n 0, 1) := by decide +kernel
theorem dX7_sumOf_20 : decode cX7_sumOf 20 = .ok (.getfield 11, 3) := by decide +kernel
theorem dX7_sumOf_23 : decode cX7_sumOf 23 = .ok (.iload_n 1, 1) := by decide +kernel
theorem dX7_sumOf_24 : decode cX7_sumOf 24 = .ok (.aaload, 1) := by decide +kernel
theorem dX7_sumOf_25 : decode cX7_sumOf 25 = .ok (.iload 4, 2) := by decide +kernel
theorem dX7_sumOf_27 : decode cX7_sumOf 27 = .ok (.iaload, 1) := by decide +kernel
theorem dX7_sumOf_28 : decode cX7_sumOf 28 = .ok (.istore 5, 2) := by decide +kernel
theorem dX7_sumOf_30 : decode cX7_sumOf 30 = .ok (.iload_n 3, 1) := by decide +kernel
theorem dX7_sumOf_31 : decode cX7_sumOf 31 = .ok (.iload_n 2, 1) := by decide +kernel
theorem dX7_sumOf_32 : decode cX7_sumOf 32 = .ok (.iload 4, 2) := by decide +kernel
theorem dX7_sumOf_34 : decode cX7_sumOf 34 = .ok (.invokestatic 51, 3) := by decide +kernel
theorem dX7_sumOf_37 : decode cX7_sumOf 37 = .ok (.iconst 1, 1) := by decide +kernel
theorem dX7_sumOf_38 : decode cX7_sumOf 38 = .ok (.if_icmp .ne 8, 3) := by decide +kernel
theorem dX7_sumOf_41 : decode cX7_sumOf 41 = .ok (.iload 5, 2) := by decide +kernel
theorem dX7_sumOf_43 : decode cX7_sumOf 43 = .ok (.goto 6, 3) := by decide +kernel
theorem dX7_sumOf_46 : decode cX7_sumOf 46 = .ok (.iload 5, 2) := by decide +kernel
theorem dX7_sumOf_48 : decode cX7_sumOf 48 = .ok (.ineg, 1) := by decide +kernel
theorem dX7_sumOf_49 : decode cX7_sumOf 49 = .ok (.iadd, 1) := by decide +kernel
theorem dX7_sumOf_50 : decode cX7_sumOf 50 = .ok (.istore_n 3, 1) := by decide +kernel
theorem dX7_sumOf_51 : decode cX7_sumOf 51 = .ok (.iinc 4 1, 3) := by decide +kernel
theorem dX7_sumOf_54 : decode cX7_sumOf 54 = .ok (.goto (-44), 3) := by decide +kernel
theorem dX7_sumOf_57 : decode cX7_sumOf 57 = .ok (.iload_n 3, 1) := by decide +kernel
theorem dX7_sumOf_58 : decode cX7_sumOf 58 = .ok (.ireturn, 1) := by decide +kernel
theorem dX7_worn_0 : decode cX7_worn 0 = .ok (.iload_n 0, 1) := by decide +kernel
theorem dX7_worn_1 : decode cX7_worn 1 = .ok (.iload_n 1, 1) := by decide +kernel
theorem dX7_worn_2 : decode cX7_worn 2 = .ok (.ishr, 1) := by decide +kernel
theorem dX7_worn_3 : decode cX7_worn 3 = .ok (.iconst 1, 1) := by decide +kernel
theorem dX7_worn_4 : decode cX7_worn 4 = .ok (.iand, 1) := by decide +kernel
theorem dX7_worn_5 : decode cX7_worn 5 = .ok (.ireturn, 1) := by decide +kernel
theorem dX7_nextOf_0 : decode cX7_nextOf 0 = .ok (.iload_n 0, 1) := by decide +kernel
theorem dX7_nextOf_1 : decode cX7_nextOf 1 = .ok (.iconst 3, 1) := by decide +kernel
theorem dX7_nextOf_2 : decode cX7_nextOf 2 = .ok (.if_icmp .ne 7, 3) := by decide +kernel
theorem dX7_nextOf_5 : decode cX7_nextOf 5 = .ok (.iconst 1, 1) := by decide +kernel
theorem dX7_nextOf_6 : decode cX7_nextOf 6 = .ok (.iload_n 2, 1) := by decide +kernel
theorem dX7_nextOf_7 : decode cX7_nextOf 7 = .ok (.isub, 1) := by decide +kernel
theorem dX7_nextOf_8 : decode cX7_nextOf 8 = .ok (.ireturn, 1) := by decide +kernel
theorem dX7_nextOf_9 : decode cX7_nextOf 9 = .ok (.iload_n 0, 1) := by decide +kernel
theorem dX7_nextOf_10 : decode cX7_nextOf 10 = .ok (.iconst 2, 1) := by decide +kernel
theorem dX7_nextOf_11 : decode cX7_nextOf 11 = .ok (.if_icmp .eq 7, 3) := by decide +kernel
theorem dX7_nextOf_14 : decode cX7_nextOf 14 = .ok (.iload_n 1, 1) := by decide +kernel
theorem dX7_nextOf_15 : decode cX7_nextOf 15 = .ok (.ifCond .ne 5, 3) := by decide +kernel
theorem dX7_nextOf_18 : decode cX7_nextOf 18 = .ok (.iload_n 2, 1) := by decide +kernel
theorem dX7_nextOf_19 : decode cX7_nextOf 19 = .ok (.ireturn, 1) := by decide +kernel
theorem dX7_nextOf_20 : decode cX7_nextOf 20 = .ok (.iload_n 1, 1) := by decide +kernel
theorem dX7_nextOf_21 : decode cX7_nextOf 21 = .ok (.ifCond .le 7, 3) := by decide +kernel
theorem dX7_nextOf_24 : decode cX7_nextOf 24 = .ok (.iconst 1, 1) := by decide +kernel
theorem dX7_nextOf_25 : decode cX7_nextOf 25 = .ok (.goto 4, 3) := by decide +kernel
theorem dX7_nextOf_28 : decode cX7_nextOf 28 = .ok (.iconst 0, 1) := by decide +kernel
theorem dX7_nextOf_29 : decode cX7_nextOf 29 = .ok (.iload_n 0, 1) := by decide +kernel
theorem dX7_nextOf_30 : decode cX7_nextOf 30 = .ok (.ifCond .ne 7, 3) := by decide +kernel
theorem dX7_nextOf_33 : decode cX7_nextOf 33 = .ok (.iconst 1, 1) := by decide +kernel
theorem dX7_nextOf_34 : decode cX7_nextOf 34 = .ok (.goto 4, 3) := by decide +kernel
theorem dX7_nextOf_37 : decode cX7_nextOf 37 = .ok (.iconst 0, 1) := by decide +kernel
theorem dX7_nextOf_38 : decode cX7_nextOf 38 = .ok (.if_icmp .ne 7, 3) := by decide +kernel
theorem dX7_nextOf_41 : decode cX7_nextOf 41 = .ok (.iconst 1, 1) := by decide +kernel
theorem dX7_nextOf_42 : decode cX7_nextOf 42 = .ok (.goto 4, 3) := by decide +kernel
theorem dX7_nextOf_45 : decode cX7_nextOf 45 = .ok (.iconst 0, 1) := by decide +kernel
theorem dX7_nextOf_46 : decode cX7_nextOf 46 = .ok (.ireturn, 1) := by decide +kernel
theorem dX7_isCalm_0 : decode cX7_isCalm 0 = .ok (.iload_n 2, 1) := by decide +kernel
theorem dX7_isCalm_1 : decode cX7_isCalm 1 = .ok (.iload_n 1, 1) := by decide +kernel
theorem dX7_isCalm_2 : decode cX7_isCalm 2 = .ok (.invokestatic 51, 3) := by decide +kernel
theorem dX7_isCalm_5 : decode cX7_isCalm 5 = .ok (.istore_n 3, 1) := by decide +kernel
theorem dX7_isCalm_6 : decode cX7_isCalm 6 = .ok (.aload_n 0, 1) := by decide +kernel
theorem dX7_isCalm_7 : decode cX7_isCalm 7 = .ok (.getfield 16, 3) := by decide +kernel
theorem dX7_isCalm_10 : decode cX7_isCalm 10 = .ok (.iload_n 1, 1) := by decide +kernel
theorem dX7_isCalm_11 : decode cX7_isCalm 11 = .ok (.iaload, 1) := by decide +kernel
theorem dX7_isCalm_12 : decode cX7_isCalm 12 = .ok (.aload_n 0, 1) := by decide +kernel
theorem dX7_isCalm_13 : decode cX7_isCalm 13 = .ok (.iload_n 1, 1) := by decide +kernel
theorem dX7_isCalm_14 : decode cX7_isCalm 14 = .ok (.iload_n 2, 1) := by decide +kernel
theorem dX7_isCalm_15 : decode cX7_isCalm 15 = .ok (.invokevirtual 55, 3) := by decide +kernel
theorem dX7_isCalm_18 : decode cX7_isCalm 18 = .ok (.iload_n 3, 1) := by decide +kernel
theorem dX7_isCalm_19 : decode cX7_isCalm 19 = .ok (.invokestatic 58, 3) := by decide +kernel
theorem dX7_isCalm_22 : decode cX7_isCalm 22 = .ok (.iload_n 3, 1) := by decide +kernel
theorem dX7_isCalm_23 : decode cX7_isCalm 23 = .ok (.if_icmp .ne 7, 3) := by decide +kernel
theorem dX7_isCalm_26 : decode cX7_isCalm 26 = .ok (.iconst 1, 1) := by decide +kernel
theorem dX7_isCalm_27 : decode cX7_isCalm 27 = .ok (.goto 4, 3) := by decide +kernel
theorem dX7_isCalm_30 : decode cX7_isCalm 30 = .ok (.iconst 0, 1) := by decide +kernel
theorem dX7_isCalm_31 : decode cX7_isCalm 31 = .ok (.ireturn, 1) := by decide +kernel
theorem dX7_restlessIn_0 : decode cX7_restlessIn 0 = .ok (.iconst 0, 1) := by decide +kernel
theorem dX7_restlessIn_1 : decode cX7_restlessIn 1 = .ok (.istore_n 2, 1) := by decide +kernel
theorem dX7_restlessIn_2 : decode cX7_restlessIn 2 = .ok (.iconst 0, 1) := by decide +kernel
theorem dX7_restlessIn_3 : decode cX7_restlessIn 3 = .ok (.istore_n 3, 1) := by decide +kernel
theorem dX7_restlessIn_4 : decode cX7_restlessIn 4 = .ok (.iload_n 3, 1) := by decide +kernel
theorem dX7_restlessIn_5 : decode cX7_restlessIn 5 = .ok (.aload_n 0, 1) := by decide +kernel
theorem dX7_restlessIn_6 : decode cX7_restlessIn 6 = .ok (.getfield 29, 3) := by decide +kernel
theorem dX7_restlessIn_9 : decode cX7_restlessIn 9 = .ok (.if_icmp .ge 24, 3) := by decide +kernel
theorem dX7_restlessIn_12 : decode cX7_restlessIn 12 = .ok (.aload_n 0, 1) := by decide +kernel
theorem dX7_restlessIn_13 : decode cX7_restlessIn 13 = .ok (.iload_n 3, 1) := by decide +kernel
theorem dX7_restlessIn_14 : decode cX7_restlessIn 14 = .ok (.iload_n 1, 1) := by decide +kernel
theorem dX7_restlessIn_15 : decode cX7_restlessIn 15 = .ok (.invokevirtual 62, 3) := by decide +kernel
theorem dX7_restlessIn_18 : decode cX7_restlessIn 18 = .ok (.ifCond .ne 9, 3) := by decide +kernel
theorem dX7_restlessIn_21 : decode cX7_restlessIn 21 = .ok (.iload_n 2, 1) := by decide +kernel
theorem dX7_restlessIn_22 : decode cX7_restlessIn 22 = .ok (.iconst 1, 1) := by decide +kernel
theorem dX7_restlessIn_23 : decode cX7_restlessIn 23 = .ok (.iload_n 3, 1) := by decide +kernel
theorem dX7_restlessIn_24 : decode cX7_restlessIn 24 = .ok (.ishl, 1) := by decide +kernel
theorem dX7_restlessIn_25 : decode cX7_restlessIn 25 = .ok (.ior, 1) := by decide +kernel
theorem dX7_restlessIn_26 : decode cX7_restlessIn 26 = .ok (.istore_n 2, 1) := by decide +kernel
theorem dX7_restlessIn_27 : decode cX7_restlessIn 27 = .ok (.iinc 3 1, 3) := by decide +kernel
theorem dX7_restlessIn_30 : decode cX7_restlessIn 30 = .ok (.goto (-26), 3) := by decide +kernel
theorem dX7_restlessIn_33 : decode cX7_restlessIn 33 = .ok (.iload_n 2, 1) := by decide +kernel
theorem dX7_restlessIn_34 : decode cX7_restlessIn 34 = .ok (.ireturn, 1) := by decide +kernel
theorem dX7_restless_0 : decode cX7_restless 0 = .ok (.iconst 0, 1) := by decide +kernel
theorem dX7_restless_1 : decode cX7_restless 1 = .ok (.istore_n 1, 1) := by decide +kernel
theorem dX7_restless_2 : decode cX7_restless 2 = .ok (.iload_n 1, 1) := by decide +kernel
theorem dX7_restless_3 : decode cX7_restless 3 = .ok (.aload_n 0, 1) := by decide +kernel
theorem dX7_restless_4 : decode cX7_restless 4 = .ok (.getfield 29, 3) := by decide +kernel
theorem dX7_restless_7 : decode cX7_restless 7 = .ok (.if_icmp .ge 26, 3) := by decide +kernel
theorem dX7_restless_10 : decode cX7_restless 10 = .ok (.aload_n 0, 1) := by decide +kernel
theorem dX7_restless_11 : decode cX7_restless 11 = .ok (.getfield 33, 3) := by decide +kernel
theorem dX7_restless_14 : decode cX7_restless 14 = .ok (.iload_n 1, 1) := by decide +kernel
theorem dX7_restless_15 : decode cX7_restless 15 = .ok (.invokestatic 51, 3) := by decide +kernel
theorem dX7_restless_18 : decode cX7_restless 18 = .ok (.iconst 1, 1) := by decide +kernel
theorem dX7_restless_19 : decode cX7_restless 19 = .ok (.if_icmp .ne 8, 3) := by decide +kernel
theorem dX7_restless_22 : decode cX7_restless 22 = .ok (.aload_n 0, 1) := by decide +kernel
theorem dX7_restless_23 : decode cX7_restless 23 = .ok (.iload_n 1, 1) := by decide +kernel
theorem dX7_restless_24 : decode cX7_restless 24 = .ok (.invokevirtual 66, 3) := by decide +kernel
theorem dX7_restless_27 : decode cX7_restless 27 = .ok (.iinc 1 1, 3) := by decide +kernel
theorem dX7_restless_30 : decode cX7_restless 30 = .ok (.goto (-28), 3) := by decide +kernel
theorem dX7_restless_33 : decode cX7_restless 33 = .ok (.aload_n 0, 1) := by decide +kernel
theorem dX7_restless_34 : decode cX7_restless 34 = .ok (.iconst 0, 1) := by decide +kernel
theorem dX7_restless_35 : decode cX7_restless 35 = .ok (.putfield 33, 3) := by decide +kernel
theorem dX7_restless_38 : decode cX7_restless 38 = .ok (.aload_n 0, 1) := by decide +kernel
theorem dX7_restless_39 : decode cX7_restless 39 = .ok (.getfield 26, 3) := by decide +kernel
theorem dX7_restless_42 : decode cX7_restless 42 = .ok (.areturn, 1) := by decide +kernel
theorem dX7_renew_0 : decode cX7_renew 0 = .ok (.aload_n 0, 1) := by decide +kernel
theorem dX7_renew_1 : decode cX7_renew 1 = .ok (.iload_n 1, 1) := by decide +kernel
theorem dX7_renew_2 : decode cX7_renew 2 = .ok (.invokevirtual 69, 3) := by decide +kernel
theorem dX7_renew_5 : decode cX7_renew 5 = .ok (.aload_n 0, 1) := by decide +kernel
theorem dX7_renew_6 : decode cX7_renew 6 = .ok (.getfield 16, 3) := by decide +kernel
theorem dX7_renew_9 : decode cX7_renew 9 = .ok (.iload_n 1, 1) := by decide +kernel
theorem dX7_renew_10 : decode cX7_renew 10 = .ok (.iaload, 1) := by decide +kernel
theorem dX7_renew_11 : decode cX7_renew 11 = .ok (.istore_n 2, 1) := by decide +kernel
theorem dX7_renew_12 : decode cX7_renew 12 = .ok (.iconst 1, 1) := by decide +kernel
theorem dX7_renew_13 : decode cX7_renew 13 = .ok (.iload_n 1, 1) := by decide +kernel
theorem dX7_renew_14 : decode cX7_renew 14 = .ok (.ishl, 1) := by decide +kernel
theorem dX7_renew_15 : decode cX7_renew 15 = .ok (.istore_n 3, 1) := by decide +kernel
theorem dX7_renew_16 : decode cX7_renew 16 = .ok (.aload_n 0, 1) := by decide +kernel
theorem dX7_renew_17 : decode cX7_renew 17 = .ok (.invokevirtual 39, 3) := by decide +kernel
theorem dX7_renew_20 : decode cX7_renew 20 = .ok (.istore 4, 2) := by decide +kernel
theorem dX7_renew_22 : decode cX7_renew 22 = .ok (.iconst 0, 1) := by decide +kernel
theorem dX7_renew_23 : decode cX7_renew 23 = .ok (.istore 5, 2) := by decide +kernel
theorem dX7_renew_25 : decode cX7_renew 25 = .ok (.iload 5, 2) := by decide +kernel
theorem dX7_renew_27 : decode cX7_renew 27 = .ok (.iload 4, 2) := by decide +kernel
theorem dX7_renew_29 : decode cX7_renew 29 = .ok (.if_icmp .ge 77, 3) := by decide +kernel
theorem dX7_renew_32 : decode cX7_renew 32 = .ok (.iload 5, 2) := by decide +kernel
theorem dX7_renew_34 : decode cX7_renew 34 = .ok (.iload_n 1, 1) := by decide +kernel
theorem dX7_renew_35 : decode cX7_renew 35 = .ok (.invokestatic 51, 3) := by decide +kernel
theorem dX7_renew_38 : decode cX7_renew 38 = .ok (.istore 6, 2) := by decide +kernel
theorem dX7_renew_40 : decode cX7_renew 40 = .ok (.iload_n 2, 1) := by decide +kernel
theorem dX7_renew_41 : decode cX7_renew 41 = .ok (.aload_n 0, 1) := by decide +kernel
theorem dX7_renew_42 : decode cX7_renew 42 = .ok (.getfield 23, 3) := by decide +kernel
theorem dX7_renew_45 : decode cX7_renew 45 = .ok (.iload 5, 2) := by decide +kernel
theorem dX7_renew_47 : decode cX7_renew 47 = .ok (.iaload, 1) := by decide +kernel
theorem dX7_renew_48 : decode cX7_renew 48 = .ok (.iload 6, 2) := by decide +kernel
theorem dX7_renew_50 : decode cX7_renew 50 = .ok (.invokestatic 58, 3) := by decide +kernel
theorem dX7_renew_53 : decode cX7_renew 53 = .ok (.iload 6, 2) := by decide +kernel
theorem dX7_renew_55 : decode cX7_renew 55 = .ok (.if_icmp .ne 7, 3) := by decide +kernel
theorem dX7_renew_58 : decode cX7_renew 58 = .ok (.iconst 1, 1) := by decide +kernel
theorem dX7_renew_59 : decode cX7_renew 59 = .ok (.goto 4, 3) := by decide +kernel
theorem dX7_renew_62 : decode cX7_renew 62 = .ok (.iconst 0, 1) := by decide +kernel
theorem dX7_renew_63 : decode cX7_renew 63 = .ok (.istore 7, 2) := by decide +kernel
theorem dX7_renew_65 : decode cX7_renew 65 = .ok (.aload_n 0, 1) := by decide +kernel
theorem dX7_renew_66 : decode cX7_renew 66 = .ok (.getfield 26, 3) := by decide +kernel
theorem dX7_renew_69 : decode cX7_renew 69 = .ok (.iload 5, 2) := by decide +kernel
theorem dX7_renew_71 : decode cX7_renew 71 = .ok (.iload 7, 2) := by decide +kernel
theorem dX7_renew_73 : decode cX7_renew 73 = .ok (.ifCond .eq 17, 3) := by decide +kernel
theorem dX7_renew_76 : decode cX7_renew 76 = .ok (.aload_n 0, 1) := by decide +kernel
theorem dX7_renew_77 : decode cX7_renew 77 = .ok (.getfield 26, 3) := by decide +kernel
theorem dX7_renew_80 : decode cX7_renew 80 = .ok (.iload 5, 2) := by decide +kernel
theorem dX7_renew_82 : decode cX7_renew 82 = .ok (.iaload, 1) := by decide +kernel
theorem dX7_renew_83 : decode cX7_renew 83 = .ok (.iload_n 3, 1) := by decide +kernel
theorem dX7_renew_84 : decode cX7_renew 84 = .ok (.iconst (-1), 1) := by decide +kernel
theorem dX7_renew_85 : decode cX7_renew 85 = .ok (.ixor, 1) := by decide +kernel
theorem dX7_renew_86 : decode cX7_renew 86 = .ok (.iand, 1) := by decide +kernel
theorem dX7_renew_87 : decode cX7_renew 87 = .ok (.goto 12, 3) := by decide +kernel
theorem dX7_renew_90 : decode cX7_renew 90 = .ok (.aload_n 0, 1) := by decide +kernel
theorem dX7_renew_91 : decode cX7_renew 91 = .ok (.getfield 26, 3) := by decide +kernel
theorem dX7_renew_94 : decode cX7_renew 94 = .ok (.iload 5, 2) := by decide +kernel
theorem dX7_renew_96 : decode cX7_renew 96 = .ok (.iaload, 1) := by decide +kernel
theorem dX7_renew_97 : decode cX7_renew 97 = .ok (.iload_n 3, 1) := by decide +kernel
theorem dX7_renew_98 : decode cX7_renew 98 = .ok (.ior, 1) := by decide +kernel
theorem dX7_renew_99 : decode cX7_renew 99 = .ok (.iastore, 1) := by decide +kernel
theorem dX7_renew_100 : decode cX7_renew 100 = .ok (.iinc 5 1, 3) := by decide +kernel
theorem dX7_renew_103 : decode cX7_renew 103 = .ok (.goto (-78), 3) := by decide +kernel
theorem dX7_renew_106 : decode cX7_renew 106 = .ok (.return_, 1) := by decide +kernel
theorem dX7_fillSums_0 : decode cX7_fillSums 0 = .ok (.aload_n 0, 1) := by decide +kernel
theorem dX7_fillSums_1 : decode cX7_fillSums 1 = .ok (.getfield 11, 3) := by decide +kernel
theorem dX7_fillSums_4 : decode cX7_fillSums 4 = .ok (.iload_n 1, 1) := by decide +kernel
theorem dX7_fillSums_5 : decode cX7_fillSums 5 = .ok (.aaload, 1) := by decide +kernel
theorem dX7_fillSums_6 : decode cX7_fillSums 6 = .ok (.astore_n 2, 1) := by decide +kernel
theorem dX7_fillSums_7 : decode cX7_fillSums 7 = .ok (.aload_n 0, 1) := by decide +kernel
theorem dX7_fillSums_8 : decode cX7_fillSums 8 = .ok (.getfield 20, 3) := by decide +kernel
theorem dX7_fillSums_11 : decode cX7_fillSums 11 = .ok (.iload_n 1, 1) := by decide +kernel
theorem dX7_fillSums_12 : decode cX7_fillSums 12 = .ok (.iaload, 1) := by decide +kernel
theorem dX7_fillSums_13 : decode cX7_fillSums 13 = .ok (.istore_n 3, 1) := by decide +kernel
theorem dX7_fillSums_14 : decode cX7_fillSums 14 = .ok (.iconst 0, 1) := by decide +kernel
theorem dX7_fillSums_15 : decode cX7_fillSums 15 = .ok (.istore 4, 2) := by decide +kernel
theorem dX7_fillSums_17 : decode cX7_fillSums 17 = .ok (.iload 4, 2) := by decide +kernel
theorem dX7_fillSums_19 : decode cX7_fillSums 19 = .ok (.aload_n 0, 1) := by decide +kernel
theorem dX7_fillSums_20 : decode cX7_fillSums 20 = .ok (.getfield 29, 3) := by decide +kernel
theorem dX7_fillSums_23 : decode cX7_fillSums 23 = .ok (.if_icmp .ge 16, 3) := by decide +kernel
theorem dX7_fillSums_26 : decode cX7_fillSums 26 = .ok (.iload_n 3, 1) := by decide +kernel
theorem dX7_fillSums_27 : decode cX7_fillSums 27 = .ok (.aload_n 2, 1) := by decide +kernel
theorem dX7_fillSums_28 : decode cX7_fillSums 28 = .ok (.iload 4, 2) := by decide +kernel
theorem dX7_fillSums_30 : decode cX7_fillSums 30 = .ok (.iaload, 1) := by decide +kernel
theorem dX7_fillSums_31 : decode cX7_fillSums 31 = .ok (.isub, 1) := by decide +kernel
theorem dX7_fillSums_32 : decode cX7_fillSums 32 = .ok (.istore_n 3, 1) := by decide +kernel
theorem dX7_fillSums_33 : decode cX7_fillSums 33 = .ok (.iinc 4 1, 3) := by decide +kernel
theorem dX7_fillSums_36 : decode cX7_fillSums 36 = .ok (.goto (-19), 3) := by decide +kernel
theorem dX7_fillSums_39 : decode cX7_fillSums 39 = .ok (.aload_n 0, 1) := by decide +kernel
theorem dX7_fillSums_40 : decode cX7_fillSums 40 = .ok (.getfield 23, 3) := by decide +kernel
theorem dX7_fillSums_43 : decode cX7_fillSums 43 = .ok (.iconst 0, 1) := by decide +kernel
theorem dX7_fillSums_44 : decode cX7_fillSums 44 = .ok (.iload_n 3, 1) := by decide +kernel
theorem dX7_fillSums_45 : decode cX7_fillSums 45 = .ok (.iastore, 1) := by decide +kernel
theorem dX7_fillSums_46 : decode cX7_fillSums 46 = .ok (.iconst 0, 1) := by decide +kernel
theorem dX7_fillSums_47 : decode cX7_fillSums 47 = .ok (.istore 4, 2) := by decide +kernel
theorem dX7_fillSums_49 : decode cX7_fillSums 49 = .ok (.iload 4, 2) := by decide +kernel
theorem dX7_fillSums_51 : decode cX7_fillSums 51 = .ok (.aload_n 0, 1) := by decide +kernel
theorem dX7_fillSums_52 : decode cX7_fillSums 52 = .ok (.getfield 29, 3) := by decide +kernel
theorem dX7_fillSums_55 : decode cX7_fillSums 55 = .ok (.if_icmp .ge 59, 3) := by decide +kernel
theorem dX7_fillSums_58 : decode cX7_fillSums 58 = .ok (.iconst 1, 1) := by decide +kernel
theorem dX7_fillSums_59 : decode cX7_fillSums 59 = .ok (.iload 4, 2) := by decide +kernel
theorem dX7_fillSums_61 : decode cX7_fillSums 61 = .ok (.ishl, 1) := by decide +kernel
theorem dX7_fillSums_62 : decode cX7_fillSums 62 = .ok (.istore 5, 2) := by decide +kernel
theorem dX7_fillSums_64 : decode cX7_fillSums 64 = .ok (.iconst 2, 1) := by decide +kernel
theorem dX7_fillSums_65 : decode cX7_fillSums 65 = .ok (.aload_n 2, 1) := by decide +kernel
theorem dX7_fillSums_66 : decode cX7_fillSums 66 = .ok (.iload 4, 2) := by decide +kernel
theorem dX7_fillSums_68 : decode cX7_fillSums 68 = .ok (.iaload, 1) := by decide +kernel
theorem dX7_fillSums_69 : decode cX7_fillSums 69 = .ok (.imul, 1) := by decide +kernel
theorem dX7_fillSums_70 : decode cX7_fillSums 70 = .ok (.istore 6, 2) := by decide +kernel
theorem dX7_fillSums_72 : decode cX7_fillSums 72 = .ok (.iconst 0, 1) := by decide +kernel
theorem dX7_fillSums_73 : decode cX7_fillSums 73 = .ok (.istore 7, 2) := by decide +kernel
theorem dX7_fillSums_75 : decode cX7_fillSums 75 = .ok (.iload 7, 2) := by decide +kernel
theorem dX7_fillSums_77 : decode cX7_fillSums 77 = .ok (.iload 5, 2) := by decide +kernel
theorem dX7_fillSums_79 : decode cX7_fillSums 79 = .ok (.if_icmp .ge 29, 3) := by decide +kernel
theorem dX7_fillSums_82 : decode cX7_fillSums 82 = .ok (.aload_n 0, 1) := by decide +kernel
theorem dX7_fillSums_83 : decode cX7_fillSums 83 = .ok (.getfield 23, 3) := by decide +kernel
theorem dX7_fillSums_86 : decode cX7_fillSums 86 = .ok (.iload 7, 2) := by decide +kernel
theorem dX7_fillSums_88 : decode cX7_fillSums 88 = .ok (.iload 5, 2) := by decide +kernel
theorem dX7_fillSums_90 : decode cX7_fillSums 90 = .ok (.iadd, 1) := by decide +kernel
theorem dX7_fillSums_91 : decode cX7_fillSums 91 = .ok (.aload_n 0, 1) := by decide +kernel
theorem dX7_fillSums_92 : decode cX7_fillSums 92 = .ok (.getfield 23, 3) := by decide +kernel
theorem dX7_fillSums_95 : decode cX7_fillSums 95 = .ok (.iload 7, 2) := by decide +kernel
theorem dX7_fillSums_97 : decode cX7_fillSums 97 = .ok (.iaload, 1) := by decide +kernel
theorem dX7_fillSums_98 : decode cX7_fillSums 98 = .ok (.iload 6, 2) := by decide +kernel
theorem dX7_fillSums_100 : decode cX7_fillSums 100 = .ok (.iadd, 1) := by decide +kernel
theorem dX7_fillSums_101 : decode cX7_fillSums 101 = .ok (.iastore, 1) := by decide +kernel
theorem dX7_fillSums_102 : decode cX7_fillSums 102 = .ok (.iinc 7 1, 3) := by decide +kernel
theorem dX7_fillSums_105 : decode cX7_fillSums 105 = .ok (.goto (-30), 3) := by decide +kernel
theorem dX7_fillSums_108 : decode cX7_fillSums 108 = .ok (.iinc 4 1, 3) := by decide +kernel
theorem dX7_fillSums_111 : decode cX7_fillSums 111 = .ok (.goto (-62), 3) := by decide +kernel
theorem dX7_fillSums_114 : decode cX7_fillSums 114 = .ok (.return_, 1) := by decide +kernel
theorem dX8_stepsBy_0 : decode cX8_stepsBy 0 = .ok (.aload_n 0, 1) := by decide +kernel
theorem dX8_stepsBy_1 : decode cX8_stepsBy 1 = .ok (.getfield 24, 3) := by decide +kernel
theorem dX8_stepsBy_4 : decode cX8_stepsBy 4 = .ok (.iload_n 1, 1) := by decide +kernel
theorem dX8_stepsBy_5 : decode cX8_stepsBy 5 = .ok (.if_icmp .ne 17, 3) := by decide +kernel
theorem dX8_stepsBy_8 : decode cX8_stepsBy 8 = .ok (.aload_n 0, 1) := by decide +kernel
theorem dX8_stepsBy_9 : decode cX8_stepsBy 9 = .ok (.getfield 28, 3) := by decide +kernel
theorem dX8_stepsBy_12 : decode cX8_stepsBy 12 = .ok (.aload_n 0, 1) := by decide +kernel
theorem dX8_stepsBy_13 : decode cX8_stepsBy 13 = .ok (.getfield 37, 3) := by decide +kernel
theorem dX8_stepsBy_16 : decode cX8_stepsBy 16 = .ok (.invokevirtual 41, 3) := by decide +kernel
theorem dX8_stepsBy_19 : decode cX8_stepsBy 19 = .ok (.if_icmp .eq 78, 3) := by decide +kernel
theorem dX8_stepsBy_22 : decode cX8_stepsBy 22 = .ok (.aload_n 0, 1) := by decide +kernel
theorem dX8_stepsBy_23 : decode cX8_stepsBy 23 = .ok (.getfield 37, 3) := by decide +kernel
theorem dX8_stepsBy_26 : decode cX8_stepsBy 26 = .ok (.invokevirtual 47, 3) := by decide +kernel
theorem dX8_stepsBy_29 : decode cX8_stepsBy 29 = .ok (.astore_n 2, 1) := by decide +kernel
theorem dX8_stepsBy_30 : decode cX8_stepsBy 30 = .ok (.aload_n 0, 1) := by decide +kernel
theorem dX8_stepsBy_31 : decode cX8_stepsBy 31 = .ok (.getfield 37, 3) := by decide +kernel
theorem dX8_stepsBy_34 : decode cX8_stepsBy 34 = .ok (.invokevirtual 51, 3) := by decide +kernel
theorem dX8_stepsBy_37 : decode cX8_stepsBy 37 = .ok (.istore_n 3, 1) := by decide +kernel
theorem dX8_stepsBy_38 : decode cX8_stepsBy 38 = .ok (.iconst 0, 1) := by decide +kernel
theorem dX8_stepsBy_39 : decode cX8_stepsBy 39 = .ok (.istore 4, 2) := by decide +kernel
theorem dX8_stepsBy_41 : decode cX8_stepsBy 41 = .ok (.iload 4, 2) := by decide +kernel
theorem dX8_stepsBy_43 : decode cX8_stepsBy 43 = .ok (.iload_n 3, 1) := by decide +kernel
theorem dX8_stepsBy_44 : decode cX8_stepsBy 44 = .ok (.if_icmp .ge 37, 3) := by decide +kernel
theorem dX8_stepsBy_47 : decode cX8_stepsBy 47 = .ok (.aload_n 0, 1) := by decide +kernel
theorem dX8_stepsBy_48 : decode cX8_stepsBy 48 = .ok (.getfield 9, 3) := by decide +kernel
theorem dX8_stepsBy_51 : decode cX8_stepsBy 51 = .ok (.iload 4, 2) := by decide +kernel
theorem dX8_stepsBy_53 : decode cX8_stepsBy 53 = .ok (.iload_n 1, 1) := by decide +kernel
theorem dX8_stepsBy_54 : decode cX8_stepsBy 54 = .ok (.ifCond .ne 13, 3) := by decide +kernel
theorem dX8_stepsBy_57 : decode cX8_stepsBy 57 = .ok (.iload 4, 2) := by decide +kernel
theorem dX8_stepsBy_59 : decode cX8_stepsBy 59 = .ok (.aload_n 2, 1) := by decide +kernel
theorem dX8_stepsBy_60 : decode cX8_stepsBy 60 = .ok (.iload 4, 2) := by decide +kernel
theorem dX8_stepsBy_62 : decode cX8_stepsBy 62 = .ok (.iaload, 1) := by decide +kernel
theorem dX8_stepsBy_63 : decode cX8_stepsBy 63 = .ok (.ixor, 1) := by decide +kernel
theorem dX8_stepsBy_64 : decode cX8_stepsBy 64 = .ok (.goto 10, 3) := by decide +kernel
theorem dX8_stepsBy_67 : decode cX8_stepsBy 67 = .ok (.aload_n 0, 1) := by decide +kernel
theorem dX8_stepsBy_68 : decode cX8_stepsBy 68 = .ok (.aload_n 2, 1) := by decide +kernel
theorem dX8_stepsBy_69 : decode cX8_stepsBy 69 = .ok (.iload 4, 2) := by decide +kernel
theorem dX8_stepsBy_71 : decode cX8_stepsBy 71 = .ok (.invokevirtual 54, 3) := by decide +kernel
theorem dX8_stepsBy_74 : decode cX8_stepsBy 74 = .ok (.iastore, 1) := by decide +kernel
theorem dX8_stepsBy_75 : decode cX8_stepsBy 75 = .ok (.iinc 4 1, 3) := by decide +kernel
theorem dX8_stepsBy_78 : decode cX8_stepsBy 78 = .ok (.goto (-37), 3) := by decide +kernel
theorem dX8_stepsBy_81 : decode cX8_stepsBy 81 = .ok (.aload_n 0, 1) := by decide +kernel
theorem dX8_stepsBy_82 : decode cX8_stepsBy 82 = .ok (.iload_n 1, 1) := by decide +kernel
theorem dX8_stepsBy_83 : decode cX8_stepsBy 83 = .ok (.putfield 24, 3) := by decide +kernel
theorem dX8_stepsBy_86 : decode cX8_stepsBy 86 = .ok (.aload_n 0, 1) := by decide +kernel
theorem dX8_stepsBy_87 : decode cX8_stepsBy 87 = .ok (.aload_n 0, 1) := by decide +kernel
theorem dX8_stepsBy_88 : decode cX8_stepsBy 88 = .ok (.getfield 37, 3) := by decide +kernel
theorem dX8_stepsBy_91 : decode cX8_stepsBy 91 = .ok (.invokevirtual 41, 3) := by decide +kernel
theorem dX8_stepsBy_94 : decode cX8_stepsBy 94 = .ok (.putfield 28, 3) := by decide +kernel
theorem dX8_stepsBy_97 : decode cX8_stepsBy 97 = .ok (.aload_n 0, 1) := by decide +kernel
theorem dX8_stepsBy_98 : decode cX8_stepsBy 98 = .ok (.getfield 9, 3) := by decide +kernel
theorem dX8_stepsBy_101 : decode cX8_stepsBy 101 = .ok (.areturn, 1) := by decide +kernel
theorem dX8_oneByOne_0 : decode cX8_oneByOne 0 = .ok (.aload_n 0, 1) := by decide +kernel
theorem dX8_oneByOne_1 : decode cX8_oneByOne 1 = .ok (.getfield 37, 3) := by decide +kernel
theorem dX8_oneByOne_4 : decode cX8_oneByOne 4 = .ok (.invokevirtual 58, 3) := by decide +kernel
theorem dX8_oneByOne_7 : decode cX8_oneByOne 7 = .ok (.istore_n 3, 1) := by decide +kernel
theorem dX8_oneByOne_8 : decode cX8_oneByOne 8 = .ok (.iload_n 2, 1) := by decide +kernel
theorem dX8_oneByOne_9 : decode cX8_oneByOne 9 = .ok (.istore 4, 2) := by decide +kernel
theorem dX8_oneByOne_11 : decode cX8_oneByOne 11 = .ok (.iconst 0, 1) := by decide +kernel
theorem dX8_oneByOne_12 : decode cX8_oneByOne 12 = .ok (.istore 5, 2) := by decide +kernel
theorem dX8_oneByOne_14 : decode cX8_oneByOne 14 = .ok (.iload 5, 2) := by decide +kernel
theorem dX8_oneByOne_16 : decode cX8_oneByOne 16 = .ok (.iload_n 3, 1) := by decide +kernel
theorem dX8_oneByOne_17 : decode cX8_oneByOne 17 = .ok (.if_icmp .ge 23, 3) := by decide +kernel
theorem dX8_oneByOne_20 : decode cX8_oneByOne 20 = .ok (.iload 4, 2) := by decide +kernel
theorem dX8_oneByOne_22 : decode cX8_oneByOne 22 = .ok (.aload_n 1, 1) := by decide +kernel
theorem dX8_oneByOne_23 : decode cX8_oneByOne 23 = .ok (.iload 4, 2) := by decide +kernel
theorem dX8_oneByOne_25 : decode cX8_oneByOne 25 = .ok (.iaload, 1) := by decide +kernel
theorem dX8_oneByOne_26 : decode cX8_oneByOne 26 = .ok (.iconst 1, 1) := by decide +kernel
theorem dX8_oneByOne_27 : decode cX8_oneByOne 27 = .ok (.iload 5, 2) := by decide +kernel
theorem dX8_oneByOne_29 : decode cX8_oneByOne 29 = .ok (.ishl, 1) := by decide +kernel
theorem dX8_oneByOne_30 : decode cX8_oneByOne 30 = .ok (.iand, 1) := by decide +kernel
theorem dX8_oneByOne_31 : decode cX8_oneByOne 31 = .ok (.ixor, 1) := by decide +kernel
theorem dX8_oneByOne_32 : decode cX8_oneByOne 32 = .ok (.istore 4, 2) := by decide +kernel
theorem dX8_oneByOne_34 : decode cX8_oneByOne 34 = .ok (.iinc 5 1, 3) := by decide +kernel
theorem dX8_oneByOne_37 : decode cX8_oneByOne 37 = .ok (.goto (-23), 3) := by decide +kernel
theorem dX8_oneByOne_40 : decode cX8_oneByOne 40 = .ok (.iload 4, 2) := by decide +kernel
theorem dX8_oneByOne_42 : decode cX8_oneByOne 42 = .ok (.ireturn, 1) := by decide +kernel
theorem dX8_behind_0 : decode cX8_behind 0 = .ok (.aload_n 0, 1) := by decide +kernel
theorem dX8_behind_1 : decode cX8_behind 1 = .ok (.iload_n 2, 1) := by decide +kernel
theorem dX8_behind_2 : decode cX8_behind 2 = .ok (.invokevirtual 61, 3) := by decide +kernel
theorem dX8_behind_5 : decode cX8_behind 5 = .ok (.pop, 1) := by decide +kernel
theorem dX8_behind_6 : decode cX8_behind 6 = .ok (.iload_n 1, 1) := by decide +kernel
theorem dX8_behind_7 : decode cX8_behind 7 = .ok (.istore 4, 2) := by decide +kernel
theorem dX8_behind_9 : decode cX8_behind 9 = .ok (.iconst 0, 1) := by decide +kernel
theorem dX8_behind_10 : decode cX8_behind 10 = .ok (.istore 5, 2) := by decide +kernel
theorem dX8_behind_12 : decode cX8_behind 12 = .ok (.iload 5, 2) := by decide +kernel
theorem dX8_behind_14 : decode cX8_behind 14 = .ok (.iload_n 3, 1) := by decide +kernel
theorem dX8_behind_15 : decode cX8_behind 15 = .ok (.if_icmp .ge 18, 3) := by decide +kernel
theorem dX8_behind_18 : decode cX8_behind 18 = .ok (.aload_n 0, 1) := by decide +kernel
theorem dX8_behind_19 : decode cX8_behind 19 = .ok (.getfield 9, 3) := by decide +kernel
theorem dX8_behind_22 : decode cX8_behind 22 = .ok (.iload 4, 2) := by decide +kernel
theorem dX8_behind_24 : decode cX8_behind 24 = .ok (.iaload, 1) := by decide +kernel
theorem dX8_behind_25 : decode cX8_behind 25 = .ok (.istore 4, 2) := by decide +kernel
theorem dX8_behind_27 : decode cX8_behind 27 = .ok (.iinc 5 1, 3) := by decide +kernel
theorem dX8_behind_30 : decode cX8_behind 30 = .ok (.goto (-18), 3) := by decide +kernel
theorem dX8_behind_33 : decode cX8_behind 33 = .ok (.iload 4, 2) := by decide +kernel
theorem dX8_behind_35 : decode cX8_behind 35 = .ok (.ireturn, 1) := by decide +kernel
theorem dX8_stepsToRing_0 : decode cX8_stepsToRing 0 = .ok (.aload_n 0, 1) := by decide +kernel
theorem dX8_stepsToRing_1 : decode cX8_stepsToRing 1 = .ok (.iload_n 2, 1) := by decide +kernel
theorem dX8_stepsToRing_2 : decode cX8_stepsToRing 2 = .ok (.invokevirtual 65, 3) := by decide +kernel
theorem dX8_stepsToRing_5 : decode cX8_stepsToRing 5 = .ok (.aload_n 0, 1) := by decide +kernel
theorem dX8_stepsToRing_6 : decode cX8_stepsToRing 6 = .ok (.getfield 18, 3) := by decide +kernel
theorem dX8_stepsToRing_9 : decode cX8_stepsToRing 9 = .ok (.iload_n 1, 1) := by decide +kernel
theorem dX8_stepsToRing_10 : decode cX8_stepsToRing 10 = .ok (.iaload, 1) := by decide +kernel
theorem dX8_stepsToRing_11 : decode cX8_stepsToRing 11 = .ok (.ireturn, 1) := by decide +kernel
theorem dX8_entered_0 : decode cX8_entered 0 = .ok (.aload_n 0, 1) := by decide +kernel
theorem dX8_entered_1 : decode cX8_entered 1 = .ok (.iload_n 2, 1) := by decide +kernel
theorem dX8_entered_2 : decode cX8_entered 2 = .ok (.invokevirtual 65, 3) := by decide +kernel
theorem dX8_entered_5 : decode cX8_entered 5 = .ok (.iload_n 1, 1) := by decide +kernel
theorem dX8_entered_6 : decode cX8_entered 6 = .ok (.istore_n 3, 1) := by decide +kernel
theorem dX8_entered_7 : decode cX8_entered 7 = .ok (.iconst 0, 1) := by decide +kernel
theorem dX8_entered_8 : decode cX8_entered 8 = .ok (.istore 4, 2) := by decide +kernel
theorem dX8_entered_10 : decode cX8_entered 10 = .ok (.iload 4, 2) := by decide +kernel
theorem dX8_entered_12 : decode cX8_entered 12 = .ok (.aload_n 0, 1) := by decide +kernel
theorem dX8_entered_13 : decode cX8_entered 13 = .ok (.getfield 18, 3) := by decide +kernel
theorem dX8_entered_16 : decode cX8_entered 16 = .ok (.iload_n 1, 1) := by decide +kernel
theorem dX8_entered_17 : decode cX8_entered 17 = .ok (.iaload, 1) := by decide +kernel
theorem dX8_entered_18 : decode cX8_entered 18 = .ok (.if_icmp .ge 16, 3) := by decide +kernel
theorem dX8_entered_21 : decode cX8_entered 21 = .ok (.aload_n 0, 1) := by decide +kernel
theorem dX8_entered_22 : decode cX8_entered 22 = .ok (.getfield 9, 3) := by decide +kernel
theorem dX8_entered_25 : decode cX8_entered 25 = .ok (.iload_n 3, 1) := by decide +kernel
theorem dX8_entered_26 : decode cX8_entered 26 = .ok (.iaload, 1) := by decide +kernel
theorem dX8_entered_27 : decode cX8_entered 27 = .ok (.istore_n 3, 1) := by decide +kernel
theorem dX8_entered_28 : decode cX8_entered 28 = .ok (.iinc 4 1, 3) := by decide +kernel
theorem dX8_entered_31 : decode cX8_entered 31 = .ok (.goto (-21), 3) := by decide +kernel
theorem dX8_entered_34 : decode cX8_entered 34 = .ok (.iload_n 3, 1) := by decide +kernel
theorem dX8_entered_35 : decode cX8_entered 35 = .ok (.ireturn, 1) := by decide +kernel
theorem dX8_ringCount_0 : decode cX8_ringCount 0 = .ok (.aload_n 0, 1) := by decide +kernel
theorem dX8_ringCount_1 : decode cX8_ringCount 1 = .ok (.iload_n 1, 1) := by decide +kernel
theorem dX8_ringCount_2 : decode cX8_ringCount 2 = .ok (.invokevirtual 65, 3) := by decide +kernel
theorem dX8_ringCount_5 : decode cX8_ringCount 5 = .ok (.aload_n 0, 1) := by decide +kernel
theorem dX8_ringCount_6 : decode cX8_ringCount 6 = .ok (.getfield 37, 3) := by decide +kernel
theorem dX8_ringCount_9 : decode cX8_ringCount 9 = .ok (.invokevirtual 51, 3) := by decide +kernel
theorem dX8_ringCount_12 : decode cX8_ringCount 12 = .ok (.istore_n 2, 1) := by decide +kernel
theorem dX8_ringCount_13 : decode cX8_ringCount 13 = .ok (.iconst 0, 1) := by decide +kernel
theorem dX8_ringCount_14 : decode cX8_ringCount 14 = .ok (.istore_n 3, 1) := by decide +kernel
theorem dX8_ringCount_15 : decode cX8_ringCount 15 = .ok (.iconst 0, 1) := by decide +kernel
theorem dX8_ringCount_16 : decode cX8_ringCount 16 = .ok (.istore 4, 2) := by decide +kernel
theorem dX8_ringCount_18 : decode cX8_ringCount 18 = .ok (.iload 4, 2) := by decide +kernel
theorem dX8_ringCount_20 : decode cX8_ringCount 20 = .ok (.iload_n 2, 1) := by decide +kernel
theorem dX8_ringCount_21 : decode cX8_ringCount 21 = .ok (.if_icmp .ge 24, 3) := by decide +kernel
theorem dX8_ringCount_24 : decode cX8_ringCount 24 = .ok (.aload_n 0, 1) := by decide +kernel
theorem dX8_ringCount_25 : decode cX8_ringCount 25 = .ok (.getfield 15, 3) := by decide +kernel
theorem dX8_ringCount_28 : decode cX8_ringCount 28 = .ok (.iload 4, 2) := by decide +kernel
theorem dX8_ringCount_30 : decode cX8_ringCount 30 = .ok (.iaload, 1) := by decide +kernel
theorem dX8_ringCount_31 : decode cX8_ringCount 31 = .ok (.iload 4, 2) := by decide +kernel
theorem dX8_ringCount_33 : decode cX8_ringCount 33 = .ok (.if_icmp .ne 6, 3) := by decide +kernel
theorem dX8_ringCount_36 : decode cX8_ringCount 36 = .ok (.iinc 3 1, 3) := by decide +kernel
theorem dX8_ringCount_39 : decode cX8_ringCount 39 = .ok (.iinc 4 1, 3) := by decide +kernel
theorem dX8_ringCount_42 : decode cX8_ringCount 42 = .ok (.goto (-24), 3) := by decide +kernel
theorem dX8_ringCount_45 : decode cX8_ringCount 45 = .ok (.iload_n 3, 1) := by decide +kernel
theorem dX8_ringCount_46 : decode cX8_ringCount 46 = .ok (.ireturn, 1) := by decide +kernel
theorem dX8_leastOfRing_0 : decode cX8_leastOfRing 0 = .ok (.aload_n 0, 1) := by decide +kernel
theorem dX8_leastOfRing_1 : decode cX8_leastOfRing 1 = .ok (.iload_n 1, 1) := by decide +kernel
theorem dX8_leastOfRing_2 : decode cX8_leastOfRing 2 = .ok (.invokevirtual 65, 3) := by decide +kernel
theorem dX8_leastOfRing_5 : decode cX8_leastOfRing 5 = .ok (.aload_n 0, 1) := by decide +kernel
theorem dX8_leastOfRing_6 : decode cX8_leastOfRing 6 = .ok (.getfield 37, 3) := by decide +kernel
theorem dX8_leastOfRing_9 : decode cX8_leastOfRing 9 = .ok (.invokevirtual 51, 3) := by decide +kernel
theorem dX8_leastOfRing_12 : decode cX8_leastOfRing 12 = .ok (.istore_n 3, 1) := by decide +kernel
theorem dX8_leastOfRing_13 : decode cX8_leastOfRing 13 = .ok (.iload_n 2, 1) := by decide +kernel
theorem dX8_leastOfRing_14 : decode cX8_leastOfRing 14 = .ok (.istore 4, 2) := by decide +kernel
theorem dX8_leastOfRing_16 : decode cX8_leastOfRing 16 = .ok (.iconst 0, 1) := by decide +kernel
theorem dX8_leastOfRing_17 : decode cX8_leastOfRing 17 = .ok (.istore 5, 2) := by decide +kernel
theorem dX8_leastOfRing_19 : decode cX8_leastOfRing 19 = .ok (.iload 5, 2) := by decide +kernel
theorem dX8_leastOfRing_21 : decode cX8_leastOfRing 21 = .ok (.iload_n 3, 1) := by decide +kernel
theorem dX8_leastOfRing_22 : decode cX8_leastOfRing 22 = .ok (.if_icmp .ge 37, 3) := by decide +kernel
theorem dX8_leastOfRing_25 : decode cX8_leastOfRing 25 = .ok (.iload 4, 2) := by decide +kernel
theorem dX8_leastOfRing_27 : decode cX8_leastOfRing 27 = .ok (.ifCond .lt 32, 3) := by decide +kernel
theorem dX8_leastOfRing_30 : decode cX8_leastOfRing 30 = .ok (.aload_n 0, 1) := by decide +kernel
theorem dX8_leastOfRing_31 : decode cX8_leastOfRing 31 = .ok (.getfield 15, 3) := by decide +kernel
theorem dX8_leastOfRing_34 : decode cX8_leastOfRing 34 = .ok (.iload 5, 2) := by decide +kernel
theorem dX8_leastOfRing_36 : decode cX8_leastOfRing 36 = .ok (.iaload, 1) := by decide +kernel
theorem dX8_leastOfRing_37 : decode cX8_leastOfRing 37 = .ok (.iload 5, 2) := by decide +kernel
theorem dX8_leastOfRing_39 : decode cX8_leastOfRing 39 = .ok (.if_icmp .ne 14, 3) := by decide +kernel
theorem dX8_leastOfRing_42 : decode cX8_leastOfRing 42 = .ok (.iload 4, 2) := by decide +kernel
theorem dX8_leastOfRing_44 : decode cX8_leastOfRing 44 = .ok (.ifCond .ne 6, 3) := by decide +kernel
theorem dX8_leastOfRing_47 : decode cX8_leastOfRing 47 = .ok (.iload 5, 2) := by decide +kernel
theorem dX8_leastOfRing_49 : decode cX8_leastOfRing 49 = .ok (.ireturn, 1) := by decide +kernel
theorem dX8_leastOfRing_50 : decode cX8_leastOfRing 50 = .ok (.iinc 4 (-1), 3) := by decide +kernel
theorem dX8_leastOfRing_53 : decode cX8_leastOfRing 53 = .ok (.iinc 5 1, 3) := by decide +kernel
theorem dX8_leastOfRing_56 : decode cX8_leastOfRing 56 = .ok (.goto (-37), 3) := by decide +kernel
theorem dX8_leastOfRing_59 : decode cX8_leastOfRing 59 = .ok (.iconst (-1), 1) := by decide +kernel
theorem dX8_leastOfRing_60 : decode cX8_leastOfRing 60 = .ok (.ireturn, 1) := by decide +kernel
theorem dX8_lengthOf_0 : decode cX8_lengthOf 0 = .ok (.aload_n 0, 1) := by decide +kernel
theorem dX8_lengthOf_1 : decode cX8_lengthOf 1 = .ok (.iload_n 1, 1) := by decide +kernel
theorem dX8_lengthOf_2 : decode cX8_lengthOf 2 = .ok (.invokevirtual 61, 3) := by decide +kernel
theorem dX8_lengthOf_5 : decode cX8_lengthOf 5 = .ok (.pop, 1) := by decide +kernel
theorem dX8_lengthOf_6 : decode cX8_lengthOf 6 = .ok (.iconst 1, 1) := by decide +kernel
theorem dX8_lengthOf_7 : decode cX8_lengthOf 7 = .ok (.istore_n 3, 1) := by decide +kernel
theorem dX8_lengthOf_8 : decode cX8_lengthOf 8 = .ok (.aload_n 0, 1) := by decide +kernel
theorem dX8_lengthOf_9 : decode cX8_lengthOf 9 = .ok (.getfield 9, 3) := by decide +kernel
theorem dX8_lengthOf_12 : decode cX8_lengthOf 12 = .ok (.iload_n 2, 1) := by decide +kernel
theorem dX8_lengthOf_13 : decode cX8_lengthOf 13 = .ok (.iaload, 1) := by decide +kernel
theorem dX8_lengthOf_14 : decode cX8_lengthOf 14 = .ok (.istore 4, 2) := by decide +kernel
theorem dX8_lengthOf_16 : decode cX8_lengthOf 16 = .ok (.iload 4, 2) := by decide +kernel
theorem dX8_lengthOf_18 : decode cX8_lengthOf 18 = .ok (.iload_n 2, 1) := by decide +kernel
theorem dX8_lengthOf_19 : decode cX8_lengthOf 19 = .ok (.if_icmp .eq 25, 3) := by decide +kernel
theorem dX8_lengthOf_22 : decode cX8_lengthOf 22 = .ok (.iload_n 3, 1) := by decide +kernel
theorem dX8_lengthOf_23 : decode cX8_lengthOf 23 = .ok (.sipush 1024, 3) := by decide +kernel
theorem dX8_lengthOf_26 : decode cX8_lengthOf 26 = .ok (.if_icmp .ge 18, 3) := by decide +kernel
theorem dX8_lengthOf_29 : decode cX8_lengthOf 29 = .ok (.aload_n 0, 1) := by decide +kernel
theorem dX8_lengthOf_30 : decode cX8_lengthOf 30 = .ok (.getfield 9, 3) := by decide +kernel
theorem dX8_lengthOf_33 : decode cX8_lengthOf 33 = .ok (.iload 4, 2) := by decide +kernel
theorem dX8_lengthOf_35 : decode cX8_lengthOf 35 = .ok (.iaload, 1) := by decide +kernel
theorem dX8_lengthOf_36 : decode cX8_lengthOf 36 = .ok (.istore 4, 2) := by decide +kernel
theorem dX8_lengthOf_38 : decode cX8_lengthOf 38 = .ok (.iinc 3 1, 3) := by decide +kernel
theorem dX8_lengthOf_41 : decode cX8_lengthOf 41 = .ok (.goto (-25), 3) := by decide +kernel
theorem dX8_lengthOf_44 : decode cX8_lengthOf 44 = .ok (.iload_n 3, 1) := by decide +kernel
theorem dX8_lengthOf_45 : decode cX8_lengthOf 45 = .ok (.ireturn, 1) := by decide +kernel
theorem dX8_drawnTo_0 : decode cX8_drawnTo 0 = .ok (.aload_n 0, 1) := by decide +kernel
theorem dX8_drawnTo_1 : decode cX8_drawnTo 1 = .ok (.iload_n 1, 1) := by decide +kernel
theorem dX8_drawnTo_2 : decode cX8_drawnTo 2 = .ok (.invokevirtual 65, 3) := by decide +kernel
theorem dX8_drawnTo_5 : decode cX8_drawnTo 5 = .ok (.aload_n 0, 1) := by decide +kernel
theorem dX8_drawnTo_6 : decode cX8_drawnTo 6 = .ok (.getfield 37, 3) := by decide +kernel
theorem dX8_drawnTo_9 : decode cX8_drawnTo 9 = .ok (.invokevirtual 51, 3) := by decide +kernel
theorem dX8_drawnTo_12 : decode cX8_drawnTo 12 = .ok (.istore_n 3, 1) := by decide +kernel
theorem dX8_drawnTo_13 : decode cX8_drawnTo 13 = .ok (.iconst 0, 1) := by decide +kernel
theorem dX8_drawnTo_14 : decode cX8_drawnTo 14 = .ok (.istore 4, 2) := by decide +kernel
theorem dX8_drawnTo_16 : decode cX8_drawnTo 16 = .ok (.iconst 0, 1) := by decide +kernel
theorem dX8_drawnTo_17 : decode cX8_drawnTo 17 = .ok (.istore 5, 2) := by decide +kernel
theorem dX8_drawnTo_19 : decode cX8_drawnTo 19 = .ok (.iload 5, 2) := by decide +kernel
theorem dX8_drawnTo_21 : decode cX8_drawnTo 21 = .ok (.iload_n 3, 1) := by decide +kernel
theorem dX8_drawnTo_22 : decode cX8_drawnTo 22 = .ok (.if_icmp .ge 23, 3) := by decide +kernel
theorem dX8_drawnTo_25 : decode cX8_drawnTo 25 = .ok (.aload_n 0, 1) := by decide +kernel
theorem dX8_drawnTo_26 : decode cX8_drawnTo 26 = .ok (.getfield 15, 3) := by decide +kernel
theorem dX8_drawnTo_29 : decode cX8_drawnTo 29 = .ok (.iload 5, 2) := by decide +kernel
theorem dX8_drawnTo_31 : decode cX8_drawnTo 31 = .ok (.iaload, 1) := by decide +kernel
theorem dX8_drawnTo_32 : decode cX8_drawnTo 32 = .ok (.iload_n 2, 1) := by decide +kernel
theorem dX8_drawnTo_33 : decode cX8_drawnTo 33 = .ok (.if_icmp .ne 6, 3) := by decide +kernel
theorem dX8_drawnTo_36 : decode cX8_drawnTo 36 = .ok (.iinc 4 1, 3) := by decide +kernel
theorem dX8_drawnTo_39 : decode cX8_drawnTo 39 = .ok (.iinc 5 1, 3) := by decide +kernel
theorem dX8_drawnTo_42 : decode cX8_drawnTo 42 = .ok (.goto (-23), 3) := by decide +kernel
theorem dX8_drawnTo_45 : decode cX8_drawnTo 45 = .ok (.iload 4, 2) := by decide +kernel
theorem dX8_drawnTo_47 : decode cX8_drawnTo 47 = .ok (.ireturn, 1) := by decide +kernel
theorem dX8_farthestFrom_0 : decode cX8_farthestFrom 0 = .ok (.aload_n 0, 1) := by decide +kernel
theorem dX8_farthestFrom_1 : decode cX8_farthestFrom 1 = .ok (.iload_n 1, 1) := by decide +kernel
theorem dX8_farthestFrom_2 : decode cX8_farthestFrom 2 = .ok (.invokevirtual 65, 3) := by decide +kernel
theorem dX8_farthestFrom_5 : decode cX8_farthestFrom 5 = .ok (.aload_n 0, 1) := by decide +kernel
theorem dX8_farthestFrom_6 : decode cX8_farthestFrom 6 = .ok (.getfield 37, 3) := by decide +kernel
theorem dX8_farthestFrom_9 : decode cX8_farthestFrom 9 = .ok (.invokevirtual 51, 3) := by decide +kernel
theorem dX8_farthestFrom_12 : decode cX8_farthestFrom 12 = .ok (.istore_n 3, 1) := by decide +kernel
theorem dX8_farthestFrom_13 : decode cX8_farthestFrom 13 = .ok (.iconst 0, 1) := by decide +kernel
theorem dX8_farthestFrom_14 : decode cX8_farthestFrom 14 = .ok (.istore 4, 2) := by decide +kernel
theorem dX8_farthestFrom_16 : decode cX8_farthestFrom 16 = .ok (.iconst 0, 1) := by decide +kernel
theorem dX8_farthestFrom_17 : decode cX8_farthestFrom 17 = .ok (.istore 5, 2) := by decide +kernel
theorem dX8_farthestFrom_19 : decode cX8_farthestFrom 19 = .ok (.iload 5, 2) := by decide +kernel
theorem dX8_farthestFrom_21 : decode cX8_farthestFrom 21 = .ok (.iload_n 3, 1) := by decide +kernel
theorem dX8_farthestFrom_22 : decode cX8_farthestFrom 22 = .ok (.if_icmp .ge 34, 3) := by decide +kernel
theorem dX8_farthestFrom_25 : decode cX8_farthestFrom 25 = .ok (.aload_n 0, 1) := by decide +kernel
theorem dX8_farthestFrom_26 : decode cX8_farthestFrom 26 = .ok (.getfield 15, 3) := by decide +kernel
theorem dX8_farthestFrom_29 : decode cX8_farthestFrom 29 = .ok (.iload 5, 2) := by decide +kernel
theorem dX8_farthestFrom_31 : decode cX8_farthestFrom 31 = .ok (.iaload, 1) := by decide +kernel
theorem dX8_farthestFrom_32 : decode cX8_farthestFrom 32 = .ok (.iload_n 2, 1) := by decide +kernel
theorem dX8_farthestFrom_33 : decode cX8_farthestFrom 33 = .ok (.if_icmp .ne 17, 3) := by decide +kernel
theorem dX8_farthestFrom_36 : decode cX8_farthestFrom 36 = .ok (.iload 4, 2) := by decide +kernel
theorem dX8_farthestFrom_38 : decode cX8_farthestFrom 38 = .ok (.aload_n 0, 1) := by decide +kernel
theorem dX8_farthestFrom_39 : decode cX8_farthestFrom 39 = .ok (.getfield 18, 3) := by decide +kernel
theorem dX8_farthestFrom_42 : decode cX8_farthestFrom 42 = .ok (.iload 5, 2) := by decide +kernel
theorem dX8_farthestFrom_44 : decode cX8_farthestFrom 44 = .ok (.iaload, 1) := by decide +kernel
theorem dX8_farthestFrom_45 : decode cX8_farthestFrom 45 = .ok (.invokestatic 69, 3) := by decide +kernel
theorem dX8_farthestFrom_48 : decode cX8_farthestFrom 48 = .ok (.istore 4, 2) := by decide +kernel
theorem dX8_farthestFrom_50 : decode cX8_farthestFrom 50 = .ok (.iinc 5 1, 3) := by decide +kernel
theorem dX8_farthestFrom_53 : decode cX8_farthestFrom 53 = .ok (.goto (-34), 3) := by decide +kernel
theorem dX8_farthestFrom_56 : decode cX8_farthestFrom 56 = .ok (.iload 4, 2) := by decide +kernel
theorem dX8_farthestFrom_58 : decode cX8_farthestFrom 58 = .ok (.ireturn, 1) := by decide +kernel
theorem dX8_greatestLength_0 : decode cX8_greatestLength 0 = .ok (.aload_n 0, 1) := by decide +kernel
theorem dX8_greatestLength_1 : decode cX8_greatestLength 1 = .ok (.iload_n 1, 1) := by decide +kernel
theorem dX8_greatestLength_2 : decode cX8_greatestLength 2 = .ok (.invokevirtual 65, 3) := by decide +kernel
theorem dX8_greatestLength_5 : decode cX8_greatestLength 5 = .ok (.aload_n 0, 1) := by decide +kernel
theorem dX8_greatestLength_6 : decode cX8_greatestLength 6 = .ok (.getfield 37, 3) := by decide +kernel
theorem dX8_greatestLength_9 : decode cX8_greatestLength 9 = .ok (.invokevirtual 51, 3) := by decide +kernel
theorem dX8_greatestLength_12 : decode cX8_greatestLength 12 = .ok (.istore_n 2, 1) := by decide +kernel
theorem dX8_greatestLength_13 : decode cX8_greatestLength 13 = .ok (.iconst 0, 1) := by decide +kernel
theorem dX8_greatestLength_14 : decode cX8_greatestLength 14 = .ok (.istore_n 3, 1) := by decide +kernel
theorem dX8_greatestLength_15 : decode cX8_greatestLength 15 = .ok (.iconst 0, 1) := by decide +kernel
theorem dX8_greatestLength_16 : decode cX8_greatestLength 16 = .ok (.istore 4, 2) := by decide +kernel
theorem dX8_greatestLength_18 : decode cX8_greatestLength 18 = .ok (.iload 4, 2) := by decide +kernel
theorem dX8_greatestLength_20 : decode cX8_greatestLength 20 = .ok (.iload_n 2, 1) := by decide +kernel
theorem dX8_greatestLength_21 : decode cX8_greatestLength 21 = .ok (.if_icmp .ge 33, 3) := by decide +kernel
theorem dX8_greatestLength_24 : decode cX8_greatestLength 24 = .ok (.aload_n 0, 1) := by decide +kernel
theorem dX8_greatestLength_25 : decode cX8_greatestLength 25 = .ok (.getfield 15, 3) := by decide +kernel
theorem dX8_greatestLength_28 : decode cX8_greatestLength 28 = .ok (.iload 4, 2) := by decide +kernel
theorem dX8_greatestLength_30 : decode cX8_greatestLength 30 = .ok (.iaload, 1) := by decide +kernel
theorem dX8_greatestLength_31 : decode cX8_greatestLength 31 = .ok (.iload 4, 2) := by decide +kernel
theorem dX8_greatestLength_33 : decode cX8_greatestLength 33 = .ok (.if_icmp .ne 15, 3) := by decide +kernel
theorem dX8_greatestLength_36 : decode cX8_greatestLength 36 = .ok (.iload_n 3, 1) := by decide +kernel
theorem dX8_greatestLength_37 : decode cX8_greatestLength 37 = .ok (.aload_n 0, 1) := by decide +kernel
theorem dX8_greatestLength_38 : decode cX8_greatestLength 38 = .ok (.iload_n 1, 1) := by decide +kernel
theorem dX8_greatestLength_39 : decode cX8_greatestLength 39 = .ok (.iload 4, 2) := by decide +kernel
theorem dX8_greatestLength_41 : decode cX8_greatestLength 41 = .ok (.invokevirtual 75, 3) := by decide +kernel
theorem dX8_greatestLength_44 : decode cX8_greatestLength 44 = .ok (.invokestatic 69, 3) := by decide +kernel
theorem dX8_greatestLength_47 : decode cX8_greatestLength 47 = .ok (.istore_n 3, 1) := by decide +kernel
theorem dX8_greatestLength_48 : decode cX8_greatestLength 48 = .ok (.iinc 4 1, 3) := by decide +kernel
theorem dX8_greatestLength_51 : decode cX8_greatestLength 51 = .ok (.goto (-33), 3) := by decide +kernel
theorem dX8_greatestLength_54 : decode cX8_greatestLength 54 = .ok (.iload_n 3, 1) := by decide +kernel
theorem dX8_greatestLength_55 : decode cX8_greatestLength 55 = .ok (.ireturn, 1) := by decide +kernel
theorem dX8_findRings_0 : decode cX8_findRings 0 = .ok (.aload_n 0, 1) := by decide +kernel
theorem dX8_findRings_1 : decode cX8_findRings 1 = .ok (.iload_n 1, 1) := by decide +kernel
theorem dX8_findRings_2 : decode cX8_findRings 2 = .ok (.invokevirtual 61, 3) := by decide +kernel
theorem dX8_findRings_5 : decode cX8_findRings 5 = .ok (.pop, 1) := by decide +kernel
theorem dX8_findRings_6 : decode cX8_findRings 6 = .ok (.aload_n 0, 1) := by decide +kernel
theorem dX8_findRings_7 : decode cX8_findRings 7 = .ok (.getfield 31, 3) := by decide +kernel
theorem dX8_findRings_10 : decode cX8_findRings 10 = .ok (.iload_n 1, 1) := by decide +kernel
theorem dX8_findRings_11 : decode cX8_findRings 11 = .ok (.if_icmp .ne 18, 3) := by decide +kernel
theorem dX8_findRings_14 : decode cX8_findRings 14 = .ok (.aload_n 0, 1) := by decide +kernel
theorem dX8_findRings_15 : decode cX8_findRings 15 = .ok (.getfield 34, 3) := by decide +kernel
theorem dX8_findRings_18 : decode cX8_findRings 18 = .ok (.aload_n 0, 1) := by decide +kernel
theorem dX8_findRings_19 : decode cX8_findRings 19 = .ok (.getfield 37, 3) := by decide +kernel
theorem dX8_findRings_22 : decode cX8_findRings 22 = .ok (.invokevirtual 41, 3) := by decide +kernel
theorem dX8_findRings_25 : decode cX8_findRings 25 = .ok (.if_icmp .ne 4, 3) := by decide +kernel
theorem dX8_findRings_28 : decode cX8_findRings 28 = .ok (.return_, 1) := by decide +kernel
theorem dX8_findRings_29 : decode cX8_findRings 29 = .ok (.aload_n 0, 1) := by decide +kernel
theorem dX8_findRings_30 : decode cX8_findRings 30 = .ok (.getfield 37, 3) := by decide +kernel
theorem dX8_findRings_33 : decode cX8_findRings 33 = .ok (.invokevirtual 51, 3) := by decide +kernel
theorem dX8_findRings_36 : decode cX8_findRings 36 = .ok (.istore_n 2, 1) := by decide +kernel
theorem dX8_findRings_37 : decode cX8_findRings 37 = .ok (.aload_n 0, 1) := by decide +kernel
theorem dX8_findRings_38 : decode cX8_findRings 38 = .ok (.iload_n 2, 1) := by decide +kernel
theorem dX8_findRings_39 : decode cX8_findRings 39 = .ok (.invokevirtual 78, 3) := by decide +kernel
theorem dX8_findRings_42 : decode cX8_findRings 42 = .ok (.istore_n 3, 1) := by decide +kernel
theorem dX8_findRings_43 : decode cX8_findRings 43 = .ok (.iconst 0, 1) := by decide +kernel
theorem dX8_findRings_44 : decode cX8_findRings 44 = .ok (.istore 4, 2) := by decide +kernel
theorem dX8_findRings_46 : decode cX8_findRings 46 = .ok (.iload 4, 2) := by decide +kernel
theorem dX8_findRings_48 : decode cX8_findRings 48 = .ok (.iload_n 2, 1) := by decide +kernel
theorem dX8_findRings_49 : decode cX8_findRings 49 = .ok (.if_icmp .ge 26, 3) := by decide +kernel
theorem dX8_findRings_52 : decode cX8_findRings 52 = .ok (.aload_n 0, 1) := by decide +kernel
theorem dX8_findRings_53 : decode cX8_findRings 53 = .ok (.getfield 18, 3) := by decide +kernel
theorem dX8_findRings_56 : decode cX8_findRings 56 = .ok (.iload 4, 2) := by decide +kernel
theorem dX8_findRings_58 : decode cX8_findRings 58 = .ok (.iaload, 1) := by decide +kernel
theorem dX8_findRings_59 : decode cX8_findRings 59 = .ok (.ifCond .le 10, 3) := by decide +kernel
theorem dX8_findRings_62 : decode cX8_findRings 62 = .ok (.aload_n 0, 1) := by decide +kernel
theorem dX8_findRings_63 : decode cX8_findRings 63 = .ok (.iload 4, 2) := by decide +kernel
theorem dX8_findRings_65 : decode cX8_findRings 65 = .ok (.iload_n 2, 1) := by decide +kernel
theorem dX8_findRings_66 : decode cX8_findRings 66 = .ok (.invokevirtual 82, 3) := by decide +kernel
theorem dX8_findRings_69 : decode cX8_findRings 69 = .ok (.iinc 4 1, 3) := by decide +kernel
theorem dX8_findRings_72 : decode cX8_findRings 72 = .ok (.goto (-26), 3) := by decide +kernel
theorem dX8_findRings_75 : decode cX8_findRings 75 = .ok (.iload_n 3, 1) := by decide +kernel
theorem dX8_findRings_76 : decode cX8_findRings 76 = .ok (.iconst 1, 1) := by decide +kernel
theorem dX8_findRings_77 : decode cX8_findRings 77 = .ok (.isub, 1) := by decide +kernel
theorem dX8_findRings_78 : decode cX8_findRings 78 = .ok (.istore 4, 2) := by decide +kernel
theorem dX8_findRings_80 : decode cX8_findRings 80 = .ok (.iload 4, 2) := by decide +kernel
theorem dX8_findRings_82 : decode cX8_findRings 82 = .ok (.ifCond .lt 58, 3) := by decide +kernel
theorem dX8_findRings_85 : decode cX8_findRings 85 = .ok (.aload_n 0, 1) := by decide +kernel
theorem dX8_findRings_86 : decode cX8_findRings 86 = .ok (.getfield 21, 3) := by decide +kernel
theorem dX8_findRings_89 : decode cX8_findRings 89 = .ok (.iload 4, 2) := by decide +kernel
theorem dX8_findRings_91 : decode cX8_findRings 91 = .ok (.iaload, 1) := by decide +kernel
theorem dX8_findRings_92 : decode cX8_findRings 92 = .ok (.istore 5, 2) := by decide +kernel
theorem dX8_findRings_94 : decode cX8_findRings 94 = .ok (.aload_n 0, 1) := by decide +kernel
theorem dX8_findRings_95 : decode cX8_findRings 95 = .ok (.getfield 15, 3) := by decide +kernel
theorem dX8_findRings_98 : decode cX8_findRings 98 = .ok (.iload 5, 2) := by decide +kernel
theorem dX8_findRings_100 : decode cX8_findRings 100 = .ok (.aload_n 0, 1) := by decide +kernel
theorem dX8_findRings_101 : decode cX8_findRings 101 = .ok (.getfield 15, 3) := by decide +kernel
theorem dX8_findRings_104 : decode cX8_findRings 104 = .ok (.aload_n 0, 1) := by decide +kernel
theorem dX8_findRings_105 : decode cX8_findRings 105 = .ok (.getfield 9, 3) := by decide +kernel
theorem dX8_findRings_108 : decode cX8_findRings 108 = .ok (.iload 5, 2) := by decide +kernel
theorem dX8_findRings_110 : decode cX8_findRings 110 = .ok (.iaload, 1) := by decide +kernel
theorem dX8_findRings_111 : decode cX8_findRings 111 = .ok (.iaload, 1) := by decide +kernel
theorem dX8_findRings_112 : decode cX8_findRings 112 = .ok (.iastore, 1) := by decide +kernel
theorem dX8_findRings_113 : decode cX8_findRings 113 = .ok (.aload_n 0, 1) := by decide +kernel
theorem dX8_findRings_114 : decode cX8_findRings 114 = .ok (.getfield 18, 3) := by decide +kernel
theorem dX8_findRings_117 : decode cX8_findRings 117 = .ok (.iload 5, 2) := by decide +kernel
theorem dX8_findRings_119 : decode cX8_findRings 119 = .ok (.aload_n 0, 1) := by decide +kernel
theorem dX8_findRings_120 : decode cX8_findRings 120 = .ok (.getfield 18, 3) := by decide +kernel
theorem dX8_findRings_123 : decode cX8_findRings 123 = .ok (.aload_n 0, 1) := by decide +kernel
theorem dX8_findRings_124 : decode cX8_findRings 124 = .ok (.getfield 9, 3) := by decide +kernel
theorem dX8_findRings_127 : decode cX8_findRings 127 = .ok (.iload 5, 2) := by decide +kernel
theorem dX8_findRings_129 : decode cX8_findRings 129 = .ok (.iaload, 1) := by decide +kernel
theorem dX8_findRings_130 : decode cX8_findRings 130 = .ok (.iaload, 1) := by decide +kernel
theorem dX8_findRings_131 : decode cX8_findRings 131 = .ok (.iconst 1, 1) := by decide +kernel
theorem dX8_findRings_132 : decode cX8_findRings 132 = .ok (.iadd, 1) := by decide +kernel
theorem dX8_findRings_133 : decode cX8_findRings 133 = .ok (.iastore, 1) := by decide +kernel
theorem dX8_findRings_134 : decode cX8_findRings 134 = .ok (.iinc 4 (-1), 3) := by decide +kernel
theorem dX8_findRings_137 : decode cX8_findRings 137 = .ok (.goto (-57), 3) := by decide +kernel
theorem dX8_findRings_140 : decode cX8_findRings 140 = .ok (.aload_n 0, 1) := by decide +kernel
theorem dX8_findRings_141 : decode cX8_findRings 141 = .ok (.iload_n 1, 1) := by decide +kernel
theorem dX8_findRings_142 : decode cX8_findRings 142 = .ok (.putfield 31, 3) := by decide +kernel
theorem dX8_findRings_145 : decode cX8_findRings 145 = .ok (.aload_n 0, 1) := by decide +kernel
theorem dX8_findRings_146 : decode cX8_findRings 146 = .ok (.aload_n 0, 1) := by decide +kernel
theorem dX8_findRings_147 : decode cX8_findRings 147 = .ok (.getfield 37, 3) := by decide +kernel
theorem dX8_findRings_150 : decode cX8_findRings 150 = .ok (.invokevirtual 41, 3) := by decide +kernel
theorem dX8_findRings_153 : decode cX8_findRings 153 = .ok (.putfield 34, 3) := by decide +kernel
theorem dX8_findRings_156 : decode cX8_findRings 156 = .ok (.return_, 1) := by decide +kernel
theorem dX8_takeOff_0 : decode cX8_takeOff 0 = .ok (.iconst 0, 1) := by decide +kernel
theorem dX8_takeOff_1 : decode cX8_takeOff 1 = .ok (.istore_n 2, 1) := by decide +kernel
theorem dX8_takeOff_2 : decode cX8_takeOff 2 = .ok (.iload_n 2, 1) := by decide +kernel
theorem dX8_takeOff_3 : decode cX8_takeOff 3 = .ok (.iload_n 1, 1) := by decide +kernel
theorem dX8_takeOff_4 : decode cX8_takeOff 4 = .ok (.if_icmp .ge 16, 3) := by decide +kernel
theorem dX8_takeOff_7 : decode cX8_takeOff 7 = .ok (.aload_n 0, 1) := by decide +kernel
theorem dX8_takeOff_8 : decode cX8_takeOff 8 = .ok (.getfield 18, 3) := by decide +kernel
theorem dX8_takeOff_11 : decode cX8_takeOff 11 = .ok (.iload_n 2, 1) := by decide +kernel
theorem dX8_takeOff_12 : decode cX8_takeOff 12 = .ok (.iconst 0, 1) := by decide +kernel
theorem dX8_takeOff_13 : decode cX8_takeOff 13 = .ok (.iastore, 1) := by decide +kernel
theorem dX8_takeOff_14 : decode cX8_takeOff 14 = .ok (.iinc 2 1, 3) := by decide +kernel
theorem dX8_takeOff_17 : decode cX8_takeOff 17 = .ok (.goto (-15), 3) := by decide +kernel
theorem dX8_takeOff_20 : decode cX8_takeOff 20 = .ok (.iconst 0, 1) := by decide +kernel
theorem dX8_takeOff_21 : decode cX8_takeOff 21 = .ok (.istore_n 2, 1) := by decide +kernel
theorem dX8_takeOff_22 : decode cX8_takeOff 22 = .ok (.iload_n 2, 1) := by decide +kernel
theorem dX8_takeOff_23 : decode cX8_takeOff 23 = .ok (.iload_n 1, 1) := by decide +kernel
theorem dX8_takeOff_24 : decode cX8_takeOff 24 = .ok (.if_icmp .ge 24, 3) := by decide +kernel
theorem dX8_takeOff_27 : decode cX8_takeOff 27 = .ok (.aload_n 0, 1) := by decide +kernel
theorem dX8_takeOff_28 : decode cX8_takeOff 28 = .ok (.getfield 18, 3) := by decide +kernel
theorem dX8_takeOff_31 : decode cX8_takeOff 31 = .ok (.aload_n 0, 1) := by decide +kernel
theorem dX8_takeOff_32 : decode cX8_takeOff 32 = .ok (.getfield 9, 3) := by decide +kernel
theorem dX8_takeOff_35 : decode cX8_takeOff 35 = .ok (.iload_n 2, 1) := by decide +kernel
theorem dX8_takeOff_36 : decode cX8_takeOff 36 = .ok (.iaload, 1) := by decide +kernel
theorem dX8_takeOff_37 : decode cX8_takeOff 37 = .ok (.dup2, 1) := by decide +kernel
theorem dX8_takeOff_38 : decode cX8_takeOff 38 = .ok (.iaload, 1) := by decide +kernel
theorem dX8_takeOff_39 : decode cX8_takeOff 39 = .ok (.iconst 1, 1) := by decide +kernel
theorem dX8_takeOff_40 : decode cX8_takeOff 40 = .ok (.iadd, 1) := by decide +kernel
theorem dX8_takeOff_41 : decode cX8_takeOff 41 = .ok (.iastore, 1) := by decide +kernel
theorem dX8_takeOff_42 : decode cX8_takeOff 42 = .ok (.iinc 2 1, 3) := by decide +kernel
theorem dX8_takeOff_45 : decode cX8_takeOff 45 = .ok (.goto (-23), 3) := by decide +kernel
theorem dX8_takeOff_48 : decode cX8_takeOff 48 = .ok (.iconst 0, 1) := by decide +kernel
theorem dX8_takeOff_49 : decode cX8_takeOff 49 = .ok (.istore_n 2, 1) := by decide +kernel
theorem dX8_takeOff_50 : decode cX8_takeOff 50 = .ok (.iconst 0, 1) := by decide +kernel
theorem dX8_takeOff_51 : decode cX8_takeOff 51 = .ok (.istore_n 3, 1) := by decide +kernel
theorem dX8_takeOff_52 : decode cX8_takeOff 52 = .ok (.iload_n 3, 1) := by decide +kernel
theorem dX8_takeOff_53 : decode cX8_takeOff 53 = .ok (.iload_n 1, 1) := by decide +kernel
theorem dX8_takeOff_54 : decode cX8_takeOff 54 = .ok (.if_icmp .ge 28, 3) := by decide +kernel
theorem dX8_takeOff_57 : decode cX8_takeOff 57 = .ok (.aload_n 0, 1) := by decide +kernel
theorem dX8_takeOff_58 : decode cX8_takeOff 58 = .ok (.getfield 18, 3) := by decide +kernel
theorem dX8_takeOff_61 : decode cX8_takeOff 61 = .ok (.iload_n 3, 1) := by decide +kernel
theorem dX8_takeOff_62 : decode cX8_takeOff 62 = .ok (.iaload, 1) := by decide +kernel
theorem dX8_takeOff_63 : decode cX8_takeOff 63 = .ok (.ifCond .ne 13, 3) := by decide +kernel
theorem dX8_takeOff_66 : decode cX8_takeOff 66 = .ok (.aload_n 0, 1) := by decide +kernel
theorem dX8_takeOff_67 : decode cX8_takeOff 67 = .ok (.getfield 21, 3) := by decide +kernel
theorem dX8_takeOff_70 : decode cX8_takeOff 70 = .ok (.iload_n 2, 1) := by decide +kernel
theorem dX8_takeOff_71 : decode cX8_takeOff 71 = .ok (.iinc 2 1, 3) := by decide +kernel
theorem dX8_takeOff_74 : decode cX8_takeOff 74 = .ok (.iload_n 3, 1) := by decide +kernel
theorem dX8_takeOff_75 : decode cX8_takeOff 75 = .ok (.iastore, 1) := by decide +kernel
theorem dX8_takeOff_76 : decode cX8_takeOff 76 = .ok (.iinc 3 1, 3) := by decide +kernel
theorem dX8_takeOff_79 : decode cX8_takeOff 79 = .ok (.goto (-27), 3) := by decide +kernel
theorem dX8_takeOff_82 : decode cX8_takeOff 82 = .ok (.iconst 0, 1) := by decide +kernel
theorem dX8_takeOff_83 : decode cX8_takeOff 83 = .ok (.istore_n 3, 1) := by decide +kernel
theorem dX8_takeOff_84 : decode cX8_takeOff 84 = .ok (.iload_n 3, 1) := by decide +kernel
theorem dX8_takeOff_85 : decode cX8_takeOff 85 = .ok (.iload_n 2, 1) := by decide +kernel
theorem dX8_takeOff_86 : decode cX8_takeOff 86 = .ok (.if_icmp .ge 59, 3) := by decide +kernel
theorem dX8_takeOff_89 : decode cX8_takeOff 89 = .ok (.iload_n 3, 1) := by decide +kernel
theorem dX8_takeOff_90 : decode cX8_takeOff 90 = .ok (.iload_n 1, 1) := by decide +kernel
theorem dX8_takeOff_91 : decode cX8_takeOff 91 = .ok (.if_icmp .ge 54, 3) := by decide +kernel
theorem dX8_takeOff_94 : decode cX8_takeOff 94 = .ok (.aload_n 0, 1) := by decide +kernel
theorem dX8_takeOff_95 : decode cX8_takeOff 95 = .ok (.getfield 9, 3) := by decide +kernel
theorem dX8_takeOff_98 : decode cX8_takeOff 98 = .ok (.aload_n 0, 1) := by decide +kernel
theorem dX8_takeOff_99 : decode cX8_takeOff 99 = .ok (.getfield 21, 3) := by decide +kernel
theorem dX8_takeOff_102 : decode cX8_takeOff 102 = .ok (.iload_n 3, 1) := by decide +kernel
theorem dX8_takeOff_103 : decode cX8_takeOff 103 = .ok (.iaload, 1) := by decide +kernel
theorem dX8_takeOff_104 : decode cX8_takeOff 104 = .ok (.iaload, 1) := by decide +kernel
theorem dX8_takeOff_105 : decode cX8_takeOff 105 = .ok (.istore 4, 2) := by decide +kernel
theorem dX8_takeOff_107 : decode cX8_takeOff 107 = .ok (.aload_n 0, 1) := by decide +kernel
theorem dX8_takeOff_108 : decode cX8_takeOff 108 = .ok (.getfield 18, 3) := by decide +kernel
theorem dX8_takeOff_111 : decode cX8_takeOff 111 = .ok (.iload 4, 2) := by decide +kernel
theorem dX8_takeOff_113 : decode cX8_takeOff 113 = .ok (.dup2, 1) := by decide +kernel
theorem dX8_takeOff_114 : decode cX8_takeOff 114 = .ok (.iaload, 1) := by decide +kernel
theorem dX8_takeOff_115 : decode cX8_takeOff 115 = .ok (.iconst 1, 1) := by decide +kernel
theorem dX8_takeOff_116 : decode cX8_takeOff 116 = .ok (.isub, 1) := by decide +kernel
theorem dX8_takeOff_117 : decode cX8_takeOff 117 = .ok (.iastore, 1) := by decide +kernel
theorem dX8_takeOff_118 : decode cX8_takeOff 118 = .ok (.aload_n 0, 1) := by decide +kernel
theorem dX8_takeOff_119 : decode cX8_takeOff 119 = .ok (.getfield 18, 3) := by decide +kernel
theorem dX8_takeOff_122 : decode cX8_takeOff 122 = .ok (.iload 4, 2) := by decide +kernel
theorem dX8_takeOff_124 : decode cX8_takeOff 124 = .ok (.iaload, 1) := by decide +kernel
theorem dX8_takeOff_125 : decode cX8_takeOff 125 = .ok (.ifCond .ne 14, 3) := by decide +kernel
theorem dX8_takeOff_128 : decode cX8_takeOff 128 = .ok (.aload_n 0, 1) := by decide +kernel
theorem dX8_takeOff_129 : decode cX8_takeOff 129 = .ok (.getfield 21, 3) := by decide +kernel
theorem dX8_takeOff_132 : decode cX8_takeOff 132 = .ok (.iload_n 2, 1) := by decide +kernel
theorem dX8_takeOff_133 : decode cX8_takeOff 133 = .ok (.iinc 2 1, 3) := by decide +kernel
theorem dX8_takeOff_136 : decode cX8_takeOff 136 = .ok (.iload 4, 2) := by decide +kernel
theorem dX8_takeOff_138 : decode cX8_takeOff 138 = .ok (.iastore, 1) := by decide +kernel
theorem dX8_takeOff_139 : decode cX8_takeOff 139 = .ok (.iinc 3 1, 3) := by decide +kernel
theorem dX8_takeOff_142 : decode cX8_takeOff 142 = .ok (.goto (-58), 3) := by decide +kernel
theorem dX8_takeOff_145 : decode cX8_takeOff 145 = .ok (.iload_n 2, 1) := by decide +kernel
theorem dX8_takeOff_146 : decode cX8_takeOff 146 = .ok (.ireturn, 1) := by decide +kernel
theorem dX8_goRound_0 : decode cX8_goRound 0 = .ok (.iload_n 1, 1) := by decide +kernel
theorem dX8_goRound_1 : decode cX8_goRound 1 = .ok (.istore_n 3, 1) := by decide +kernel
theorem dX8_goRound_2 : decode cX8_goRound 2 = .ok (.iconst 0, 1) := by decide +kernel
theorem dX8_goRound_3 : decode cX8_goRound 3 = .ok (.istore 4, 2) := by decide +kernel
theorem dX8_goRound_5 : decode cX8_goRound 5 = .ok (.iload 4, 2) := by decide +kernel
theorem dX8_goRound_7 : decode cX8_goRound 7 = .ok (.iload_n 2, 1) := by decide +kernel
theorem dX8_goRound_8 : decode cX8_goRound 8 = .ok (.if_icmp .ge 39, 3) := by decide +kernel
theorem dX8_goRound_11 : decode cX8_goRound 11 = .ok (.aload_n 0, 1) := by decide +kernel
theorem dX8_goRound_12 : decode cX8_goRound 12 = .ok (.getfield 18, 3) := by decide +kernel
theorem dX8_goRound_15 : decode cX8_goRound 15 = .ok (.iload_n 3, 1) := by decide +kernel
theorem dX8_goRound_16 : decode cX8_goRound 16 = .ok (.iaload, 1) := by decide +kernel
theorem dX8_goRound_17 : decode cX8_goRound 17 = .ok (.ifCond .le 30, 3) := by decide +kernel
theorem dX8_goRound_20 : decode cX8_goRound 20 = .ok (.aload_n 0, 1) := by decide +kernel
theorem dX8_goRound_21 : decode cX8_goRound 21 = .ok (.getfield 15, 3) := by decide +kernel
theorem dX8_goRound_24 : decode cX8_goRound 24 = .ok (.iload_n 3, 1) := by decide +kernel
theorem dX8_goRound_25 : decode cX8_goRound 25 = .ok (.iload_n 1, 1) := by decide +kernel
theorem dX8_goRound_26 : decode cX8_goRound 26 = .ok (.iastore, 1) := by decide +kernel
theorem dX8_goRound_27 : decode cX8_goRound 27 = .ok (.aload_n 0, 1) := by decide +kernel
theorem dX8_goRound_28 : decode cX8_goRound 28 = .ok (.getfield 18, 3) := by decide +kernel
theorem dX8_goRound_31 : decode cX8_goRound 31 = .ok (.iload_n 3, 1) := by decide +kernel
theorem dX8_goRound_32 : decode cX8_goRound 32 = .ok (.iconst 0, 1) := by decide +kernel
theorem dX8_goRound_33 : decode cX8_goRound 33 = .ok (.iastore, 1) := by decide +kernel
theorem dX8_goRound_34 : decode cX8_goRound 34 = .ok (.aload_n 0, 1) := by decide +kernel
theorem dX8_goRound_35 : decode cX8_goRound 35 = .ok (.getfield 9, 3) := by decide +kernel
theorem dX8_goRound_38 : decode cX8_goRound 38 = .ok (.iload_n 3, 1) := by decide +kernel
theorem dX8_goRound_39 : decode cX8_goRound 39 = .ok (.iaload, 1) := by decide +kernel
theorem dX8_goRound_40 : decode cX8_goRound 40 = .ok (.istore_n 3, 1) := by decide +kernel
theorem dX8_goRound_41 : decode cX8_goRound 41 = .ok (.iinc 4 1, 3) := by decide +kernel
theorem dX8_goRound_44 : decode cX8_goRound 44 = .ok (.goto (-39), 3) := by decide +kernel
theorem dX8_goRound_47 : decode cX8_goRound 47 = .ok (.return_, 1) := by decide +kernel
theorem dX9_people_0 : decode cX9_people 0 = .ok (.iload_n 1, 1) := by decide +kernel
theorem dX9_people_1 : decode cX9_people 1 = .ok (.iconst 1, 1) := by decide +kernel
theorem dX9_people_2 : decode cX9_people 2 = .ok (.bipush 10, 2) := by decide +kernel
theorem dX9_people_4 : decode cX9_people 4 = .ok (.invokestatic 74, 3) := by decide +kernel
theorem dX9_people_7 : decode cX9_people 7 = .ok (.ifCond .ne 6, 3) := by decide +kernel
theorem dX9_people_10 : decode cX9_people 10 = .ok (.bipush (-2), 2) := by decide +kernel
theorem dX9_people_12 : decode cX9_people 12 = .ok (.ireturn, 1) := by decide +kernel
theorem dX9_people_13 : decode cX9_people 13 = .ok (.aload_n 0, 1) := by decide +kernel
theorem dX9_people_14 : decode cX9_people 14 = .ok (.getfield 15, 3) := by decide +kernel
theorem dX9_people_17 : decode cX9_people 17 = .ok (.invokevirtual 78, 3) := by decide +kernel
theorem dX9_people_20 : decode cX9_people 20 = .ok (.istore_n 2, 1) := by decide +kernel
theorem dX9_people_21 : decode cX9_people 21 = .ok (.aload_n 0, 1) := by decide +kernel
theorem dX9_people_22 : decode cX9_people 22 = .ok (.getfield 15, 3) := by decide +kernel
theorem dX9_people_25 : decode cX9_people 25 = .ok (.iload_n 1, 1) := by decide +kernel
theorem dX9_people_26 : decode cX9_people 26 = .ok (.invokevirtual 82, 3) := by decide +kernel
theorem dX9_people_29 : decode cX9_people 29 = .ok (.aload_n 0, 1) := by decide +kernel
theorem dX9_people_30 : decode cX9_people 30 = .ok (.getfield 61, 3) := by decide +kernel
theorem dX9_people_33 : decode cX9_people 33 = .ok (.invokevirtual 86, 3) := by decide +kernel
theorem dX9_people_36 : decode cX9_people 36 = .ok (.iload_n 2, 1) := by decide +kernel
theorem dX9_people_37 : decode cX9_people 37 = .ok (.ireturn, 1) := by decide +kernel
theorem dX9_tie_0 : decode cX9_tie 0 = .ok (.aload_n 0, 1) := by decide +kernel
theorem dX9_tie_1 : decode cX9_tie 1 = .ok (.getfield 15, 3) := by decide +kernel
theorem dX9_tie_4 : decode cX9_tie 4 = .ok (.iload_n 1, 1) := by decide +kernel
theorem dX9_tie_5 : decode cX9_tie 5 = .ok (.invokevirtual 89, 3) := by decide +kernel
theorem dX9_tie_8 : decode cX9_tie 8 = .ok (.ifCond .eq 14, 3) := by decide +kernel
theorem dX9_tie_11 : decode cX9_tie 11 = .ok (.aload_n 0, 1) := by decide +kernel
theorem dX9_tie_12 : decode cX9_tie 12 = .ok (.getfield 15, 3) := by decide +kernel
theorem dX9_tie_15 : decode cX9_tie 15 = .ok (.iload_n 2, 1) := by decide +kernel
theorem dX9_tie_16 : decode cX9_tie 16 = .ok (.invokevirtual 89, 3) := by decide +kernel
theorem dX9_tie_19 : decode cX9_tie 19 = .ok (.ifCond .ne 5, 3) := by decide +kernel
theorem dX9_tie_22 : decode cX9_tie 22 = .ok (.iconst (-1), 1) := by decide +kernel
theorem dX9_tie_23 : decode cX9_tie 23 = .ok (.ireturn, 1) := by decide +kernel
theorem dX9_tie_24 : decode cX9_tie 24 = .ok (.iload_n 3, 1) := by decide +kernel
theorem dX9_tie_25 : decode cX9_tie 25 = .ok (.iconst 0, 1) := by decide +kernel
theorem dX9_tie_26 : decode cX9_tie 26 = .ok (.bipush 9, 2) := by decide +kernel
theorem dX9_tie_28 : decode cX9_tie 28 = .ok (.invokestatic 74, 3) := by decide +kernel
theorem dX9_tie_31 : decode cX9_tie 31 = .ok (.ifCond .ne 6, 3) := by decide +kernel
theorem dX9_tie_34 : decode cX9_tie 34 = .ok (.bipush (-2), 2) := by decide +kernel
theorem dX9_tie_36 : decode cX9_tie 36 = .ok (.ireturn, 1) := by decide +kernel
theorem dX9_tie_37 : decode cX9_tie 37 = .ok (.iload_n 1, 1) := by decide +kernel
theorem dX9_tie_38 : decode cX9_tie 38 = .ok (.iload_n 2, 1) := by decide +kernel
theorem dX9_tie_39 : decode cX9_tie 39 = .ok (.if_icmp .ne 6, 3) := by decide +kernel
theorem dX9_tie_42 : decode cX9_tie 42 = .ok (.bipush (-3), 2) := by decide +kernel
theorem dX9_tie_44 : decode cX9_tie 44 = .ok (.ireturn, 1) := by decide +kernel
theorem dX9_tie_45 : decode cX9_tie 45 = .ok (.aload_n 0, 1) := by decide +kernel
theorem dX9_tie_46 : decode cX9_tie 46 = .ok (.getfield 15, 3) := by decide +kernel
theorem dX9_tie_49 : decode cX9_tie 49 = .ok (.iload_n 1, 1) := by decide +kernel
theorem dX9_tie_50 : decode cX9_tie 50 = .ok (.iload_n 2, 1) := by decide +kernel
theorem dX9_tie_51 : decode cX9_tie 51 = .ok (.invokevirtual 93, 3) := by decide +kernel
theorem dX9_tie_54 : decode cX9_tie 54 = .ok (.istore 4, 2) := by decide +kernel
theorem dX9_tie_56 : decode cX9_tie 56 = .ok (.aload_n 0, 1) := by decide +kernel
theorem dX9_tie_57 : decode cX9_tie 57 = .ok (.getfield 15, 3) := by decide +kernel
theorem dX9_tie_60 : decode cX9_tie 60 = .ok (.iload_n 1, 1) := by decide +kernel
theorem dX9_tie_61 : decode cX9_tie 61 = .ok (.iload_n 2, 1) := by decide +kernel
theorem dX9_tie_62 : decode cX9_tie 62 = .ok (.iload_n 3, 1) := by decide +kernel
theorem dX9_tie_63 : decode cX9_tie 63 = .ok (.invokevirtual 97, 3) := by decide +kernel
theorem dX9_tie_66 : decode cX9_tie 66 = .ok (.iload 4, 2) := by decide +kernel
theorem dX9_tie_68 : decode cX9_tie 68 = .ok (.ireturn, 1) := by decide +kernel
theorem dX9_set_0 : decode cX9_set 0 = .ok (.aload_n 0, 1) := by decide +kernel
theorem dX9_set_1 : decode cX9_set 1 = .ok (.getfield 15, 3) := by decide +kernel
theorem dX9_set_4 : decode cX9_set 4 = .ok (.iload_n 1, 1) := by decide +kernel
theorem dX9_set_5 : decode cX9_set 5 = .ok (.invokevirtual 89, 3) := by decide +kernel
theorem dX9_set_8 : decode cX9_set 8 = .ok (.ifCond .ne 5, 3) := by decide +kernel
theorem dX9_set_11 : decode cX9_set 11 = .ok (.iconst (-1), 1) := by decide +kernel
theorem dX9_set_12 : decode cX9_set 12 = .ok (.ireturn, 1) := by decide +kernel
theorem dX9_set_13 : decode cX9_set 13 = .ok (.iload_n 2, 1) := by decide +kernel
theorem dX9_set_14 : decode cX9_set 14 = .ok (.ifCond .ne 34, 3) := by decide +kernel
theorem dX9_set_17 : decode cX9_set 17 = .ok (.iload_n 3, 1) := by decide +kernel
theorem dX9_set_18 : decode cX9_set 18 = .ok (.iconst 0, 1) := by decide +kernel
theorem dX9_set_19 : decode cX9_set 19 = .ok (.iconst 3, 1) := by decide +kernel
theorem dX9_set_20 : decode cX9_set 20 = .ok (.invokestatic 74, 3) := by decide +kernel
theorem dX9_set_23 : decode cX9_set 23 = .ok (.ifCond .eq 25, 3) := by decide +kernel
theorem dX9_set_26 : decode cX9_set 26 = .ok (.aload_n 0, 1) := by decide +kernel
theorem dX9_set_27 : decode cX9_set 27 = .ok (.getfield 15, 3) := by decide +kernel
theorem dX9_set_30 : decode cX9_set 30 = .ok (.iload_n 1, 1) := by decide +kernel
theorem dX9_set_31 : decode cX9_set 31 = .ok (.invokevirtual 101, 3) := by decide +kernel
theorem dX9_set_34 : decode cX9_set 34 = .ok (.istore 4, 2) := by decide +kernel
theorem dX9_set_36 : decode cX9_set 36 = .ok (.aload_n 0, 1) := by decide +kernel
theorem dX9_set_37 : decode cX9_set 37 = .ok (.getfield 15, 3) := by decide +kernel
theorem dX9_set_40 : decode cX9_set 40 = .ok (.iload_n 1, 1) := by decide +kernel
theorem dX9_set_41 : decode cX9_set 41 = .ok (.iload_n 3, 1) := by decide +kernel
theorem dX9_set_42 : decode cX9_set 42 = .ok (.invokevirtual 105, 3) := by decide +kernel
theorem dX9_set_45 : decode cX9_set 45 = .ok (.iload 4, 2) := by decide +kernel
theorem dX9_set_47 : decode cX9_set 47 = .ok (.ireturn, 1) := by decide +kernel
theorem dX9_set_48 : decode cX9_set 48 = .ok (.iload_n 2, 1) := by decide +kernel
theorem dX9_set_49 : decode cX9_set 49 = .ok (.iconst 1, 1) := by decide +kernel
theorem dX9_set_50 : decode cX9_set 50 = .ok (.if_icmp .ne 36, 3) := by decide +kernel
theorem dX9_set_53 : decode cX9_set 53 = .ok (.iload_n 3, 1) := by decide +kernel
theorem dX9_set_54 : decode cX9_set 54 = .ok (.bipush (-9), 2) := by decide +kernel
theorem dX9_set_56 : decode cX9_set 56 = .ok (.bipush 9, 2) := by decide +kernel
theorem dX9_set_58 : decode cX9_set 58 = .ok (.invokestatic 74, 3) := by decide +kernel
theorem dX9_set_61 : decode cX9_set 61 = .ok (.ifCond .eq 25, 3) := by decide +kernel
theorem dX9_set_64 : decode cX9_set 64 = .ok (.aload_n 0, 1) := by decide +kernel
theorem dX9_set_65 : decode cX9_set 65 = .ok (.getfield 15, 3) := by decide +kernel
theorem dX9_set_68 : decode cX9_set 68 = .ok (.iload_n 1, 1) := by decide +kernel
theorem dX9_set_69 : decode cX9_set 69 = .ok (.invokevirtual 109, 3) := by decide +kernel
theorem dX9_set_72 : decode cX9_set 72 = .ok (.istore 4, 2) := by decide +kernel
theorem dX9_set_74 : decode cX9_set 74 = .ok (.aload_n 0, 1) := by decide +kernel
theorem dX9_set_75 : decode cX9_set 75 = .ok (.getfield 15, 3) := by decide +kernel
theorem dX9_set_78 : decode cX9_set 78 = .ok (.iload_n 1, 1) := by decide +kernel
theorem dX9_set_79 : decode cX9_set 79 = .ok (.iload_n 3, 1) := by decide +kernel
theorem dX9_set_80 : decode cX9_set 80 = .ok (.invokevirtual 112, 3) := by decide +kernel
theorem dX9_set_83 : decode cX9_set 83 = .ok (.iload 4, 2) := by decide +kernel
theorem dX9_set_85 : decode cX9_set 85 = .ok (.ireturn, 1) := by decide +kernel
theorem dX9_set_86 : decode cX9_set 86 = .ok (.bipush (-2), 2) := by decide +kernel
theorem dX9_set_88 : decode cX9_set 88 = .ok (.ireturn, 1) := by decide +kernel
theorem dX9_about_0 : decode cX9_about 0 = .ok (.aload_n 0, 1) := by decide +kernel
theorem dX9_about_1 : decode cX9_about 1 = .ok (.getfield 15, 3) := by decide +kernel
theorem dX9_about_4 : decode cX9_about 4 = .ok (.iload_n 1, 1) := by decide +kernel
theorem dX9_about_5 : decode cX9_about 5 = .ok (.invokevirtual 89, 3) := by decide +kernel
theorem dX9_about_8 : decode cX9_about 8 = .ok (.ifCond .ne 5, 3) := by decide +kernel
theorem dX9_about_11 : decode cX9_about 11 = .ok (.iconst (-1), 1) := by decide +kernel
theorem dX9_about_12 : decode cX9_about 12 = .ok (.ireturn, 1) := by decide +kernel
theorem dX9_about_13 : decode cX9_about 13 = .ok (.iload_n 2, 1) := by decide +kernel
theorem dX9_about_14 : decode cX9_about 14 = .ok (.tableswitch 66 0 3 #[30, 39, 48, 57], 30) := by decide +kernel
theorem dX9_about_44 : decode cX9_about 44 = .ok (.aload_n 0, 1) := by decide +kernel
theorem dX9_about_45 : decode cX9_about 45 = .ok (.getfield 15, 3) := by decide +kernel
theorem dX9_about_48 : decode cX9_about 48 = .ok (.iload_n 1, 1) := by decide +kernel
theorem dX9_about_49 : decode cX9_about 49 = .ok (.invokevirtual 101, 3) := by decide +kernel
theorem dX9_about_52 : decode cX9_about 52 = .ok (.ireturn, 1) := by decide +kernel
theorem dX9_about_53 : decode cX9_about 53 = .ok (.aload_n 0, 1) := by decide +kernel
theorem dX9_about_54 : decode cX9_about 54 = .ok (.getfield 15, 3) := by decide +kernel
theorem dX9_about_57 : decode cX9_about 57 = .ok (.iload_n 1, 1) := by decide +kernel
theorem dX9_about_58 : decode cX9_about 58 = .ok (.invokevirtual 109, 3) := by decide +kernel
theorem dX9_about_61 : decode cX9_about 61 = .ok (.ireturn, 1) := by decide +kernel
theorem dX9_about_62 : decode cX9_about 62 = .ok (.aload_n 0, 1) := by decide +kernel
theorem dX9_about_63 : decode cX9_about 63 = .ok (.getfield 15, 3) := by decide +kernel
theorem dX9_about_66 : decode cX9_about 66 = .ok (.iload_n 1, 1) := by decide +kernel
theorem dX9_about_67 : decode cX9_about 67 = .ok (.invokevirtual 115, 3) := by decide +kernel
theorem dX9_about_70 : decode cX9_about 70 = .ok (.ireturn, 1) := by decide +kernel
theorem dX9_about_71 : decode cX9_about 71 = .ok (.aload_n 0, 1) := by decide +kernel
theorem dX9_about_72 : decode cX9_about 72 = .ok (.getfield 15, 3) := by decide +kernel
theorem dX9_about_75 : decode cX9_about 75 = .ok (.iload_n 1, 1) := by decide +kernel
theorem dX9_about_76 : decode cX9_about 76 = .ok (.invokevirtual 118, 3) := by decide +kernel
theorem dX9_about_79 : decode cX9_about 79 = .ok (.ireturn, 1) := by decide +kernel
theorem dX9_about_80 : decode cX9_about 80 = .ok (.bipush (-2), 2) := by decide +kernel
theorem dX9_about_82 : decode cX9_about 82 = .ok (.ireturn, 1) := by decide +kernel
theorem dX9_sees_0 : decode cX9_sees 0 = .ok (.aload_n 0, 1) := by decide +kernel
theorem dX9_sees_1 : decode cX9_sees 1 = .ok (.getfield 15, 3) := by decide +kernel
theorem dX9_sees_4 : decode cX9_sees 4 = .ok (.iload_n 1, 1) := by decide +kernel
theorem dX9_sees_5 : decode cX9_sees 5 = .ok (.invokevirtual 89, 3) := by decide +kernel
theorem dX9_sees_8 : decode cX9_sees 8 = .ok (.ifCond .eq 14, 3) := by decide +kernel
theorem dX9_sees_11 : decode cX9_sees 11 = .ok (.aload_n 0, 1) := by decide +kernel
theorem dX9_sees_12 : decode cX9_sees 12 = .ok (.getfield 15, 3) := by decide +kernel
theorem dX9_sees_15 : decode cX9_sees 15 = .ok (.iload_n 2, 1) := by decide +kernel
theorem dX9_sees_16 : decode cX9_sees 16 = .ok (.invokevirtual 89, 3) := by decide +kernel
theorem dX9_sees_19 : decode cX9_sees 19 = .ok (.ifCond .ne 5, 3) := by decide +kernel
theorem dX9_sees_22 : decode cX9_sees 22 = .ok (.iconst (-1), 1) := by decide +kernel
theorem dX9_sees_23 : decode cX9_sees 23 = .ok (.ireturn, 1) := by decide +kernel
theorem dX9_sees_24 : decode cX9_sees 24 = .ok (.iload_n 1, 1) := by decide +kernel
theorem dX9_sees_25 : decode cX9_sees 25 = .ok (.iload_n 2, 1) := by decide +kernel
theorem dX9_sees_26 : decode cX9_sees 26 = .ok (.if_icmp .ne 6, 3) := by decide +kernel
theorem dX9_sees_29 : decode cX9_sees 29 = .ok (.bipush (-3), 2) := by decide +kernel
theorem dX9_sees_31 : decode cX9_sees 31 = .ok (.ireturn, 1) := by decide +kernel
theorem dX9_sees_32 : decode cX9_sees 32 = .ok (.aload_n 0, 1) := by decide +kernel
theorem dX9_sees_33 : decode cX9_sees 33 = .ok (.getfield 15, 3) := by decide +kernel
theorem dX9_sees_36 : decode cX9_sees 36 = .ok (.iload_n 1, 1) := by decide +kernel
theorem dX9_sees_37 : decode cX9_sees 37 = .ok (.iload_n 2, 1) := by decide +kernel
theorem dX9_sees_38 : decode cX9_sees 38 = .ok (.invokevirtual 93, 3) := by decide +kernel
theorem dX9_sees_41 : decode cX9_sees 41 = .ok (.ireturn, 1) := by decide +kernel
theorem dX9_sum_0 : decode cX9_sum 0 = .ok (.aload_n 0, 1) := by decide +kernel
theorem dX9_sum_1 : decode cX9_sum 1 = .ok (.getfield 15, 3) := by decide +kernel
theorem dX9_sum_4 : decode cX9_sum 4 = .ok (.iload_n 1, 1) := by decide +kernel
theorem dX9_sum_5 : decode cX9_sum 5 = .ok (.invokevirtual 89, 3) := by decide +kernel
theorem dX9_sum_8 : decode cX9_sum 8 = .ok (.ifCond .ne 5, 3) := by decide +kernel
theorem dX9_sum_11 : decode cX9_sum 11 = .ok (.iconst (-1), 1) := by decide +kernel
theorem dX9_sum_12 : decode cX9_sum 12 = .ok (.ireturn, 1) := by decide +kernel
theorem dX9_sum_13 : decode cX9_sum 13 = .ok (.aload_n 0, 1) := by decide +kernel
theorem dX9_sum_14 : decode cX9_sum 14 = .ok (.getfield 15, 3) := by decide +kernel
theorem dX9_sum_17 : decode cX9_sum 17 = .ok (.iload_n 2, 1) := by decide +kernel
theorem dX9_sum_18 : decode cX9_sum 18 = .ok (.invokevirtual 121, 3) := by decide +kernel
theorem dX9_sum_21 : decode cX9_sum 21 = .ok (.ifCond .ne 6, 3) := by decide +kernel
theorem dX9_sum_24 : decode cX9_sum 24 = .ok (.bipush (-2), 2) := by decide +kernel
theorem dX9_sum_26 : decode cX9_sum 26 = .ok (.ireturn, 1) := by decide +kernel
theorem dX9_sum_27 : decode cX9_sum 27 = .ok (.aload_n 0, 1) := by decide +kernel
theorem dX9_sum_28 : decode cX9_sum 28 = .ok (.getfield 15, 3) := by decide +kernel
theorem dX9_sum_31 : decode cX9_sum 31 = .ok (.iload_n 1, 1) := by decide +kernel
theorem dX9_sum_32 : decode cX9_sum 32 = .ok (.iload_n 2, 1) := by decide +kernel
theorem dX9_sum_33 : decode cX9_sum 33 = .ok (.invokevirtual 124, 3) := by decide +kernel
theorem dX9_sum_36 : decode cX9_sum 36 = .ok (.ireturn, 1) := by decide +kernel
theorem dX9_calm_0 : decode cX9_calm 0 = .ok (.aload_n 0, 1) := by decide +kernel
theorem dX9_calm_1 : decode cX9_calm 1 = .ok (.getfield 15, 3) := by decide +kernel
theorem dX9_calm_4 : decode cX9_calm 4 = .ok (.iload_n 1, 1) := by decide +kernel
theorem dX9_calm_5 : decode cX9_calm 5 = .ok (.invokevirtual 121, 3) := by decide +kernel
theorem dX9_calm_8 : decode cX9_calm 8 = .ok (.ifCond .ne 6, 3) := by decide +kernel
theorem dX9_calm_11 : decode cX9_calm 11 = .ok (.bipush (-2), 2) := by decide +kernel
theorem dX9_calm_13 : decode cX9_calm 13 = .ok (.ireturn, 1) := by decide +kernel
theorem dX9_calm_14 : decode cX9_calm 14 = .ok (.aload_n 0, 1) := by decide +kernel
theorem dX9_calm_15 : decode cX9_calm 15 = .ok (.getfield 15, 3) := by decide +kernel
theorem dX9_calm_18 : decode cX9_calm 18 = .ok (.invokevirtual 127, 3) := by decide +kernel
theorem dX9_calm_21 : decode cX9_calm 21 = .ok (.iconst 1, 1) := by decide +kernel
theorem dX9_calm_22 : decode cX9_calm 22 = .ok (.isub, 1) := by decide +kernel
theorem dX9_calm_23 : decode cX9_calm 23 = .ok (.aload_n 0, 1) := by decide +kernel
theorem dX9_calm_24 : decode cX9_calm 24 = .ok (.getfield 15, 3) := by decide +kernel
theorem dX9_calm_27 : decode cX9_calm 27 = .ok (.iload_n 1, 1) := by decide +kernel
theorem dX9_calm_28 : decode cX9_calm 28 = .ok (.invokevirtual 130, 3) := by decide +kernel
theorem dX9_calm_31 : decode cX9_calm 31 = .ok (.iconst (-1), 1) := by decide +kernel
theorem dX9_calm_32 : decode cX9_calm 32 = .ok (.ixor, 1) := by decide +kernel
theorem dX9_calm_33 : decode cX9_calm 33 = .ok (.iand, 1) := by decide +kernel
theorem dX9_calm_34 : decode cX9_calm 34 = .ok (.ireturn, 1) := by decide +kernel
theorem dX9_after_0 : decode cX9_after 0 = .ok (.aload_n 0, 1) := by decide +kernel
theorem dX9_after_1 : decode cX9_after 1 = .ok (.getfield 15, 3) := by decide +kernel
theorem dX9_after_4 : decode cX9_after 4 = .ok (.iload_n 1, 1) := by decide +kernel
theorem dX9_after_5 : decode cX9_after 5 = .ok (.invokevirtual 121, 3) := by decide +kernel
theorem dX9_after_8 : decode cX9_after 8 = .ok (.ifCond .eq 21, 3) := by decide +kernel
theorem dX9_after_11 : decode cX9_after 11 = .ok (.iload_n 2, 1) := by decide +kernel
theorem dX9_after_12 : decode cX9_after 12 = .ok (.invokestatic 133, 3) := by decide +kernel
theorem dX9_after_15 : decode cX9_after 15 = .ok (.ifCond .eq 14, 3) := by decide +kernel
theorem dX9_after_18 : decode cX9_after 18 = .ok (.iload_n 3, 1) := by decide +kernel
theorem dX9_after_19 : decode cX9_after 19 = .ok (.iconst 0, 1) := by decide +kernel
theorem dX9_after_20 : decode cX9_after 20 = .ok (.sipush 10000, 3) := by decide +kernel
theorem dX9_after_23 : decode cX9_after 23 = .ok (.invokestatic 74, 3) := by decide +kernel
theorem dX9_after_26 : decode cX9_after 26 = .ok (.ifCond .ne 6, 3) := by decide +kernel
theorem dX9_after_29 : decode cX9_after 29 = .ok (.bipush (-2), 2) := by decide +kernel
theorem dX9_after_31 : decode cX9_after 31 = .ok (.ireturn, 1) := by decide +kernel
theorem dX9_after_32 : decode cX9_after 32 = .ok (.aload_n 0, 1) := by decide +kernel
theorem dX9_after_33 : decode cX9_after 33 = .ok (.getfield 38, 3) := by decide +kernel
theorem dX9_after_36 : decode cX9_after 36 = .ok (.iload_n 1, 1) := by decide +kernel
theorem dX9_after_37 : decode cX9_after 37 = .ok (.iload_n 2, 1) := by decide +kernel
theorem dX9_after_38 : decode cX9_after 38 = .ok (.iload_n 3, 1) := by decide +kernel
theorem dX9_after_39 : decode cX9_after 39 = .ok (.invokevirtual 136, 3) := by decide +kernel
theorem dX9_after_42 : decode cX9_after 42 = .ok (.ireturn, 1) := by decide +kernel
theorem dX9_run_0 : decode cX9_run 0 = .ok (.aload_n 0, 1) := by decide +kernel
theorem dX9_run_1 : decode cX9_run 1 = .ok (.getfield 15, 3) := by decide +kernel
theorem dX9_run_4 : decode cX9_run 4 = .ok (.iload_n 1, 1) := by decide +kernel
theorem dX9_run_5 : decode cX9_run 5 = .ok (.invokevirtual 121, 3) := by decide +kernel
theorem dX9_run_8 : decode cX9_run 8 = .ok (.ifCond .eq 10, 3) := by decide +kernel
theorem dX9_run_11 : decode cX9_run 11 = .ok (.iload_n 2, 1) := by decide +kernel
theorem dX9_run_12 : decode cX9_run 12 = .ok (.invokestatic 133, 3) := by decide +kernel
theorem dX9_run_15 : decode cX9_run 15 = .ok (.ifCond .ne 6, 3) := by decide +kernel
theorem dX9_run_18 : decode cX9_run 18 = .ok (.bipush (-2), 2) := by decide +kernel
theorem dX9_run_20 : decode cX9_run 20 = .ok (.ireturn, 1) := by decide +kernel
theorem dX9_run_21 : decode cX9_run 21 = .ok (.iload_n 3, 1) := by decide +kernel
theorem dX9_run_22 : decode cX9_run 22 = .ok (.tableswitch 64 0 2 #[26, 36, 46], 26) := by decide +kernel
theorem dX9_run_48 : decode cX9_run 48 = .ok (.aload_n 0, 1) := by decide +kernel
theorem dX9_run_49 : decode cX9_run 49 = .ok (.getfield 38, 3) := by decide +kernel
theorem dX9_run_52 : decode cX9_run 52 = .ok (.iload_n 1, 1) := by decide +kernel
theorem dX9_run_53 : decode cX9_run 53 = .ok (.iload_n 2, 1) := by decide +kernel
theorem dX9_run_54 : decode cX9_run 54 = .ok (.invokevirtual 140, 3) := by decide +kernel
theorem dX9_run_57 : decode cX9_run 57 = .ok (.ireturn, 1) := by decide +kernel
theorem dX9_run_58 : decode cX9_run 58 = .ok (.aload_n 0, 1) := by decide +kernel
theorem dX9_run_59 : decode cX9_run 59 = .ok (.getfield 38, 3) := by decide +kernel
theorem dX9_run_62 : decode cX9_run 62 = .ok (.iload_n 1, 1) := by decide +kernel
theorem dX9_run_63 : decode cX9_run 63 = .ok (.iload_n 2, 1) := by decide +kernel
theorem dX9_run_64 : decode cX9_run 64 = .ok (.invokevirtual 143, 3) := by decide +kernel
theorem dX9_run_67 : decode cX9_run 67 = .ok (.ireturn, 1) := by decide +kernel
theorem dX9_run_68 : decode cX9_run 68 = .ok (.aload_n 0, 1) := by decide +kernel
theorem dX9_run_69 : decode cX9_run 69 = .ok (.getfield 38, 3) := by decide +kernel
theorem dX9_run_72 : decode cX9_run 72 = .ok (.iload_n 2, 1) := by decide +kernel
theorem dX9_run_73 : decode cX9_run 73 = .ok (.aload_n 0, 1) := by decide +kernel
theorem dX9_run_74 : decode cX9_run 74 = .ok (.getfield 38, 3) := by decide +kernel
theorem dX9_run_77 : decode cX9_run 77 = .ok (.iload_n 1, 1) := by decide +kernel
theorem dX9_run_78 : decode cX9_run 78 = .ok (.iload_n 2, 1) := by decide +kernel
theorem dX9_run_79 : decode cX9_run 79 = .ok (.invokevirtual 143, 3) := by decide +kernel
theorem dX9_run_82 : decode cX9_run 82 = .ok (.invokevirtual 146, 3) := by decide +kernel
theorem dX9_run_85 : decode cX9_run 85 = .ok (.ireturn, 1) := by decide +kernel
theorem dX9_run_86 : decode cX9_run 86 = .ok (.bipush (-2), 2) := by decide +kernel
theorem dX9_run_88 : decode cX9_run 88 = .ok (.ireturn, 1) := by decide +kernel
theorem dX9_rings_0 : decode cX9_rings 0 = .ok (.iload_n 1, 1) := by decide +kernel
theorem dX9_rings_1 : decode cX9_rings 1 = .ok (.invokestatic 133, 3) := by decide +kernel
theorem dX9_rings_4 : decode cX9_rings 4 = .ok (.ifCond .ne 6, 3) := by decide +kernel
theorem dX9_rings_7 : decode cX9_rings 7 = .ok (.bipush (-2), 2) := by decide +kernel
theorem dX9_rings_9 : decode cX9_rings 9 = .ok (.ireturn, 1) := by decide +kernel
theorem dX9_rings_10 : decode cX9_rings 10 = .ok (.aload_n 0, 1) := by decide +kernel
theorem dX9_rings_11 : decode cX9_rings 11 = .ok (.getfield 38, 3) := by decide +kernel
theorem dX9_rings_14 : decode cX9_rings 14 = .ok (.iload_n 1, 1) := by decide +kernel
theorem dX9_rings_15 : decode cX9_rings 15 = .ok (.invokevirtual 149, 3) := by decide +kernel
theorem dX9_rings_18 : decode cX9_rings 18 = .ok (.ireturn, 1) := by decide +kernel
theorem dX9_ring_0 : decode cX9_ring 0 = .ok (.iload_n 1, 1) := by decide +kernel
theorem dX9_ring_1 : decode cX9_ring 1 = .ok (.invokestatic 133, 3) := by decide +kernel
theorem dX9_ring_4 : decode cX9_ring 4 = .ok (.ifCond .ne 6, 3) := by decide +kernel
theorem dX9_ring_7 : decode cX9_ring 7 = .ok (.bipush (-2), 2) := by decide +kernel
theorem dX9_ring_9 : decode cX9_ring 9 = .ok (.ireturn, 1) := by decide +kernel
theorem dX9_ring_10 : decode cX9_ring 10 = .ok (.aload_n 0, 1) := by decide +kernel
theorem dX9_ring_11 : decode cX9_ring 11 = .ok (.getfield 38, 3) := by decide +kernel
theorem dX9_ring_14 : decode cX9_ring 14 = .ok (.iload_n 1, 1) := by decide +kernel
theorem dX9_ring_15 : decode cX9_ring 15 = .ok (.iload_n 2, 1) := by decide +kernel
theorem dX9_ring_16 : decode cX9_ring 16 = .ok (.invokevirtual 152, 3) := by decide +kernel
theorem dX9_ring_19 : decode cX9_ring 19 = .ok (.istore 4, 2) := by decide +kernel
theorem dX9_ring_21 : decode cX9_ring 21 = .ok (.iload 4, 2) := by decide +kernel
theorem dX9_ring_23 : decode cX9_ring 23 = .ok (.ifCond .ge 5, 3) := by decide +kernel
theorem dX9_ring_26 : decode cX9_ring 26 = .ok (.iconst (-1), 1) := by decide +kernel
theorem dX9_ring_27 : decode cX9_ring 27 = .ok (.ireturn, 1) := by decide +kernel
theorem dX9_ring_28 : decode cX9_ring 28 = .ok (.iload_n 3, 1) := by decide +kernel
theorem dX9_ring_29 : decode cX9_ring 29 = .ok (.tableswitch 67 0 3 #[31, 34, 45, 56], 31) := by decide +kernel
theorem dX9_ring_60 : decode cX9_ring 60 = .ok (.iload 4, 2) := by decide +kernel
theorem dX9_ring_62 : decode cX9_ring 62 = .ok (.ireturn, 1) := by decide +kernel
theorem dX9_ring_63 : decode cX9_ring 63 = .ok (.aload_n 0, 1) := by decide +kernel
theorem dX9_ring_64 : decode cX9_ring 64 = .ok (.getfield 38, 3) := by decide +kernel
theorem dX9_ring_67 : decode cX9_ring 67 = .ok (.iload_n 1, 1) := by decide +kernel
theorem dX9_ring_68 : decode cX9_ring 68 = .ok (.iload 4, 2) := by decide +kernel
theorem dX9_ring_70 : decode cX9_ring 70 = .ok (.invokevirtual 146, 3) := by decide +kernel
theorem dX9_ring_73 : decode cX9_ring 73 = .ok (.ireturn, 1) := by decide +kernel
theorem dX9_ring_74 : decode cX9_ring 74 = .ok (.aload_n 0, 1) := by decide +kernel
theorem dX9_ring_75 : decode cX9_ring 75 = .ok (.getfield 38, 3) := by decide +kernel
theorem dX9_ring_78 : decode cX9_ring 78 = .ok (.iload_n 1, 1) := by decide +kernel
theorem dX9_ring_79 : decode cX9_ring 79 = .ok (.iload 4, 2) := by decide +kernel
theorem dX9_ring_81 : decode cX9_ring 81 = .ok (.invokevirtual 155, 3) := by decide +kernel
theorem dX9_ring_84 : decode cX9_ring 84 = .ok (.ireturn, 1) := by decide +kernel
theorem dX9_ring_85 : decode cX9_ring 85 = .ok (.aload_n 0, 1) := by decide +kernel
theorem dX9_ring_86 : decode cX9_ring 86 = .ok (.getfield 38, 3) := by decide +kernel
theorem dX9_ring_89 : decode cX9_ring 89 = .ok (.iload_n 1, 1) := by decide +kernel
theorem dX9_ring_90 : decode cX9_ring 90 = .ok (.iload 4, 2) := by decide +kernel
theorem dX9_ring_92 : decode cX9_ring 92 = .ok (.invokevirtual 158, 3) := by decide +kernel
theorem dX9_ring_95 : decode cX9_ring 95 = .ok (.ireturn, 1) := by decide +kernel
theorem dX9_ring_96 : decode cX9_ring 96 = .ok (.bipush (-2), 2) := by decide +kernel
theorem dX9_ring_98 : decode cX9_ring 98 = .ok (.ireturn, 1) := by decide +kernel
theorem dX9_longest_0 : decode cX9_longest 0 = .ok (.iload_n 1, 1) := by decide +kernel
theorem dX9_longest_1 : decode cX9_longest 1 = .ok (.invokestatic 133, 3) := by decide +kernel
theorem dX9_longest_4 : decode cX9_longest 4 = .ok (.ifCond .ne 6, 3) := by decide +kernel
theorem dX9_longest_7 : decode cX9_longest 7 = .ok (.bipush (-2), 2) := by decide +kernel
theorem dX9_longest_9 : decode cX9_longest 9 = .ok (.ireturn, 1) := by decide +kernel
theorem dX9_longest_10 : decode cX9_longest 10 = .ok (.aload_n 0, 1) := by decide +kernel
theorem dX9_longest_11 : decode cX9_longest 11 = .ok (.getfield 38, 3) := by decide +kernel
theorem dX9_longest_14 : decode cX9_longest 14 = .ok (.iload_n 1, 1) := by decide +kernel
theorem dX9_longest_15 : decode cX9_longest 15 = .ok (.invokevirtual 161, 3) := by decide +kernel
theorem dX9_longest_18 : decode cX9_longest 18 = .ok (.ireturn, 1) := by decide +kernel
theorem dX9_rests_0 : decode cX9_rests 0 = .ok (.aload_n 0, 1) := by decide +kernel
theorem dX9_rests_1 : decode cX9_rests 1 = .ok (.getfield 31, 3) := by decide +kernel
theorem dX9_rests_4 : decode cX9_rests 4 = .ok (.invokevirtual 164, 3) := by decide +kernel
theorem dX9_rests_7 : decode cX9_rests 7 = .ok (.ireturn, 1) := by decide +kernel
theorem dX9_rest_0 : decode cX9_rest 0 = .ok (.aload_n 0, 1) := by decide +kernel
theorem dX9_rest_1 : decode cX9_rest 1 = .ok (.getfield 31, 3) := by decide +kernel
theorem dX9_rest_4 : decode cX9_rest 4 = .ok (.iload_n 1, 1) := by decide +kernel
theorem dX9_rest_5 : decode cX9_rest 5 = .ok (.invokevirtual 167, 3) := by decide +kernel
theorem dX9_rest_8 : decode cX9_rest 8 = .ok (.istore_n 2, 1) := by decide +kernel
theorem dX9_rest_9 : decode cX9_rest 9 = .ok (.iload_n 2, 1) := by decide +kernel
theorem dX9_rest_10 : decode cX9_rest 10 = .ok (.ifCond .ge 7, 3) := by decide +kernel
theorem dX9_rest_13 : decode cX9_rest 13 = .ok (.iconst (-1), 1) := by decide +kernel
theorem dX9_rest_14 : decode cX9_rest 14 = .ok (.goto 4, 3) := by decide +kernel
theorem dX9_rest_17 : decode cX9_rest 17 = .ok (.iload_n 2, 1) := by decide +kernel
theorem dX9_rest_18 : decode cX9_rest 18 = .ok (.ireturn, 1) := by decide +kernel
theorem dX9_even_0 : decode cX9_even 0 = .ok (.aload_n 0, 1) := by decide +kernel
theorem dX9_even_1 : decode cX9_even 1 = .ok (.getfield 24, 3) := by decide +kernel
theorem dX9_even_4 : decode cX9_even 4 = .ok (.invokevirtual 170, 3) := by decide +kernel
theorem dX9_even_7 : decode cX9_even 7 = .ok (.ifCond .eq 7, 3) := by decide +kernel
theorem dX9_even_10 : decode cX9_even 10 = .ok (.iconst 1, 1) := by decide +kernel
theorem dX9_even_11 : decode cX9_even 11 = .ok (.goto 4, 3) := by decide +kernel
theorem dX9_even_14 : decode cX9_even 14 = .ok (.iconst 0, 1) := by decide +kernel
theorem dX9_even_15 : decode cX9_even 15 = .ok (.ireturn, 1) := by decide +kernel
theorem dX9_heat_0 : decode cX9_heat 0 = .ok (.aload_n 0, 1) := by decide +kernel
theorem dX9_heat_1 : decode cX9_heat 1 = .ok (.getfield 15, 3) := by decide +kernel
theorem dX9_heat_4 : decode cX9_heat 4 = .ok (.iload_n 1, 1) := by decide +kernel
theorem dX9_heat_5 : decode cX9_heat 5 = .ok (.invokevirtual 121, 3) := by decide +kernel
theorem dX9_heat_8 : decode cX9_heat 8 = .ok (.ifCond .ne 6, 3) := by decide +kernel
theorem dX9_heat_11 : decode cX9_heat 11 = .ok (.bipush (-2), 2) := by decide +kernel
theorem dX9_heat_13 : decode cX9_heat 13 = .ok (.ireturn, 1) := by decide +kernel
theorem dX9_heat_14 : decode cX9_heat 14 = .ok (.aload_n 0, 1) := by decide +kernel
theorem dX9_heat_15 : decode cX9_heat 15 = .ok (.getfield 24, 3) := by decide +kernel
theorem dX9_heat_18 : decode cX9_heat 18 = .ok (.invokevirtual 170, 3) := by decide +kernel
theorem dX9_heat_21 : decode cX9_heat 21 = .ok (.ifCond .ne 6, 3) := by decide +kernel
theorem dX9_heat_24 : decode cX9_heat 24 = .ok (.bipush (-3), 2) := by decide +kernel
theorem dX9_heat_26 : decode cX9_heat 26 = .ok (.ireturn, 1) := by decide +kernel
theorem dX9_heat_27 : decode cX9_heat 27 = .ok (.sipush 10000, 3) := by decide +kernel
theorem dX9_heat_30 : decode cX9_heat 30 = .ok (.aload_n 0, 1) := by decide +kernel
theorem dX9_heat_31 : decode cX9_heat 31 = .ok (.getfield 24, 3) := by decide +kernel
theorem dX9_heat_34 : decode cX9_heat 34 = .ok (.iload_n 1, 1) := by decide +kernel
theorem dX9_heat_35 : decode cX9_heat 35 = .ok (.invokevirtual 174, 3) := by decide +kernel
theorem dX9_heat_38 : decode cX9_heat 38 = .ok (.iadd, 1) := by decide +kernel
theorem dX9_heat_39 : decode cX9_heat 39 = .ok (.ireturn, 1) := by decide +kernel
theorem dX9_lone_0 : decode cX9_lone 0 = .ok (.aload_n 0, 1) := by decide +kernel
theorem dX9_lone_1 : decode cX9_lone 1 = .ok (.getfield 15, 3) := by decide +kernel
theorem dX9_lone_4 : decode cX9_lone 4 = .ok (.iload_n 1, 1) := by decide +kernel
theorem dX9_lone_5 : decode cX9_lone 5 = .ok (.invokevirtual 89, 3) := by decide +kernel
theorem dX9_lone_8 : decode cX9_lone 8 = .ok (.ifCond .ne 5, 3) := by decide +kernel
theorem dX9_lone_11 : decode cX9_lone 11 = .ok (.iconst (-1), 1) := by decide +kernel
theorem dX9_lone_12 : decode cX9_lone 12 = .ok (.ireturn, 1) := by decide +kernel
theorem dX9_lone_13 : decode cX9_lone 13 = .ok (.aload_n 0, 1) := by decide +kernel
theorem dX9_lone_14 : decode cX9_lone 14 = .ok (.getfield 15, 3) := by decide +kernel
theorem dX9_lone_17 : decode cX9_lone 17 = .ok (.iload_n 2, 1) := by decide +kernel
theorem dX9_lone_18 : decode cX9_lone 18 = .ok (.invokevirtual 121, 3) := by decide +kernel
theorem dX9_lone_21 : decode cX9_lone 21 = .ok (.ifCond .ne 6, 3) := by decide +kernel
theorem dX9_lone_24 : decode cX9_lone 24 = .ok (.bipush (-2), 2) := by decide +kernel
theorem dX9_lone_26 : decode cX9_lone 26 = .ok (.ireturn, 1) := by decide +kernel
theorem dX9_lone_27 : decode cX9_lone 27 = .ok (.aload_n 0, 1) := by decide +kernel
theorem dX9_lone_28 : decode cX9_lone 28 = .ok (.getfield 15, 3) := by decide +kernel
theorem dX9_lone_31 : decode cX9_lone 31 = .ok (.iload_n 1, 1) := by decide +kernel
theorem dX9_lone_32 : decode cX9_lone 32 = .ok (.iload_n 2, 1) := by decide +kernel
theorem dX9_lone_33 : decode cX9_lone 33 = .ok (.invokevirtual 177, 3) := by decide +kernel
theorem dX9_lone_36 : decode cX9_lone 36 = .ok (.ifCond .eq 6, 3) := by decide +kernel
theorem dX9_lone_39 : decode cX9_lone 39 = .ok (.bipush (-3), 2) := by decide +kernel
theorem dX9_lone_41 : decode cX9_lone 41 = .ok (.ireturn, 1) := by decide +kernel
theorem dX9_lone_42 : decode cX9_lone 42 = .ok (.iload_n 2, 1) := by decide +kernel
theorem dX9_lone_43 : decode cX9_lone 43 = .ok (.iconst 1, 1) := by decide +kernel
theorem dX9_lone_44 : decode cX9_lone 44 = .ok (.iload_n 1, 1) := by decide +kernel
theorem dX9_lone_45 : decode cX9_lone 45 = .ok (.ishl, 1) := by decide +kernel
theorem dX9_lone_46 : decode cX9_lone 46 = .ok (.ixor, 1) := by decide +kernel
theorem dX9_lone_47 : decode cX9_lone 47 = .ok (.ireturn, 1) := by decide +kernel
theorem dX9_settled_0 : decode cX9_settled 0 = .ok (.aload_n 0, 1) := by decide +kernel
theorem dX9_settled_1 : decode cX9_settled 1 = .ok (.getfield 47, 3) := by decide +kernel
theorem dX9_settled_4 : decode cX9_settled 4 = .ok (.invokevirtual 181, 3) := by decide +kernel
theorem dX9_settled_7 : decode cX9_settled 7 = .ok (.ifCond .ge 7, 3) := by decide +kernel
theorem dX9_settled_10 : decode cX9_settled 10 = .ok (.iconst 1, 1) := by decide +kernel
theorem dX9_settled_11 : decode cX9_settled 11 = .ok (.goto 4, 3) := by decide +kernel
theorem dX9_settled_14 : decode cX9_settled 14 = .ok (.iconst 0, 1) := by decide +kernel
theorem dX9_settled_15 : decode cX9_settled 15 = .ok (.ireturn, 1) := by decide +kernel
theorem dX9_witness_0 : decode cX9_witness 0 = .ok (.aload_n 0, 1) := by decide +kernel
theorem dX9_witness_1 : decode cX9_witness 1 = .ok (.getfield 47, 3) := by decide +kernel
theorem dX9_witness_4 : decode cX9_witness 4 = .ok (.invokevirtual 181, 3) := by decide +kernel
theorem dX9_witness_7 : decode cX9_witness 7 = .ok (.istore_n 1, 1) := by decide +kernel
theorem dX9_witness_8 : decode cX9_witness 8 = .ok (.iload_n 1, 1) := by decide +kernel
theorem dX9_witness_9 : decode cX9_witness 9 = .ok (.ifCond .ge 8, 3) := by decide +kernel
theorem dX9_witness_12 : decode cX9_witness 12 = .ok (.bipush (-9), 2) := by decide +kernel
theorem dX9_witness_14 : decode cX9_witness 14 = .ok (.goto 4, 3) := by decide +kernel
theorem dX9_witness_17 : decode cX9_witness 17 = .ok (.iload_n 1, 1) := by decide +kernel
theorem dX9_witness_18 : decode cX9_witness 18 = .ok (.ireturn, 1) := by decide +kernel
theorem dX9_turn_0 : decode cX9_turn 0 = .ok (.aload_n 0, 1) := by decide +kernel
theorem dX9_turn_1 : decode cX9_turn 1 = .ok (.getfield 15, 3) := by decide +kernel
theorem dX9_turn_4 : decode cX9_turn 4 = .ok (.iconst 3, 1) := by decide +kernel
theorem dX9_turn_5 : decode cX9_turn 5 = .ok (.invokevirtual 184, 3) := by decide +kernel
theorem dX9_turn_8 : decode cX9_turn 8 = .ok (.ifCond .le 6, 3) := by decide +kernel
theorem dX9_turn_11 : decode cX9_turn 11 = .ok (.bipush (-9), 2) := by decide +kernel
theorem dX9_turn_13 : decode cX9_turn 13 = .ok (.ireturn, 1) := by decide +kernel
theorem dX9_turn_14 : decode cX9_turn 14 = .ok (.aload_n 0, 1) := by decide +kernel
theorem dX9_turn_15 : decode cX9_turn 15 = .ok (.getfield 31, 3) := by decide +kernel
theorem dX9_turn_18 : decode cX9_turn 18 = .ok (.invokevirtual 187, 3) := by decide +kernel
theorem dX9_turn_21 : decode cX9_turn 21 = .ok (.invokestatic 190, 3) := by decide +kernel
theorem dX9_turn_24 : decode cX9_turn 24 = .ok (.ireturn, 1) := by decide +kernel
theorem dX9_turned_0 : decode cX9_turned 0 = .ok (.aload_n 0, 1) := by decide +kernel
theorem dX9_turned_1 : decode cX9_turned 1 = .ok (.getfield 15, 3) := by decide +kernel
theorem dX9_turned_4 : decode cX9_turned 4 = .ok (.iconst 3, 1) := by decide +kernel
theorem dX9_turned_5 : decode cX9_turned 5 = .ok (.invokevirtual 184, 3) := by decide +kernel
theorem dX9_turned_8 : decode cX9_turned 8 = .ok (.ifCond .le 6, 3) := by decide +kernel
theorem dX9_turned_11 : decode cX9_turned 11 = .ok (.bipush (-9), 2) := by decide +kernel
theorem dX9_turned_13 : decode cX9_turned 13 = .ok (.ireturn, 1) := by decide +kernel
theorem dX9_turned_14 : decode cX9_turned 14 = .ok (.aload_n 0, 1) := by decide +kernel
theorem dX9_turned_15 : decode cX9_turned 15 = .ok (.getfield 31, 3) := by decide +kernel
theorem dX9_turned_18 : decode cX9_turned 18 = .ok (.invokevirtual 187, 3) := by decide +kernel
theorem dX9_turned_21 : decode cX9_turned 21 = .ok (.ireturn, 1) := by decide +kernel
theorem dX9_hold_0 : decode cX9_hold 0 = .ok (.aload_n 0, 1) := by decide +kernel
theorem dX9_hold_1 : decode cX9_hold 1 = .ok (.getfield 31, 3) := by decide +kernel
theorem dX9_hold_4 : decode cX9_hold 4 = .ok (.invokevirtual 195, 3) := by decide +kernel
theorem dX9_hold_7 : decode cX9_hold 7 = .ok (.istore_n 2, 1) := by decide +kernel
theorem dX9_hold_8 : decode cX9_hold 8 = .ok (.iload_n 1, 1) := by decide +kernel
theorem dX9_hold_9 : decode cX9_hold 9 = .ok (.ifCond .eq 7, 3) := by decide +kernel
theorem dX9_hold_12 : decode cX9_hold 12 = .ok (.iload_n 2, 1) := by decide +kernel
theorem dX9_hold_13 : decode cX9_hold 13 = .ok (.goto 14, 3) := by decide +kernel
theorem dX9_hold_16 : decode cX9_hold 16 = .ok (.aload_n 0, 1) := by decide +kernel
theorem dX9_hold_17 : decode cX9_hold 17 = .ok (.getfield 15, 3) := by decide +kernel
theorem dX9_hold_20 : decode cX9_hold 20 = .ok (.iload_n 2, 1) := by decide +kernel
theorem dX9_hold_21 : decode cX9_hold 21 = .ok (.invokevirtual 130, 3) := by decide +kernel
theorem dX9_hold_24 : decode cX9_hold 24 = .ok (.invokestatic 190, 3) := by decide +kernel
theorem dX9_hold_27 : decode cX9_hold 27 = .ok (.ireturn, 1) := by decide +kernel
theorem dX9_may_0 : decode cX9_may 0 = .ok (.aload_n 0, 1) := by decide +kernel
theorem dX9_may_1 : decode cX9_may 1 = .ok (.getfield 15, 3) := by decide +kernel
theorem dX9_may_4 : decode cX9_may 4 = .ok (.iload_n 1, 1) := by decide +kernel
theorem dX9_may_5 : decode cX9_may 5 = .ok (.invokevirtual 121, 3) := by decide +kernel
theorem dX9_may_8 : decode cX9_may 8 = .ok (.ifCond .ne 6, 3) := by decide +kernel
theorem dX9_may_11 : decode cX9_may 11 = .ok (.bipush (-2), 2) := by decide +kernel
theorem dX9_may_13 : decode cX9_may 13 = .ok (.ireturn, 1) := by decide +kernel
theorem dX9_may_14 : decode cX9_may 14 = .ok (.aload_n 0, 1) := by decide +kernel
theorem dX9_may_15 : decode cX9_may 15 = .ok (.getfield 31, 3) := by decide +kernel
theorem dX9_may_18 : decode cX9_may 18 = .ok (.iload_n 2, 1) := by decide +kernel
theorem dX9_may_19 : decode cX9_may 19 = .ok (.invokevirtual 167, 3) := by decide +kernel
theorem dX9_may_22 : decode cX9_may 22 = .ok (.istore_n 3, 1) := by decide +kernel
theorem dX9_may_23 : decode cX9_may 23 = .ok (.iload_n 3, 1) := by decide +kernel
theorem dX9_may_24 : decode cX9_may 24 = .ok (.ifCond .ge 5, 3) := by decide +kernel
theorem dX9_may_27 : decode cX9_may 27 = .ok (.iconst (-1), 1) := by decide +kernel
theorem dX9_may_28 : decode cX9_may 28 = .ok (.ireturn, 1) := by decide +kernel
theorem dX9_may_29 : decode cX9_may 29 = .ok (.aload_n 0, 1) := by decide +kernel
theorem dX9_may_30 : decode cX9_may 30 = .ok (.getfield 54, 3) := by decide +kernel
theorem dX9_may_33 : decode cX9_may 33 = .ok (.iload_n 1, 1) := by decide +kernel
theorem dX9_may_34 : decode cX9_may 34 = .ok (.iload_n 3, 1) := by decide +kernel
theorem dX9_may_35 : decode cX9_may 35 = .ok (.invokevirtual 198, 3) := by decide +kernel
theorem dX9_may_38 : decode cX9_may 38 = .ok (.ifCond .eq 7, 3) := by decide +kernel
theorem dX9_may_41 : decode cX9_may 41 = .ok (.iconst 1, 1) := by decide +kernel
theorem dX9_may_42 : decode cX9_may 42 = .ok (.goto 4, 3) := by decide +kernel
theorem dX9_may_45 : decode cX9_may 45 = .ok (.iconst 0, 1) := by decide +kernel
theorem dX9_may_46 : decode cX9_may 46 = .ok (.ireturn, 1) := by decide +kernel
theorem dX9_mays_0 : decode cX9_mays 0 = .ok (.aload_n 0, 1) := by decide +kernel
theorem dX9_mays_1 : decode cX9_mays 1 = .ok (.getfield 15, 3) := by decide +kernel
theorem dX9_mays_4 : decode cX9_mays 4 = .ok (.iload_n 1, 1) := by decide +kernel
theorem dX9_mays_5 : decode cX9_mays 5 = .ok (.invokevirtual 121, 3) := by decide +kernel
theorem dX9_mays_8 : decode cX9_mays 8 = .ok (.ifCond .ne 6, 3) := by decide +kernel
theorem dX9_mays_11 : decode cX9_mays 11 = .ok (.bipush (-2), 2) := by decide +kernel
theorem dX9_mays_13 : decode cX9_mays 13 = .ok (.ireturn, 1) := by decide +kernel
theorem dX9_mays_14 : decode cX9_mays 14 = .ok (.aload_n 0, 1) := by decide +kernel
theorem dX9_mays_15 : decode cX9_mays 15 = .ok (.getfield 54, 3) := by decide +kernel
theorem dX9_mays_18 : decode cX9_mays 18 = .ok (.iload_n 1, 1) := by decide +kernel
theorem dX9_mays_19 : decode cX9_mays 19 = .ok (.invokevirtual 201, 3) := by decide +kernel
theorem dX9_mays_22 : decode cX9_mays 22 = .ok (.ireturn, 1) := by decide +kernel
theorem dX9_soon_0 : decode cX9_soon 0 = .ok (.aload_n 0, 1) := by decide +kernel
theorem dX9_soon_1 : decode cX9_soon 1 = .ok (.getfield 15, 3) := by decide +kernel
theorem dX9_soon_4 : decode cX9_soon 4 = .ok (.iload_n 1, 1) := by decide +kernel
theorem dX9_soon_5 : decode cX9_soon 5 = .ok (.invokevirtual 121, 3) := by decide +kernel
theorem dX9_soon_8 : decode cX9_soon 8 = .ok (.ifCond .ne 6, 3) := by decide +kernel
theorem dX9_soon_11 : decode cX9_soon 11 = .ok (.bipush (-2), 2) := by decide +kernel
theorem dX9_soon_13 : decode cX9_soon 13 = .ok (.ireturn, 1) := by decide +kernel
theorem dX9_soon_14 : decode cX9_soon 14 = .ok (.aload_n 0, 1) := by decide +kernel
theorem dX9_soon_15 : decode cX9_soon 15 = .ok (.getfield 54, 3) := by decide +kernel
theorem dX9_soon_18 : decode cX9_soon 18 = .ok (.iload_n 1, 1) := by decide +kernel
theorem dX9_soon_19 : decode cX9_soon 19 = .ok (.invokevirtual 204, 3) := by decide +kernel
theorem dX9_soon_22 : decode cX9_soon 22 = .ok (.istore_n 2, 1) := by decide +kernel
theorem dX9_soon_23 : decode cX9_soon 23 = .ok (.iload_n 2, 1) := by decide +kernel
theorem dX9_soon_24 : decode cX9_soon 24 = .ok (.ifCond .ge 8, 3) := by decide +kernel
theorem dX9_soon_27 : decode cX9_soon 27 = .ok (.bipush (-9), 2) := by decide +kernel
theorem dX9_soon_29 : decode cX9_soon 29 = .ok (.goto 4, 3) := by decide +kernel
theorem dX9_soon_32 : decode cX9_soon 32 = .ok (.iload_n 2, 1) := by decide +kernel
theorem dX9_soon_33 : decode cX9_soon 33 = .ok (.ireturn, 1) := by decide +kernel
theorem dX9_likely_0 : decode cX9_likely 0 = .ok (.aload_n 0, 1) := by decide +kernel
theorem dX9_likely_1 : decode cX9_likely 1 = .ok (.getfield 15, 3) := by decide +kernel
theorem dX9_likely_4 : decode cX9_likely 4 = .ok (.iload_n 1, 1) := by decide +kernel
theorem dX9_likely_5 : decode cX9_likely 5 = .ok (.invokevirtual 121, 3) := by decide +kernel
theorem dX9_likely_8 : decode cX9_likely 8 = .ok (.ifCond .eq 12, 3) := by decide +kernel
theorem dX9_likely_11 : decode cX9_likely 11 = .ok (.iload_n 2, 1) := by decide +kernel
theorem dX9_likely_12 : decode cX9_likely 12 = .ok (.iconst 0, 1) := by decide +kernel
theorem dX9_likely_13 : decode cX9_likely 13 = .ok (.iconst 4, 1) := by decide +kernel
theorem dX9_likely_14 : decode cX9_likely 14 = .ok (.invokestatic 74, 3) := by decide +kernel
theorem dX9_likely_17 : decode cX9_likely 17 = .ok (.ifCond .ne 7, 3) := by decide +kernel
theorem dX9_likely_20 : decode cX9_likely 20 = .ok (.ldc2_w 207, 3) := by decide +kernel
theorem dX9_likely_23 : decode cX9_likely 23 = .ok (.lreturn, 1) := by decide +kernel
theorem dX9_likely_24 : decode cX9_likely 24 = .ok (.aload_n 0, 1) := by decide +kernel
theorem dX9_likely_25 : decode cX9_likely 25 = .ok (.getfield 54, 3) := by decide +kernel
theorem dX9_likely_28 : decode cX9_likely 28 = .ok (.iload_n 1, 1) := by decide +kernel
theorem dX9_likely_29 : decode cX9_likely 29 = .ok (.iload_n 2, 1) := by decide +kernel
theorem dX9_likely_30 : decode cX9_likely 30 = .ok (.iload_n 3, 1) := by decide +kernel
theorem dX9_likely_31 : decode cX9_likely 31 = .ok (.invokevirtual 209, 3) := by decide +kernel
theorem dX9_likely_34 : decode cX9_likely 34 = .ok (.lreturn, 1) := by decide +kernel
theorem dX9_week_0 : decode cX9_week 0 = .ok (.aload_n 0, 1) := by decide +kernel
theorem dX9_week_1 : decode cX9_week 1 = .ok (.getfield 15, 3) := by decide +kernel
theorem dX9_week_4 : decode cX9_week 4 = .ok (.iload_n 1, 1) := by decide +kernel
theorem dX9_week_5 : decode cX9_week 5 = .ok (.invokevirtual 121, 3) := by decide +kernel
theorem dX9_week_8 : decode cX9_week 8 = .ok (.ifCond .ne 6, 3) := by decide +kernel
theorem dX9_week_11 : decode cX9_week 11 = .ok (.bipush (-2), 2) := by decide +kernel
theorem dX9_week_13 : decode cX9_week 13 = .ok (.ireturn, 1) := by decide +kernel
theorem dX9_week_14 : decode cX9_week 14 = .ok (.aload_n 0, 1) := by decide +kernel
theorem dX9_week_15 : decode cX9_week 15 = .ok (.getfield 61, 3) := by decide +kernel
theorem dX9_week_18 : decode cX9_week 18 = .ok (.invokevirtual 213, 3) := by decide +kernel
theorem dX9_week_21 : decode cX9_week 21 = .ok (.ifCond .eq 6, 3) := by decide +kernel
theorem dX9_week_24 : decode cX9_week 24 = .ok (.bipush (-4), 2) := by decide +kernel
theorem dX9_week_26 : decode cX9_week 26 = .ok (.ireturn, 1) := by decide +kernel
theorem dX9_week_27 : decode cX9_week 27 = .ok (.aload_n 0, 1) := by decide +kernel
theorem dX9_week_28 : decode cX9_week 28 = .ok (.getfield 61, 3) := by decide +kernel
theorem dX9_week_31 : decode cX9_week 31 = .ok (.iload_n 1, 1) := by decide +kernel
theorem dX9_week_32 : decode cX9_week 32 = .ok (.invokevirtual 216, 3) := by decide +kernel
theorem dX9_week_35 : decode cX9_week 35 = .ok (.aload_n 0, 1) := by decide +kernel
theorem dX9_week_36 : decode cX9_week 36 = .ok (.getfield 61, 3) := by decide +kernel
theorem dX9_week_39 : decode cX9_week 39 = .ok (.invokevirtual 219, 3) := by decide +kernel
theorem dX9_week_42 : decode cX9_week 42 = .ok (.ireturn, 1) := by decide +kernel
theorem dX9_wipe_0 : decode cX9_wipe 0 = .ok (.aload_n 0, 1) := by decide +kernel
theorem dX9_wipe_1 : decode cX9_wipe 1 = .ok (.getfield 61, 3) := by decide +kernel
theorem dX9_wipe_4 : decode cX9_wipe 4 = .ok (.invokevirtual 219, 3) := by decide +kernel
theorem dX9_wipe_7 : decode cX9_wipe 7 = .ok (.istore_n 1, 1) := by decide +kernel
theorem dX9_wipe_8 : decode cX9_wipe 8 = .ok (.aload_n 0, 1) := by decide +kernel
theorem dX9_wipe_9 : decode cX9_wipe 9 = .ok (.getfield 61, 3) := by decide +kernel
theorem dX9_wipe_12 : decode cX9_wipe 12 = .ok (.invokevirtual 86, 3) := by decide +kernel
theorem dX9_wipe_15 : decode cX9_wipe 15 = .ok (.iload_n 1, 1) := by decide +kernel
theorem dX9_wipe_16 : decode cX9_wipe 16 = .ok (.ireturn, 1) := by decide +kernel
theorem dX9_maybe_0 : decode cX9_maybe 0 = .ok (.aload_n 0, 1) := by decide +kernel
theorem dX9_maybe_1 : decode cX9_maybe 1 = .ok (.getfield 15, 3) := by decide +kernel
theorem dX9_maybe_4 : decode cX9_maybe 4 = .ok (.iload_n 1, 1) := by decide +kernel
theorem dX9_maybe_5 : decode cX9_maybe 5 = .ok (.invokevirtual 89, 3) := by decide +kernel
theorem dX9_maybe_8 : decode cX9_maybe 8 = .ok (.ifCond .ne 5, 3) := by decide +kernel
theorem dX9_maybe_11 : decode cX9_maybe 11 = .ok (.iconst (-1), 1) := by decide +kernel
theorem dX9_maybe_12 : decode cX9_maybe 12 = .ok (.ireturn, 1) := by decide +kernel
theorem dX9_maybe_13 : decode cX9_maybe 13 = .ok (.aload_n 0, 1) := by decide +kernel
theorem dX9_maybe_14 : decode cX9_maybe 14 = .ok (.getfield 61, 3) := by decide +kernel
theorem dX9_maybe_17 : decode cX9_maybe 17 = .ok (.iload_n 1, 1) := by decide +kernel
theorem dX9_maybe_18 : decode cX9_maybe 18 = .ok (.invokevirtual 220, 3) := by decide +kernel
theorem dX9_maybe_21 : decode cX9_maybe 21 = .ok (.ireturn, 1) := by decide +kernel
theorem dX9_ways_0 : decode cX9_ways 0 = .ok (.aload_n 0, 1) := by decide +kernel
theorem dX9_ways_1 : decode cX9_ways 1 = .ok (.getfield 61, 3) := by decide +kernel
theorem dX9_ways_4 : decode cX9_ways 4 = .ok (.invokevirtual 223, 3) := by decide +kernel
theorem dX9_ways_7 : decode cX9_ways 7 = .ok (.lreturn, 1) := by decide +kernel
theorem dX9_take_0 : decode cX9_take 0 = .ok (.aload_n 0, 1) := by decide +kernel
theorem dX9_take_1 : decode cX9_take 1 = .ok (.getfield 61, 3) := by decide +kernel
theorem dX9_take_4 : decode cX9_take 4 = .ok (.invokevirtual 223, 3) := by decide +kernel
theorem dX9_take_7 : decode cX9_take 7 = .ok (.lconst 0, 1) := by decide +kernel
theorem dX9_take_8 : decode cX9_take 8 = .ok (.lcmp, 1) := by decide +kernel
theorem dX9_take_9 : decode cX9_take 9 = .ok (.ifCond .ne 6, 3) := by decide +kernel
theorem dX9_take_12 : decode cX9_take 12 = .ok (.bipush (-3), 2) := by decide +kernel
theorem dX9_take_14 : decode cX9_take 14 = .ok (.ireturn, 1) := by decide +kernel
theorem dX9_take_15 : decode cX9_take 15 = .ok (.aload_n 0, 1) := by decide +kernel
theorem dX9_take_16 : decode cX9_take 16 = .ok (.getfield 61, 3) := by decide +kernel
theorem dX9_take_19 : decode cX9_take 19 = .ok (.invokevirtual 227, 3) := by decide +kernel
theorem dX9_take_22 : decode cX9_take 22 = .ok (.ireturn, 1) := by decide +kernel
theorem dX9_asked_0 : decode cX9_asked 0 = .ok (.aload_n 0, 1) := by decide +kernel
theorem dX9_asked_1 : decode cX9_asked 1 = .ok (.getfield 15, 3) := by decide +kernel
theorem dX9_asked_4 : decode cX9_asked 4 = .ok (.iload_n 1, 1) := by decide +kernel
theorem dX9_asked_5 : decode cX9_asked 5 = .ok (.invokevirtual 121, 3) := by decide +kernel
theorem dX9_asked_8 : decode cX9_asked 8 = .ok (.ifCond .eq 17, 3) := by decide +kernel
theorem dX9_asked_11 : decode cX9_asked 11 = .ok (.iload_n 2, 1) := by decide +kernel
theorem dX9_asked_12 : decode cX9_asked 12 = .ok (.invokestatic 133, 3) := by decide +kernel
theorem dX9_asked_15 : decode cX9_asked 15 = .ok (.ifCond .eq 10, 3) := by decide +kernel
theorem dX9_asked_18 : decode cX9_asked 18 = .ok (.iload_n 3, 1) := by decide +kernel
theorem dX9_asked_19 : decode cX9_asked 19 = .ok (.invokestatic 230, 3) := by decide +kernel
theorem dX9_asked_22 : decode cX9_asked 22 = .ok (.ifCond .ne 6, 3) := by decide +kernel
theorem dX9_asked_25 : decode cX9_asked 25 = .ok (.bipush (-2), 2) := by decide +kernel
theorem dX9_asked_27 : decode cX9_asked 27 = .ok (.ireturn, 1) := by decide +kernel
theorem dX9_asked_28 : decode cX9_asked 28 = .ok (.aload_n 0, 1) := by decide +kernel
theorem dX9_asked_29 : decode cX9_asked 29 = .ok (.getfield 70, 3) := by decide +kernel
theorem dX9_asked_32 : decode cX9_asked 32 = .ok (.iload_n 1, 1) := by decide +kernel
theorem dX9_asked_33 : decode cX9_asked 33 = .ok (.iload_n 2, 1) := by decide +kernel
theorem dX9_asked_34 : decode cX9_asked 34 = .ok (.iload_n 3, 1) := by decide +kernel
theorem dX9_asked_35 : decode cX9_asked 35 = .ok (.invokevirtual 233, 3) := by decide +kernel
theorem dX9_asked_38 : decode cX9_asked 38 = .ok (.ireturn, 1) := by decide +kernel
theorem dX9_gain_0 : decode cX9_gain 0 = .ok (.iload_n 1, 1) := by decide +kernel
theorem dX9_gain_1 : decode cX9_gain 1 = .ok (.invokestatic 133, 3) := by decide +kernel
theorem dX9_gain_4 : decode cX9_gain 4 = .ok (.ifCond .eq 21, 3) := by decide +kernel
theorem dX9_gain_7 : decode cX9_gain 7 = .ok (.iload_n 2, 1) := by decide +kernel
theorem dX9_gain_8 : decode cX9_gain 8 = .ok (.invokestatic 230, 3) := by decide +kernel
theorem dX9_gain_11 : decode cX9_gain 11 = .ok (.ifCond .eq 14, 3) := by decide +kernel
theorem dX9_gain_14 : decode cX9_gain 14 = .ok (.iload_n 3, 1) := by decide +kernel
theorem dX9_gain_15 : decode cX9_gain 15 = .ok (.iconst 0, 1) := by decide +kernel
theorem dX9_gain_16 : decode cX9_gain 16 = .ok (.sipush 500, 3) := by decide +kernel
theorem dX9_gain_19 : decode cX9_gain 19 = .ok (.invokestatic 74, 3) := by decide +kernel
theorem dX9_gain_22 : decode cX9_gain 22 = .ok (.ifCond .ne 6, 3) := by decide +kernel
theorem dX9_gain_25 : decode cX9_gain 25 = .ok (.bipush (-2), 2) := by decide +kernel
theorem dX9_gain_27 : decode cX9_gain 27 = .ok (.ireturn, 1) := by decide +kernel
theorem dX9_gain_28 : decode cX9_gain 28 = .ok (.iload 4, 2) := by decide +kernel
theorem dX9_gain_30 : decode cX9_gain 30 = .ok (.invokestatic 236, 3) := by decide +kernel
theorem dX9_gain_33 : decode cX9_gain 33 = .ok (.ifCond .eq 11, 3) := by decide +kernel
theorem dX9_gain_36 : decode cX9_gain 36 = .ok (.iload 5, 2) := by decide +kernel
theorem dX9_gain_38 : decode cX9_gain 38 = .ok (.invokestatic 236, 3) := by decide +kernel
theorem dX9_gain_41 : decode cX9_gain 41 = .ok (.ifCond .ne 6, 3) := by decide +kernel
theorem dX9_gain_44 : decode cX9_gain 44 = .ok (.bipush (-2), 2) := by decide +kernel
theorem dX9_gain_46 : decode cX9_gain 46 = .ok (.ireturn, 1) := by decide +kernel
theorem dX9_gain_47 : decode cX9_gain 47 = .ok (.aload_n 0, 1) := by decide +kernel
theorem dX9_gain_48 : decode cX9_gain 48 = .ok (.getfield 70, 3) := by decide +kernel
theorem dX9_gain_51 : decode cX9_gain 51 = .ok (.iload_n 1, 1) := by decide +kernel
theorem dX9_gain_52 : decode cX9_gain 52 = .ok (.iload_n 2, 1) := by decide +kernel
theorem dX9_gain_53 : decode cX9_gain 53 = .ok (.iload_n 3, 1) := by decide +kernel
theorem dX9_gain_54 : decode cX9_gain 54 = .ok (.iload 4, 2) := by decide +kernel
theorem dX9_gain_56 : decode cX9_gain 56 = .ok (.iload 5, 2) := by decide +kernel
theorem dX9_gain_58 : decode cX9_gain 58 = .ok (.invokevirtual 239, 3) := by decide +kernel
theorem dX9_gain_61 : decode cX9_gain 61 = .ok (.ireturn, 1) := by decide +kernel
theorem dX9_order_0 : decode cX9_order 0 = .ok (.iload_n 1, 1) := by decide +kernel
theorem dX9_order_1 : decode cX9_order 1 = .ok (.invokestatic 133, 3) := by decide +kernel
theorem dX9_order_4 : decode cX9_order 4 = .ok (.ifCond .eq 10, 3) := by decide +kernel
theorem dX9_order_7 : decode cX9_order 7 = .ok (.iload_n 2, 1) := by decide +kernel
theorem dX9_order_8 : decode cX9_order 8 = .ok (.invokestatic 230, 3) := by decide +kernel
theorem dX9_order_11 : decode cX9_order 11 = .ok (.ifCond .ne 6, 3) := by decide +kernel
theorem dX9_order_14 : decode cX9_order 14 = .ok (.bipush (-2), 2) := by decide +kernel
theorem dX9_order_16 : decode cX9_order 16 = .ok (.ireturn, 1) := by decide +kernel
theorem dX9_order_17 : decode cX9_order 17 = .ok (.iload_n 3, 1) := by decide +kernel
theorem dX9_order_18 : decode cX9_order 18 = .ok (.invokestatic 236, 3) := by decide +kernel
theorem dX9_order_21 : decode cX9_order 21 = .ok (.ifCond .eq 11, 3) := by decide +kernel
theorem dX9_order_24 : decode cX9_order 24 = .ok (.iload 4, 2) := by decide +kernel
theorem dX9_order_26 : decode cX9_order 26 = .ok (.invokestatic 236, 3) := by decide +kernel
theorem dX9_order_29 : decode cX9_order 29 = .ok (.ifCond .ne 6, 3) := by decide +kernel
theorem dX9_order_32 : decode cX9_order 32 = .ok (.bipush (-2), 2) := by decide +kernel
theorem dX9_order_34 : decode cX9_order 34 = .ok (.ireturn, 1) := by decide +kernel
theorem dX9_order_35 : decode cX9_order 35 = .ok (.aload_n 0, 1) := by decide +kernel
theorem dX9_order_36 : decode cX9_order 36 = .ok (.getfield 70, 3) := by decide +kernel
theorem dX9_order_39 : decode cX9_order 39 = .ok (.iload_n 1, 1) := by decide +kernel
theorem dX9_order_40 : decode cX9_order 40 = .ok (.iload_n 2, 1) := by decide +kernel
theorem dX9_order_41 : decode cX9_order 41 = .ok (.iload_n 3, 1) := by decide +kernel
theorem dX9_order_42 : decode cX9_order 42 = .ok (.iload 4, 2) := by decide +kernel
theorem dX9_order_44 : decode cX9_order 44 = .ok (.invokevirtual 243, 3) := by decide +kernel
theorem dX9_order_47 : decode cX9_order 47 = .ok (.ireturn, 1) := by decide +kernel
theorem dX9_count_0 : decode cX9_count 0 = .ok (.iload_n 1, 1) := by decide +kernel
theorem dX9_count_1 : decode cX9_count 1 = .ok (.tableswitch 77 0 4 #[35, 43, 51, 59, 68], 35) := by decide +kernel
theorem dX9_count_36 : decode cX9_count 36 = .ok (.aload_n 0, 1) := by decide +kernel
theorem dX9_count_37 : decode cX9_count 37 = .ok (.getfield 15, 3) := by decide +kernel
theorem dX9_count_40 : decode cX9_count 40 = .ok (.invokevirtual 78, 3) := by decide +kernel
theorem dX9_count_43 : decode cX9_count 43 = .ok (.ireturn, 1) := by decide +kernel
theorem dX9_count_44 : decode cX9_count 44 = .ok (.aload_n 0, 1) := by decide +kernel
theorem dX9_count_45 : decode cX9_count 45 = .ok (.getfield 15, 3) := by decide +kernel
theorem dX9_count_48 : decode cX9_count 48 = .ok (.invokevirtual 247, 3) := by decide +kernel
theorem dX9_count_51 : decode cX9_count 51 = .ok (.ireturn, 1) := by decide +kernel
theorem dX9_count_52 : decode cX9_count 52 = .ok (.aload_n 0, 1) := by decide +kernel
theorem dX9_count_53 : decode cX9_count 53 = .ok (.getfield 61, 3) := by decide +kernel
theorem dX9_count_56 : decode cX9_count 56 = .ok (.invokevirtual 219, 3) := by decide +kernel
theorem dX9_count_59 : decode cX9_count 59 = .ok (.ireturn, 1) := by decide +kernel
theorem dX9_count_60 : decode cX9_count 60 = .ok (.aload_n 0, 1) := by decide +kernel
theorem dX9_count_61 : decode cX9_count 61 = .ok (.getfield 15, 3) := by decide +kernel
theorem dX9_count_64 : decode cX9_count 64 = .ok (.iconst 0, 1) := by decide +kernel
theorem dX9_count_65 : decode cX9_count 65 = .ok (.invokevirtual 184, 3) := by decide +kernel
theorem dX9_count_68 : decode cX9_count 68 = .ok (.ireturn, 1) := by decide +kernel
theorem dX9_count_69 : decode cX9_count 69 = .ok (.aload_n 0, 1) := by decide +kernel
theorem dX9_count_70 : decode cX9_count 70 = .ok (.getfield 15, 3) := by decide +kernel
theorem dX9_count_73 : decode cX9_count 73 = .ok (.iconst 1, 1) := by decide +kernel
theorem dX9_count_74 : decode cX9_count 74 = .ok (.invokevirtual 184, 3) := by decide +kernel
theorem dX9_count_77 : decode cX9_count 77 = .ok (.ireturn, 1) := by decide +kernel
theorem dX9_count_78 : decode cX9_count 78 = .ok (.bipush (-2), 2) := by decide +kernel
theorem dX9_count_80 : decode cX9_count 80 = .ok (.ireturn, 1) := by decide +kernel
theorem dX9_within_0 : decode cX9_within 0 = .ok (.iload_n 0, 1) := by decide +kernel
theorem dX9_within_1 : decode cX9_within 1 = .ok (.iload_n 1, 1) := by decide +kernel
theorem dX9_within_2 : decode cX9_within 2 = .ok (.if_icmp .lt 12, 3) := by decide +kernel
theorem dX9_within_5 : decode cX9_within 5 = .ok (.iload_n 0, 1) := by decide +kernel
theorem dX9_within_6 : decode cX9_within 6 = .ok (.iload_n 2, 1) := by decide +kernel
theorem dX9_within_7 : decode cX9_within 7 = .ok (.if_icmp .gt 7, 3) := by decide +kernel
theorem dX9_within_10 : decode cX9_within 10 = .ok (.iconst 1, 1) := by decide +kernel
theorem dX9_within_11 : decode cX9_within 11 = .ok (.goto 4, 3) := by decide +kernel
theorem dX9_within_14 : decode cX9_within 14 = .ok (.iconst 0, 1) := by decide +kernel
theorem dX9_within_15 : decode cX9_within 15 = .ok (.ireturn, 1) := by decide +kernel
theorem dX9_isWay_0 : decode cX9_isWay 0 = .ok (.iload_n 0, 1) := by decide +kernel
theorem dX9_isWay_1 : decode cX9_isWay 1 = .ok (.ifCond .eq 8, 3) := by decide +kernel
theorem dX9_isWay_4 : decode cX9_isWay 4 = .ok (.iload_n 0, 1) := by decide +kernel
theorem dX9_isWay_5 : decode cX9_isWay 5 = .ok (.iconst 1, 1) := by decide +kernel
theorem dX9_isWay_6 : decode cX9_isWay 6 = .ok (.if_icmp .ne 7, 3) := by decide +kernel
theorem dX9_isWay_9 : decode cX9_isWay 9 = .ok (.iconst 1, 1) := by decide +kernel
theorem dX9_isWay_10 : decode cX9_isWay 10 = .ok (.goto 4, 3) := by decide +kernel
theorem dX9_isWay_13 : decode cX9_isWay 13 = .ok (.iconst 0, 1) := by decide +kernel
theorem dX9_isWay_14 : decode cX9_isWay 14 = .ok (.ireturn, 1) := by decide +kernel
theorem dX9_isShopRun_0 : decode cX9_isShopRun 0 = .ok (.iload_n 0, 1) := by decide +kernel
theorem dX9_isShopRun_1 : decode cX9_isShopRun 1 = .ok (.iconst 1, 1) := by decide +kernel
theorem dX9_isShopRun_2 : decode cX9_isShopRun 2 = .ok (.bipush 50, 2) := by decide +kernel
theorem dX9_isShopRun_4 : decode cX9_isShopRun 4 = .ok (.invokestatic 74, 3) := by decide +kernel
theorem dX9_isShopRun_7 : decode cX9_isShopRun 7 = .ok (.ireturn, 1) := by decide +kernel
theorem dX9_isMoney_0 : decode cX9_isMoney 0 = .ok (.iload_n 0, 1) := by decide +kernel
theorem dX9_isMoney_1 : decode cX9_isMoney 1 = .ok (.iconst 1, 1) := by decide +kernel
theorem dX9_isMoney_2 : decode cX9_isMoney 2 = .ok (.bipush 99, 2) := by decide +kernel
theorem dX9_isMoney_4 : decode cX9_isMoney 4 = .ok (.invokestatic 74, 3) := by decide +kernel
theorem dX9_isMoney_7 : decode cX9_isMoney 7 = .ok (.ireturn, 1) := by decide +kernel
end
section
theorem dX10_in_0 : decode cX10_in 0 = .ok (.lload_n 0, 1) := by decide +kernel
theorem dX10_in_1 : decode cX10_in 1 = .ok (.lload_n 2, 1) := by decide +kernel
theorem dX10_in_2 : decode cX10_in 2 = .ok (.lcmp, 1) := by decide +kernel
theorem dX10_in_3 : decode cX10_in 3 = .ok (.ifCond .lt 14, 3) := by decide +kernel
theorem dX10_in_6 : decode cX10_in 6 = .ok (.lload_n 0, 1) := by decide +kernel
theorem dX10_in_7 : decode cX10_in 7 = .ok (.lload 4, 2) := by decide +kernel
theorem dX10_in_9 : decode cX10_in 9 = .ok (.lcmp, 1) := by decide +kernel
theorem dX10_in_10 : decode cX10_in 10 = .ok (.ifCond .gt 7, 3) := by decide +kernel
theorem dX10_in_13 : decode cX10_in 13 = .ok (.iconst 1, 1) := by decide +kernel
theorem dX10_in_14 : decode cX10_in 14 = .ok (.goto 4, 3) := by decide +kernel
theorem dX10_in_17 : decode cX10_in 17 = .ok (.iconst 0, 1) := by decide +kernel
theorem dX10_in_18 : decode cX10_in 18 = .ok (.ireturn, 1) := by decide +kernel
theorem dX10_ones_0 : decode cX10_ones 0 = .ok (.iconst 0, 1) := by decide +kernel
theorem dX10_ones_1 : decode cX10_ones 1 = .ok (.istore_n 1, 1) := by decide +kernel
theorem dX10_ones_2 : decode cX10_ones 2 = .ok (.iconst 0, 1) := by decide +kernel
theorem dX10_ones_3 : decode cX10_ones 3 = .ok (.istore_n 2, 1) := by decide +kernel
theorem dX10_ones_4 : decode cX10_ones 4 = .ok (.iload_n 2, 1) := by decide +kernel
theorem dX10_ones_5 : decode cX10_ones 5 = .ok (.bipush 10, 2) := by decide +kernel
theorem dX10_ones_7 : decode cX10_ones 7 = .ok (.if_icmp .ge 17, 3) := by decide +kernel
theorem dX10_ones_10 : decode cX10_ones 10 = .ok (.iload_n 1, 1) := by decide +kernel
theorem dX10_ones_11 : decode cX10_ones 11 = .ok (.iload_n 0, 1) := by decide +kernel
theorem dX10_ones_12 : decode cX10_ones 12 = .ok (.iload_n 2, 1) := by decide +kernel
theorem dX10_ones_13 : decode cX10_ones 13 = .ok (.ishr, 1) := by decide +kernel
theorem dX10_ones_14 : decode cX10_ones 14 = .ok (.iconst 1, 1) := by decide +kernel
theorem dX10_ones_15 : decode cX10_ones 15 = .ok (.iand, 1) := by decide +kernel
theorem dX10_ones_16 : decode cX10_ones 16 = .ok (.iadd, 1) := by decide +kernel
theorem dX10_ones_17 : decode cX10_ones 17 = .ok (.istore_n 1, 1) := by decide +kernel
theorem dX10_ones_18 : decode cX10_ones 18 = .ok (.iinc 2 1, 3) := by decide +kernel
theorem dX10_ones_21 : decode cX10_ones 21 = .ok (.goto (-17), 3) := by decide +kernel
theorem dX10_ones_24 : decode cX10_ones 24 = .ok (.iload_n 1, 1) := by decide +kernel
theorem dX10_ones_25 : decode cX10_ones 25 = .ok (.ireturn, 1) := by decide +kernel
theorem dX10_isPerson_0 : decode cX10_isPerson 0 = .ok (.iload_n 1, 1) := by decide +kernel
theorem dX10_isPerson_1 : decode cX10_isPerson 1 = .ok (.i2l, 1) := by decide +kernel
theorem dX10_isPerson_2 : decode cX10_isPerson 2 = .ok (.lconst 0, 1) := by decide +kernel
theorem dX10_isPerson_3 : decode cX10_isPerson 3 = .ok (.aload_n 0, 1) := by decide +kernel
theorem dX10_isPerson_4 : decode cX10_isPerson 4 = .ok (.getfield 7, 3) := by decide +kernel
theorem dX10_isPerson_7 : decode cX10_isPerson 7 = .ok (.iconst 1, 1) := by decide +kernel
theorem dX10_isPerson_8 : decode cX10_isPerson 8 = .ok (.isub, 1) := by decide +kernel
theorem dX10_isPerson_9 : decode cX10_isPerson 9 = .ok (.i2l, 1) := by decide +kernel
theorem dX10_isPerson_10 : decode cX10_isPerson 10 = .ok (.invokestatic 60, 3) := by decide +kernel
theorem dX10_isPerson_13 : decode cX10_isPerson 13 = .ok (.ireturn, 1) := by decide +kernel
theorem dX10_isDress_0 : decode cX10_isDress 0 = .ok (.iload_n 1, 1) := by decide +kernel
theorem dX10_isDress_1 : decode cX10_isDress 1 = .ok (.i2l, 1) := by decide +kernel
theorem dX10_isDress_2 : decode cX10_isDress 2 = .ok (.lconst 0, 1) := by decide +kernel
theorem dX10_isDress_3 : decode cX10_isDress 3 = .ok (.iconst 1, 1) := by decide +kernel
theorem dX10_isDress_4 : decode cX10_isDress 4 = .ok (.aload_n 0, 1) := by decide +kernel
theorem dX10_isDress_5 : decode cX10_isDress 5 = .ok (.getfield 7, 3) := by decide +kernel
theorem dX10_isDress_8 : decode cX10_isDress 8 = .ok (.ishl, 1) := by decide +kernel
theorem dX10_isDress_9 : decode cX10_isDress 9 = .ok (.iconst 1, 1) := by decide +kernel
theorem dX10_isDress_10 : decode cX10_isDress 10 = .ok (.isub, 1) := by decide +kernel
theorem dX10_isDress_11 : decode cX10_isDress 11 = .ok (.i2l, 1) := by decide +kernel
theorem dX10_isDress_12 : decode cX10_isDress 12 = .ok (.invokestatic 60, 3) := by decide +kernel
theorem dX10_isDress_15 : decode cX10_isDress 15 = .ok (.ireturn, 1) := by decide +kernel
theorem dX10_isWay_0 : decode cX10_isWay 0 = .ok (.iload_n 0, 1) := by decide +kernel
theorem dX10_isWay_1 : decode cX10_isWay 1 = .ok (.i2l, 1) := by decide +kernel
theorem dX10_isWay_2 : decode cX10_isWay 2 = .ok (.lconst 0, 1) := by decide +kernel
theorem dX10_isWay_3 : decode cX10_isWay 3 = .ok (.lconst 1, 1) := by decide +kernel
theorem dX10_isWay_4 : decode cX10_isWay 4 = .ok (.invokestatic 60, 3) := by decide +kernel
theorem dX10_isWay_7 : decode cX10_isWay 7 = .ok (.ireturn, 1) := by decide +kernel
theorem dX10_people_0 : decode cX10_people 0 = .ok (.iload_n 1, 1) := by decide +kernel
theorem dX10_people_1 : decode cX10_people 1 = .ok (.i2l, 1) := by decide +kernel
theorem dX10_people_2 : decode cX10_people 2 = .ok (.lconst 1, 1) := by decide +kernel
theorem dX10_people_3 : decode cX10_people 3 = .ok (.ldc2_w 64, 3) := by decide +kernel
theorem dX10_people_6 : decode cX10_people 6 = .ok (.invokestatic 60, 3) := by decide +kernel
theorem dX10_people_9 : decode cX10_people 9 = .ok (.ifCond .ne 6, 3) := by decide +kernel
theorem dX10_people_12 : decode cX10_people 12 = .ok (.bipush (-2), 2) := by decide +kernel
theorem dX10_people_14 : decode cX10_people 14 = .ok (.ireturn, 1) := by decide +kernel
theorem dX10_people_15 : decode cX10_people 15 = .ok (.aload_n 0, 1) := by decide +kernel
theorem dX10_people_16 : decode cX10_people 16 = .ok (.getfield 7, 3) := by decide +kernel
theorem dX10_people_19 : decode cX10_people 19 = .ok (.istore_n 2, 1) := by decide +kernel
theorem dX10_people_20 : decode cX10_people 20 = .ok (.aload_n 0, 1) := by decide +kernel
theorem dX10_people_21 : decode cX10_people 21 = .ok (.iload_n 1, 1) := by decide +kernel
theorem dX10_people_22 : decode cX10_people 22 = .ok (.putfield 7, 3) := by decide +kernel
theorem dX10_people_25 : decode cX10_people 25 = .ok (.aload_n 0, 1) := by decide +kernel
theorem dX10_people_26 : decode cX10_people 26 = .ok (.iconst 0, 1) := by decide +kernel
theorem dX10_people_27 : decode cX10_people 27 = .ok (.putfield 66, 3) := by decide +kernel
theorem dX10_people_30 : decode cX10_people 30 = .ok (.iconst 0, 1) := by decide +kernel
theorem dX10_people_31 : decode cX10_people 31 = .ok (.istore_n 3, 1) := by decide +kernel
theorem dX10_people_32 : decode cX10_people 32 = .ok (.iload_n 3, 1) := by decide +kernel
theorem dX10_people_33 : decode cX10_people 33 = .ok (.bipush 100, 2) := by decide +kernel
theorem dX10_people_35 : decode cX10_people 35 = .ok (.if_icmp .ge 16, 3) := by decide +kernel
theorem dX10_people_38 : decode cX10_people 38 = .ok (.aload_n 0, 1) := by decide +kernel
theorem dX10_people_39 : decode cX10_people 39 = .ok (.getfield 13, 3) := by decide +kernel
theorem dX10_people_42 : decode cX10_people 42 = .ok (.iload_n 3, 1) := by decide +kernel
theorem dX10_people_43 : decode cX10_people 43 = .ok (.iconst 0, 1) := by decide +kernel
theorem dX10_people_44 : decode cX10_people 44 = .ok (.iastore, 1) := by decide +kernel
theorem dX10_people_45 : decode cX10_people 45 = .ok (.iinc 3 1, 3) := by decide +kernel
theorem dX10_people_48 : decode cX10_people 48 = .ok (.goto (-16), 3) := by decide +kernel
theorem dX10_people_51 : decode cX10_people 51 = .ok (.iconst 0, 1) := by decide +kernel
theorem dX10_people_52 : decode cX10_people 52 = .ok (.istore_n 3, 1) := by decide +kernel
theorem dX10_people_53 : decode cX10_people 53 = .ok (.iload_n 3, 1) := by decide +kernel
theorem dX10_people_54 : decode cX10_people 54 = .ok (.bipush 10, 2) := by decide +kernel
theorem dX10_people_56 : decode cX10_people 56 = .ok (.if_icmp .ge 23, 3) := by decide +kernel
theorem dX10_people_59 : decode cX10_people 59 = .ok (.aload_n 0, 1) := by decide +kernel
theorem dX10_people_60 : decode cX10_people 60 = .ok (.getfield 17, 3) := by decide +kernel
theorem dX10_people_63 : decode cX10_people 63 = .ok (.iload_n 3, 1) := by decide +kernel
theorem dX10_people_64 : decode cX10_people 64 = .ok (.iconst 0, 1) := by decide +kernel
theorem dX10_people_65 : decode cX10_people 65 = .ok (.iastore, 1) := by decide +kernel
theorem dX10_people_66 : decode cX10_people 66 = .ok (.aload_n 0, 1) := by decide +kernel
theorem dX10_people_67 : decode cX10_people 67 = .ok (.getfield 20, 3) := by decide +kernel
theorem dX10_people_70 : decode cX10_people 70 = .ok (.iload_n 3, 1) := by decide +kernel
theorem dX10_people_71 : decode cX10_people 71 = .ok (.iconst 0, 1) := by decide +kernel
theorem dX10_people_72 : decode cX10_people 72 = .ok (.iastore, 1) := by decide +kernel
theorem dX10_people_73 : decode cX10_people 73 = .ok (.iinc 3 1, 3) := by decide +kernel
theorem dX10_people_76 : decode cX10_people 76 = .ok (.goto (-23), 3) := by decide +kernel
theorem dX10_people_79 : decode cX10_people 79 = .ok (.iload_n 2, 1) := by decide +kernel
theorem dX10_people_80 : decode cX10_people 80 = .ok (.ireturn, 1) := by decide +kernel
theorem dX10_tie_0 : decode cX10_tie 0 = .ok (.aload_n 0, 1) := by decide +kernel
theorem dX10_tie_1 : decode cX10_tie 1 = .ok (.iload_n 1, 1) := by decide +kernel
theorem dX10_tie_2 : decode cX10_tie 2 = .ok (.invokevirtual 69, 3) := by decide +kernel
theorem dX10_tie_5 : decode cX10_tie 5 = .ok (.ifCond .eq 11, 3) := by decide +kernel
theorem dX10_tie_8 : decode cX10_tie 8 = .ok (.aload_n 0, 1) := by decide +kernel
theorem dX10_tie_9 : decode cX10_tie 9 = .ok (.iload_n 2, 1) := by decide +kernel
theorem dX10_tie_10 : decode cX10_tie 10 = .ok (.invokevirtual 69, 3) := by decide +kernel
theorem dX10_tie_13 : decode cX10_tie 13 = .ok (.ifCond .ne 5, 3) := by decide +kernel
theorem dX10_tie_16 : decode cX10_tie 16 = .ok (.iconst (-1), 1) := by decide +kernel
theorem dX10_tie_17 : decode cX10_tie 17 = .ok (.ireturn, 1) := by decide +kernel
theorem dX10_tie_18 : decode cX10_tie 18 = .ok (.iload_n 3, 1) := by decide +kernel
theorem dX10_tie_19 : decode cX10_tie 19 = .ok (.i2l, 1) := by decide +kernel
theorem dX10_tie_20 : decode cX10_tie 20 = .ok (.lconst 0, 1) := by decide +kernel
theorem dX10_tie_21 : decode cX10_tie 21 = .ok (.ldc2_w 73, 3) := by decide +kernel
theorem dX10_tie_24 : decode cX10_tie 24 = .ok (.invokestatic 60, 3) := by decide +kernel
theorem dX10_tie_27 : decode cX10_tie 27 = .ok (.ifCond .ne 6, 3) := by decide +kernel
theorem dX10_tie_30 : decode cX10_tie 30 = .ok (.bipush (-2), 2) := by decide +kernel
theorem dX10_tie_32 : decode cX10_tie 32 = .ok (.ireturn, 1) := by decide +kernel
theorem dX10_tie_33 : decode cX10_tie 33 = .ok (.iload_n 1, 1) := by decide +kernel
theorem dX10_tie_34 : decode cX10_tie 34 = .ok (.iload_n 2, 1) := by decide +kernel
theorem dX10_tie_35 : decode cX10_tie 35 = .ok (.if_icmp .ne 6, 3) := by decide +kernel
theorem dX10_tie_38 : decode cX10_tie 38 = .ok (.bipush (-3), 2) := by decide +kernel
theorem dX10_tie_40 : decode cX10_tie 40 = .ok (.ireturn, 1) := by decide +kernel
theorem dX10_tie_41 : decode cX10_tie 41 = .ok (.aload_n 0, 1) := by decide +kernel
theorem dX10_tie_42 : decode cX10_tie 42 = .ok (.getfield 13, 3) := by decide +kernel
theorem dX10_tie_45 : decode cX10_tie 45 = .ok (.bipush 10, 2) := by decide +kernel
theorem dX10_tie_47 : decode cX10_tie 47 = .ok (.iload_n 1, 1) := by decide +kernel
theorem dX10_tie_48 : decode cX10_tie 48 = .ok (.imul, 1) := by decide +kernel
theorem dX10_tie_49 : decode cX10_tie 49 = .ok (.iload_n 2, 1) := by decide +kernel
theorem dX10_tie_50 : decode cX10_tie 50 = .ok (.iadd, 1) := by decide +kernel
theorem dX10_tie_51 : decode cX10_tie 51 = .ok (.iaload, 1) := by decide +kernel
theorem dX10_tie_52 : decode cX10_tie 52 = .ok (.istore 4, 2) := by decide +kernel
theorem dX10_tie_54 : decode cX10_tie 54 = .ok (.aload_n 0, 1) := by decide +kernel
theorem dX10_tie_55 : decode cX10_tie 55 = .ok (.getfield 13, 3) := by decide +kernel
theorem dX10_tie_58 : decode cX10_tie 58 = .ok (.bipush 10, 2) := by decide +kernel
theorem dX10_tie_60 : decode cX10_tie 60 = .ok (.iload_n 1, 1) := by decide +kernel
theorem dX10_tie_61 : decode cX10_tie 61 = .ok (.imul, 1) := by decide +kernel
theorem dX10_tie_62 : decode cX10_tie 62 = .ok (.iload_n 2, 1) := by decide +kernel
theorem dX10_tie_63 : decode cX10_tie 63 = .ok (.iadd, 1) := by decide +kernel
theorem dX10_tie_64 : decode cX10_tie 64 = .ok (.iload_n 3, 1) := by decide +kernel
theorem dX10_tie_65 : decode cX10_tie 65 = .ok (.iastore, 1) := by decide +kernel
theorem dX10_tie_66 : decode cX10_tie 66 = .ok (.iload 4, 2) := by decide +kernel
theorem dX10_tie_68 : decode cX10_tie 68 = .ok (.ireturn, 1) := by decide +kernel
theorem dX10_set_0 : decode cX10_set 0 = .ok (.aload_n 0, 1) := by decide +kernel
theorem dX10_set_1 : decode cX10_set 1 = .ok (.iload_n 1, 1) := by decide +kernel
theorem dX10_set_2 : decode cX10_set 2 = .ok (.invokevirtual 69, 3) := by decide +kernel
theorem dX10_set_5 : decode cX10_set 5 = .ok (.ifCond .ne 5, 3) := by decide +kernel
theorem dX10_set_8 : decode cX10_set 8 = .ok (.iconst (-1), 1) := by decide +kernel
theorem dX10_set_9 : decode cX10_set 9 = .ok (.ireturn, 1) := by decide +kernel
theorem dX10_set_10 : decode cX10_set 10 = .ok (.iload_n 2, 1) := by decide +kernel
theorem dX10_set_11 : decode cX10_set 11 = .ok (.ifCond .ne 15, 3) := by decide +kernel
theorem dX10_set_14 : decode cX10_set 14 = .ok (.iload_n 3, 1) := by decide +kernel
theorem dX10_set_15 : decode cX10_set 15 = .ok (.i2l, 1) := by decide +kernel
theorem dX10_set_16 : decode cX10_set 16 = .ok (.lconst 0, 1) := by decide +kernel
theorem dX10_set_17 : decode cX10_set 17 = .ok (.ldc2_w 75, 3) := by decide +kernel
theorem dX10_set_20 : decode cX10_set 20 = .ok (.invokestatic 60, 3) := by decide +kernel
theorem dX10_set_23 : decode cX10_set 23 = .ok (.ifCond .ne 25, 3) := by decide +kernel
theorem dX10_set_26 : decode cX10_set 26 = .ok (.iload_n 2, 1) := by decide +kernel
theorem dX10_set_27 : decode cX10_set 27 = .ok (.iconst 1, 1) := by decide +kernel
theorem dX10_set_28 : decode cX10_set 28 = .ok (.if_icmp .ne 17, 3) := by decide +kernel
theorem dX10_set_31 : decode cX10_set 31 = .ok (.iload_n 3, 1) := by decide +kernel
theorem dX10_set_32 : decode cX10_set 32 = .ok (.i2l, 1) := by decide +kernel
theorem dX10_set_33 : decode cX10_set 33 = .ok (.ldc2_w 77, 3) := by decide +kernel
theorem dX10_set_36 : decode cX10_set 36 = .ok (.ldc2_w 73, 3) := by decide +kernel
theorem dX10_set_39 : decode cX10_set 39 = .ok (.invokestatic 60, 3) := by decide +kernel
theorem dX10_set_42 : decode cX10_set 42 = .ok (.ifCond .ne 6, 3) := by decide +kernel
theorem dX10_set_45 : decode cX10_set 45 = .ok (.bipush (-2), 2) := by decide +kernel
theorem dX10_set_47 : decode cX10_set 47 = .ok (.ireturn, 1) := by decide +kernel
theorem dX10_set_48 : decode cX10_set 48 = .ok (.iload_n 2, 1) := by decide +kernel
theorem dX10_set_49 : decode cX10_set 49 = .ok (.ifCond .ne 12, 3) := by decide +kernel
theorem dX10_set_52 : decode cX10_set 52 = .ok (.aload_n 0, 1) := by decide +kernel
theorem dX10_set_53 : decode cX10_set 53 = .ok (.getfield 17, 3) := by decide +kernel
theorem dX10_set_56 : decode cX10_set 56 = .ok (.iload_n 1, 1) := by decide +kernel
theorem dX10_set_57 : decode cX10_set 57 = .ok (.iaload, 1) := by decide +kernel
theorem dX10_set_58 : decode cX10_set 58 = .ok (.goto 9, 3) := by decide +kernel
theorem dX10_set_61 : decode cX10_set 61 = .ok (.aload_n 0, 1) := by decide +kernel
theorem dX10_set_62 : decode cX10_set 62 = .ok (.getfield 20, 3) := by decide +kernel
theorem dX10_set_65 : decode cX10_set 65 = .ok (.iload_n 1, 1) := by decide +kernel
theorem dX10_set_66 : decode cX10_set 66 = .ok (.iaload, 1) := by decide +kernel
theorem dX10_set_67 : decode cX10_set 67 = .ok (.istore 4, 2) := by decide +kernel
theorem dX10_set_69 : decode cX10_set 69 = .ok (.aload_n 0, 1) := by decide +kernel
theorem dX10_set_70 : decode cX10_set 70 = .ok (.getfield 17, 3) := by decide +kernel
theorem dX10_set_73 : decode cX10_set 73 = .ok (.iload_n 1, 1) := by decide +kernel
theorem dX10_set_74 : decode cX10_set 74 = .ok (.iload_n 2, 1) := by decide +kernel
theorem dX10_set_75 : decode cX10_set 75 = .ok (.ifCond .ne 7, 3) := by decide +kernel
theorem dX10_set_78 : decode cX10_set 78 = .ok (.iload_n 3, 1) := by decide +kernel
theorem dX10_set_79 : decode cX10_set 79 = .ok (.goto 9, 3) := by decide +kernel
theorem dX10_set_82 : decode cX10_set 82 = .ok (.aload_n 0, 1) := by decide +kernel
theorem dX10_set_83 : decode cX10_set 83 = .ok (.getfield 17, 3) := by decide +kernel
theorem dX10_set_86 : decode cX10_set 86 = .ok (.iload_n 1, 1) := by decide +kernel
theorem dX10_set_87 : decode cX10_set 87 = .ok (.iaload, 1) := by decide +kernel
theorem dX10_set_88 : decode cX10_set 88 = .ok (.iastore, 1) := by decide +kernel
theorem dX10_set_89 : decode cX10_set 89 = .ok (.aload_n 0, 1) := by decide +kernel
theorem dX10_set_90 : decode cX10_set 90 = .ok (.getfield 20, 3) := by decide +kernel
theorem dX10_set_93 : decode cX10_set 93 = .ok (.iload_n 1, 1) := by decide +kernel
theorem dX10_set_94 : decode cX10_set 94 = .ok (.iload_n 2, 1) := by decide +kernel
theorem dX10_set_95 : decode cX10_set 95 = .ok (.iconst 1, 1) := by decide +kernel
theorem dX10_set_96 : decode cX10_set 96 = .ok (.if_icmp .ne 7, 3) := by decide +kernel
theorem dX10_set_99 : decode cX10_set 99 = .ok (.iload_n 3, 1) := by decide +kernel
theorem dX10_set_100 : decode cX10_set 100 = .ok (.goto 9, 3) := by decide +kernel
theorem dX10_set_103 : decode cX10_set 103 = .ok (.aload_n 0, 1) := by decide +kernel
theorem dX10_set_104 : decode cX10_set 104 = .ok (.getfield 20, 3) := by decide +kernel
theorem dX10_set_107 : decode cX10_set 107 = .ok (.iload_n 1, 1) := by decide +kernel
theorem dX10_set_108 : decode cX10_set 108 = .ok (.iaload, 1) := by decide +kernel
theorem dX10_set_109 : decode cX10_set 109 = .ok (.iastore, 1) := by decide +kernel
theorem dX10_set_110 : decode cX10_set 110 = .ok (.iload 4, 2) := by decide +kernel
theorem dX10_set_112 : decode cX10_set 112 = .ok (.ireturn, 1) := by decide +kernel
theorem dX10_about_0 : decode cX10_about 0 = .ok (.aload_n 0, 1) := by decide +kernel
theorem dX10_about_1 : decode cX10_about 1 = .ok (.iload_n 1, 1) := by decide +kernel
theorem dX10_about_2 : decode cX10_about 2 = .ok (.invokevirtual 69, 3) := by decide +kernel
theorem dX10_about_5 : decode cX10_about 5 = .ok (.ifCond .ne 5, 3) := by decide +kernel
theorem dX10_about_8 : decode cX10_about 8 = .ok (.iconst (-1), 1) := by decide +kernel
theorem dX10_about_9 : decode cX10_about 9 = .ok (.ireturn, 1) := by decide +kernel
theorem dX10_about_10 : decode cX10_about 10 = .ok (.iconst 0, 1) := by decide +kernel
theorem dX10_about_11 : decode cX10_about 11 = .ok (.istore_n 3, 1) := by decide +kernel
theorem dX10_about_12 : decode cX10_about 12 = .ok (.iconst 0, 1) := by decide +kernel
theorem dX10_about_13 : decode cX10_about 13 = .ok (.istore 4, 2) := by decide +kernel
theorem dX10_about_15 : decode cX10_about 15 = .ok (.iconst 0, 1) := by decide +kernel
theorem dX10_about_16 : decode cX10_about 16 = .ok (.istore 5, 2) := by decide +kernel
theorem dX10_about_18 : decode cX10_about 18 = .ok (.iload 5, 2) := by decide +kernel
theorem dX10_about_20 : decode cX10_about 20 = .ok (.aload_n 0, 1) := by decide +kernel
theorem dX10_about_21 : decode cX10_about 21 = .ok (.getfield 7, 3) := by decide +kernel
theorem dX10_about_24 : decode cX10_about 24 = .ok (.if_icmp .ge 57, 3) := by decide +kernel
theorem dX10_about_27 : decode cX10_about 27 = .ok (.iload_n 3, 1) := by decide +kernel
theorem dX10_about_28 : decode cX10_about 28 = .ok (.aload_n 0, 1) := by decide +kernel
theorem dX10_about_29 : decode cX10_about 29 = .ok (.getfield 13, 3) := by decide +kernel
theorem dX10_about_32 : decode cX10_about 32 = .ok (.bipush 10, 2) := by decide +kernel
theorem dX10_about_34 : decode cX10_about 34 = .ok (.iload_n 1, 1) := by decide +kernel
theorem dX10_about_35 : decode cX10_about 35 = .ok (.imul, 1) := by decide +kernel
theorem dX10_about_36 : decode cX10_about 36 = .ok (.iload 5, 2) := by decide +kernel
theorem dX10_about_38 : decode cX10_about 38 = .ok (.iadd, 1) := by decide +kernel
theorem dX10_about_39 : decode cX10_about 39 = .ok (.iaload, 1) := by decide +kernel
theorem dX10_about_40 : decode cX10_about 40 = .ok (.ifCond .le 7, 3) := by decide +kernel
theorem dX10_about_43 : decode cX10_about 43 = .ok (.iconst 1, 1) := by decide +kernel
theorem dX10_about_44 : decode cX10_about 44 = .ok (.goto 4, 3) := by decide +kernel
theorem dX10_about_47 : decode cX10_about 47 = .ok (.iconst 0, 1) := by decide +kernel
theorem dX10_about_48 : decode cX10_about 48 = .ok (.iadd, 1) := by decide +kernel
theorem dX10_about_49 : decode cX10_about 49 = .ok (.istore_n 3, 1) := by decide +kernel
theorem dX10_about_50 : decode cX10_about 50 = .ok (.iload 4, 2) := by decide +kernel
theorem dX10_about_52 : decode cX10_about 52 = .ok (.aload_n 0, 1) := by decide +kernel
theorem dX10_about_53 : decode cX10_about 53 = .ok (.getfield 13, 3) := by decide +kernel
theorem dX10_about_56 : decode cX10_about 56 = .ok (.bipush 10, 2) := by decide +kernel
theorem dX10_about_58 : decode cX10_about 58 = .ok (.iload 5, 2) := by decide +kernel
theorem dX10_about_60 : decode cX10_about 60 = .ok (.imul, 1) := by decide +kernel
theorem dX10_about_61 : decode cX10_about 61 = .ok (.iload_n 1, 1) := by decide +kernel
theorem dX10_about_62 : decode cX10_about 62 = .ok (.iadd, 1) := by decide +kernel
theorem dX10_about_63 : decode cX10_about 63 = .ok (.iaload, 1) := by decide +kernel
theorem dX10_about_64 : decode cX10_about 64 = .ok (.ifCond .le 7, 3) := by decide +kernel
theorem dX10_about_67 : decode cX10_about 67 = .ok (.iconst 1, 1) := by decide +kernel
theorem dX10_about_68 : decode cX10_about 68 = .ok (.goto 4, 3) := by decide +kernel
theorem dX10_about_71 : decode cX10_about 71 = .ok (.iconst 0, 1) := by decide +kernel
theorem dX10_about_72 : decode cX10_about 72 = .ok (.iadd, 1) := by decide +kernel
theorem dX10_about_73 : decode cX10_about 73 = .ok (.istore 4, 2) := by decide +kernel
theorem dX10_about_75 : decode cX10_about 75 = .ok (.iinc 5 1, 3) := by decide +kernel
theorem dX10_about_78 : decode cX10_about 78 = .ok (.goto (-60), 3) := by decide +kernel
theorem dX10_about_81 : decode cX10_about 81 = .ok (.iload_n 2, 1) := by decide +kernel
theorem dX10_about_82 : decode cX10_about 82 = .ok (.tableswitch 49 0 3 #[30, 37, 44, 46], 30) := by decide +kernel
theorem dX10_about_112 : decode cX10_about 112 = .ok (.aload_n 0, 1) := by decide +kernel
theorem dX10_about_113 : decode cX10_about 113 = .ok (.getfield 17, 3) := by decide +kernel
theorem dX10_about_116 : decode cX10_about 116 = .ok (.iload_n 1, 1) := by decide +kernel
theorem dX10_about_117 : decode cX10_about 117 = .ok (.iaload, 1) := by decide +kernel
theorem dX10_about_118 : decode cX10_about 118 = .ok (.ireturn, 1) := by decide +kernel
theorem dX10_about_119 : decode cX10_about 119 = .ok (.aload_n 0, 1) := by decide +kernel
theorem dX10_about_120 : decode cX10_about 120 = .ok (.getfield 20, 3) := by decide +kernel
theorem dX10_about_123 : decode cX10_about 123 = .ok (.iload_n 1, 1) := by decide +kernel
theorem dX10_about_124 : decode cX10_about 124 = .ok (.iaload, 1) := by decide +kernel
theorem dX10_about_125 : decode cX10_about 125 = .ok (.ireturn, 1) := by decide +kernel
theorem dX10_about_126 : decode cX10_about 126 = .ok (.iload_n 3, 1) := by decide +kernel
theorem dX10_about_127 : decode cX10_about 127 = .ok (.ireturn, 1) := by decide +kernel
theorem dX10_about_128 : decode cX10_about 128 = .ok (.iload 4, 2) := by decide +kernel
theorem dX10_about_130 : decode cX10_about 130 = .ok (.ireturn, 1) := by decide +kernel
theorem dX10_about_131 : decode cX10_about 131 = .ok (.bipush (-2), 2) := by decide +kernel
theorem dX10_about_133 : decode cX10_about 133 = .ok (.ireturn, 1) := by decide +kernel
theorem dX10_sees_0 : decode cX10_sees 0 = .ok (.aload_n 0, 1) := by decide +kernel
theorem dX10_sees_1 : decode cX10_sees 1 = .ok (.iload_n 1, 1) := by decide +kernel
theorem dX10_sees_2 : decode cX10_sees 2 = .ok (.invokevirtual 69, 3) := by decide +kernel
theorem dX10_sees_5 : decode cX10_sees 5 = .ok (.ifCond .eq 11, 3) := by decide +kernel
theorem dX10_sees_8 : decode cX10_sees 8 = .ok (.aload_n 0, 1) := by decide +kernel
theorem dX10_sees_9 : decode cX10_sees 9 = .ok (.iload_n 2, 1) := by decide +kernel
theorem dX10_sees_10 : decode cX10_sees 10 = .ok (.invokevirtual 69, 3) := by decide +kernel
theorem dX10_sees_13 : decode cX10_sees 13 = .ok (.ifCond .ne 5, 3) := by decide +kernel
theorem dX10_sees_16 : decode cX10_sees 16 = .ok (.iconst (-1), 1) := by decide +kernel
theorem dX10_sees_17 : decode cX10_sees 17 = .ok (.ireturn, 1) := by decide +kernel
theorem dX10_sees_18 : decode cX10_sees 18 = .ok (.iload_n 1, 1) := by decide +kernel
theorem dX10_sees_19 : decode cX10_sees 19 = .ok (.iload_n 2, 1) := by decide +kernel
theorem dX10_sees_20 : decode cX10_sees 20 = .ok (.if_icmp .ne 8, 3) := by decide +kernel
theorem dX10_sees_23 : decode cX10_sees 23 = .ok (.bipush (-3), 2) := by decide +kernel
theorem dX10_sees_25 : decode cX10_sees 25 = .ok (.goto 14, 3) := by decide +kernel
theorem dX10_sees_28 : decode cX10_sees 28 = .ok (.aload_n 0, 1) := by decide +kernel
theorem dX10_sees_29 : decode cX10_sees 29 = .ok (.getfield 13, 3) := by decide +kernel
theorem dX10_sees_32 : decode cX10_sees 32 = .ok (.bipush 10, 2) := by decide +kernel
theorem dX10_sees_34 : decode cX10_sees 34 = .ok (.iload_n 1, 1) := by decide +kernel
theorem dX10_sees_35 : decode cX10_sees 35 = .ok (.imul, 1) := by decide +kernel
theorem dX10_sees_36 : decode cX10_sees 36 = .ok (.iload_n 2, 1) := by decide +kernel
theorem dX10_sees_37 : decode cX10_sees 37 = .ok (.iadd, 1) := by decide +kernel
theorem dX10_sees_38 : decode cX10_sees 38 = .ok (.iaload, 1) := by decide +kernel
theorem dX10_sees_39 : decode cX10_sees 39 = .ok (.ireturn, 1) := by decide +kernel
theorem dX10_sumOf_0 : decode cX10_sumOf 0 = .ok (.aload_n 0, 1) := by decide +kernel
theorem dX10_sumOf_1 : decode cX10_sumOf 1 = .ok (.getfield 20, 3) := by decide +kernel
theorem dX10_sumOf_4 : decode cX10_sumOf 4 = .ok (.iload_n 1, 1) := by decide +kernel
theorem dX10_sumOf_5 : decode cX10_sumOf 5 = .ok (.iaload, 1) := by decide +kernel
theorem dX10_sumOf_6 : decode cX10_sumOf 6 = .ok (.istore_n 3, 1) := by decide +kernel
theorem dX10_sumOf_7 : decode cX10_sumOf 7 = .ok (.iconst 0, 1) := by decide +kernel
theorem dX10_sumOf_8 : decode cX10_sumOf 8 = .ok (.istore 4, 2) := by decide +kernel
theorem dX10_sumOf_10 : decode cX10_sumOf 10 = .ok (.iload 4, 2) := by decide +kernel
theorem dX10_sumOf_12 : decode cX10_sumOf 12 = .ok (.aload_n 0, 1) := by decide +kernel
theorem dX10_sumOf_13 : decode cX10_sumOf 13 = .ok (.getfield 7, 3) := by decide +kernel
theorem dX10_sumOf_16 : decode cX10_sumOf 16 = .ok (.if_icmp .ge 50, 3) := by decide +kernel
theorem dX10_sumOf_19 : decode cX10_sumOf 19 = .ok (.iload_n 3, 1) := by decide +kernel
theorem dX10_sumOf_20 : decode cX10_sumOf 20 = .ok (.iload_n 2, 1) := by decide +kernel
theorem dX10_sumOf_21 : decode cX10_sumOf 21 = .ok (.iload 4, 2) := by decide +kernel
theorem dX10_sumOf_23 : decode cX10_sumOf 23 = .ok (.ishr, 1) := by decide +kernel
theorem dX10_sumOf_24 : decode cX10_sumOf 24 = .ok (.iconst 1, 1) := by decide +kernel
theorem dX10_sumOf_25 : decode cX10_sumOf 25 = .ok (.iand, 1) := by decide +kernel
theorem dX10_sumOf_26 : decode cX10_sumOf 26 = .ok (.iconst 1, 1) := by decide +kernel
theorem dX10_sumOf_27 : decode cX10_sumOf 27 = .ok (.if_icmp .ne 18, 3) := by decide +kernel
theorem dX10_sumOf_30 : decode cX10_sumOf 30 = .ok (.aload_n 0, 1) := by decide +kernel
theorem dX10_sumOf_31 : decode cX10_sumOf 31 = .ok (.getfield 13, 3) := by decide +kernel
theorem dX10_sumOf_34 : decode cX10_sumOf 34 = .ok (.bipush 10, 2) := by decide +kernel
theorem dX10_sumOf_36 : decode cX10_sumOf 36 = .ok (.iload_n 1, 1) := by decide +kernel
theorem dX10_sumOf_37 : decode cX10_sumOf 37 = .ok (.imul, 1) := by decide +kernel
theorem dX10_sumOf_38 : decode cX10_sumOf 38 = .ok (.iload 4, 2) := by decide +kernel
theorem dX10_sumOf_40 : decode cX10_sumOf 40 = .ok (.iadd, 1) := by decide +kernel
theorem dX10_sumOf_41 : decode cX10_sumOf 41 = .ok (.iaload, 1) := by decide +kernel
theorem dX10_sumOf_42 : decode cX10_sumOf 42 = .ok (.goto 16, 3) := by decide +kernel
theorem dX10_sumOf_45 : decode cX10_sumOf 45 = .ok (.aload_n 0, 1) := by decide +kernel
theorem dX10_sumOf_46 : decode cX10_sumOf 46 = .ok (.getfield 13, 3) := by decide +kernel
theorem dX10_sumOf_49 : decode cX10_sumOf 49 = .ok (.bipush 10, 2) := by decide +kernel
theorem dX10_sumOf_51 : decode cX10_sumOf 51 = .ok (.iload_n 1, 1) := by decide +kernel
theorem dX10_sumOf_52 : decode cX10_sumOf 52 = .ok (.imul, 1) := by decide +kernel
theorem dX10_sumOf_53 : decode cX10_sumOf 53 = .ok (.iload 4, 2) := by decide +kernel
theorem dX10_sumOf_55 : decode cX10_sumOf 55 = .ok (.iadd, 1) := by decide +kernel
theorem dX10_sumOf_56 : decode cX10_sumOf 56 = .ok (.iaload, 1) := by decide +kernel
theorem dX10_sumOf_57 : decode cX10_sumOf 57 = .ok (.ineg, 1) := by decide +kernel
theorem dX10_sumOf_58 : decode cX10_sumOf 58 = .ok (.iadd, 1) := by decide +kernel
theorem dX10_sumOf_59 : decode cX10_sumOf 59 = .ok (.istore_n 3, 1) := by decide +kernel
theorem dX10_sumOf_60 : decode cX10_sumOf 60 = .ok (.iinc 4 1, 3) := by decide +kernel
theorem dX10_sumOf_63 : decode cX10_sumOf 63 = .ok (.goto (-53), 3) := by decide +kernel
theorem dX10_sumOf_66 : decode cX10_sumOf 66 = .ok (.iload_n 3, 1) := by decide +kernel
theorem dX10_sumOf_67 : decode cX10_sumOf 67 = .ok (.ireturn, 1) := by decide +kernel
theorem dX10_nextOf_0 : decode cX10_nextOf 0 = .ok (.iload_n 3, 1) := by decide +kernel
theorem dX10_nextOf_1 : decode cX10_nextOf 1 = .ok (.iload_n 1, 1) := by decide +kernel
theorem dX10_nextOf_2 : decode cX10_nextOf 2 = .ok (.ishr, 1) := by decide +kernel
theorem dX10_nextOf_3 : decode cX10_nextOf 3 = .ok (.iconst 1, 1) := by decide +kernel
theorem dX10_nextOf_4 : decode cX10_nextOf 4 = .ok (.iand, 1) := by decide +kernel
theorem dX10_nextOf_5 : decode cX10_nextOf 5 = .ok (.istore 4, 2) := by decide +kernel
theorem dX10_nextOf_7 : decode cX10_nextOf 7 = .ok (.aload_n 0, 1) := by decide +kernel
theorem dX10_nextOf_8 : decode cX10_nextOf 8 = .ok (.iload_n 1, 1) := by decide +kernel
theorem dX10_nextOf_9 : decode cX10_nextOf 9 = .ok (.iload_n 3, 1) := by decide +kernel
theorem dX10_nextOf_10 : decode cX10_nextOf 10 = .ok (.invokevirtual 79, 3) := by decide +kernel
theorem dX10_nextOf_13 : decode cX10_nextOf 13 = .ok (.istore 5, 2) := by decide +kernel
theorem dX10_nextOf_15 : decode cX10_nextOf 15 = .ok (.iload_n 2, 1) := by decide +kernel
theorem dX10_nextOf_16 : decode cX10_nextOf 16 = .ok (.tableswitch 73 0 2 #[28, 49, 70], 28) := by decide +kernel
theorem dX10_nextOf_44 : decode cX10_nextOf 44 = .ok (.iload 5, 2) := by decide +kernel
theorem dX10_nextOf_46 : decode cX10_nextOf 46 = .ok (.ifCond .le 7, 3) := by decide +kernel
theorem dX10_nextOf_49 : decode cX10_nextOf 49 = .ok (.iconst 1, 1) := by decide +kernel
theorem dX10_nextOf_50 : decode cX10_nextOf 50 = .ok (.goto 14, 3) := by decide +kernel
theorem dX10_nextOf_53 : decode cX10_nextOf 53 = .ok (.iload 5, 2) := by decide +kernel
theorem dX10_nextOf_55 : decode cX10_nextOf 55 = .ok (.ifCond .ge 7, 3) := by decide +kernel
theorem dX10_nextOf_58 : decode cX10_nextOf 58 = .ok (.iconst 0, 1) := by decide +kernel
theorem dX10_nextOf_59 : decode cX10_nextOf 59 = .ok (.goto 5, 3) := by decide +kernel
theorem dX10_nextOf_62 : decode cX10_nextOf 62 = .ok (.iload 4, 2) := by decide +kernel
theorem dX10_nextOf_64 : decode cX10_nextOf 64 = .ok (.ireturn, 1) := by decide +kernel
theorem dX10_nextOf_65 : decode cX10_nextOf 65 = .ok (.iload 5, 2) := by decide +kernel
theorem dX10_nextOf_67 : decode cX10_nextOf 67 = .ok (.ifCond .le 7, 3) := by decide +kernel
theorem dX10_nextOf_70 : decode cX10_nextOf 70 = .ok (.iconst 0, 1) := by decide +kernel
theorem dX10_nextOf_71 : decode cX10_nextOf 71 = .ok (.goto 14, 3) := by decide +kernel
theorem dX10_nextOf_74 : decode cX10_nextOf 74 = .ok (.iload 5, 2) := by decide +kernel
theorem dX10_nextOf_76 : decode cX10_nextOf 76 = .ok (.ifCond .ge 7, 3) := by decide +kernel
theorem dX10_nextOf_79 : decode cX10_nextOf 79 = .ok (.iconst 1, 1) := by decide +kernel
theorem dX10_nextOf_80 : decode cX10_nextOf 80 = .ok (.goto 5, 3) := by decide +kernel
theorem dX10_nextOf_83 : decode cX10_nextOf 83 = .ok (.iload 4, 2) := by decide +kernel
theorem dX10_nextOf_85 : decode cX10_nextOf 85 = .ok (.ireturn, 1) := by decide +kernel
theorem dX10_nextOf_86 : decode cX10_nextOf 86 = .ok (.iload 4, 2) := by decide +kernel
theorem dX10_nextOf_88 : decode cX10_nextOf 88 = .ok (.ireturn, 1) := by decide +kernel
theorem dX10_nextOf_89 : decode cX10_nextOf 89 = .ok (.iconst 1, 1) := by decide +kernel
theorem dX10_nextOf_90 : decode cX10_nextOf 90 = .ok (.iload 4, 2) := by decide +kernel
theorem dX10_nextOf_92 : decode cX10_nextOf 92 = .ok (.isub, 1) := by decide +kernel
theorem dX10_nextOf_93 : decode cX10_nextOf 93 = .ok (.ireturn, 1) := by decide +kernel
theorem dX10_with_0 : decode cX10_with 0 = .ok (.iload_n 3, 1) := by decide +kernel
theorem dX10_with_1 : decode cX10_with 1 = .ok (.iconst 1, 1) := by decide +kernel
theorem dX10_with_2 : decode cX10_with 2 = .ok (.if_icmp .ne 11, 3) := by decide +kernel
theorem dX10_with_5 : decode cX10_with 5 = .ok (.iload_n 1, 1) := by decide +kernel
theorem dX10_with_6 : decode cX10_with 6 = .ok (.iconst 1, 1) := by decide +kernel
theorem dX10_with_7 : decode cX10_with 7 = .ok (.iload_n 2, 1) := by decide +kernel
theorem dX10_with_8 : decode cX10_with 8 = .ok (.ishl, 1) := by decide +kernel
theorem dX10_with_9 : decode cX10_with 9 = .ok (.ior, 1) := by decide +kernel
theorem dX10_with_10 : decode cX10_with 10 = .ok (.goto 10, 3) := by decide +kernel
theorem dX10_with_13 : decode cX10_with 13 = .ok (.iload_n 1, 1) := by decide +kernel
theorem dX10_with_14 : decode cX10_with 14 = .ok (.iconst 1, 1) := by decide +kernel
theorem dX10_with_15 : decode cX10_with 15 = .ok (.iload_n 2, 1) := by decide +kernel
theorem dX10_with_16 : decode cX10_with 16 = .ok (.ishl, 1) := by decide +kernel
theorem dX10_with_17 : decode cX10_with 17 = .ok (.iconst (-1), 1) := by decide +kernel
theorem dX10_with_18 : decode cX10_with 18 = .ok (.ixor, 1) := by decide +kernel
theorem dX10_with_19 : decode cX10_with 19 = .ok (.iand, 1) := by decide +kernel
theorem dX10_with_20 : decode cX10_with 20 = .ok (.ireturn, 1) := by decide +kernel
theorem dX10_calmOf_0 : decode cX10_calmOf 0 = .ok (.iconst 0, 1) := by decide +kernel
theorem dX10_calmOf_1 : decode cX10_calmOf 1 = .ok (.istore_n 2, 1) := by decide +kernel
theorem dX10_calmOf_2 : decode cX10_calmOf 2 = .ok (.iconst 0, 1) := by decide +kernel
theorem dX10_calmOf_3 : decode cX10_calmOf 3 = .ok (.istore_n 3, 1) := by decide +kernel
theorem dX10_calmOf_4 : decode cX10_calmOf 4 = .ok (.iload_n 3, 1) := by decide +kernel
theorem dX10_calmOf_5 : decode cX10_calmOf 5 = .ok (.aload_n 0, 1) := by decide +kernel
theorem dX10_calmOf_6 : decode cX10_calmOf 6 = .ok (.getfield 7, 3) := by decide +kernel
theorem dX10_calmOf_9 : decode cX10_calmOf 9 = .ok (.if_icmp .ge 39, 3) := by decide +kernel
theorem dX10_calmOf_12 : decode cX10_calmOf 12 = .ok (.iload_n 2, 1) := by decide +kernel
theorem dX10_calmOf_13 : decode cX10_calmOf 13 = .ok (.aload_n 0, 1) := by decide +kernel
theorem dX10_calmOf_14 : decode cX10_calmOf 14 = .ok (.iload_n 3, 1) := by decide +kernel
theorem dX10_calmOf_15 : decode cX10_calmOf 15 = .ok (.aload_n 0, 1) := by decide +kernel
theorem dX10_calmOf_16 : decode cX10_calmOf 16 = .ok (.getfield 17, 3) := by decide +kernel
theorem dX10_calmOf_19 : decode cX10_calmOf 19 = .ok (.iload_n 3, 1) := by decide +kernel
theorem dX10_calmOf_20 : decode cX10_calmOf 20 = .ok (.iaload, 1) := by decide +kernel
theorem dX10_calmOf_21 : decode cX10_calmOf 21 = .ok (.iload_n 1, 1) := by decide +kernel
theorem dX10_calmOf_22 : decode cX10_calmOf 22 = .ok (.invokevirtual 83, 3) := by decide +kernel
theorem dX10_calmOf_25 : decode cX10_calmOf 25 = .ok (.iload_n 1, 1) := by decide +kernel
theorem dX10_calmOf_26 : decode cX10_calmOf 26 = .ok (.iload_n 3, 1) := by decide +kernel
theorem dX10_calmOf_27 : decode cX10_calmOf 27 = .ok (.ishr, 1) := by decide +kernel
theorem dX10_calmOf_28 : decode cX10_calmOf 28 = .ok (.iconst 1, 1) := by decide +kernel
theorem dX10_calmOf_29 : decode cX10_calmOf 29 = .ok (.iand, 1) := by decide +kernel
theorem dX10_calmOf_30 : decode cX10_calmOf 30 = .ok (.if_icmp .ne 9, 3) := by decide +kernel
theorem dX10_calmOf_33 : decode cX10_calmOf 33 = .ok (.iconst 1, 1) := by decide +kernel
theorem dX10_calmOf_34 : decode cX10_calmOf 34 = .ok (.iload_n 3, 1) := by decide +kernel
theorem dX10_calmOf_35 : decode cX10_calmOf 35 = .ok (.ishl, 1) := by decide +kernel
theorem dX10_calmOf_36 : decode cX10_calmOf 36 = .ok (.goto 4, 3) := by decide +kernel
theorem dX10_calmOf_39 : decode cX10_calmOf 39 = .ok (.iconst 0, 1) := by decide +kernel
theorem dX10_calmOf_40 : decode cX10_calmOf 40 = .ok (.ior, 1) := by decide +kernel
theorem dX10_calmOf_41 : decode cX10_calmOf 41 = .ok (.istore_n 2, 1) := by decide +kernel
theorem dX10_calmOf_42 : decode cX10_calmOf 42 = .ok (.iinc 3 1, 3) := by decide +kernel
theorem dX10_calmOf_45 : decode cX10_calmOf 45 = .ok (.goto (-41), 3) := by decide +kernel
theorem dX10_calmOf_48 : decode cX10_calmOf 48 = .ok (.iload_n 2, 1) := by decide +kernel
theorem dX10_calmOf_49 : decode cX10_calmOf 49 = .ok (.ireturn, 1) := by decide +kernel
theorem dX10_all_0 : decode cX10_all 0 = .ok (.iconst 1, 1) := by decide +kernel
theorem dX10_all_1 : decode cX10_all 1 = .ok (.aload_n 0, 1) := by decide +kernel
theorem dX10_all_2 : decode cX10_all 2 = .ok (.getfield 7, 3) := by decide +kernel
theorem dX10_all_5 : decode cX10_all 5 = .ok (.ishl, 1) := by decide +kernel
theorem dX10_all_6 : decode cX10_all 6 = .ok (.iconst 1, 1) := by decide +kernel
theorem dX10_all_7 : decode cX10_all 7 = .ok (.isub, 1) := by decide +kernel
theorem dX10_all_8 : decode cX10_all 8 = .ok (.ireturn, 1) := by decide +kernel
theorem dX10_stepFrom_0 : decode cX10_stepFrom 0 = .ok (.iload_n 1, 1) := by decide +kernel
theorem dX10_stepFrom_1 : decode cX10_stepFrom 1 = .ok (.istore_n 3, 1) := by decide +kernel
theorem dX10_stepFrom_2 : decode cX10_stepFrom 2 = .ok (.iconst 0, 1) := by decide +kernel
theorem dX10_stepFrom_3 : decode cX10_stepFrom 3 = .ok (.istore 4, 2) := by decide +kernel
theorem dX10_stepFrom_5 : decode cX10_stepFrom 5 = .ok (.iload 4, 2) := by decide +kernel
theorem dX10_stepFrom_7 : decode cX10_stepFrom 7 = .ok (.aload_n 0, 1) := by decide +kernel
theorem dX10_stepFrom_8 : decode cX10_stepFrom 8 = .ok (.getfield 7, 3) := by decide +kernel
theorem dX10_stepFrom_11 : decode cX10_stepFrom 11 = .ok (.if_icmp .ge 39, 3) := by decide +kernel
theorem dX10_stepFrom_14 : decode cX10_stepFrom 14 = .ok (.aload_n 0, 1) := by decide +kernel
theorem dX10_stepFrom_15 : decode cX10_stepFrom 15 = .ok (.iload_n 3, 1) := by decide +kernel
theorem dX10_stepFrom_16 : decode cX10_stepFrom 16 = .ok (.iload 4, 2) := by decide +kernel
theorem dX10_stepFrom_18 : decode cX10_stepFrom 18 = .ok (.aload_n 0, 1) := by decide +kernel
theorem dX10_stepFrom_19 : decode cX10_stepFrom 19 = .ok (.iload 4, 2) := by decide +kernel
theorem dX10_stepFrom_21 : decode cX10_stepFrom 21 = .ok (.aload_n 0, 1) := by decide +kernel
theorem dX10_stepFrom_22 : decode cX10_stepFrom 22 = .ok (.getfield 17, 3) := by decide +kernel
theorem dX10_stepFrom_25 : decode cX10_stepFrom 25 = .ok (.iload 4, 2) := by decide +kernel
theorem dX10_stepFrom_27 : decode cX10_stepFrom 27 = .ok (.iaload, 1) := by decide +kernel
theorem dX10_stepFrom_28 : decode cX10_stepFrom 28 = .ok (.iload_n 2, 1) := by decide +kernel
theorem dX10_stepFrom_29 : decode cX10_stepFrom 29 = .ok (.ifCond .ne 7, 3) := by decide +kernel
theorem dX10_stepFrom_32 : decode cX10_stepFrom 32 = .ok (.iload_n 1, 1) := by decide +kernel
theorem dX10_stepFrom_33 : decode cX10_stepFrom 33 = .ok (.goto 4, 3) := by decide +kernel
theorem dX10_stepFrom_36 : decode cX10_stepFrom 36 = .ok (.iload_n 3, 1) := by decide +kernel
theorem dX10_stepFrom_37 : decode cX10_stepFrom 37 = .ok (.invokevirtual 83, 3) := by decide +kernel
theorem dX10_stepFrom_40 : decode cX10_stepFrom 40 = .ok (.invokevirtual 87, 3) := by decide +kernel
theorem dX10_stepFrom_43 : decode cX10_stepFrom 43 = .ok (.istore_n 3, 1) := by decide +kernel
theorem dX10_stepFrom_44 : decode cX10_stepFrom 44 = .ok (.iinc 4 1, 3) := by decide +kernel
theorem dX10_stepFrom_47 : decode cX10_stepFrom 47 = .ok (.goto (-42), 3) := by decide +kernel
theorem dX10_stepFrom_50 : decode cX10_stepFrom 50 = .ok (.iload_n 3, 1) := by decide +kernel
theorem dX10_stepFrom_51 : decode cX10_stepFrom 51 = .ok (.ireturn, 1) := by decide +kernel
theorem dX10_sum_0 : decode cX10_sum 0 = .ok (.aload_n 0, 1) := by decide +kernel
theorem dX10_sum_1 : decode cX10_sum 1 = .ok (.iload_n 1, 1) := by decide +kernel
theorem dX10_sum_2 : decode cX10_sum 2 = .ok (.invokevirtual 69, 3) := by decide +kernel
theorem dX10_sum_5 : decode cX10_sum 5 = .ok (.ifCond .ne 5, 3) := by decide +kernel
theorem dX10_sum_8 : decode cX10_sum 8 = .ok (.iconst (-1), 1) := by decide +kernel
theorem dX10_sum_9 : decode cX10_sum 9 = .ok (.ireturn, 1) := by decide +kernel
theorem dX10_sum_10 : decode cX10_sum 10 = .ok (.aload_n 0, 1) := by decide +kernel
theorem dX10_sum_11 : decode cX10_sum 11 = .ok (.iload_n 2, 1) := by decide +kernel
theorem dX10_sum_12 : decode cX10_sum 12 = .ok (.invokevirtual 90, 3) := by decide +kernel
theorem dX10_sum_15 : decode cX10_sum 15 = .ok (.ifCond .eq 12, 3) := by decide +kernel
theorem dX10_sum_18 : decode cX10_sum 18 = .ok (.aload_n 0, 1) := by decide +kernel
theorem dX10_sum_19 : decode cX10_sum 19 = .ok (.iload_n 1, 1) := by decide +kernel
theorem dX10_sum_20 : decode cX10_sum 20 = .ok (.iload_n 2, 1) := by decide +kernel
theorem dX10_sum_21 : decode cX10_sum 21 = .ok (.invokevirtual 79, 3) := by decide +kernel
theorem dX10_sum_24 : decode cX10_sum 24 = .ok (.goto 5, 3) := by decide +kernel
theorem dX10_sum_27 : decode cX10_sum 27 = .ok (.bipush (-2), 2) := by decide +kernel
theorem dX10_sum_29 : decode cX10_sum 29 = .ok (.ireturn, 1) := by decide +kernel
theorem dX10_calm_0 : decode cX10_calm 0 = .ok (.aload_n 0, 1) := by decide +kernel
theorem dX10_calm_1 : decode cX10_calm 1 = .ok (.iload_n 1, 1) := by decide +kernel
theorem dX10_calm_2 : decode cX10_calm 2 = .ok (.invokevirtual 90, 3) := by decide +kernel
theorem dX10_calm_5 : decode cX10_calm 5 = .ok (.ifCond .eq 11, 3) := by decide +kernel
theorem dX10_calm_8 : decode cX10_calm 8 = .ok (.aload_n 0, 1) := by decide +kernel
theorem dX10_calm_9 : decode cX10_calm 9 = .ok (.iload_n 1, 1) := by decide +kernel
theorem dX10_calm_10 : decode cX10_calm 10 = .ok (.invokevirtual 93, 3) := by decide +kernel
theorem dX10_calm_13 : decode cX10_calm 13 = .ok (.goto 5, 3) := by decide +kernel
theorem dX10_calm_16 : decode cX10_calm 16 = .ok (.bipush (-2), 2) := by decide +kernel
theorem dX10_calm_18 : decode cX10_calm 18 = .ok (.ireturn, 1) := by decide +kernel
theorem dX10_after_0 : decode cX10_after 0 = .ok (.aload_n 0, 1) := by decide +kernel
theorem dX10_after_1 : decode cX10_after 1 = .ok (.iload_n 1, 1) := by decide +kernel
theorem dX10_after_2 : decode cX10_after 2 = .ok (.invokevirtual 90, 3) := by decide +kernel
theorem dX10_after_5 : decode cX10_after 5 = .ok (.ifCond .eq 22, 3) := by decide +kernel
theorem dX10_after_8 : decode cX10_after 8 = .ok (.iload_n 2, 1) := by decide +kernel
theorem dX10_after_9 : decode cX10_after 9 = .ok (.invokestatic 97, 3) := by decide +kernel
theorem dX10_after_12 : decode cX10_after 12 = .ok (.ifCond .eq 15, 3) := by decide +kernel
theorem dX10_after_15 : decode cX10_after 15 = .ok (.iload_n 3, 1) := by decide +kernel
theorem dX10_after_16 : decode cX10_after 16 = .ok (.i2l, 1) := by decide +kernel
theorem dX10_after_17 : decode cX10_after 17 = .ok (.lconst 0, 1) := by decide +kernel
theorem dX10_after_18 : decode cX10_after 18 = .ok (.ldc2_w 100, 3) := by decide +kernel
theorem dX10_after_21 : decode cX10_after 21 = .ok (.invokestatic 60, 3) := by decide +kernel
theorem dX10_after_24 : decode cX10_after 24 = .ok (.ifCond .ne 6, 3) := by decide +kernel
theorem dX10_after_27 : decode cX10_after 27 = .ok (.bipush (-2), 2) := by decide +kernel
theorem dX10_after_29 : decode cX10_after 29 = .ok (.ireturn, 1) := by decide +kernel
theorem dX10_after_30 : decode cX10_after 30 = .ok (.iload_n 1, 1) := by decide +kernel
theorem dX10_after_31 : decode cX10_after 31 = .ok (.istore 4, 2) := by decide +kernel
theorem dX10_after_33 : decode cX10_after 33 = .ok (.iconst 0, 1) := by decide +kernel
theorem dX10_after_34 : decode cX10_after 34 = .ok (.istore 5, 2) := by decide +kernel
theorem dX10_after_36 : decode cX10_after 36 = .ok (.iload 5, 2) := by decide +kernel
theorem dX10_after_38 : decode cX10_after 38 = .ok (.iload_n 3, 1) := by decide +kernel
theorem dX10_after_39 : decode cX10_after 39 = .ok (.if_icmp .ge 18, 3) := by decide +kernel
theorem dX10_after_42 : decode cX10_after 42 = .ok (.aload_n 0, 1) := by decide +kernel
theorem dX10_after_43 : decode cX10_after 43 = .ok (.iload 4, 2) := by decide +kernel
theorem dX10_after_45 : decode cX10_after 45 = .ok (.iload_n 2, 1) := by decide +kernel
theorem dX10_after_46 : decode cX10_after 46 = .ok (.invokevirtual 102, 3) := by decide +kernel
theorem dX10_after_49 : decode cX10_after 49 = .ok (.istore 4, 2) := by decide +kernel
theorem dX10_after_51 : decode cX10_after 51 = .ok (.iinc 5 1, 3) := by decide +kernel
theorem dX10_after_54 : decode cX10_after 54 = .ok (.goto (-18), 3) := by decide +kernel
theorem dX10_after_57 : decode cX10_after 57 = .ok (.iload 4, 2) := by decide +kernel
theorem dX10_after_59 : decode cX10_after 59 = .ok (.ireturn, 1) := by decide +kernel
theorem dX10_layLeads_0 : decode cX10_layLeads 0 = .ok (.iconst 0, 1) := by decide +kernel
theorem dX10_layLeads_1 : decode cX10_layLeads 1 = .ok (.istore_n 2, 1) := by decide +kernel
theorem dX10_layLeads_2 : decode cX10_layLeads 2 = .ok (.iload_n 2, 1) := by decide +kernel
theorem dX10_layLeads_3 : decode cX10_layLeads 3 = .ok (.aload_n 0, 1) := by decide +kernel
theorem dX10_layLeads_4 : decode cX10_layLeads 4 = .ok (.invokevirtual 105, 3) := by decide +kernel
theorem dX10_layLeads_7 : decode cX10_layLeads 7 = .ok (.if_icmp .gt 21, 3) := by decide +kernel
theorem dX10_layLeads_10 : decode cX10_layLeads 10 = .ok (.aload_n 0, 1) := by decide +kernel
theorem dX10_layLeads_11 : decode cX10_layLeads 11 = .ok (.getfield 23, 3) := by decide +kernel
theorem dX10_layLeads_14 : decode cX10_layLeads 14 = .ok (.iload_n 2, 1) := by decide +kernel
theorem dX10_layLeads_15 : decode cX10_layLeads 15 = .ok (.aload_n 0, 1) := by decide +kernel
theorem dX10_layLeads_16 : decode cX10_layLeads 16 = .ok (.iload_n 2, 1) := by decide +kernel
theorem dX10_layLeads_17 : decode cX10_layLeads 17 = .ok (.iload_n 1, 1) := by decide +kernel
theorem dX10_layLeads_18 : decode cX10_layLeads 18 = .ok (.invokevirtual 102, 3) := by decide +kernel
theorem dX10_layLeads_21 : decode cX10_layLeads 21 = .ok (.iastore, 1) := by decide +kernel
theorem dX10_layLeads_22 : decode cX10_layLeads 22 = .ok (.iinc 2 1, 3) := by decide +kernel
theorem dX10_layLeads_25 : decode cX10_layLeads 25 = .ok (.goto (-23), 3) := by decide +kernel
theorem dX10_layLeads_28 : decode cX10_layLeads 28 = .ok (.return_, 1) := by decide +kernel
theorem dX10_layRun_0 : decode cX10_layRun 0 = .ok (.iconst 0, 1) := by decide +kernel
theorem dX10_layRun_1 : decode cX10_layRun 1 = .ok (.istore_n 2, 1) := by decide +kernel
theorem dX10_layRun_2 : decode cX10_layRun 2 = .ok (.iload_n 2, 1) := by decide +kernel
theorem dX10_layRun_3 : decode cX10_layRun 3 = .ok (.aload_n 0, 1) := by decide +kernel
theorem dX10_layRun_4 : decode cX10_layRun 4 = .ok (.invokevirtual 105, 3) := by decide +kernel
theorem dX10_layRun_7 : decode cX10_layRun 7 = .ok (.if_icmp .gt 17, 3) := by decide +kernel
theorem dX10_layRun_10 : decode cX10_layRun 10 = .ok (.aload_n 0, 1) := by decide +kernel
theorem dX10_layRun_11 : decode cX10_layRun 11 = .ok (.getfield 26, 3) := by decide +kernel
theorem dX10_layRun_14 : decode cX10_layRun 14 = .ok (.iload_n 2, 1) := by decide +kernel
theorem dX10_layRun_15 : decode cX10_layRun 15 = .ok (.bipush (-9), 2) := by decide +kernel
theorem dX10_layRun_17 : decode cX10_layRun 17 = .ok (.iastore, 1) := by decide +kernel
theorem dX10_layRun_18 : decode cX10_layRun 18 = .ok (.iinc 2 1, 3) := by decide +kernel
theorem dX10_layRun_21 : decode cX10_layRun 21 = .ok (.goto (-19), 3) := by decide +kernel
theorem dX10_layRun_24 : decode cX10_layRun 24 = .ok (.iload_n 1, 1) := by decide +kernel
theorem dX10_layRun_25 : decode cX10_layRun 25 = .ok (.istore_n 2, 1) := by decide +kernel
theorem dX10_layRun_26 : decode cX10_layRun 26 = .ok (.iconst 0, 1) := by decide +kernel
theorem dX10_layRun_27 : decode cX10_layRun 27 = .ok (.istore_n 3, 1) := by decide +kernel
theorem dX10_layRun_28 : decode cX10_layRun 28 = .ok (.aload_n 0, 1) := by decide +kernel
theorem dX10_layRun_29 : decode cX10_layRun 29 = .ok (.getfield 26, 3) := by decide +kernel
theorem dX10_layRun_32 : decode cX10_layRun 32 = .ok (.iload_n 2, 1) := by decide +kernel
theorem dX10_layRun_33 : decode cX10_layRun 33 = .ok (.iaload, 1) := by decide +kernel
theorem dX10_layRun_34 : decode cX10_layRun 34 = .ok (.bipush (-9), 2) := by decide +kernel
theorem dX10_layRun_36 : decode cX10_layRun 36 = .ok (.if_icmp .ne 23, 3) := by decide +kernel
theorem dX10_layRun_39 : decode cX10_layRun 39 = .ok (.aload_n 0, 1) := by decide +kernel
theorem dX10_layRun_40 : decode cX10_layRun 40 = .ok (.getfield 26, 3) := by decide +kernel
theorem dX10_layRun_43 : decode cX10_layRun 43 = .ok (.iload_n 2, 1) := by decide +kernel
theorem dX10_layRun_44 : decode cX10_layRun 44 = .ok (.iload_n 3, 1) := by decide +kernel
theorem dX10_layRun_45 : decode cX10_layRun 45 = .ok (.iastore, 1) := by decide +kernel
theorem dX10_layRun_46 : decode cX10_layRun 46 = .ok (.aload_n 0, 1) := by decide +kernel
theorem dX10_layRun_47 : decode cX10_layRun 47 = .ok (.getfield 23, 3) := by decide +kernel
theorem dX10_layRun_50 : decode cX10_layRun 50 = .ok (.iload_n 2, 1) := by decide +kernel
theorem dX10_layRun_51 : decode cX10_layRun 51 = .ok (.iaload, 1) := by decide +kernel
theorem dX10_layRun_52 : decode cX10_layRun 52 = .ok (.istore_n 2, 1) := by decide +kernel
theorem dX10_layRun_53 : decode cX10_layRun 53 = .ok (.iinc 3 1, 3) := by decide +kernel
theorem dX10_layRun_56 : decode cX10_layRun 56 = .ok (.goto (-28), 3) := by decide +kernel
theorem dX10_layRun_59 : decode cX10_layRun 59 = .ok (.aload_n 0, 1) := by decide +kernel
theorem dX10_layRun_60 : decode cX10_layRun 60 = .ok (.iload_n 2, 1) := by decide +kernel
theorem dX10_layRun_61 : decode cX10_layRun 61 = .ok (.putfield 109, 3) := by decide +kernel
theorem dX10_layRun_64 : decode cX10_layRun 64 = .ok (.aload_n 0, 1) := by decide +kernel
theorem dX10_layRun_65 : decode cX10_layRun 65 = .ok (.aload_n 0, 1) := by decide +kernel
theorem dX10_layRun_66 : decode cX10_layRun 66 = .ok (.getfield 26, 3) := by decide +kernel
theorem dX10_layRun_69 : decode cX10_layRun 69 = .ok (.iload_n 2, 1) := by decide +kernel
theorem dX10_layRun_70 : decode cX10_layRun 70 = .ok (.iaload, 1) := by decide +kernel
theorem dX10_layRun_71 : decode cX10_layRun 71 = .ok (.putfield 112, 3) := by decide +kernel
theorem dX10_layRun_74 : decode cX10_layRun 74 = .ok (.aload_n 0, 1) := by decide +kernel
theorem dX10_layRun_75 : decode cX10_layRun 75 = .ok (.iload_n 3, 1) := by decide +kernel
theorem dX10_layRun_76 : decode cX10_layRun 76 = .ok (.aload_n 0, 1) := by decide +kernel
theorem dX10_layRun_77 : decode cX10_layRun 77 = .ok (.getfield 112, 3) := by decide +kernel
theorem dX10_layRun_80 : decode cX10_layRun 80 = .ok (.isub, 1) := by decide +kernel
theorem dX10_layRun_81 : decode cX10_layRun 81 = .ok (.putfield 115, 3) := by decide +kernel
theorem dX10_layRun_84 : decode cX10_layRun 84 = .ok (.return_, 1) := by decide +kernel
theorem dX10_run_0 : decode cX10_run 0 = .ok (.aload_n 0, 1) := by decide +kernel
theorem dX10_run_1 : decode cX10_run 1 = .ok (.iload_n 1, 1) := by decide +kernel
theorem dX10_run_2 : decode cX10_run 2 = .ok (.invokevirtual 90, 3) := by decide +kernel
theorem dX10_run_5 : decode cX10_run 5 = .ok (.ifCond .eq 22, 3) := by decide +kernel
theorem dX10_run_8 : decode cX10_run 8 = .ok (.iload_n 2, 1) := by decide +kernel
theorem dX10_run_9 : decode cX10_run 9 = .ok (.invokestatic 97, 3) := by decide +kernel
theorem dX10_run_12 : decode cX10_run 12 = .ok (.ifCond .eq 15, 3) := by decide +kernel
theorem dX10_run_15 : decode cX10_run 15 = .ok (.iload_n 3, 1) := by decide +kernel
theorem dX10_run_16 : decode cX10_run 16 = .ok (.i2l, 1) := by decide +kernel
theorem dX10_run_17 : decode cX10_run 17 = .ok (.lconst 0, 1) := by decide +kernel
theorem dX10_run_18 : decode cX10_run 18 = .ok (.ldc2_w 118, 3) := by decide +kernel
theorem dX10_run_21 : decode cX10_run 21 = .ok (.invokestatic 60, 3) := by decide +kernel
theorem dX10_run_24 : decode cX10_run 24 = .ok (.ifCond .ne 6, 3) := by decide +kernel
theorem dX10_run_27 : decode cX10_run 27 = .ok (.bipush (-2), 2) := by decide +kernel
theorem dX10_run_29 : decode cX10_run 29 = .ok (.ireturn, 1) := by decide +kernel
theorem dX10_run_30 : decode cX10_run 30 = .ok (.aload_n 0, 1) := by decide +kernel
theorem dX10_run_31 : decode cX10_run 31 = .ok (.iload_n 2, 1) := by decide +kernel
theorem dX10_run_32 : decode cX10_run 32 = .ok (.invokevirtual 120, 3) := by decide +kernel
theorem dX10_run_35 : decode cX10_run 35 = .ok (.aload_n 0, 1) := by decide +kernel
theorem dX10_run_36 : decode cX10_run 36 = .ok (.iload_n 1, 1) := by decide +kernel
theorem dX10_run_37 : decode cX10_run 37 = .ok (.invokevirtual 124, 3) := by decide +kernel
theorem dX10_run_40 : decode cX10_run 40 = .ok (.iload_n 3, 1) := by decide +kernel
theorem dX10_run_41 : decode cX10_run 41 = .ok (.ifCond .ne 10, 3) := by decide +kernel
theorem dX10_run_44 : decode cX10_run 44 = .ok (.aload_n 0, 1) := by decide +kernel
theorem dX10_run_45 : decode cX10_run 45 = .ok (.getfield 112, 3) := by decide +kernel
theorem dX10_run_48 : decode cX10_run 48 = .ok (.goto 19, 3) := by decide +kernel
theorem dX10_run_51 : decode cX10_run 51 = .ok (.iload_n 3, 1) := by decide +kernel
theorem dX10_run_52 : decode cX10_run 52 = .ok (.iconst 1, 1) := by decide +kernel
theorem dX10_run_53 : decode cX10_run 53 = .ok (.if_icmp .ne 10, 3) := by decide +kernel
theorem dX10_run_56 : decode cX10_run 56 = .ok (.aload_n 0, 1) := by decide +kernel
theorem dX10_run_57 : decode cX10_run 57 = .ok (.getfield 109, 3) := by decide +kernel
theorem dX10_run_60 : decode cX10_run 60 = .ok (.goto 7, 3) := by decide +kernel
theorem dX10_run_63 : decode cX10_run 63 = .ok (.aload_n 0, 1) := by decide +kernel
theorem dX10_run_64 : decode cX10_run 64 = .ok (.getfield 115, 3) := by decide +kernel
theorem dX10_run_67 : decode cX10_run 67 = .ok (.ireturn, 1) := by decide +kernel
theorem dX10_leastOfRing_0 : decode cX10_leastOfRing 0 = .ok (.aload_n 0, 1) := by decide +kernel
theorem dX10_leastOfRing_1 : decode cX10_leastOfRing 1 = .ok (.getfield 109, 3) := by decide +kernel
theorem dX10_leastOfRing_4 : decode cX10_leastOfRing 4 = .ok (.istore_n 1, 1) := by decide +kernel
theorem dX10_leastOfRing_5 : decode cX10_leastOfRing 5 = .ok (.aload_n 0, 1) := by decide +kernel
theorem dX10_leastOfRing_6 : decode cX10_leastOfRing 6 = .ok (.getfield 23, 3) := by decide +kernel
theorem dX10_leastOfRing_9 : decode cX10_leastOfRing 9 = .ok (.aload_n 0, 1) := by decide +kernel
theorem dX10_leastOfRing_10 : decode cX10_leastOfRing 10 = .ok (.getfield 109, 3) := by decide +kernel
theorem dX10_leastOfRing_13 : decode cX10_leastOfRing 13 = .ok (.iaload, 1) := by decide +kernel
theorem dX10_leastOfRing_14 : decode cX10_leastOfRing 14 = .ok (.istore_n 2, 1) := by decide +kernel
theorem dX10_leastOfRing_15 : decode cX10_leastOfRing 15 = .ok (.iload_n 2, 1) := by decide +kernel
theorem dX10_leastOfRing_16 : decode cX10_leastOfRing 16 = .ok (.aload_n 0, 1) := by decide +kernel
theorem dX10_leastOfRing_17 : decode cX10_leastOfRing 17 = .ok (.getfield 109, 3) := by decide +kernel
theorem dX10_leastOfRing_20 : decode cX10_leastOfRing 20 = .ok (.if_icmp .eq 24, 3) := by decide +kernel
theorem dX10_leastOfRing_23 : decode cX10_leastOfRing 23 = .ok (.iload_n 2, 1) := by decide +kernel
theorem dX10_leastOfRing_24 : decode cX10_leastOfRing 24 = .ok (.iload_n 1, 1) := by decide +kernel
theorem dX10_leastOfRing_25 : decode cX10_leastOfRing 25 = .ok (.if_icmp .ge 7, 3) := by decide +kernel
theorem dX10_leastOfRing_28 : decode cX10_leastOfRing 28 = .ok (.iload_n 2, 1) := by decide +kernel
theorem dX10_leastOfRing_29 : decode cX10_leastOfRing 29 = .ok (.goto 4, 3) := by decide +kernel
theorem dX10_leastOfRing_32 : decode cX10_leastOfRing 32 = .ok (.iload_n 1, 1) := by decide +kernel
theorem dX10_leastOfRing_33 : decode cX10_leastOfRing 33 = .ok (.istore_n 1, 1) := by decide +kernel
theorem dX10_leastOfRing_34 : decode cX10_leastOfRing 34 = .ok (.aload_n 0, 1) := by decide +kernel
theorem dX10_leastOfRing_35 : decode cX10_leastOfRing 35 = .ok (.getfield 23, 3) := by decide +kernel
theorem dX10_leastOfRing_38 : decode cX10_leastOfRing 38 = .ok (.iload_n 2, 1) := by decide +kernel
theorem dX10_leastOfRing_39 : decode cX10_leastOfRing 39 = .ok (.iaload, 1) := by decide +kernel
theorem dX10_leastOfRing_40 : decode cX10_leastOfRing 40 = .ok (.istore_n 2, 1) := by decide +kernel
theorem dX10_leastOfRing_41 : decode cX10_leastOfRing 41 = .ok (.goto (-26), 3) := by decide +kernel
theorem dX10_leastOfRing_44 : decode cX10_leastOfRing 44 = .ok (.iload_n 1, 1) := by decide +kernel
theorem dX10_leastOfRing_45 : decode cX10_leastOfRing 45 = .ok (.ireturn, 1) := by decide +kernel
theorem dX10_layRings_0 : decode cX10_layRings 0 = .ok (.aload_n 0, 1) := by decide +kernel
theorem dX10_layRings_1 : decode cX10_layRings 1 = .ok (.iload_n 1, 1) := by decide +kernel
theorem dX10_layRings_2 : decode cX10_layRings 2 = .ok (.invokevirtual 120, 3) := by decide +kernel
theorem dX10_layRings_5 : decode cX10_layRings 5 = .ok (.iconst 0, 1) := by decide +kernel
theorem dX10_layRings_6 : decode cX10_layRings 6 = .ok (.istore_n 2, 1) := by decide +kernel
theorem dX10_layRings_7 : decode cX10_layRings 7 = .ok (.iload_n 2, 1) := by decide +kernel
theorem dX10_layRings_8 : decode cX10_layRings 8 = .ok (.aload_n 0, 1) := by decide +kernel
theorem dX10_layRings_9 : decode cX10_layRings 9 = .ok (.invokevirtual 105, 3) := by decide +kernel
theorem dX10_layRings_12 : decode cX10_layRings 12 = .ok (.if_icmp .gt 23, 3) := by decide +kernel
theorem dX10_layRings_15 : decode cX10_layRings 15 = .ok (.aload_n 0, 1) := by decide +kernel
theorem dX10_layRings_16 : decode cX10_layRings 16 = .ok (.getfield 29, 3) := by decide +kernel
theorem dX10_layRings_19 : decode cX10_layRings 19 = .ok (.iload_n 2, 1) := by decide +kernel
theorem dX10_layRings_20 : decode cX10_layRings 20 = .ok (.iconst 0, 1) := by decide +kernel
theorem dX10_layRings_21 : decode cX10_layRings 21 = .ok (.iastore, 1) := by decide +kernel
theorem dX10_layRings_22 : decode cX10_layRings 22 = .ok (.aload_n 0, 1) := by decide +kernel
theorem dX10_layRings_23 : decode cX10_layRings 23 = .ok (.getfield 35, 3) := by decide +kernel
theorem dX10_layRings_26 : decode cX10_layRings 26 = .ok (.iload_n 2, 1) := by decide +kernel
theorem dX10_layRings_27 : decode cX10_layRings 27 = .ok (.iconst 0, 1) := by decide +kernel
theorem dX10_layRings_28 : decode cX10_layRings 28 = .ok (.iastore, 1) := by decide +kernel
theorem dX10_layRings_29 : decode cX10_layRings 29 = .ok (.iinc 2 1, 3) := by decide +kernel
theorem dX10_layRings_32 : decode cX10_layRings 32 = .ok (.goto (-25), 3) := by decide +kernel
theorem dX10_layRings_35 : decode cX10_layRings 35 = .ok (.iconst 0, 1) := by decide +kernel
theorem dX10_layRings_36 : decode cX10_layRings 36 = .ok (.istore_n 2, 1) := by decide +kernel
theorem dX10_layRings_37 : decode cX10_layRings 37 = .ok (.iload_n 2, 1) := by decide +kernel
theorem dX10_layRings_38 : decode cX10_layRings 38 = .ok (.aload_n 0, 1) := by decide +kernel
theorem dX10_layRings_39 : decode cX10_layRings 39 = .ok (.invokevirtual 105, 3) := by decide +kernel
theorem dX10_layRings_42 : decode cX10_layRings 42 = .ok (.if_icmp .gt 71, 3) := by decide +kernel
theorem dX10_layRings_45 : decode cX10_layRings 45 = .ok (.aload_n 0, 1) := by decide +kernel
theorem dX10_layRings_46 : decode cX10_layRings 46 = .ok (.iload_n 2, 1) := by decide +kernel
theorem dX10_layRings_47 : decode cX10_layRings 47 = .ok (.invokevirtual 124, 3) := by decide +kernel
theorem dX10_layRings_50 : decode cX10_layRings 50 = .ok (.aload_n 0, 1) := by decide +kernel
theorem dX10_layRings_51 : decode cX10_layRings 51 = .ok (.invokevirtual 127, 3) := by decide +kernel
theorem dX10_layRings_54 : decode cX10_layRings 54 = .ok (.istore_n 3, 1) := by decide +kernel
theorem dX10_layRings_55 : decode cX10_layRings 55 = .ok (.aload_n 0, 1) := by decide +kernel
theorem dX10_layRings_56 : decode cX10_layRings 56 = .ok (.getfield 29, 3) := by decide +kernel
theorem dX10_layRings_59 : decode cX10_layRings 59 = .ok (.iload_n 3, 1) := by decide +kernel
theorem dX10_layRings_60 : decode cX10_layRings 60 = .ok (.dup2, 1) := by decide +kernel
theorem dX10_layRings_61 : decode cX10_layRings 61 = .ok (.iaload, 1) := by decide +kernel
theorem dX10_layRings_62 : decode cX10_layRings 62 = .ok (.iconst 1, 1) := by decide +kernel
theorem dX10_layRings_63 : decode cX10_layRings 63 = .ok (.iadd, 1) := by decide +kernel
theorem dX10_layRings_64 : decode cX10_layRings 64 = .ok (.iastore, 1) := by decide +kernel
theorem dX10_layRings_65 : decode cX10_layRings 65 = .ok (.aload_n 0, 1) := by decide +kernel
theorem dX10_layRings_66 : decode cX10_layRings 66 = .ok (.getfield 32, 3) := by decide +kernel
theorem dX10_layRings_69 : decode cX10_layRings 69 = .ok (.iload_n 3, 1) := by decide +kernel
theorem dX10_layRings_70 : decode cX10_layRings 70 = .ok (.aload_n 0, 1) := by decide +kernel
theorem dX10_layRings_71 : decode cX10_layRings 71 = .ok (.getfield 115, 3) := by decide +kernel
theorem dX10_layRings_74 : decode cX10_layRings 74 = .ok (.iastore, 1) := by decide +kernel
theorem dX10_layRings_75 : decode cX10_layRings 75 = .ok (.aload_n 0, 1) := by decide +kernel
theorem dX10_layRings_76 : decode cX10_layRings 76 = .ok (.getfield 35, 3) := by decide +kernel
theorem dX10_layRings_79 : decode cX10_layRings 79 = .ok (.iload_n 3, 1) := by decide +kernel
theorem dX10_layRings_80 : decode cX10_layRings 80 = .ok (.aload_n 0, 1) := by decide +kernel
theorem dX10_layRings_81 : decode cX10_layRings 81 = .ok (.getfield 112, 3) := by decide +kernel
theorem dX10_layRings_84 : decode cX10_layRings 84 = .ok (.aload_n 0, 1) := by decide +kernel
theorem dX10_layRings_85 : decode cX10_layRings 85 = .ok (.getfield 35, 3) := by decide +kernel
theorem dX10_layRings_88 : decode cX10_layRings 88 = .ok (.iload_n 3, 1) := by decide +kernel
theorem dX10_layRings_89 : decode cX10_layRings 89 = .ok (.iaload, 1) := by decide +kernel
theorem dX10_layRings_90 : decode cX10_layRings 90 = .ok (.if_icmp .le 10, 3) := by decide +kernel
theorem dX10_layRings_93 : decode cX10_layRings 93 = .ok (.aload_n 0, 1) := by decide +kernel
theorem dX10_layRings_94 : decode cX10_layRings 94 = .ok (.getfield 112, 3) := by decide +kernel
theorem dX10_layRings_97 : decode cX10_layRings 97 = .ok (.goto 9, 3) := by decide +kernel
theorem dX10_layRings_100 : decode cX10_layRings 100 = .ok (.aload_n 0, 1) := by decide +kernel
theorem dX10_layRings_101 : decode cX10_layRings 101 = .ok (.getfield 35, 3) := by decide +kernel
theorem dX10_layRings_104 : decode cX10_layRings 104 = .ok (.iload_n 3, 1) := by decide +kernel
theorem dX10_layRings_105 : decode cX10_layRings 105 = .ok (.iaload, 1) := by decide +kernel
theorem dX10_layRings_106 : decode cX10_layRings 106 = .ok (.iastore, 1) := by decide +kernel
theorem dX10_layRings_107 : decode cX10_layRings 107 = .ok (.iinc 2 1, 3) := by decide +kernel
theorem dX10_layRings_110 : decode cX10_layRings 110 = .ok (.goto (-73), 3) := by decide +kernel
theorem dX10_layRings_113 : decode cX10_layRings 113 = .ok (.return_, 1) := by decide +kernel
theorem dX10_rings_0 : decode cX10_rings 0 = .ok (.iload_n 1, 1) := by decide +kernel
theorem dX10_rings_1 : decode cX10_rings 1 = .ok (.invokestatic 97, 3) := by decide +kernel
theorem dX10_rings_4 : decode cX10_rings 4 = .ok (.ifCond .ne 6, 3) := by decide +kernel
theorem dX10_rings_7 : decode cX10_rings 7 = .ok (.bipush (-2), 2) := by decide +kernel
theorem dX10_rings_9 : decode cX10_rings 9 = .ok (.ireturn, 1) := by decide +kernel
theorem dX10_rings_10 : decode cX10_rings 10 = .ok (.aload_n 0, 1) := by decide +kernel
theorem dX10_rings_11 : decode cX10_rings 11 = .ok (.iload_n 1, 1) := by decide +kernel
theorem dX10_rings_12 : decode cX10_rings 12 = .ok (.invokevirtual 130, 3) := by decide +kernel
theorem dX10_rings_15 : decode cX10_rings 15 = .ok (.iconst 0, 1) := by decide +kernel
theorem dX10_rings_16 : decode cX10_rings 16 = .ok (.istore_n 2, 1) := by decide +kernel
theorem dX10_rings_17 : decode cX10_rings 17 = .ok (.iconst 0, 1) := by decide +kernel
theorem dX10_rings_18 : decode cX10_rings 18 = .ok (.istore_n 3, 1) := by decide +kernel
theorem dX10_rings_19 : decode cX10_rings 19 = .ok (.iload_n 3, 1) := by decide +kernel
theorem dX10_rings_20 : decode cX10_rings 20 = .ok (.aload_n 0, 1) := by decide +kernel
theorem dX10_rings_21 : decode cX10_rings 21 = .ok (.invokevirtual 105, 3) := by decide +kernel
theorem dX10_rings_24 : decode cX10_rings 24 = .ok (.if_icmp .gt 26, 3) := by decide +kernel
theorem dX10_rings_27 : decode cX10_rings 27 = .ok (.iload_n 2, 1) := by decide +kernel
theorem dX10_rings_28 : decode cX10_rings 28 = .ok (.aload_n 0, 1) := by decide +kernel
theorem dX10_rings_29 : decode cX10_rings 29 = .ok (.getfield 29, 3) := by decide +kernel
theorem dX10_rings_32 : decode cX10_rings 32 = .ok (.iload_n 3, 1) := by decide +kernel
theorem dX10_rings_33 : decode cX10_rings 33 = .ok (.iaload, 1) := by decide +kernel
theorem dX10_rings_34 : decode cX10_rings 34 = .ok (.ifCond .le 7, 3) := by decide +kernel
theorem dX10_rings_37 : decode cX10_rings 37 = .ok (.iconst 1, 1) := by decide +kernel
theorem dX10_rings_38 : decode cX10_rings 38 = .ok (.goto 4, 3) := by decide +kernel
theorem dX10_rings_41 : decode cX10_rings 41 = .ok (.iconst 0, 1) := by decide +kernel
theorem dX10_rings_42 : decode cX10_rings 42 = .ok (.iadd, 1) := by decide +kernel
theorem dX10_rings_43 : decode cX10_rings 43 = .ok (.istore_n 2, 1) := by decide +kernel
theorem dX10_rings_44 : decode cX10_rings 44 = .ok (.iinc 3 1, 3) := by decide +kernel
theorem dX10_rings_47 : decode cX10_rings 47 = .ok (.goto (-28), 3) := by decide +kernel
theorem dX10_rings_50 : decode cX10_rings 50 = .ok (.iload_n 2, 1) := by decide +kernel
theorem dX10_rings_51 : decode cX10_rings 51 = .ok (.ireturn, 1) := by decide +kernel
theorem dX10_ring_0 : decode cX10_ring 0 = .ok (.iload_n 1, 1) := by decide +kernel
theorem dX10_ring_1 : decode cX10_ring 1 = .ok (.invokestatic 97, 3) := by decide +kernel
theorem dX10_ring_4 : decode cX10_ring 4 = .ok (.ifCond .ne 6, 3) := by decide +kernel
theorem dX10_ring_7 : decode cX10_ring 7 = .ok (.bipush (-2), 2) := by decide +kernel
theorem dX10_ring_9 : decode cX10_ring 9 = .ok (.ireturn, 1) := by decide +kernel
theorem dX10_ring_10 : decode cX10_ring 10 = .ok (.aload_n 0, 1) := by decide +kernel
theorem dX10_ring_11 : decode cX10_ring 11 = .ok (.iload_n 1, 1) := by decide +kernel
theorem dX10_ring_12 : decode cX10_ring 12 = .ok (.invokevirtual 130, 3) := by decide +kernel
theorem dX10_ring_15 : decode cX10_ring 15 = .ok (.iconst 0, 1) := by decide +kernel
theorem dX10_ring_16 : decode cX10_ring 16 = .ok (.istore 4, 2) := by decide +kernel
theorem dX10_ring_18 : decode cX10_ring 18 = .ok (.iconst 0, 1) := by decide +kernel
theorem dX10_ring_19 : decode cX10_ring 19 = .ok (.istore 5, 2) := by decide +kernel
theorem dX10_ring_21 : decode cX10_ring 21 = .ok (.iload 5, 2) := by decide +kernel
theorem dX10_ring_23 : decode cX10_ring 23 = .ok (.aload_n 0, 1) := by decide +kernel
theorem dX10_ring_24 : decode cX10_ring 24 = .ok (.invokevirtual 105, 3) := by decide +kernel
theorem dX10_ring_27 : decode cX10_ring 27 = .ok (.if_icmp .gt 102, 3) := by decide +kernel
theorem dX10_ring_30 : decode cX10_ring 30 = .ok (.aload_n 0, 1) := by decide +kernel
theorem dX10_ring_31 : decode cX10_ring 31 = .ok (.getfield 29, 3) := by decide +kernel
theorem dX10_ring_34 : decode cX10_ring 34 = .ok (.iload 5, 2) := by decide +kernel
theorem dX10_ring_36 : decode cX10_ring 36 = .ok (.iaload, 1) := by decide +kernel
theorem dX10_ring_37 : decode cX10_ring 37 = .ok (.ifCond .le 66, 3) := by decide +kernel
theorem dX10_ring_40 : decode cX10_ring 40 = .ok (.iload 4, 2) := by decide +kernel
theorem dX10_ring_42 : decode cX10_ring 42 = .ok (.iload_n 2, 1) := by decide +kernel
theorem dX10_ring_43 : decode cX10_ring 43 = .ok (.if_icmp .ne 60, 3) := by decide +kernel
theorem dX10_ring_46 : decode cX10_ring 46 = .ok (.iload_n 3, 1) := by decide +kernel
theorem dX10_ring_47 : decode cX10_ring 47 = .ok (.ifCond .ne 8, 3) := by decide +kernel
theorem dX10_ring_50 : decode cX10_ring 50 = .ok (.iload 5, 2) := by decide +kernel
theorem dX10_ring_52 : decode cX10_ring 52 = .ok (.goto 50, 3) := by decide +kernel
theorem dX10_ring_55 : decode cX10_ring 55 = .ok (.iload_n 3, 1) := by decide +kernel
theorem dX10_ring_56 : decode cX10_ring 56 = .ok (.iconst 1, 1) := by decide +kernel
theorem dX10_ring_57 : decode cX10_ring 57 = .ok (.if_icmp .ne 13, 3) := by decide +kernel
theorem dX10_ring_60 : decode cX10_ring 60 = .ok (.aload_n 0, 1) := by decide +kernel
theorem dX10_ring_61 : decode cX10_ring 61 = .ok (.getfield 32, 3) := by decide +kernel
theorem dX10_ring_64 : decode cX10_ring 64 = .ok (.iload 5, 2) := by decide +kernel
theorem dX10_ring_66 : decode cX10_ring 66 = .ok (.iaload, 1) := by decide +kernel
theorem dX10_ring_67 : decode cX10_ring 67 = .ok (.goto 35, 3) := by decide +kernel
theorem dX10_ring_70 : decode cX10_ring 70 = .ok (.iload_n 3, 1) := by decide +kernel
theorem dX10_ring_71 : decode cX10_ring 71 = .ok (.iconst 2, 1) := by decide +kernel
theorem dX10_ring_72 : decode cX10_ring 72 = .ok (.if_icmp .ne 13, 3) := by decide +kernel
theorem dX10_ring_75 : decode cX10_ring 75 = .ok (.aload_n 0, 1) := by decide +kernel
theorem dX10_ring_76 : decode cX10_ring 76 = .ok (.getfield 29, 3) := by decide +kernel
theorem dX10_ring_79 : decode cX10_ring 79 = .ok (.iload 5, 2) := by decide +kernel
theorem dX10_ring_81 : decode cX10_ring 81 = .ok (.iaload, 1) := by decide +kernel
theorem dX10_ring_82 : decode cX10_ring 82 = .ok (.goto 20, 3) := by decide +kernel
theorem dX10_ring_85 : decode cX10_ring 85 = .ok (.iload_n 3, 1) := by decide +kernel
theorem dX10_ring_86 : decode cX10_ring 86 = .ok (.iconst 3, 1) := by decide +kernel
theorem dX10_ring_87 : decode cX10_ring 87 = .ok (.if_icmp .ne 13, 3) := by decide +kernel
theorem dX10_ring_90 : decode cX10_ring 90 = .ok (.aload_n 0, 1) := by decide +kernel
theorem dX10_ring_91 : decode cX10_ring 91 = .ok (.getfield 35, 3) := by decide +kernel
theorem dX10_ring_94 : decode cX10_ring 94 = .ok (.iload 5, 2) := by decide +kernel
theorem dX10_ring_96 : decode cX10_ring 96 = .ok (.iaload, 1) := by decide +kernel
theorem dX10_ring_97 : decode cX10_ring 97 = .ok (.goto 5, 3) := by decide +kernel
theorem dX10_ring_100 : decode cX10_ring 100 = .ok (.bipush (-2), 2) := by decide +kernel
theorem dX10_ring_102 : decode cX10_ring 102 = .ok (.ireturn, 1) := by decide +kernel
theorem dX10_ring_103 : decode cX10_ring 103 = .ok (.iload 4, 2) := by decide +kernel
theorem dX10_ring_105 : decode cX10_ring 105 = .ok (.aload_n 0, 1) := by decide +kernel
theorem dX10_ring_106 : decode cX10_ring 106 = .ok (.getfield 29, 3) := by decide +kernel
theorem dX10_ring_109 : decode cX10_ring 109 = .ok (.iload 5, 2) := by decide +kernel
theorem dX10_ring_111 : decode cX10_ring 111 = .ok (.iaload, 1) := by decide +kernel
theorem dX10_ring_112 : decode cX10_ring 112 = .ok (.ifCond .le 7, 3) := by decide +kernel
theorem dX10_ring_115 : decode cX10_ring 115 = .ok (.iconst 1, 1) := by decide +kernel
theorem dX10_ring_116 : decode cX10_ring 116 = .ok (.goto 4, 3) := by decide +kernel
theorem dX10_ring_119 : decode cX10_ring 119 = .ok (.iconst 0, 1) := by decide +kernel
theorem dX10_ring_120 : decode cX10_ring 120 = .ok (.iadd, 1) := by decide +kernel
theorem dX10_ring_121 : decode cX10_ring 121 = .ok (.istore 4, 2) := by decide +kernel
theorem dX10_ring_123 : decode cX10_ring 123 = .ok (.iinc 5 1, 3) := by decide +kernel
theorem dX10_ring_126 : decode cX10_ring 126 = .ok (.goto (-105), 3) := by decide +kernel
theorem dX10_ring_129 : decode cX10_ring 129 = .ok (.iconst (-1), 1) := by decide +kernel
theorem dX10_ring_130 : decode cX10_ring 130 = .ok (.ireturn, 1) := by decide +kernel
theorem dX10_longest_0 : decode cX10_longest 0 = .ok (.iload_n 1, 1) := by decide +kernel
theorem dX10_longest_1 : decode cX10_longest 1 = .ok (.invokestatic 97, 3) := by decide +kernel
theorem dX10_longest_4 : decode cX10_longest 4 = .ok (.ifCond .ne 6, 3) := by decide +kernel
theorem dX10_longest_7 : decode cX10_longest 7 = .ok (.bipush (-2), 2) := by decide +kernel
theorem dX10_longest_9 : decode cX10_longest 9 = .ok (.ireturn, 1) := by decide +kernel
theorem dX10_longest_10 : decode cX10_longest 10 = .ok (.aload_n 0, 1) := by decide +kernel
theorem dX10_longest_11 : decode cX10_longest 11 = .ok (.iload_n 1, 1) := by decide +kernel
theorem dX10_longest_12 : decode cX10_longest 12 = .ok (.invokevirtual 130, 3) := by decide +kernel
theorem dX10_longest_15 : decode cX10_longest 15 = .ok (.iconst 0, 1) := by decide +kernel
theorem dX10_longest_16 : decode cX10_longest 16 = .ok (.istore_n 2, 1) := by decide +kernel
theorem dX10_longest_17 : decode cX10_longest 17 = .ok (.iconst 0, 1) := by decide +kernel
theorem dX10_longest_18 : decode cX10_longest 18 = .ok (.istore_n 3, 1) := by decide +kernel
theorem dX10_longest_19 : decode cX10_longest 19 = .ok (.iload_n 3, 1) := by decide +kernel
theorem dX10_longest_20 : decode cX10_longest 20 = .ok (.aload_n 0, 1) := by decide +kernel
theorem dX10_longest_21 : decode cX10_longest 21 = .ok (.invokevirtual 105, 3) := by decide +kernel
theorem dX10_longest_24 : decode cX10_longest 24 = .ok (.if_icmp .gt 39, 3) := by decide +kernel
theorem dX10_longest_27 : decode cX10_longest 27 = .ok (.aload_n 0, 1) := by decide +kernel
theorem dX10_longest_28 : decode cX10_longest 28 = .ok (.getfield 29, 3) := by decide +kernel
theorem dX10_longest_31 : decode cX10_longest 31 = .ok (.iload_n 3, 1) := by decide +kernel
theorem dX10_longest_32 : decode cX10_longest 32 = .ok (.iaload, 1) := by decide +kernel
theorem dX10_longest_33 : decode cX10_longest 33 = .ok (.ifCond .le 22, 3) := by decide +kernel
theorem dX10_longest_36 : decode cX10_longest 36 = .ok (.aload_n 0, 1) := by decide +kernel
theorem dX10_longest_37 : decode cX10_longest 37 = .ok (.getfield 32, 3) := by decide +kernel
theorem dX10_longest_40 : decode cX10_longest 40 = .ok (.iload_n 3, 1) := by decide +kernel
theorem dX10_longest_41 : decode cX10_longest 41 = .ok (.iaload, 1) := by decide +kernel
theorem dX10_longest_42 : decode cX10_longest 42 = .ok (.iload_n 2, 1) := by decide +kernel
theorem dX10_longest_43 : decode cX10_longest 43 = .ok (.if_icmp .le 12, 3) := by decide +kernel
theorem dX10_longest_46 : decode cX10_longest 46 = .ok (.aload_n 0, 1) := by decide +kernel
theorem dX10_longest_47 : decode cX10_longest 47 = .ok (.getfield 32, 3) := by decide +kernel
theorem dX10_longest_50 : decode cX10_longest 50 = .ok (.iload_n 3, 1) := by decide +kernel
theorem dX10_longest_51 : decode cX10_longest 51 = .ok (.iaload, 1) := by decide +kernel
theorem dX10_longest_52 : decode cX10_longest 52 = .ok (.goto 4, 3) := by decide +kernel
theorem dX10_longest_55 : decode cX10_longest 55 = .ok (.iload_n 2, 1) := by decide +kernel
theorem dX10_longest_56 : decode cX10_longest 56 = .ok (.istore_n 2, 1) := by decide +kernel
theorem dX10_longest_57 : decode cX10_longest 57 = .ok (.iinc 3 1, 3) := by decide +kernel
theorem dX10_longest_60 : decode cX10_longest 60 = .ok (.goto (-41), 3) := by decide +kernel
theorem dX10_longest_63 : decode cX10_longest 63 = .ok (.iload_n 2, 1) := by decide +kernel
theorem dX10_longest_64 : decode cX10_longest 64 = .ok (.ireturn, 1) := by decide +kernel
theorem dX10_isRest_0 : decode cX10_isRest 0 = .ok (.aload_n 0, 1) := by decide +kernel
theorem dX10_isRest_1 : decode cX10_isRest 1 = .ok (.iload_n 1, 1) := by decide +kernel
theorem dX10_isRest_2 : decode cX10_isRest 2 = .ok (.invokevirtual 93, 3) := by decide +kernel
theorem dX10_isRest_5 : decode cX10_isRest 5 = .ok (.aload_n 0, 1) := by decide +kernel
theorem dX10_isRest_6 : decode cX10_isRest 6 = .ok (.invokevirtual 105, 3) := by decide +kernel
theorem dX10_isRest_9 : decode cX10_isRest 9 = .ok (.if_icmp .ne 7, 3) := by decide +kernel
theorem dX10_isRest_12 : decode cX10_isRest 12 = .ok (.iconst 1, 1) := by decide +kernel
theorem dX10_isRest_13 : decode cX10_isRest 13 = .ok (.goto 4, 3) := by decide +kernel
theorem dX10_isRest_16 : decode cX10_isRest 16 = .ok (.iconst 0, 1) := by decide +kernel
theorem dX10_isRest_17 : decode cX10_isRest 17 = .ok (.ireturn, 1) := by decide +kernel
theorem dX10_rests_0 : decode cX10_rests 0 = .ok (.iconst 0, 1) := by decide +kernel
theorem dX10_rests_1 : decode cX10_rests 1 = .ok (.istore_n 1, 1) := by decide +kernel
theorem dX10_rests_2 : decode cX10_rests 2 = .ok (.iconst 0, 1) := by decide +kernel
theorem dX10_rests_3 : decode cX10_rests 3 = .ok (.istore_n 2, 1) := by decide +kernel
theorem dX10_rests_4 : decode cX10_rests 4 = .ok (.iload_n 2, 1) := by decide +kernel
theorem dX10_rests_5 : decode cX10_rests 5 = .ok (.aload_n 0, 1) := by decide +kernel
theorem dX10_rests_6 : decode cX10_rests 6 = .ok (.invokevirtual 105, 3) := by decide +kernel
theorem dX10_rests_9 : decode cX10_rests 9 = .ok (.if_icmp .gt 25, 3) := by decide +kernel
theorem dX10_rests_12 : decode cX10_rests 12 = .ok (.iload_n 1, 1) := by decide +kernel
theorem dX10_rests_13 : decode cX10_rests 13 = .ok (.aload_n 0, 1) := by decide +kernel
theorem dX10_rests_14 : decode cX10_rests 14 = .ok (.iload_n 2, 1) := by decide +kernel
theorem dX10_rests_15 : decode cX10_rests 15 = .ok (.invokevirtual 133, 3) := by decide +kernel
theorem dX10_rests_18 : decode cX10_rests 18 = .ok (.ifCond .eq 7, 3) := by decide +kernel
theorem dX10_rests_21 : decode cX10_rests 21 = .ok (.iconst 1, 1) := by decide +kernel
theorem dX10_rests_22 : decode cX10_rests 22 = .ok (.goto 4, 3) := by decide +kernel
theorem dX10_rests_25 : decode cX10_rests 25 = .ok (.iconst 0, 1) := by decide +kernel
theorem dX10_rests_26 : decode cX10_rests 26 = .ok (.iadd, 1) := by decide +kernel
theorem dX10_rests_27 : decode cX10_rests 27 = .ok (.istore_n 1, 1) := by decide +kernel
theorem dX10_rests_28 : decode cX10_rests 28 = .ok (.iinc 2 1, 3) := by decide +kernel
theorem dX10_rests_31 : decode cX10_rests 31 = .ok (.goto (-27), 3) := by decide +kernel
theorem dX10_rests_34 : decode cX10_rests 34 = .ok (.iload_n 1, 1) := by decide +kernel
theorem dX10_rests_35 : decode cX10_rests 35 = .ok (.ireturn, 1) := by decide +kernel
theorem dX10_restOf_0 : decode cX10_restOf 0 = .ok (.iconst 0, 1) := by decide +kernel
theorem dX10_restOf_1 : decode cX10_restOf 1 = .ok (.istore_n 2, 1) := by decide +kernel
theorem dX10_restOf_2 : decode cX10_restOf 2 = .ok (.iconst 0, 1) := by decide +kernel
theorem dX10_restOf_3 : decode cX10_restOf 3 = .ok (.istore_n 3, 1) := by decide +kernel
theorem dX10_restOf_4 : decode cX10_restOf 4 = .ok (.iload_n 3, 1) := by decide +kernel
theorem dX10_restOf_5 : decode cX10_restOf 5 = .ok (.aload_n 0, 1) := by decide +kernel
theorem dX10_restOf_6 : decode cX10_restOf 6 = .ok (.invokevirtual 105, 3) := by decide +kernel
theorem dX10_restOf_9 : decode cX10_restOf 9 = .ok (.if_icmp .gt 31, 3) := by decide +kernel
theorem dX10_restOf_12 : decode cX10_restOf 12 = .ok (.iload_n 1, 1) := by decide +kernel
theorem dX10_restOf_13 : decode cX10_restOf 13 = .ok (.ifCond .lt 27, 3) := by decide +kernel
theorem dX10_restOf_16 : decode cX10_restOf 16 = .ok (.aload_n 0, 1) := by decide +kernel
theorem dX10_restOf_17 : decode cX10_restOf 17 = .ok (.iload_n 3, 1) := by decide +kernel
theorem dX10_restOf_18 : decode cX10_restOf 18 = .ok (.invokevirtual 133, 3) := by decide +kernel
theorem dX10_restOf_21 : decode cX10_restOf 21 = .ok (.ifCond .eq 13, 3) := by decide +kernel
theorem dX10_restOf_24 : decode cX10_restOf 24 = .ok (.iload_n 2, 1) := by decide +kernel
theorem dX10_restOf_25 : decode cX10_restOf 25 = .ok (.iload_n 1, 1) := by decide +kernel
theorem dX10_restOf_26 : decode cX10_restOf 26 = .ok (.if_icmp .ne 5, 3) := by decide +kernel
theorem dX10_restOf_29 : decode cX10_restOf 29 = .ok (.iload_n 3, 1) := by decide +kernel
theorem dX10_restOf_30 : decode cX10_restOf 30 = .ok (.ireturn, 1) := by decide +kernel
theorem dX10_restOf_31 : decode cX10_restOf 31 = .ok (.iinc 2 1, 3) := by decide +kernel
theorem dX10_restOf_34 : decode cX10_restOf 34 = .ok (.iinc 3 1, 3) := by decide +kernel
theorem dX10_restOf_37 : decode cX10_restOf 37 = .ok (.goto (-33), 3) := by decide +kernel
theorem dX10_restOf_40 : decode cX10_restOf 40 = .ok (.iconst (-1), 1) := by decide +kernel
theorem dX10_restOf_41 : decode cX10_restOf 41 = .ok (.ireturn, 1) := by decide +kernel
theorem dX10_rest_0 : decode cX10_rest 0 = .ok (.aload_n 0, 1) := by decide +kernel
theorem dX10_rest_1 : decode cX10_rest 1 = .ok (.iload_n 1, 1) := by decide +kernel
theorem dX10_rest_2 : decode cX10_rest 2 = .ok (.invokevirtual 136, 3) := by decide +kernel
theorem dX10_rest_5 : decode cX10_rest 5 = .ok (.ireturn, 1) := by decide +kernel
theorem dX10_isEven_0 : decode cX10_isEven 0 = .ok (.iconst 1, 1) := by decide +kernel
theorem dX10_isEven_1 : decode cX10_isEven 1 = .ok (.istore_n 1, 1) := by decide +kernel
theorem dX10_isEven_2 : decode cX10_isEven 2 = .ok (.iconst 0, 1) := by decide +kernel
theorem dX10_isEven_3 : decode cX10_isEven 3 = .ok (.istore_n 2, 1) := by decide +kernel
theorem dX10_isEven_4 : decode cX10_isEven 4 = .ok (.iload_n 2, 1) := by decide +kernel
theorem dX10_isEven_5 : decode cX10_isEven 5 = .ok (.aload_n 0, 1) := by decide +kernel
theorem dX10_isEven_6 : decode cX10_isEven 6 = .ok (.getfield 7, 3) := by decide +kernel
theorem dX10_isEven_9 : decode cX10_isEven 9 = .ok (.if_icmp .ge 139, 3) := by decide +kernel
theorem dX10_isEven_12 : decode cX10_isEven 12 = .ok (.iload_n 1, 1) := by decide +kernel
theorem dX10_isEven_13 : decode cX10_isEven 13 = .ok (.ifCond .eq 17, 3) := by decide +kernel
theorem dX10_isEven_16 : decode cX10_isEven 16 = .ok (.aload_n 0, 1) := by decide +kernel
theorem dX10_isEven_17 : decode cX10_isEven 17 = .ok (.getfield 17, 3) := by decide +kernel
theorem dX10_isEven_20 : decode cX10_isEven 20 = .ok (.iload_n 2, 1) := by decide +kernel
theorem dX10_isEven_21 : decode cX10_isEven 21 = .ok (.iaload, 1) := by decide +kernel
theorem dX10_isEven_22 : decode cX10_isEven 22 = .ok (.iconst 3, 1) := by decide +kernel
theorem dX10_isEven_23 : decode cX10_isEven 23 = .ok (.if_icmp .eq 7, 3) := by decide +kernel
theorem dX10_isEven_26 : decode cX10_isEven 26 = .ok (.iconst 1, 1) := by decide +kernel
theorem dX10_isEven_27 : decode cX10_isEven 27 = .ok (.goto 4, 3) := by decide +kernel
theorem dX10_isEven_30 : decode cX10_isEven 30 = .ok (.iconst 0, 1) := by decide +kernel
theorem dX10_isEven_31 : decode cX10_isEven 31 = .ok (.istore_n 1, 1) := by decide +kernel
theorem dX10_isEven_32 : decode cX10_isEven 32 = .ok (.iconst 0, 1) := by decide +kernel
theorem dX10_isEven_33 : decode cX10_isEven 33 = .ok (.istore_n 3, 1) := by decide +kernel
theorem dX10_isEven_34 : decode cX10_isEven 34 = .ok (.iload_n 3, 1) := by decide +kernel
theorem dX10_isEven_35 : decode cX10_isEven 35 = .ok (.aload_n 0, 1) := by decide +kernel
theorem dX10_isEven_36 : decode cX10_isEven 36 = .ok (.getfield 7, 3) := by decide +kernel
theorem dX10_isEven_39 : decode cX10_isEven 39 = .ok (.if_icmp .ge 103, 3) := by decide +kernel
theorem dX10_isEven_42 : decode cX10_isEven 42 = .ok (.aload_n 0, 1) := by decide +kernel
theorem dX10_isEven_43 : decode cX10_isEven 43 = .ok (.getfield 17, 3) := by decide +kernel
theorem dX10_isEven_46 : decode cX10_isEven 46 = .ok (.iload_n 2, 1) := by decide +kernel
theorem dX10_isEven_47 : decode cX10_isEven 47 = .ok (.iaload, 1) := by decide +kernel
theorem dX10_isEven_48 : decode cX10_isEven 48 = .ok (.ifCond .ne 45, 3) := by decide +kernel
theorem dX10_isEven_51 : decode cX10_isEven 51 = .ok (.aload_n 0, 1) := by decide +kernel
theorem dX10_isEven_52 : decode cX10_isEven 52 = .ok (.getfield 17, 3) := by decide +kernel
theorem dX10_isEven_55 : decode cX10_isEven 55 = .ok (.iload_n 3, 1) := by decide +kernel
theorem dX10_isEven_56 : decode cX10_isEven 56 = .ok (.iaload, 1) := by decide +kernel
theorem dX10_isEven_57 : decode cX10_isEven 57 = .ok (.iconst 1, 1) := by decide +kernel
theorem dX10_isEven_58 : decode cX10_isEven 58 = .ok (.if_icmp .ne 35, 3) := by decide +kernel
theorem dX10_isEven_61 : decode cX10_isEven 61 = .ok (.aload_n 0, 1) := by decide +kernel
theorem dX10_isEven_62 : decode cX10_isEven 62 = .ok (.getfield 13, 3) := by decide +kernel
theorem dX10_isEven_65 : decode cX10_isEven 65 = .ok (.bipush 10, 2) := by decide +kernel
theorem dX10_isEven_67 : decode cX10_isEven 67 = .ok (.iload_n 2, 1) := by decide +kernel
theorem dX10_isEven_68 : decode cX10_isEven 68 = .ok (.imul, 1) := by decide +kernel
theorem dX10_isEven_69 : decode cX10_isEven 69 = .ok (.iload_n 3, 1) := by decide +kernel
theorem dX10_isEven_70 : decode cX10_isEven 70 = .ok (.iadd, 1) := by decide +kernel
theorem dX10_isEven_71 : decode cX10_isEven 71 = .ok (.iaload, 1) := by decide +kernel
theorem dX10_isEven_72 : decode cX10_isEven 72 = .ok (.ifCond .gt 17, 3) := by decide +kernel
theorem dX10_isEven_75 : decode cX10_isEven 75 = .ok (.aload_n 0, 1) := by decide +kernel
theorem dX10_isEven_76 : decode cX10_isEven 76 = .ok (.getfield 13, 3) := by decide +kernel
theorem dX10_isEven_79 : decode cX10_isEven 79 = .ok (.bipush 10, 2) := by decide +kernel
theorem dX10_isEven_81 : decode cX10_isEven 81 = .ok (.iload_n 3, 1) := by decide +kernel
theorem dX10_isEven_82 : decode cX10_isEven 82 = .ok (.imul, 1) := by decide +kernel
theorem dX10_isEven_83 : decode cX10_isEven 83 = .ok (.iload_n 2, 1) := by decide +kernel
theorem dX10_isEven_84 : decode cX10_isEven 84 = .ok (.iadd, 1) := by decide +kernel
theorem dX10_isEven_85 : decode cX10_isEven 85 = .ok (.iaload, 1) := by decide +kernel
theorem dX10_isEven_86 : decode cX10_isEven 86 = .ok (.ifCond .le 7, 3) := by decide +kernel
theorem dX10_isEven_89 : decode cX10_isEven 89 = .ok (.iconst 1, 1) := by decide +kernel
theorem dX10_isEven_90 : decode cX10_isEven 90 = .ok (.goto 4, 3) := by decide +kernel
theorem dX10_isEven_93 : decode cX10_isEven 93 = .ok (.iconst 0, 1) := by decide +kernel
theorem dX10_isEven_94 : decode cX10_isEven 94 = .ok (.istore 4, 2) := by decide +kernel
theorem dX10_isEven_96 : decode cX10_isEven 96 = .ok (.iload_n 1, 1) := by decide +kernel
theorem dX10_isEven_97 : decode cX10_isEven 97 = .ok (.ifCond .eq 37, 3) := by decide +kernel
theorem dX10_isEven_100 : decode cX10_isEven 100 = .ok (.aload_n 0, 1) := by decide +kernel
theorem dX10_isEven_101 : decode cX10_isEven 101 = .ok (.getfield 13, 3) := by decide +kernel
theorem dX10_isEven_104 : decode cX10_isEven 104 = .ok (.bipush 10, 2) := by decide +kernel
theorem dX10_isEven_106 : decode cX10_isEven 106 = .ok (.iload_n 2, 1) := by decide +kernel
theorem dX10_isEven_107 : decode cX10_isEven 107 = .ok (.imul, 1) := by decide +kernel
theorem dX10_isEven_108 : decode cX10_isEven 108 = .ok (.iload_n 3, 1) := by decide +kernel
theorem dX10_isEven_109 : decode cX10_isEven 109 = .ok (.iadd, 1) := by decide +kernel
theorem dX10_isEven_110 : decode cX10_isEven 110 = .ok (.iaload, 1) := by decide +kernel
theorem dX10_isEven_111 : decode cX10_isEven 111 = .ok (.aload_n 0, 1) := by decide +kernel
theorem dX10_isEven_112 : decode cX10_isEven 112 = .ok (.getfield 13, 3) := by decide +kernel
theorem dX10_isEven_115 : decode cX10_isEven 115 = .ok (.bipush 10, 2) := by decide +kernel
theorem dX10_isEven_117 : decode cX10_isEven 117 = .ok (.iload_n 3, 1) := by decide +kernel
theorem dX10_isEven_118 : decode cX10_isEven 118 = .ok (.imul, 1) := by decide +kernel
theorem dX10_isEven_119 : decode cX10_isEven 119 = .ok (.iload_n 2, 1) := by decide +kernel
theorem dX10_isEven_120 : decode cX10_isEven 120 = .ok (.iadd, 1) := by decide +kernel
theorem dX10_isEven_121 : decode cX10_isEven 121 = .ok (.iaload, 1) := by decide +kernel
theorem dX10_isEven_122 : decode cX10_isEven 122 = .ok (.if_icmp .ne 12, 3) := by decide +kernel
theorem dX10_isEven_125 : decode cX10_isEven 125 = .ok (.iload 4, 2) := by decide +kernel
theorem dX10_isEven_127 : decode cX10_isEven 127 = .ok (.ifCond .ne 7, 3) := by decide +kernel
theorem dX10_isEven_130 : decode cX10_isEven 130 = .ok (.iconst 1, 1) := by decide +kernel
theorem dX10_isEven_131 : decode cX10_isEven 131 = .ok (.goto 4, 3) := by decide +kernel
theorem dX10_isEven_134 : decode cX10_isEven 134 = .ok (.iconst 0, 1) := by decide +kernel
theorem dX10_isEven_135 : decode cX10_isEven 135 = .ok (.istore_n 1, 1) := by decide +kernel
theorem dX10_isEven_136 : decode cX10_isEven 136 = .ok (.iinc 3 1, 3) := by decide +kernel
theorem dX10_isEven_139 : decode cX10_isEven 139 = .ok (.goto (-105), 3) := by decide +kernel
theorem dX10_isEven_142 : decode cX10_isEven 142 = .ok (.iinc 2 1, 3) := by decide +kernel
theorem dX10_isEven_145 : decode cX10_isEven 145 = .ok (.goto (-141), 3) := by decide +kernel
theorem dX10_isEven_148 : decode cX10_isEven 148 = .ok (.iload_n 1, 1) := by decide +kernel
theorem dX10_isEven_149 : decode cX10_isEven 149 = .ok (.ireturn, 1) := by decide +kernel
theorem dX10_even_0 : decode cX10_even 0 = .ok (.aload_n 0, 1) := by decide +kernel
theorem dX10_even_1 : decode cX10_even 1 = .ok (.invokevirtual 139, 3) := by decide +kernel
theorem dX10_even_4 : decode cX10_even 4 = .ok (.ifCond .eq 7, 3) := by decide +kernel
theorem dX10_even_7 : decode cX10_even 7 = .ok (.iconst 1, 1) := by decide +kernel
theorem dX10_even_8 : decode cX10_even 8 = .ok (.goto 4, 3) := by decide +kernel
theorem dX10_even_11 : decode cX10_even 11 = .ok (.iconst 0, 1) := by decide +kernel
theorem dX10_even_12 : decode cX10_even 12 = .ok (.ireturn, 1) := by decide +kernel
theorem dX10_heat_0 : decode cX10_heat 0 = .ok (.aload_n 0, 1) := by decide +kernel
theorem dX10_heat_1 : decode cX10_heat 1 = .ok (.iload_n 1, 1) := by decide +kernel
theorem dX10_heat_2 : decode cX10_heat 2 = .ok (.invokevirtual 90, 3) := by decide +kernel
theorem dX10_heat_5 : decode cX10_heat 5 = .ok (.ifCond .ne 6, 3) := by decide +kernel
theorem dX10_heat_8 : decode cX10_heat 8 = .ok (.bipush (-2), 2) := by decide +kernel
theorem dX10_heat_10 : decode cX10_heat 10 = .ok (.ireturn, 1) := by decide +kernel
theorem dX10_heat_11 : decode cX10_heat 11 = .ok (.aload_n 0, 1) := by decide +kernel
theorem dX10_heat_12 : decode cX10_heat 12 = .ok (.invokevirtual 139, 3) := by decide +kernel
theorem dX10_heat_15 : decode cX10_heat 15 = .ok (.ifCond .ne 6, 3) := by decide +kernel
theorem dX10_heat_18 : decode cX10_heat 18 = .ok (.bipush (-3), 2) := by decide +kernel
theorem dX10_heat_20 : decode cX10_heat 20 = .ok (.ireturn, 1) := by decide +kernel
theorem dX10_heat_21 : decode cX10_heat 21 = .ok (.sipush 10000, 3) := by decide +kernel
theorem dX10_heat_24 : decode cX10_heat 24 = .ok (.istore_n 2, 1) := by decide +kernel
theorem dX10_heat_25 : decode cX10_heat 25 = .ok (.iconst 0, 1) := by decide +kernel
theorem dX10_heat_26 : decode cX10_heat 26 = .ok (.istore_n 3, 1) := by decide +kernel
theorem dX10_heat_27 : decode cX10_heat 27 = .ok (.iload_n 3, 1) := by decide +kernel
theorem dX10_heat_28 : decode cX10_heat 28 = .ok (.aload_n 0, 1) := by decide +kernel
theorem dX10_heat_29 : decode cX10_heat 29 = .ok (.getfield 7, 3) := by decide +kernel
theorem dX10_heat_32 : decode cX10_heat 32 = .ok (.if_icmp .ge 199, 3) := by decide +kernel
theorem dX10_heat_35 : decode cX10_heat 35 = .ok (.iload_n 1, 1) := by decide +kernel
theorem dX10_heat_36 : decode cX10_heat 36 = .ok (.iload_n 3, 1) := by decide +kernel
theorem dX10_heat_37 : decode cX10_heat 37 = .ok (.ishr, 1) := by decide +kernel
theorem dX10_heat_38 : decode cX10_heat 38 = .ok (.iconst 1, 1) := by decide +kernel
theorem dX10_heat_39 : decode cX10_heat 39 = .ok (.iand, 1) := by decide +kernel
theorem dX10_heat_40 : decode cX10_heat 40 = .ok (.istore 4, 2) := by decide +kernel
theorem dX10_heat_42 : decode cX10_heat 42 = .ok (.iload 4, 2) := by decide +kernel
theorem dX10_heat_44 : decode cX10_heat 44 = .ok (.iconst 1, 1) := by decide +kernel
theorem dX10_heat_45 : decode cX10_heat 45 = .ok (.if_icmp .ne 12, 3) := by decide +kernel
theorem dX10_heat_48 : decode cX10_heat 48 = .ok (.aload_n 0, 1) := by decide +kernel
theorem dX10_heat_49 : decode cX10_heat 49 = .ok (.getfield 20, 3) := by decide +kernel
theorem dX10_heat_52 : decode cX10_heat 52 = .ok (.iload_n 3, 1) := by decide +kernel
theorem dX10_heat_53 : decode cX10_heat 53 = .ok (.iaload, 1) := by decide +kernel
theorem dX10_heat_54 : decode cX10_heat 54 = .ok (.goto 10, 3) := by decide +kernel
theorem dX10_heat_57 : decode cX10_heat 57 = .ok (.aload_n 0, 1) := by decide +kernel
theorem dX10_heat_58 : decode cX10_heat 58 = .ok (.getfield 20, 3) := by decide +kernel
theorem dX10_heat_61 : decode cX10_heat 61 = .ok (.iload_n 3, 1) := by decide +kernel
theorem dX10_heat_62 : decode cX10_heat 62 = .ok (.iaload, 1) := by decide +kernel
theorem dX10_heat_63 : decode cX10_heat 63 = .ok (.ineg, 1) := by decide +kernel
theorem dX10_heat_64 : decode cX10_heat 64 = .ok (.istore 5, 2) := by decide +kernel
theorem dX10_heat_66 : decode cX10_heat 66 = .ok (.iload_n 2, 1) := by decide +kernel
theorem dX10_heat_67 : decode cX10_heat 67 = .ok (.aload_n 0, 1) := by decide +kernel
theorem dX10_heat_68 : decode cX10_heat 68 = .ok (.getfield 17, 3) := by decide +kernel
theorem dX10_heat_71 : decode cX10_heat 71 = .ok (.iload_n 3, 1) := by decide +kernel
theorem dX10_heat_72 : decode cX10_heat 72 = .ok (.iaload, 1) := by decide +kernel
theorem dX10_heat_73 : decode cX10_heat 73 = .ok (.ifCond .ne 8, 3) := by decide +kernel
theorem dX10_heat_76 : decode cX10_heat 76 = .ok (.iload 5, 2) := by decide +kernel
theorem dX10_heat_78 : decode cX10_heat 78 = .ok (.goto 20, 3) := by decide +kernel
theorem dX10_heat_81 : decode cX10_heat 81 = .ok (.aload_n 0, 1) := by decide +kernel
theorem dX10_heat_82 : decode cX10_heat 82 = .ok (.getfield 17, 3) := by decide +kernel
theorem dX10_heat_85 : decode cX10_heat 85 = .ok (.iload_n 3, 1) := by decide +kernel
theorem dX10_heat_86 : decode cX10_heat 86 = .ok (.iaload, 1) := by decide +kernel
theorem dX10_heat_87 : decode cX10_heat 87 = .ok (.iconst 1, 1) := by decide +kernel
theorem dX10_heat_88 : decode cX10_heat 88 = .ok (.if_icmp .ne 9, 3) := by decide +kernel
theorem dX10_heat_91 : decode cX10_heat 91 = .ok (.iload 5, 2) := by decide +kernel
theorem dX10_heat_93 : decode cX10_heat 93 = .ok (.ineg, 1) := by decide +kernel
theorem dX10_heat_94 : decode cX10_heat 94 = .ok (.goto 4, 3) := by decide +kernel
theorem dX10_heat_97 : decode cX10_heat 97 = .ok (.iconst 0, 1) := by decide +kernel
theorem dX10_heat_98 : decode cX10_heat 98 = .ok (.iadd, 1) := by decide +kernel
theorem dX10_heat_99 : decode cX10_heat 99 = .ok (.istore_n 2, 1) := by decide +kernel
theorem dX10_heat_100 : decode cX10_heat 100 = .ok (.iconst 0, 1) := by decide +kernel
theorem dX10_heat_101 : decode cX10_heat 101 = .ok (.istore 6, 2) := by decide +kernel
theorem dX10_heat_103 : decode cX10_heat 103 = .ok (.iload 6, 2) := by decide +kernel
theorem dX10_heat_105 : decode cX10_heat 105 = .ok (.iload_n 3, 1) := by decide +kernel
theorem dX10_heat_106 : decode cX10_heat 106 = .ok (.if_icmp .ge 119, 3) := by decide +kernel
theorem dX10_heat_109 : decode cX10_heat 109 = .ok (.iload_n 1, 1) := by decide +kernel
theorem dX10_heat_110 : decode cX10_heat 110 = .ok (.iload 6, 2) := by decide +kernel
theorem dX10_heat_112 : decode cX10_heat 112 = .ok (.ishr, 1) := by decide +kernel
theorem dX10_heat_113 : decode cX10_heat 113 = .ok (.iconst 1, 1) := by decide +kernel
theorem dX10_heat_114 : decode cX10_heat 114 = .ok (.iand, 1) := by decide +kernel
theorem dX10_heat_115 : decode cX10_heat 115 = .ok (.iload 4, 2) := by decide +kernel
theorem dX10_heat_117 : decode cX10_heat 117 = .ok (.if_icmp .ne 18, 3) := by decide +kernel
theorem dX10_heat_120 : decode cX10_heat 120 = .ok (.aload_n 0, 1) := by decide +kernel
theorem dX10_heat_121 : decode cX10_heat 121 = .ok (.getfield 13, 3) := by decide +kernel
theorem dX10_heat_124 : decode cX10_heat 124 = .ok (.bipush 10, 2) := by decide +kernel
theorem dX10_heat_126 : decode cX10_heat 126 = .ok (.iload_n 3, 1) := by decide +kernel
theorem dX10_heat_127 : decode cX10_heat 127 = .ok (.imul, 1) := by decide +kernel
theorem dX10_heat_128 : decode cX10_heat 128 = .ok (.iload 6, 2) := by decide +kernel
theorem dX10_heat_130 : decode cX10_heat 130 = .ok (.iadd, 1) := by decide +kernel
theorem dX10_heat_131 : decode cX10_heat 131 = .ok (.iaload, 1) := by decide +kernel
theorem dX10_heat_132 : decode cX10_heat 132 = .ok (.goto 16, 3) := by decide +kernel
theorem dX10_heat_135 : decode cX10_heat 135 = .ok (.aload_n 0, 1) := by decide +kernel
theorem dX10_heat_136 : decode cX10_heat 136 = .ok (.getfield 13, 3) := by decide +kernel
theorem dX10_heat_139 : decode cX10_heat 139 = .ok (.bipush 10, 2) := by decide +kernel
theorem dX10_heat_141 : decode cX10_heat 141 = .ok (.iload_n 3, 1) := by decide +kernel
theorem dX10_heat_142 : decode cX10_heat 142 = .ok (.imul, 1) := by decide +kernel
theorem dX10_heat_143 : decode cX10_heat 143 = .ok (.iload 6, 2) := by decide +kernel
theorem dX10_heat_145 : decode cX10_heat 145 = .ok (.iadd, 1) := by decide +kernel
theorem dX10_heat_146 : decode cX10_heat 146 = .ok (.iaload, 1) := by decide +kernel
theorem dX10_heat_147 : decode cX10_heat 147 = .ok (.ineg, 1) := by decide +kernel
theorem dX10_heat_148 : decode cX10_heat 148 = .ok (.istore 7, 2) := by decide +kernel
theorem dX10_heat_150 : decode cX10_heat 150 = .ok (.aload_n 0, 1) := by decide +kernel
theorem dX10_heat_151 : decode cX10_heat 151 = .ok (.getfield 17, 3) := by decide +kernel
theorem dX10_heat_154 : decode cX10_heat 154 = .ok (.iload_n 3, 1) := by decide +kernel
theorem dX10_heat_155 : decode cX10_heat 155 = .ok (.iaload, 1) := by decide +kernel
theorem dX10_heat_156 : decode cX10_heat 156 = .ok (.iconst 1, 1) := by decide +kernel
theorem dX10_heat_157 : decode cX10_heat 157 = .ok (.if_icmp .eq 14, 3) := by decide +kernel
theorem dX10_heat_160 : decode cX10_heat 160 = .ok (.aload_n 0, 1) := by decide +kernel
theorem dX10_heat_161 : decode cX10_heat 161 = .ok (.getfield 17, 3) := by decide +kernel
theorem dX10_heat_164 : decode cX10_heat 164 = .ok (.iload 6, 2) := by decide +kernel
theorem dX10_heat_166 : decode cX10_heat 166 = .ok (.iaload, 1) := by decide +kernel
theorem dX10_heat_167 : decode cX10_heat 167 = .ok (.iconst 1, 1) := by decide +kernel
theorem dX10_heat_168 : decode cX10_heat 168 = .ok (.if_icmp .ne 7, 3) := by decide +kernel
theorem dX10_heat_171 : decode cX10_heat 171 = .ok (.iconst 1, 1) := by decide +kernel
theorem dX10_heat_172 : decode cX10_heat 172 = .ok (.goto 4, 3) := by decide +kernel
theorem dX10_heat_175 : decode cX10_heat 175 = .ok (.iconst 0, 1) := by decide +kernel
theorem dX10_heat_176 : decode cX10_heat 176 = .ok (.istore 8, 2) := by decide +kernel
theorem dX10_heat_178 : decode cX10_heat 178 = .ok (.iload_n 2, 1) := by decide +kernel
theorem dX10_heat_179 : decode cX10_heat 179 = .ok (.aload_n 0, 1) := by decide +kernel
theorem dX10_heat_180 : decode cX10_heat 180 = .ok (.getfield 17, 3) := by decide +kernel
theorem dX10_heat_183 : decode cX10_heat 183 = .ok (.iload_n 3, 1) := by decide +kernel
theorem dX10_heat_184 : decode cX10_heat 184 = .ok (.iaload, 1) := by decide +kernel
theorem dX10_heat_185 : decode cX10_heat 185 = .ok (.iconst 2, 1) := by decide +kernel
theorem dX10_heat_186 : decode cX10_heat 186 = .ok (.if_icmp .ne 18, 3) := by decide +kernel
theorem dX10_heat_189 : decode cX10_heat 189 = .ok (.aload_n 0, 1) := by decide +kernel
theorem dX10_heat_190 : decode cX10_heat 190 = .ok (.getfield 17, 3) := by decide +kernel
theorem dX10_heat_193 : decode cX10_heat 193 = .ok (.iload 6, 2) := by decide +kernel
theorem dX10_heat_195 : decode cX10_heat 195 = .ok (.iaload, 1) := by decide +kernel
theorem dX10_heat_196 : decode cX10_heat 196 = .ok (.iconst 2, 1) := by decide +kernel
theorem dX10_heat_197 : decode cX10_heat 197 = .ok (.if_icmp .ne 7, 3) := by decide +kernel
theorem dX10_heat_200 : decode cX10_heat 200 = .ok (.iconst 0, 1) := by decide +kernel
theorem dX10_heat_201 : decode cX10_heat 201 = .ok (.goto 16, 3) := by decide +kernel
theorem dX10_heat_204 : decode cX10_heat 204 = .ok (.iload 8, 2) := by decide +kernel
theorem dX10_heat_206 : decode cX10_heat 206 = .ok (.ifCond .eq 9, 3) := by decide +kernel
theorem dX10_heat_209 : decode cX10_heat 209 = .ok (.iload 7, 2) := by decide +kernel
theorem dX10_heat_211 : decode cX10_heat 211 = .ok (.ineg, 1) := by decide +kernel
theorem dX10_heat_212 : decode cX10_heat 212 = .ok (.goto 5, 3) := by decide +kernel
theorem dX10_heat_215 : decode cX10_heat 215 = .ok (.iload 7, 2) := by decide +kernel
theorem dX10_heat_217 : decode cX10_heat 217 = .ok (.iadd, 1) := by decide +kernel
theorem dX10_heat_218 : decode cX10_heat 218 = .ok (.istore_n 2, 1) := by decide +kernel
theorem dX10_heat_219 : decode cX10_heat 219 = .ok (.iinc 6 1, 3) := by decide +kernel
theorem dX10_heat_222 : decode cX10_heat 222 = .ok (.goto (-119), 3) := by decide +kernel
theorem dX10_heat_225 : decode cX10_heat 225 = .ok (.iinc 3 1, 3) := by decide +kernel
theorem dX10_heat_228 : decode cX10_heat 228 = .ok (.goto (-201), 3) := by decide +kernel
theorem dX10_heat_231 : decode cX10_heat 231 = .ok (.iload_n 2, 1) := by decide +kernel
theorem dX10_heat_232 : decode cX10_heat 232 = .ok (.ireturn, 1) := by decide +kernel
theorem dX10_loneOf_0 : decode cX10_loneOf 0 = .ok (.iload_n 2, 1) := by decide +kernel
theorem dX10_loneOf_1 : decode cX10_loneOf 1 = .ok (.iconst 1, 1) := by decide +kernel
theorem dX10_loneOf_2 : decode cX10_loneOf 2 = .ok (.iload_n 1, 1) := by decide +kernel
theorem dX10_loneOf_3 : decode cX10_loneOf 3 = .ok (.ishl, 1) := by decide +kernel
theorem dX10_loneOf_4 : decode cX10_loneOf 4 = .ok (.ixor, 1) := by decide +kernel
theorem dX10_loneOf_5 : decode cX10_loneOf 5 = .ok (.ireturn, 1) := by decide +kernel
theorem dX10_lone_0 : decode cX10_lone 0 = .ok (.aload_n 0, 1) := by decide +kernel
theorem dX10_lone_1 : decode cX10_lone 1 = .ok (.iload_n 1, 1) := by decide +kernel
theorem dX10_lone_2 : decode cX10_lone 2 = .ok (.invokevirtual 69, 3) := by decide +kernel
theorem dX10_lone_5 : decode cX10_lone 5 = .ok (.ifCond .ne 5, 3) := by decide +kernel
theorem dX10_lone_8 : decode cX10_lone 8 = .ok (.iconst (-1), 1) := by decide +kernel
theorem dX10_lone_9 : decode cX10_lone 9 = .ok (.ireturn, 1) := by decide +kernel
theorem dX10_lone_10 : decode cX10_lone 10 = .ok (.aload_n 0, 1) := by decide +kernel
theorem dX10_lone_11 : decode cX10_lone 11 = .ok (.iload_n 2, 1) := by decide +kernel
theorem dX10_lone_12 : decode cX10_lone 12 = .ok (.invokevirtual 90, 3) := by decide +kernel
theorem dX10_lone_15 : decode cX10_lone 15 = .ok (.ifCond .ne 6, 3) := by decide +kernel
theorem dX10_lone_18 : decode cX10_lone 18 = .ok (.bipush (-2), 2) := by decide +kernel
theorem dX10_lone_20 : decode cX10_lone 20 = .ok (.ireturn, 1) := by decide +kernel
theorem dX10_lone_21 : decode cX10_lone 21 = .ok (.aload_n 0, 1) := by decide +kernel
theorem dX10_lone_22 : decode cX10_lone 22 = .ok (.iload_n 2, 1) := by decide +kernel
theorem dX10_lone_23 : decode cX10_lone 23 = .ok (.invokevirtual 93, 3) := by decide +kernel
theorem dX10_lone_26 : decode cX10_lone 26 = .ok (.iload_n 1, 1) := by decide +kernel
theorem dX10_lone_27 : decode cX10_lone 27 = .ok (.ishr, 1) := by decide +kernel
theorem dX10_lone_28 : decode cX10_lone 28 = .ok (.iconst 1, 1) := by decide +kernel
theorem dX10_lone_29 : decode cX10_lone 29 = .ok (.iand, 1) := by decide +kernel
theorem dX10_lone_30 : decode cX10_lone 30 = .ok (.iconst 1, 1) := by decide +kernel
theorem dX10_lone_31 : decode cX10_lone 31 = .ok (.if_icmp .ne 8, 3) := by decide +kernel
theorem dX10_lone_34 : decode cX10_lone 34 = .ok (.bipush (-3), 2) := by decide +kernel
theorem dX10_lone_36 : decode cX10_lone 36 = .ok (.goto 9, 3) := by decide +kernel
theorem dX10_lone_39 : decode cX10_lone 39 = .ok (.aload_n 0, 1) := by decide +kernel
theorem dX10_lone_40 : decode cX10_lone 40 = .ok (.iload_n 1, 1) := by decide +kernel
theorem dX10_lone_41 : decode cX10_lone 41 = .ok (.iload_n 2, 1) := by decide +kernel
theorem dX10_lone_42 : decode cX10_lone 42 = .ok (.invokevirtual 143, 3) := by decide +kernel
theorem dX10_lone_45 : decode cX10_lone 45 = .ok (.ireturn, 1) := by decide +kernel
theorem dX10_layCalms_0 : decode cX10_layCalms 0 = .ok (.iconst 0, 1) := by decide +kernel
theorem dX10_layCalms_1 : decode cX10_layCalms 1 = .ok (.istore_n 1, 1) := by decide +kernel
theorem dX10_layCalms_2 : decode cX10_layCalms 2 = .ok (.iload_n 1, 1) := by decide +kernel
theorem dX10_layCalms_3 : decode cX10_layCalms 3 = .ok (.aload_n 0, 1) := by decide +kernel
theorem dX10_layCalms_4 : decode cX10_layCalms 4 = .ok (.invokevirtual 105, 3) := by decide +kernel
theorem dX10_layCalms_7 : decode cX10_layCalms 7 = .ok (.if_icmp .gt 20, 3) := by decide +kernel
theorem dX10_layCalms_10 : decode cX10_layCalms 10 = .ok (.aload_n 0, 1) := by decide +kernel
theorem dX10_layCalms_11 : decode cX10_layCalms 11 = .ok (.getfield 44, 3) := by decide +kernel
theorem dX10_layCalms_14 : decode cX10_layCalms 14 = .ok (.iload_n 1, 1) := by decide +kernel
theorem dX10_layCalms_15 : decode cX10_layCalms 15 = .ok (.aload_n 0, 1) := by decide +kernel
theorem dX10_layCalms_16 : decode cX10_layCalms 16 = .ok (.iload_n 1, 1) := by decide +kernel
theorem dX10_layCalms_17 : decode cX10_layCalms 17 = .ok (.invokevirtual 93, 3) := by decide +kernel
theorem dX10_layCalms_20 : decode cX10_layCalms 20 = .ok (.iastore, 1) := by decide +kernel
theorem dX10_layCalms_21 : decode cX10_layCalms 21 = .ok (.iinc 1 1, 3) := by decide +kernel
theorem dX10_layCalms_24 : decode cX10_layCalms 24 = .ok (.goto (-22), 3) := by decide +kernel
theorem dX10_layCalms_27 : decode cX10_layCalms 27 = .ok (.return_, 1) := by decide +kernel
theorem dX10_layFar_0 : decode cX10_layFar 0 = .ok (.iconst 0, 1) := by decide +kernel
theorem dX10_layFar_1 : decode cX10_layFar 1 = .ok (.istore_n 2, 1) := by decide +kernel
theorem dX10_layFar_2 : decode cX10_layFar 2 = .ok (.iload_n 2, 1) := by decide +kernel
theorem dX10_layFar_3 : decode cX10_layFar 3 = .ok (.aload_n 0, 1) := by decide +kernel
theorem dX10_layFar_4 : decode cX10_layFar 4 = .ok (.invokevirtual 105, 3) := by decide +kernel
theorem dX10_layFar_7 : decode cX10_layFar 7 = .ok (.if_icmp .gt 17, 3) := by decide +kernel
theorem dX10_layFar_10 : decode cX10_layFar 10 = .ok (.aload_n 0, 1) := by decide +kernel
theorem dX10_layFar_11 : decode cX10_layFar 11 = .ok (.getfield 38, 3) := by decide +kernel
theorem dX10_layFar_14 : decode cX10_layFar 14 = .ok (.iload_n 2, 1) := by decide +kernel
theorem dX10_layFar_15 : decode cX10_layFar 15 = .ok (.bipush (-9), 2) := by decide +kernel
theorem dX10_layFar_17 : decode cX10_layFar 17 = .ok (.iastore, 1) := by decide +kernel
theorem dX10_layFar_18 : decode cX10_layFar 18 = .ok (.iinc 2 1, 3) := by decide +kernel
theorem dX10_layFar_21 : decode cX10_layFar 21 = .ok (.goto (-19), 3) := by decide +kernel
theorem dX10_layFar_24 : decode cX10_layFar 24 = .ok (.aload_n 0, 1) := by decide +kernel
theorem dX10_layFar_25 : decode cX10_layFar 25 = .ok (.getfield 38, 3) := by decide +kernel
theorem dX10_layFar_28 : decode cX10_layFar 28 = .ok (.iload_n 1, 1) := by decide +kernel
theorem dX10_layFar_29 : decode cX10_layFar 29 = .ok (.iconst 0, 1) := by decide +kernel
theorem dX10_layFar_30 : decode cX10_layFar 30 = .ok (.iastore, 1) := by decide +kernel
theorem dX10_layFar_31 : decode cX10_layFar 31 = .ok (.aload_n 0, 1) := by decide +kernel
theorem dX10_layFar_32 : decode cX10_layFar 32 = .ok (.getfield 41, 3) := by decide +kernel
theorem dX10_layFar_35 : decode cX10_layFar 35 = .ok (.iconst 0, 1) := by decide +kernel
theorem dX10_layFar_36 : decode cX10_layFar 36 = .ok (.iload_n 1, 1) := by decide +kernel
theorem dX10_layFar_37 : decode cX10_layFar 37 = .ok (.iastore, 1) := by decide +kernel
theorem dX10_layFar_38 : decode cX10_layFar 38 = .ok (.aload_n 0, 1) := by decide +kernel
theorem dX10_layFar_39 : decode cX10_layFar 39 = .ok (.iconst 1, 1) := by decide +kernel
theorem dX10_layFar_40 : decode cX10_layFar 40 = .ok (.putfield 146, 3) := by decide +kernel
theorem dX10_layFar_43 : decode cX10_layFar 43 = .ok (.iconst 0, 1) := by decide +kernel
theorem dX10_layFar_44 : decode cX10_layFar 44 = .ok (.istore_n 2, 1) := by decide +kernel
theorem dX10_layFar_45 : decode cX10_layFar 45 = .ok (.iload_n 2, 1) := by decide +kernel
theorem dX10_layFar_46 : decode cX10_layFar 46 = .ok (.aload_n 0, 1) := by decide +kernel
theorem dX10_layFar_47 : decode cX10_layFar 47 = .ok (.getfield 146, 3) := by decide +kernel
theorem dX10_layFar_50 : decode cX10_layFar 50 = .ok (.if_icmp .ge 115, 3) := by decide +kernel
theorem dX10_layFar_53 : decode cX10_layFar 53 = .ok (.aload_n 0, 1) := by decide +kernel
theorem dX10_layFar_54 : decode cX10_layFar 54 = .ok (.getfield 44, 3) := by decide +kernel
theorem dX10_layFar_57 : decode cX10_layFar 57 = .ok (.aload_n 0, 1) := by decide +kernel
theorem dX10_layFar_58 : decode cX10_layFar 58 = .ok (.getfield 41, 3) := by decide +kernel
theorem dX10_layFar_61 : decode cX10_layFar 61 = .ok (.iload_n 2, 1) := by decide +kernel
theorem dX10_layFar_62 : decode cX10_layFar 62 = .ok (.iaload, 1) := by decide +kernel
theorem dX10_layFar_63 : decode cX10_layFar 63 = .ok (.iaload, 1) := by decide +kernel
theorem dX10_layFar_64 : decode cX10_layFar 64 = .ok (.istore_n 3, 1) := by decide +kernel
theorem dX10_layFar_65 : decode cX10_layFar 65 = .ok (.iconst 0, 1) := by decide +kernel
theorem dX10_layFar_66 : decode cX10_layFar 66 = .ok (.istore 4, 2) := by decide +kernel
theorem dX10_layFar_68 : decode cX10_layFar 68 = .ok (.iload 4, 2) := by decide +kernel
theorem dX10_layFar_70 : decode cX10_layFar 70 = .ok (.aload_n 0, 1) := by decide +kernel
theorem dX10_layFar_71 : decode cX10_layFar 71 = .ok (.getfield 7, 3) := by decide +kernel
theorem dX10_layFar_74 : decode cX10_layFar 74 = .ok (.if_icmp .ge 85, 3) := by decide +kernel
theorem dX10_layFar_77 : decode cX10_layFar 77 = .ok (.aload_n 0, 1) := by decide +kernel
theorem dX10_layFar_78 : decode cX10_layFar 78 = .ok (.iload 4, 2) := by decide +kernel
theorem dX10_layFar_80 : decode cX10_layFar 80 = .ok (.aload_n 0, 1) := by decide +kernel
theorem dX10_layFar_81 : decode cX10_layFar 81 = .ok (.getfield 41, 3) := by decide +kernel
theorem dX10_layFar_84 : decode cX10_layFar 84 = .ok (.iload_n 2, 1) := by decide +kernel
theorem dX10_layFar_85 : decode cX10_layFar 85 = .ok (.iaload, 1) := by decide +kernel
theorem dX10_layFar_86 : decode cX10_layFar 86 = .ok (.invokevirtual 143, 3) := by decide +kernel
theorem dX10_layFar_89 : decode cX10_layFar 89 = .ok (.istore 5, 2) := by decide +kernel
theorem dX10_layFar_91 : decode cX10_layFar 91 = .ok (.iload_n 3, 1) := by decide +kernel
theorem dX10_layFar_92 : decode cX10_layFar 92 = .ok (.iload 4, 2) := by decide +kernel
theorem dX10_layFar_94 : decode cX10_layFar 94 = .ok (.ishr, 1) := by decide +kernel
theorem dX10_layFar_95 : decode cX10_layFar 95 = .ok (.iconst 1, 1) := by decide +kernel
theorem dX10_layFar_96 : decode cX10_layFar 96 = .ok (.iand, 1) := by decide +kernel
theorem dX10_layFar_97 : decode cX10_layFar 97 = .ok (.ifCond .ne 56, 3) := by decide +kernel
theorem dX10_layFar_100 : decode cX10_layFar 100 = .ok (.aload_n 0, 1) := by decide +kernel
theorem dX10_layFar_101 : decode cX10_layFar 101 = .ok (.getfield 38, 3) := by decide +kernel
theorem dX10_layFar_104 : decode cX10_layFar 104 = .ok (.iload 5, 2) := by decide +kernel
theorem dX10_layFar_106 : decode cX10_layFar 106 = .ok (.iaload, 1) := by decide +kernel
theorem dX10_layFar_107 : decode cX10_layFar 107 = .ok (.bipush (-9), 2) := by decide +kernel
theorem dX10_layFar_109 : decode cX10_layFar 109 = .ok (.if_icmp .ne 44, 3) := by decide +kernel
theorem dX10_layFar_112 : decode cX10_layFar 112 = .ok (.aload_n 0, 1) := by decide +kernel
theorem dX10_layFar_113 : decode cX10_layFar 113 = .ok (.getfield 38, 3) := by decide +kernel
theorem dX10_layFar_116 : decode cX10_layFar 116 = .ok (.iload 5, 2) := by decide +kernel
theorem dX10_layFar_118 : decode cX10_layFar 118 = .ok (.aload_n 0, 1) := by decide +kernel
theorem dX10_layFar_119 : decode cX10_layFar 119 = .ok (.getfield 38, 3) := by decide +kernel
theorem dX10_layFar_122 : decode cX10_layFar 122 = .ok (.aload_n 0, 1) := by decide +kernel
theorem dX10_layFar_123 : decode cX10_layFar 123 = .ok (.getfield 41, 3) := by decide +kernel
theorem dX10_layFar_126 : decode cX10_layFar 126 = .ok (.iload_n 2, 1) := by decide +kernel
theorem dX10_layFar_127 : decode cX10_layFar 127 = .ok (.iaload, 1) := by decide +kernel
theorem dX10_layFar_128 : decode cX10_layFar 128 = .ok (.iaload, 1) := by decide +kernel
theorem dX10_layFar_129 : decode cX10_layFar 129 = .ok (.iconst 1, 1) := by decide +kernel
theorem dX10_layFar_130 : decode cX10_layFar 130 = .ok (.iadd, 1) := by decide +kernel
theorem dX10_layFar_131 : decode cX10_layFar 131 = .ok (.iastore, 1) := by decide +kernel
theorem dX10_layFar_132 : decode cX10_layFar 132 = .ok (.aload_n 0, 1) := by decide +kernel
theorem dX10_layFar_133 : decode cX10_layFar 133 = .ok (.getfield 41, 3) := by decide +kernel
theorem dX10_layFar_136 : decode cX10_layFar 136 = .ok (.aload_n 0, 1) := by decide +kernel
theorem dX10_layFar_137 : decode cX10_layFar 137 = .ok (.getfield 146, 3) := by decide +kernel
theorem dX10_layFar_140 : decode cX10_layFar 140 = .ok (.iload 5, 2) := by decide +kernel
theorem dX10_layFar_142 : decode cX10_layFar 142 = .ok (.iastore, 1) := by decide +kernel
theorem dX10_layFar_143 : decode cX10_layFar 143 = .ok (.aload_n 0, 1) := by decide +kernel
theorem dX10_layFar_144 : decode cX10_layFar 144 = .ok (.dup, 1) := by decide +kernel
theorem dX10_layFar_145 : decode cX10_layFar 145 = .ok (.getfield 146, 3) := by decide +kernel
theorem dX10_layFar_148 : decode cX10_layFar 148 = .ok (.iconst 1, 1) := by decide +kernel
theorem dX10_layFar_149 : decode cX10_layFar 149 = .ok (.iadd, 1) := by decide +kernel
theorem dX10_layFar_150 : decode cX10_layFar 150 = .ok (.putfield 146, 3) := by decide +kernel
theorem dX10_layFar_153 : decode cX10_layFar 153 = .ok (.iinc 4 1, 3) := by decide +kernel
theorem dX10_layFar_156 : decode cX10_layFar 156 = .ok (.goto (-88), 3) := by decide +kernel
theorem dX10_layFar_159 : decode cX10_layFar 159 = .ok (.iinc 2 1, 3) := by decide +kernel
theorem dX10_layFar_162 : decode cX10_layFar 162 = .ok (.goto (-117), 3) := by decide +kernel
theorem dX10_layFar_165 : decode cX10_layFar 165 = .ok (.return_, 1) := by decide +kernel
theorem dX10_comesBack_0 : decode cX10_comesBack 0 = .ok (.aload_n 0, 1) := by decide +kernel
theorem dX10_comesBack_1 : decode cX10_comesBack 1 = .ok (.iload_n 1, 1) := by decide +kernel
theorem dX10_comesBack_2 : decode cX10_comesBack 2 = .ok (.invokevirtual 149, 3) := by decide +kernel
theorem dX10_comesBack_5 : decode cX10_comesBack 5 = .ok (.iconst 0, 1) := by decide +kernel
theorem dX10_comesBack_6 : decode cX10_comesBack 6 = .ok (.istore_n 2, 1) := by decide +kernel
theorem dX10_comesBack_7 : decode cX10_comesBack 7 = .ok (.iload_n 2, 1) := by decide +kernel
theorem dX10_comesBack_8 : decode cX10_comesBack 8 = .ok (.aload_n 0, 1) := by decide +kernel
theorem dX10_comesBack_9 : decode cX10_comesBack 9 = .ok (.getfield 146, 3) := by decide +kernel
theorem dX10_comesBack_12 : decode cX10_comesBack 12 = .ok (.if_icmp .ge 66, 3) := by decide +kernel
theorem dX10_comesBack_15 : decode cX10_comesBack 15 = .ok (.aload_n 0, 1) := by decide +kernel
theorem dX10_comesBack_16 : decode cX10_comesBack 16 = .ok (.getfield 44, 3) := by decide +kernel
theorem dX10_comesBack_19 : decode cX10_comesBack 19 = .ok (.aload_n 0, 1) := by decide +kernel
theorem dX10_comesBack_20 : decode cX10_comesBack 20 = .ok (.getfield 41, 3) := by decide +kernel
theorem dX10_comesBack_23 : decode cX10_comesBack 23 = .ok (.iload_n 2, 1) := by decide +kernel
theorem dX10_comesBack_24 : decode cX10_comesBack 24 = .ok (.iaload, 1) := by decide +kernel
theorem dX10_comesBack_25 : decode cX10_comesBack 25 = .ok (.iaload, 1) := by decide +kernel
theorem dX10_comesBack_26 : decode cX10_comesBack 26 = .ok (.istore_n 3, 1) := by decide +kernel
theorem dX10_comesBack_27 : decode cX10_comesBack 27 = .ok (.iconst 0, 1) := by decide +kernel
theorem dX10_comesBack_28 : decode cX10_comesBack 28 = .ok (.istore 4, 2) := by decide +kernel
theorem dX10_comesBack_30 : decode cX10_comesBack 30 = .ok (.iload 4, 2) := by decide +kernel
theorem dX10_comesBack_32 : decode cX10_comesBack 32 = .ok (.aload_n 0, 1) := by decide +kernel
theorem dX10_comesBack_33 : decode cX10_comesBack 33 = .ok (.getfield 7, 3) := by decide +kernel
theorem dX10_comesBack_36 : decode cX10_comesBack 36 = .ok (.if_icmp .ge 36, 3) := by decide +kernel
theorem dX10_comesBack_39 : decode cX10_comesBack 39 = .ok (.iload_n 3, 1) := by decide +kernel
theorem dX10_comesBack_40 : decode cX10_comesBack 40 = .ok (.iload 4, 2) := by decide +kernel
theorem dX10_comesBack_42 : decode cX10_comesBack 42 = .ok (.ishr, 1) := by decide +kernel
theorem dX10_comesBack_43 : decode cX10_comesBack 43 = .ok (.iconst 1, 1) := by decide +kernel
theorem dX10_comesBack_44 : decode cX10_comesBack 44 = .ok (.iand, 1) := by decide +kernel
theorem dX10_comesBack_45 : decode cX10_comesBack 45 = .ok (.ifCond .ne 21, 3) := by decide +kernel
theorem dX10_comesBack_48 : decode cX10_comesBack 48 = .ok (.aload_n 0, 1) := by decide +kernel
theorem dX10_comesBack_49 : decode cX10_comesBack 49 = .ok (.iload 4, 2) := by decide +kernel
theorem dX10_comesBack_51 : decode cX10_comesBack 51 = .ok (.aload_n 0, 1) := by decide +kernel
theorem dX10_comesBack_52 : decode cX10_comesBack 52 = .ok (.getfield 41, 3) := by decide +kernel
theorem dX10_comesBack_55 : decode cX10_comesBack 55 = .ok (.iload_n 2, 1) := by decide +kernel
theorem dX10_comesBack_56 : decode cX10_comesBack 56 = .ok (.iaload, 1) := by decide +kernel
theorem dX10_comesBack_57 : decode cX10_comesBack 57 = .ok (.invokevirtual 143, 3) := by decide +kernel
theorem dX10_comesBack_60 : decode cX10_comesBack 60 = .ok (.iload_n 1, 1) := by decide +kernel
theorem dX10_comesBack_61 : decode cX10_comesBack 61 = .ok (.if_icmp .ne 5, 3) := by decide +kernel
theorem dX10_comesBack_64 : decode cX10_comesBack 64 = .ok (.iconst 1, 1) := by decide +kernel
theorem dX10_comesBack_65 : decode cX10_comesBack 65 = .ok (.ireturn, 1) := by decide +kernel
theorem dX10_comesBack_66 : decode cX10_comesBack 66 = .ok (.iinc 4 1, 3) := by decide +kernel
theorem dX10_comesBack_69 : decode cX10_comesBack 69 = .ok (.goto (-39), 3) := by decide +kernel
theorem dX10_comesBack_72 : decode cX10_comesBack 72 = .ok (.iinc 2 1, 3) := by decide +kernel
theorem dX10_comesBack_75 : decode cX10_comesBack 75 = .ok (.goto (-68), 3) := by decide +kernel
theorem dX10_comesBack_78 : decode cX10_comesBack 78 = .ok (.iconst 0, 1) := by decide +kernel
theorem dX10_comesBack_79 : decode cX10_comesBack 79 = .ok (.ireturn, 1) := by decide +kernel
theorem dX10_witnessNow_0 : decode cX10_witnessNow 0 = .ok (.aload_n 0, 1) := by decide +kernel
theorem dX10_witnessNow_1 : decode cX10_witnessNow 1 = .ok (.invokevirtual 152, 3) := by decide +kernel
theorem dX10_witnessNow_4 : decode cX10_witnessNow 4 = .ok (.iconst 0, 1) := by decide +kernel
theorem dX10_witnessNow_5 : decode cX10_witnessNow 5 = .ok (.istore_n 1, 1) := by decide +kernel
theorem dX10_witnessNow_6 : decode cX10_witnessNow 6 = .ok (.iload_n 1, 1) := by decide +kernel
theorem dX10_witnessNow_7 : decode cX10_witnessNow 7 = .ok (.aload_n 0, 1) := by decide +kernel
theorem dX10_witnessNow_8 : decode cX10_witnessNow 8 = .ok (.invokevirtual 105, 3) := by decide +kernel
theorem dX10_witnessNow_11 : decode cX10_witnessNow 11 = .ok (.if_icmp .gt 19, 3) := by decide +kernel
theorem dX10_witnessNow_14 : decode cX10_witnessNow 14 = .ok (.aload_n 0, 1) := by decide +kernel
theorem dX10_witnessNow_15 : decode cX10_witnessNow 15 = .ok (.iload_n 1, 1) := by decide +kernel
theorem dX10_witnessNow_16 : decode cX10_witnessNow 16 = .ok (.invokevirtual 155, 3) := by decide +kernel
theorem dX10_witnessNow_19 : decode cX10_witnessNow 19 = .ok (.ifCond .eq 5, 3) := by decide +kernel
theorem dX10_witnessNow_22 : decode cX10_witnessNow 22 = .ok (.iload_n 1, 1) := by decide +kernel
theorem dX10_witnessNow_23 : decode cX10_witnessNow 23 = .ok (.ireturn, 1) := by decide +kernel
theorem dX10_witnessNow_24 : decode cX10_witnessNow 24 = .ok (.iinc 1 1, 3) := by decide +kernel
theorem dX10_witnessNow_27 : decode cX10_witnessNow 27 = .ok (.goto (-21), 3) := by decide +kernel
theorem dX10_witnessNow_30 : decode cX10_witnessNow 30 = .ok (.bipush (-9), 2) := by decide +kernel
theorem dX10_witnessNow_32 : decode cX10_witnessNow 32 = .ok (.ireturn, 1) := by decide +kernel
theorem dX10_settled_0 : decode cX10_settled 0 = .ok (.aload_n 0, 1) := by decide +kernel
theorem dX10_settled_1 : decode cX10_settled 1 = .ok (.invokevirtual 158, 3) := by decide +kernel
theorem dX10_settled_4 : decode cX10_settled 4 = .ok (.bipush (-9), 2) := by decide +kernel
theorem dX10_settled_6 : decode cX10_settled 6 = .ok (.if_icmp .ne 7, 3) := by decide +kernel
theorem dX10_settled_9 : decode cX10_settled 9 = .ok (.iconst 1, 1) := by decide +kernel
theorem dX10_settled_10 : decode cX10_settled 10 = .ok (.goto 4, 3) := by decide +kernel
theorem dX10_settled_13 : decode cX10_settled 13 = .ok (.iconst 0, 1) := by decide +kernel
theorem dX10_settled_14 : decode cX10_settled 14 = .ok (.ireturn, 1) := by decide +kernel
theorem dX10_witness_0 : decode cX10_witness 0 = .ok (.aload_n 0, 1) := by decide +kernel
theorem dX10_witness_1 : decode cX10_witness 1 = .ok (.invokevirtual 158, 3) := by decide +kernel
theorem dX10_witness_4 : decode cX10_witness 4 = .ok (.ireturn, 1) := by decide +kernel
theorem dX10_turnedNow_0 : decode cX10_turnedNow 0 = .ok (.iconst 0, 1) := by decide +kernel
theorem dX10_turnedNow_1 : decode cX10_turnedNow 1 = .ok (.istore_n 1, 1) := by decide +kernel
theorem dX10_turnedNow_2 : decode cX10_turnedNow 2 = .ok (.iload_n 1, 1) := by decide +kernel
theorem dX10_turnedNow_3 : decode cX10_turnedNow 3 = .ok (.aload_n 0, 1) := by decide +kernel
theorem dX10_turnedNow_4 : decode cX10_turnedNow 4 = .ok (.getfield 7, 3) := by decide +kernel
theorem dX10_turnedNow_7 : decode cX10_turnedNow 7 = .ok (.if_icmp .ge 22, 3) := by decide +kernel
theorem dX10_turnedNow_10 : decode cX10_turnedNow 10 = .ok (.aload_n 0, 1) := by decide +kernel
theorem dX10_turnedNow_11 : decode cX10_turnedNow 11 = .ok (.getfield 17, 3) := by decide +kernel
theorem dX10_turnedNow_14 : decode cX10_turnedNow 14 = .ok (.iload_n 1, 1) := by decide +kernel
theorem dX10_turnedNow_15 : decode cX10_turnedNow 15 = .ok (.iaload, 1) := by decide +kernel
theorem dX10_turnedNow_16 : decode cX10_turnedNow 16 = .ok (.iconst 3, 1) := by decide +kernel
theorem dX10_turnedNow_17 : decode cX10_turnedNow 17 = .ok (.if_icmp .ne 6, 3) := by decide +kernel
theorem dX10_turnedNow_20 : decode cX10_turnedNow 20 = .ok (.bipush (-9), 2) := by decide +kernel
theorem dX10_turnedNow_22 : decode cX10_turnedNow 22 = .ok (.ireturn, 1) := by decide +kernel
theorem dX10_turnedNow_23 : decode cX10_turnedNow 23 = .ok (.iinc 1 1, 3) := by decide +kernel
theorem dX10_turnedNow_26 : decode cX10_turnedNow 26 = .ok (.goto (-24), 3) := by decide +kernel
theorem dX10_turnedNow_29 : decode cX10_turnedNow 29 = .ok (.aload_n 0, 1) := by decide +kernel
theorem dX10_turnedNow_30 : decode cX10_turnedNow 30 = .ok (.invokevirtual 105, 3) := by decide +kernel
theorem dX10_turnedNow_33 : decode cX10_turnedNow 33 = .ok (.istore_n 1, 1) := by decide +kernel
theorem dX10_turnedNow_34 : decode cX10_turnedNow 34 = .ok (.iconst 0, 1) := by decide +kernel
theorem dX10_turnedNow_35 : decode cX10_turnedNow 35 = .ok (.istore_n 2, 1) := by decide +kernel
theorem dX10_turnedNow_36 : decode cX10_turnedNow 36 = .ok (.iload_n 2, 1) := by decide +kernel
theorem dX10_turnedNow_37 : decode cX10_turnedNow 37 = .ok (.aload_n 0, 1) := by decide +kernel
theorem dX10_turnedNow_38 : decode cX10_turnedNow 38 = .ok (.invokevirtual 105, 3) := by decide +kernel
theorem dX10_turnedNow_41 : decode cX10_turnedNow 41 = .ok (.if_icmp .gt 55, 3) := by decide +kernel
theorem dX10_turnedNow_44 : decode cX10_turnedNow 44 = .ok (.aload_n 0, 1) := by decide +kernel
theorem dX10_turnedNow_45 : decode cX10_turnedNow 45 = .ok (.invokevirtual 105, 3) := by decide +kernel
theorem dX10_turnedNow_48 : decode cX10_turnedNow 48 = .ok (.aload_n 0, 1) := by decide +kernel
theorem dX10_turnedNow_49 : decode cX10_turnedNow 49 = .ok (.iload_n 2, 1) := by decide +kernel
theorem dX10_turnedNow_50 : decode cX10_turnedNow 50 = .ok (.invokevirtual 93, 3) := by decide +kernel
theorem dX10_turnedNow_53 : decode cX10_turnedNow 53 = .ok (.iconst (-1), 1) := by decide +kernel
theorem dX10_turnedNow_54 : decode cX10_turnedNow 54 = .ok (.ixor, 1) := by decide +kernel
theorem dX10_turnedNow_55 : decode cX10_turnedNow 55 = .ok (.iand, 1) := by decide +kernel
theorem dX10_turnedNow_56 : decode cX10_turnedNow 56 = .ok (.istore_n 3, 1) := by decide +kernel
theorem dX10_turnedNow_57 : decode cX10_turnedNow 57 = .ok (.iload_n 3, 1) := by decide +kernel
theorem dX10_turnedNow_58 : decode cX10_turnedNow 58 = .ok (.invokestatic 161, 3) := by decide +kernel
theorem dX10_turnedNow_61 : decode cX10_turnedNow 61 = .ok (.iload_n 1, 1) := by decide +kernel
theorem dX10_turnedNow_62 : decode cX10_turnedNow 62 = .ok (.invokestatic 161, 3) := by decide +kernel
theorem dX10_turnedNow_65 : decode cX10_turnedNow 65 = .ok (.if_icmp .lt 19, 3) := by decide +kernel
theorem dX10_turnedNow_68 : decode cX10_turnedNow 68 = .ok (.iload_n 3, 1) := by decide +kernel
theorem dX10_turnedNow_69 : decode cX10_turnedNow 69 = .ok (.invokestatic 161, 3) := by decide +kernel
theorem dX10_turnedNow_72 : decode cX10_turnedNow 72 = .ok (.iload_n 1, 1) := by decide +kernel
theorem dX10_turnedNow_73 : decode cX10_turnedNow 73 = .ok (.invokestatic 161, 3) := by decide +kernel
theorem dX10_turnedNow_76 : decode cX10_turnedNow 76 = .ok (.if_icmp .ne 12, 3) := by decide +kernel
theorem dX10_turnedNow_79 : decode cX10_turnedNow 79 = .ok (.iload_n 3, 1) := by decide +kernel
theorem dX10_turnedNow_80 : decode cX10_turnedNow 80 = .ok (.iload_n 1, 1) := by decide +kernel
theorem dX10_turnedNow_81 : decode cX10_turnedNow 81 = .ok (.if_icmp .ge 7, 3) := by decide +kernel
theorem dX10_turnedNow_84 : decode cX10_turnedNow 84 = .ok (.iload_n 3, 1) := by decide +kernel
theorem dX10_turnedNow_85 : decode cX10_turnedNow 85 = .ok (.goto 4, 3) := by decide +kernel
theorem dX10_turnedNow_88 : decode cX10_turnedNow 88 = .ok (.iload_n 1, 1) := by decide +kernel
theorem dX10_turnedNow_89 : decode cX10_turnedNow 89 = .ok (.istore_n 1, 1) := by decide +kernel
theorem dX10_turnedNow_90 : decode cX10_turnedNow 90 = .ok (.iinc 2 1, 3) := by decide +kernel
theorem dX10_turnedNow_93 : decode cX10_turnedNow 93 = .ok (.goto (-57), 3) := by decide +kernel
theorem dX10_turnedNow_96 : decode cX10_turnedNow 96 = .ok (.iload_n 1, 1) := by decide +kernel
theorem dX10_turnedNow_97 : decode cX10_turnedNow 97 = .ok (.ireturn, 1) := by decide +kernel
theorem dX10_turn_0 : decode cX10_turn 0 = .ok (.aload_n 0, 1) := by decide +kernel
theorem dX10_turn_1 : decode cX10_turn 1 = .ok (.invokevirtual 164, 3) := by decide +kernel
theorem dX10_turn_4 : decode cX10_turn 4 = .ok (.istore_n 1, 1) := by decide +kernel
theorem dX10_turn_5 : decode cX10_turn 5 = .ok (.iload_n 1, 1) := by decide +kernel
theorem dX10_turn_6 : decode cX10_turn 6 = .ok (.bipush (-9), 2) := by decide +kernel
theorem dX10_turn_8 : decode cX10_turn 8 = .ok (.if_icmp .ne 8, 3) := by decide +kernel
theorem dX10_turn_11 : decode cX10_turn 11 = .ok (.bipush (-9), 2) := by decide +kernel
theorem dX10_turn_13 : decode cX10_turn 13 = .ok (.goto 7, 3) := by decide +kernel
theorem dX10_turn_16 : decode cX10_turn 16 = .ok (.iload_n 1, 1) := by decide +kernel
theorem dX10_turn_17 : decode cX10_turn 17 = .ok (.invokestatic 161, 3) := by decide +kernel
theorem dX10_turn_20 : decode cX10_turn 20 = .ok (.ireturn, 1) := by decide +kernel
theorem dX10_turned_0 : decode cX10_turned 0 = .ok (.aload_n 0, 1) := by decide +kernel
theorem dX10_turned_1 : decode cX10_turned 1 = .ok (.invokevirtual 164, 3) := by decide +kernel
theorem dX10_turned_4 : decode cX10_turned 4 = .ok (.ireturn, 1) := by decide +kernel
theorem dX10_hold_0 : decode cX10_hold 0 = .ok (.iconst 0, 1) := by decide +kernel
theorem dX10_hold_1 : decode cX10_hold 1 = .ok (.istore_n 2, 1) := by decide +kernel
theorem dX10_hold_2 : decode cX10_hold 2 = .ok (.iconst 1, 1) := by decide +kernel
theorem dX10_hold_3 : decode cX10_hold 3 = .ok (.istore_n 3, 1) := by decide +kernel
theorem dX10_hold_4 : decode cX10_hold 4 = .ok (.iload_n 3, 1) := by decide +kernel
theorem dX10_hold_5 : decode cX10_hold 5 = .ok (.aload_n 0, 1) := by decide +kernel
theorem dX10_hold_6 : decode cX10_hold 6 = .ok (.invokevirtual 105, 3) := by decide +kernel
theorem dX10_hold_9 : decode cX10_hold 9 = .ok (.if_icmp .gt 34, 3) := by decide +kernel
theorem dX10_hold_12 : decode cX10_hold 12 = .ok (.aload_n 0, 1) := by decide +kernel
theorem dX10_hold_13 : decode cX10_hold 13 = .ok (.iload_n 3, 1) := by decide +kernel
theorem dX10_hold_14 : decode cX10_hold 14 = .ok (.invokevirtual 93, 3) := by decide +kernel
theorem dX10_hold_17 : decode cX10_hold 17 = .ok (.invokestatic 161, 3) := by decide +kernel
theorem dX10_hold_20 : decode cX10_hold 20 = .ok (.aload_n 0, 1) := by decide +kernel
theorem dX10_hold_21 : decode cX10_hold 21 = .ok (.iload_n 2, 1) := by decide +kernel
theorem dX10_hold_22 : decode cX10_hold 22 = .ok (.invokevirtual 93, 3) := by decide +kernel
theorem dX10_hold_25 : decode cX10_hold 25 = .ok (.invokestatic 161, 3) := by decide +kernel
theorem dX10_hold_28 : decode cX10_hold 28 = .ok (.if_icmp .le 7, 3) := by decide +kernel
theorem dX10_hold_31 : decode cX10_hold 31 = .ok (.iload_n 3, 1) := by decide +kernel
theorem dX10_hold_32 : decode cX10_hold 32 = .ok (.goto 4, 3) := by decide +kernel
theorem dX10_hold_35 : decode cX10_hold 35 = .ok (.iload_n 2, 1) := by decide +kernel
theorem dX10_hold_36 : decode cX10_hold 36 = .ok (.istore_n 2, 1) := by decide +kernel
theorem dX10_hold_37 : decode cX10_hold 37 = .ok (.iinc 3 1, 3) := by decide +kernel
theorem dX10_hold_40 : decode cX10_hold 40 = .ok (.goto (-36), 3) := by decide +kernel
theorem dX10_hold_43 : decode cX10_hold 43 = .ok (.iload_n 1, 1) := by decide +kernel
theorem dX10_hold_44 : decode cX10_hold 44 = .ok (.ifCond .eq 7, 3) := by decide +kernel
theorem dX10_hold_47 : decode cX10_hold 47 = .ok (.iload_n 2, 1) := by decide +kernel
theorem dX10_hold_48 : decode cX10_hold 48 = .ok (.goto 16, 3) := by decide +kernel
theorem dX10_hold_51 : decode cX10_hold 51 = .ok (.aload_n 0, 1) := by decide +kernel
theorem dX10_hold_52 : decode cX10_hold 52 = .ok (.getfield 7, 3) := by decide +kernel
theorem dX10_hold_55 : decode cX10_hold 55 = .ok (.aload_n 0, 1) := by decide +kernel
theorem dX10_hold_56 : decode cX10_hold 56 = .ok (.iload_n 2, 1) := by decide +kernel
theorem dX10_hold_57 : decode cX10_hold 57 = .ok (.invokevirtual 93, 3) := by decide +kernel
theorem dX10_hold_60 : decode cX10_hold 60 = .ok (.invokestatic 161, 3) := by decide +kernel
theorem dX10_hold_63 : decode cX10_hold 63 = .ok (.isub, 1) := by decide +kernel
theorem dX10_hold_64 : decode cX10_hold 64 = .ok (.ireturn, 1) := by decide +kernel
theorem dX10_may_0 : decode cX10_may 0 = .ok (.aload_n 0, 1) := by decide +kernel
theorem dX10_may_1 : decode cX10_may 1 = .ok (.iload_n 1, 1) := by decide +kernel
theorem dX10_may_2 : decode cX10_may 2 = .ok (.invokevirtual 90, 3) := by decide +kernel
theorem dX10_may_5 : decode cX10_may 5 = .ok (.ifCond .ne 6, 3) := by decide +kernel
theorem dX10_may_8 : decode cX10_may 8 = .ok (.bipush (-2), 2) := by decide +kernel
theorem dX10_may_10 : decode cX10_may 10 = .ok (.ireturn, 1) := by decide +kernel
theorem dX10_may_11 : decode cX10_may 11 = .ok (.aload_n 0, 1) := by decide +kernel
theorem dX10_may_12 : decode cX10_may 12 = .ok (.iload_n 2, 1) := by decide +kernel
theorem dX10_may_13 : decode cX10_may 13 = .ok (.invokevirtual 136, 3) := by decide +kernel
theorem dX10_may_16 : decode cX10_may 16 = .ok (.istore_n 3, 1) := by decide +kernel
theorem dX10_may_17 : decode cX10_may 17 = .ok (.iload_n 3, 1) := by decide +kernel
theorem dX10_may_18 : decode cX10_may 18 = .ok (.iconst (-1), 1) := by decide +kernel
theorem dX10_may_19 : decode cX10_may 19 = .ok (.if_icmp .ne 5, 3) := by decide +kernel
theorem dX10_may_22 : decode cX10_may 22 = .ok (.iconst (-1), 1) := by decide +kernel
theorem dX10_may_23 : decode cX10_may 23 = .ok (.ireturn, 1) := by decide +kernel
theorem dX10_may_24 : decode cX10_may 24 = .ok (.aload_n 0, 1) := by decide +kernel
theorem dX10_may_25 : decode cX10_may 25 = .ok (.invokevirtual 152, 3) := by decide +kernel
theorem dX10_may_28 : decode cX10_may 28 = .ok (.aload_n 0, 1) := by decide +kernel
theorem dX10_may_29 : decode cX10_may 29 = .ok (.iload_n 1, 1) := by decide +kernel
theorem dX10_may_30 : decode cX10_may 30 = .ok (.invokevirtual 149, 3) := by decide +kernel
theorem dX10_may_33 : decode cX10_may 33 = .ok (.aload_n 0, 1) := by decide +kernel
theorem dX10_may_34 : decode cX10_may 34 = .ok (.getfield 38, 3) := by decide +kernel
theorem dX10_may_37 : decode cX10_may 37 = .ok (.iload_n 3, 1) := by decide +kernel
theorem dX10_may_38 : decode cX10_may 38 = .ok (.iaload, 1) := by decide +kernel
theorem dX10_may_39 : decode cX10_may 39 = .ok (.bipush (-9), 2) := by decide +kernel
theorem dX10_may_41 : decode cX10_may 41 = .ok (.if_icmp .ne 7, 3) := by decide +kernel
theorem dX10_may_44 : decode cX10_may 44 = .ok (.iconst 0, 1) := by decide +kernel
theorem dX10_may_45 : decode cX10_may 45 = .ok (.goto 4, 3) := by decide +kernel
theorem dX10_may_48 : decode cX10_may 48 = .ok (.iconst 1, 1) := by decide +kernel
theorem dX10_may_49 : decode cX10_may 49 = .ok (.ireturn, 1) := by decide +kernel
theorem dX10_mays_0 : decode cX10_mays 0 = .ok (.aload_n 0, 1) := by decide +kernel
theorem dX10_mays_1 : decode cX10_mays 1 = .ok (.iload_n 1, 1) := by decide +kernel
theorem dX10_mays_2 : decode cX10_mays 2 = .ok (.invokevirtual 90, 3) := by decide +kernel
theorem dX10_mays_5 : decode cX10_mays 5 = .ok (.ifCond .ne 6, 3) := by decide +kernel
theorem dX10_mays_8 : decode cX10_mays 8 = .ok (.bipush (-2), 2) := by decide +kernel
theorem dX10_mays_10 : decode cX10_mays 10 = .ok (.ireturn, 1) := by decide +kernel
theorem dX10_mays_11 : decode cX10_mays 11 = .ok (.aload_n 0, 1) := by decide +kernel
theorem dX10_mays_12 : decode cX10_mays 12 = .ok (.invokevirtual 152, 3) := by decide +kernel
theorem dX10_mays_15 : decode cX10_mays 15 = .ok (.aload_n 0, 1) := by decide +kernel
theorem dX10_mays_16 : decode cX10_mays 16 = .ok (.iload_n 1, 1) := by decide +kernel
theorem dX10_mays_17 : decode cX10_mays 17 = .ok (.invokevirtual 149, 3) := by decide +kernel
theorem dX10_mays_20 : decode cX10_mays 20 = .ok (.iconst 0, 1) := by decide +kernel
theorem dX10_mays_21 : decode cX10_mays 21 = .ok (.istore_n 2, 1) := by decide +kernel
theorem dX10_mays_22 : decode cX10_mays 22 = .ok (.iconst 0, 1) := by decide +kernel
theorem dX10_mays_23 : decode cX10_mays 23 = .ok (.istore_n 3, 1) := by decide +kernel
theorem dX10_mays_24 : decode cX10_mays 24 = .ok (.iload_n 3, 1) := by decide +kernel
theorem dX10_mays_25 : decode cX10_mays 25 = .ok (.aload_n 0, 1) := by decide +kernel
theorem dX10_mays_26 : decode cX10_mays 26 = .ok (.invokevirtual 105, 3) := by decide +kernel
theorem dX10_mays_29 : decode cX10_mays 29 = .ok (.if_icmp .gt 36, 3) := by decide +kernel
theorem dX10_mays_32 : decode cX10_mays 32 = .ok (.iload_n 2, 1) := by decide +kernel
theorem dX10_mays_33 : decode cX10_mays 33 = .ok (.aload_n 0, 1) := by decide +kernel
theorem dX10_mays_34 : decode cX10_mays 34 = .ok (.getfield 38, 3) := by decide +kernel
theorem dX10_mays_37 : decode cX10_mays 37 = .ok (.iload_n 3, 1) := by decide +kernel
theorem dX10_mays_38 : decode cX10_mays 38 = .ok (.iaload, 1) := by decide +kernel
theorem dX10_mays_39 : decode cX10_mays 39 = .ok (.bipush (-9), 2) := by decide +kernel
theorem dX10_mays_41 : decode cX10_mays 41 = .ok (.if_icmp .eq 15, 3) := by decide +kernel
theorem dX10_mays_44 : decode cX10_mays 44 = .ok (.aload_n 0, 1) := by decide +kernel
theorem dX10_mays_45 : decode cX10_mays 45 = .ok (.iload_n 3, 1) := by decide +kernel
theorem dX10_mays_46 : decode cX10_mays 46 = .ok (.invokevirtual 133, 3) := by decide +kernel
theorem dX10_mays_49 : decode cX10_mays 49 = .ok (.ifCond .eq 7, 3) := by decide +kernel
theorem dX10_mays_52 : decode cX10_mays 52 = .ok (.iconst 1, 1) := by decide +kernel
theorem dX10_mays_53 : decode cX10_mays 53 = .ok (.goto 4, 3) := by decide +kernel
theorem dX10_mays_56 : decode cX10_mays 56 = .ok (.iconst 0, 1) := by decide +kernel
theorem dX10_mays_57 : decode cX10_mays 57 = .ok (.iadd, 1) := by decide +kernel
theorem dX10_mays_58 : decode cX10_mays 58 = .ok (.istore_n 2, 1) := by decide +kernel
theorem dX10_mays_59 : decode cX10_mays 59 = .ok (.iinc 3 1, 3) := by decide +kernel
theorem dX10_mays_62 : decode cX10_mays 62 = .ok (.goto (-38), 3) := by decide +kernel
theorem dX10_mays_65 : decode cX10_mays 65 = .ok (.iload_n 2, 1) := by decide +kernel
theorem dX10_mays_66 : decode cX10_mays 66 = .ok (.ireturn, 1) := by decide +kernel
theorem dX10_soon_0 : decode cX10_soon 0 = .ok (.aload_n 0, 1) := by decide +kernel
theorem dX10_soon_1 : decode cX10_soon 1 = .ok (.iload_n 1, 1) := by decide +kernel
theorem dX10_soon_2 : decode cX10_soon 2 = .ok (.invokevirtual 90, 3) := by decide +kernel
theorem dX10_soon_5 : decode cX10_soon 5 = .ok (.ifCond .ne 6, 3) := by decide +kernel
theorem dX10_soon_8 : decode cX10_soon 8 = .ok (.bipush (-2), 2) := by decide +kernel
theorem dX10_soon_10 : decode cX10_soon 10 = .ok (.ireturn, 1) := by decide +kernel
theorem dX10_soon_11 : decode cX10_soon 11 = .ok (.aload_n 0, 1) := by decide +kernel
theorem dX10_soon_12 : decode cX10_soon 12 = .ok (.invokevirtual 152, 3) := by decide +kernel
theorem dX10_soon_15 : decode cX10_soon 15 = .ok (.aload_n 0, 1) := by decide +kernel
theorem dX10_soon_16 : decode cX10_soon 16 = .ok (.iload_n 1, 1) := by decide +kernel
theorem dX10_soon_17 : decode cX10_soon 17 = .ok (.invokevirtual 149, 3) := by decide +kernel
theorem dX10_soon_20 : decode cX10_soon 20 = .ok (.iconst 0, 1) := by decide +kernel
theorem dX10_soon_21 : decode cX10_soon 21 = .ok (.istore_n 2, 1) := by decide +kernel
theorem dX10_soon_22 : decode cX10_soon 22 = .ok (.iload_n 2, 1) := by decide +kernel
theorem dX10_soon_23 : decode cX10_soon 23 = .ok (.aload_n 0, 1) := by decide +kernel
theorem dX10_soon_24 : decode cX10_soon 24 = .ok (.getfield 146, 3) := by decide +kernel
theorem dX10_soon_27 : decode cX10_soon 27 = .ok (.if_icmp .ge 34, 3) := by decide +kernel
theorem dX10_soon_30 : decode cX10_soon 30 = .ok (.aload_n 0, 1) := by decide +kernel
theorem dX10_soon_31 : decode cX10_soon 31 = .ok (.aload_n 0, 1) := by decide +kernel
theorem dX10_soon_32 : decode cX10_soon 32 = .ok (.getfield 41, 3) := by decide +kernel
theorem dX10_soon_35 : decode cX10_soon 35 = .ok (.iload_n 2, 1) := by decide +kernel
theorem dX10_soon_36 : decode cX10_soon 36 = .ok (.iaload, 1) := by decide +kernel
theorem dX10_soon_37 : decode cX10_soon 37 = .ok (.invokevirtual 133, 3) := by decide +kernel
theorem dX10_soon_40 : decode cX10_soon 40 = .ok (.ifCond .eq 15, 3) := by decide +kernel
theorem dX10_soon_43 : decode cX10_soon 43 = .ok (.aload_n 0, 1) := by decide +kernel
theorem dX10_soon_44 : decode cX10_soon 44 = .ok (.getfield 38, 3) := by decide +kernel
theorem dX10_soon_47 : decode cX10_soon 47 = .ok (.aload_n 0, 1) := by decide +kernel
theorem dX10_soon_48 : decode cX10_soon 48 = .ok (.getfield 41, 3) := by decide +kernel
theorem dX10_soon_51 : decode cX10_soon 51 = .ok (.iload_n 2, 1) := by decide +kernel
theorem dX10_soon_52 : decode cX10_soon 52 = .ok (.iaload, 1) := by decide +kernel
theorem dX10_soon_53 : decode cX10_soon 53 = .ok (.iaload, 1) := by decide +kernel
theorem dX10_soon_54 : decode cX10_soon 54 = .ok (.ireturn, 1) := by decide +kernel
theorem dX10_soon_55 : decode cX10_soon 55 = .ok (.iinc 2 1, 3) := by decide +kernel
theorem dX10_soon_58 : decode cX10_soon 58 = .ok (.goto (-36), 3) := by decide +kernel
theorem dX10_soon_61 : decode cX10_soon 61 = .ok (.bipush (-9), 2) := by decide +kernel
theorem dX10_soon_63 : decode cX10_soon 63 = .ok (.ireturn, 1) := by decide +kernel
theorem dX10_draw_0 : decode cX10_draw 0 = .ok (.iconst 0, 1) := by decide +kernel
theorem dX10_draw_1 : decode cX10_draw 1 = .ok (.istore_n 1, 1) := by decide +kernel
theorem dX10_draw_2 : decode cX10_draw 2 = .ok (.iload_n 1, 1) := by decide +kernel
theorem dX10_draw_3 : decode cX10_draw 3 = .ok (.aload_n 0, 1) := by decide +kernel
theorem dX10_draw_4 : decode cX10_draw 4 = .ok (.invokevirtual 105, 3) := by decide +kernel
theorem dX10_draw_7 : decode cX10_draw 7 = .ok (.if_icmp .gt 16, 3) := by decide +kernel
theorem dX10_draw_10 : decode cX10_draw 10 = .ok (.aload_n 0, 1) := by decide +kernel
theorem dX10_draw_11 : decode cX10_draw 11 = .ok (.getfield 51, 3) := by decide +kernel
theorem dX10_draw_14 : decode cX10_draw 14 = .ok (.iload_n 1, 1) := by decide +kernel
theorem dX10_draw_15 : decode cX10_draw 15 = .ok (.lconst 0, 1) := by decide +kernel
theorem dX10_draw_16 : decode cX10_draw 16 = .ok (.lastore, 1) := by decide +kernel
theorem dX10_draw_17 : decode cX10_draw 17 = .ok (.iinc 1 1, 3) := by decide +kernel
theorem dX10_draw_20 : decode cX10_draw 20 = .ok (.goto (-18), 3) := by decide +kernel
theorem dX10_draw_23 : decode cX10_draw 23 = .ok (.iconst 0, 1) := by decide +kernel
theorem dX10_draw_24 : decode cX10_draw 24 = .ok (.istore_n 1, 1) := by decide +kernel
theorem dX10_draw_25 : decode cX10_draw 25 = .ok (.iload_n 1, 1) := by decide +kernel
theorem dX10_draw_26 : decode cX10_draw 26 = .ok (.aload_n 0, 1) := by decide +kernel
theorem dX10_draw_27 : decode cX10_draw 27 = .ok (.invokevirtual 105, 3) := by decide +kernel
theorem dX10_draw_30 : decode cX10_draw 30 = .ok (.if_icmp .gt 115, 3) := by decide +kernel
theorem dX10_draw_33 : decode cX10_draw 33 = .ok (.aload_n 0, 1) := by decide +kernel
theorem dX10_draw_34 : decode cX10_draw 34 = .ok (.getfield 47, 3) := by decide +kernel
theorem dX10_draw_37 : decode cX10_draw 37 = .ok (.iload_n 1, 1) := by decide +kernel
theorem dX10_draw_38 : decode cX10_draw 38 = .ok (.laload, 1) := by decide +kernel
theorem dX10_draw_39 : decode cX10_draw 39 = .ok (.lconst 0, 1) := by decide +kernel
theorem dX10_draw_40 : decode cX10_draw 40 = .ok (.lcmp, 1) := by decide +kernel
theorem dX10_draw_41 : decode cX10_draw 41 = .ok (.ifCond .le 98, 3) := by decide +kernel
theorem dX10_draw_44 : decode cX10_draw 44 = .ok (.aload_n 0, 1) := by decide +kernel
theorem dX10_draw_45 : decode cX10_draw 45 = .ok (.invokevirtual 105, 3) := by decide +kernel
theorem dX10_draw_48 : decode cX10_draw 48 = .ok (.aload_n 0, 1) := by decide +kernel
theorem dX10_draw_49 : decode cX10_draw 49 = .ok (.iload_n 1, 1) := by decide +kernel
theorem dX10_draw_50 : decode cX10_draw 50 = .ok (.invokevirtual 93, 3) := by decide +kernel
theorem dX10_draw_53 : decode cX10_draw 53 = .ok (.iconst (-1), 1) := by decide +kernel
theorem dX10_draw_54 : decode cX10_draw 54 = .ok (.ixor, 1) := by decide +kernel
theorem dX10_draw_55 : decode cX10_draw 55 = .ok (.iand, 1) := by decide +kernel
theorem dX10_draw_56 : decode cX10_draw 56 = .ok (.istore_n 2, 1) := by decide +kernel
theorem dX10_draw_57 : decode cX10_draw 57 = .ok (.aload_n 0, 1) := by decide +kernel
theorem dX10_draw_58 : decode cX10_draw 58 = .ok (.getfield 51, 3) := by decide +kernel
theorem dX10_draw_61 : decode cX10_draw 61 = .ok (.iload_n 1, 1) := by decide +kernel
theorem dX10_draw_62 : decode cX10_draw 62 = .ok (.dup2, 1) := by decide +kernel
theorem dX10_draw_63 : decode cX10_draw 63 = .ok (.laload, 1) := by decide +kernel
theorem dX10_draw_64 : decode cX10_draw 64 = .ok (.iload_n 2, 1) := by decide +kernel
theorem dX10_draw_65 : decode cX10_draw 65 = .ok (.ifCond .ne 16, 3) := by decide +kernel
theorem dX10_draw_68 : decode cX10_draw 68 = .ok (.ldc2_w 167, 3) := by decide +kernel
theorem dX10_draw_71 : decode cX10_draw 71 = .ok (.aload_n 0, 1) := by decide +kernel
theorem dX10_draw_72 : decode cX10_draw 72 = .ok (.getfield 47, 3) := by decide +kernel
theorem dX10_draw_75 : decode cX10_draw 75 = .ok (.iload_n 1, 1) := by decide +kernel
theorem dX10_draw_76 : decode cX10_draw 76 = .ok (.laload, 1) := by decide +kernel
theorem dX10_draw_77 : decode cX10_draw 77 = .ok (.lmul, 1) := by decide +kernel
theorem dX10_draw_78 : decode cX10_draw 78 = .ok (.goto 4, 3) := by decide +kernel
theorem dX10_draw_81 : decode cX10_draw 81 = .ok (.lconst 0, 1) := by decide +kernel
theorem dX10_draw_82 : decode cX10_draw 82 = .ok (.ladd, 1) := by decide +kernel
theorem dX10_draw_83 : decode cX10_draw 83 = .ok (.lastore, 1) := by decide +kernel
theorem dX10_draw_84 : decode cX10_draw 84 = .ok (.iconst 0, 1) := by decide +kernel
theorem dX10_draw_85 : decode cX10_draw 85 = .ok (.istore_n 3, 1) := by decide +kernel
theorem dX10_draw_86 : decode cX10_draw 86 = .ok (.iload_n 3, 1) := by decide +kernel
theorem dX10_draw_87 : decode cX10_draw 87 = .ok (.aload_n 0, 1) := by decide +kernel
theorem dX10_draw_88 : decode cX10_draw 88 = .ok (.getfield 7, 3) := by decide +kernel
theorem dX10_draw_91 : decode cX10_draw 91 = .ok (.if_icmp .ge 48, 3) := by decide +kernel
theorem dX10_draw_94 : decode cX10_draw 94 = .ok (.iload_n 2, 1) := by decide +kernel
theorem dX10_draw_95 : decode cX10_draw 95 = .ok (.iload_n 3, 1) := by decide +kernel
theorem dX10_draw_96 : decode cX10_draw 96 = .ok (.ishr, 1) := by decide +kernel
theorem dX10_draw_97 : decode cX10_draw 97 = .ok (.iconst 1, 1) := by decide +kernel
theorem dX10_draw_98 : decode cX10_draw 98 = .ok (.iand, 1) := by decide +kernel
theorem dX10_draw_99 : decode cX10_draw 99 = .ok (.iconst 1, 1) := by decide +kernel
theorem dX10_draw_100 : decode cX10_draw 100 = .ok (.if_icmp .ne 33, 3) := by decide +kernel
theorem dX10_draw_103 : decode cX10_draw 103 = .ok (.aload_n 0, 1) := by decide +kernel
theorem dX10_draw_104 : decode cX10_draw 104 = .ok (.getfield 51, 3) := by decide +kernel
theorem dX10_draw_107 : decode cX10_draw 107 = .ok (.aload_n 0, 1) := by decide +kernel
theorem dX10_draw_108 : decode cX10_draw 108 = .ok (.iload_n 3, 1) := by decide +kernel
theorem dX10_draw_109 : decode cX10_draw 109 = .ok (.iload_n 1, 1) := by decide +kernel
theorem dX10_draw_110 : decode cX10_draw 110 = .ok (.invokevirtual 143, 3) := by decide +kernel
theorem dX10_draw_113 : decode cX10_draw 113 = .ok (.dup2, 1) := by decide +kernel
theorem dX10_draw_114 : decode cX10_draw 114 = .ok (.laload, 1) := by decide +kernel
theorem dX10_draw_115 : decode cX10_draw 115 = .ok (.aload_n 0, 1) := by decide +kernel
theorem dX10_draw_116 : decode cX10_draw 116 = .ok (.getfield 47, 3) := by decide +kernel
theorem dX10_draw_119 : decode cX10_draw 119 = .ok (.iload_n 1, 1) := by decide +kernel
theorem dX10_draw_120 : decode cX10_draw 120 = .ok (.laload, 1) := by decide +kernel
theorem dX10_draw_121 : decode cX10_draw 121 = .ok (.sipush 2520, 3) := by decide +kernel
theorem dX10_draw_124 : decode cX10_draw 124 = .ok (.iload_n 2, 1) := by decide +kernel
theorem dX10_draw_125 : decode cX10_draw 125 = .ok (.invokestatic 161, 3) := by decide +kernel
theorem dX10_draw_128 : decode cX10_draw 128 = .ok (.idiv, 1) := by decide +kernel
theorem dX10_draw_129 : decode cX10_draw 129 = .ok (.i2l, 1) := by decide +kernel
theorem dX10_draw_130 : decode cX10_draw 130 = .ok (.lmul, 1) := by decide +kernel
theorem dX10_draw_131 : decode cX10_draw 131 = .ok (.ladd, 1) := by decide +kernel
theorem dX10_draw_132 : decode cX10_draw 132 = .ok (.lastore, 1) := by decide +kernel
theorem dX10_draw_133 : decode cX10_draw 133 = .ok (.iinc 3 1, 3) := by decide +kernel
theorem dX10_draw_136 : decode cX10_draw 136 = .ok (.goto (-50), 3) := by decide +kernel
theorem dX10_draw_139 : decode cX10_draw 139 = .ok (.iinc 1 1, 3) := by decide +kernel
theorem dX10_draw_142 : decode cX10_draw 142 = .ok (.goto (-117), 3) := by decide +kernel
theorem dX10_draw_145 : decode cX10_draw 145 = .ok (.iconst 0, 1) := by decide +kernel
theorem dX10_draw_146 : decode cX10_draw 146 = .ok (.istore_n 1, 1) := by decide +kernel
theorem dX10_draw_147 : decode cX10_draw 147 = .ok (.iload_n 1, 1) := by decide +kernel
theorem dX10_draw_148 : decode cX10_draw 148 = .ok (.aload_n 0, 1) := by decide +kernel
theorem dX10_draw_149 : decode cX10_draw 149 = .ok (.invokevirtual 105, 3) := by decide +kernel
theorem dX10_draw_152 : decode cX10_draw 152 = .ok (.if_icmp .gt 21, 3) := by decide +kernel
theorem dX10_draw_155 : decode cX10_draw 155 = .ok (.aload_n 0, 1) := by decide +kernel
theorem dX10_draw_156 : decode cX10_draw 156 = .ok (.getfield 47, 3) := by decide +kernel
theorem dX10_draw_159 : decode cX10_draw 159 = .ok (.iload_n 1, 1) := by decide +kernel
theorem dX10_draw_160 : decode cX10_draw 160 = .ok (.aload_n 0, 1) := by decide +kernel
theorem dX10_draw_161 : decode cX10_draw 161 = .ok (.getfield 51, 3) := by decide +kernel
theorem dX10_draw_164 : decode cX10_draw 164 = .ok (.iload_n 1, 1) := by decide +kernel
theorem dX10_draw_165 : decode cX10_draw 165 = .ok (.laload, 1) := by decide +kernel
theorem dX10_draw_166 : decode cX10_draw 166 = .ok (.lastore, 1) := by decide +kernel
theorem dX10_draw_167 : decode cX10_draw 167 = .ok (.iinc 1 1, 3) := by decide +kernel
theorem dX10_draw_170 : decode cX10_draw 170 = .ok (.goto (-23), 3) := by decide +kernel
theorem dX10_draw_173 : decode cX10_draw 173 = .ok (.return_, 1) := by decide +kernel
theorem dX10_likely_0 : decode cX10_likely 0 = .ok (.aload_n 0, 1) := by decide +kernel
theorem dX10_likely_1 : decode cX10_likely 1 = .ok (.iload_n 1, 1) := by decide +kernel
theorem dX10_likely_2 : decode cX10_likely 2 = .ok (.invokevirtual 90, 3) := by decide +kernel
theorem dX10_likely_5 : decode cX10_likely 5 = .ok (.ifCond .eq 15, 3) := by decide +kernel
theorem dX10_likely_8 : decode cX10_likely 8 = .ok (.iload_n 2, 1) := by decide +kernel
theorem dX10_likely_9 : decode cX10_likely 9 = .ok (.i2l, 1) := by decide +kernel
theorem dX10_likely_10 : decode cX10_likely 10 = .ok (.lconst 0, 1) := by decide +kernel
theorem dX10_likely_11 : decode cX10_likely 11 = .ok (.ldc2_w 169, 3) := by decide +kernel
theorem dX10_likely_14 : decode cX10_likely 14 = .ok (.invokestatic 60, 3) := by decide +kernel
theorem dX10_likely_17 : decode cX10_likely 17 = .ok (.ifCond .ne 7, 3) := by decide +kernel
theorem dX10_likely_20 : decode cX10_likely 20 = .ok (.ldc2_w 171, 3) := by decide +kernel
theorem dX10_likely_23 : decode cX10_likely 23 = .ok (.lreturn, 1) := by decide +kernel
theorem dX10_likely_24 : decode cX10_likely 24 = .ok (.iconst 0, 1) := by decide +kernel
theorem dX10_likely_25 : decode cX10_likely 25 = .ok (.istore 4, 2) := by decide +kernel
theorem dX10_likely_27 : decode cX10_likely 27 = .ok (.iload 4, 2) := by decide +kernel
theorem dX10_likely_29 : decode cX10_likely 29 = .ok (.aload_n 0, 1) := by decide +kernel
theorem dX10_likely_30 : decode cX10_likely 30 = .ok (.invokevirtual 105, 3) := by decide +kernel
theorem dX10_likely_33 : decode cX10_likely 33 = .ok (.if_icmp .gt 27, 3) := by decide +kernel
theorem dX10_likely_36 : decode cX10_likely 36 = .ok (.aload_n 0, 1) := by decide +kernel
theorem dX10_likely_37 : decode cX10_likely 37 = .ok (.getfield 47, 3) := by decide +kernel
theorem dX10_likely_40 : decode cX10_likely 40 = .ok (.iload 4, 2) := by decide +kernel
theorem dX10_likely_42 : decode cX10_likely 42 = .ok (.iload 4, 2) := by decide +kernel
theorem dX10_likely_44 : decode cX10_likely 44 = .ok (.iload_n 1, 1) := by decide +kernel
theorem dX10_likely_45 : decode cX10_likely 45 = .ok (.if_icmp .ne 7, 3) := by decide +kernel
theorem dX10_likely_48 : decode cX10_likely 48 = .ok (.lconst 1, 1) := by decide +kernel
theorem dX10_likely_49 : decode cX10_likely 49 = .ok (.goto 4, 3) := by decide +kernel
theorem dX10_likely_52 : decode cX10_likely 52 = .ok (.lconst 0, 1) := by decide +kernel
theorem dX10_likely_53 : decode cX10_likely 53 = .ok (.lastore, 1) := by decide +kernel
theorem dX10_likely_54 : decode cX10_likely 54 = .ok (.iinc 4 1, 3) := by decide +kernel
theorem dX10_likely_57 : decode cX10_likely 57 = .ok (.goto (-30), 3) := by decide +kernel
theorem dX10_likely_60 : decode cX10_likely 60 = .ok (.lconst 1, 1) := by decide +kernel
theorem dX10_likely_61 : decode cX10_likely 61 = .ok (.lstore 4, 2) := by decide +kernel
theorem dX10_likely_63 : decode cX10_likely 63 = .ok (.iconst 0, 1) := by decide +kernel
theorem dX10_likely_64 : decode cX10_likely 64 = .ok (.istore 6, 2) := by decide +kernel
theorem dX10_likely_66 : decode cX10_likely 66 = .ok (.iload 6, 2) := by decide +kernel
theorem dX10_likely_68 : decode cX10_likely 68 = .ok (.iload_n 2, 1) := by decide +kernel
theorem dX10_likely_69 : decode cX10_likely 69 = .ok (.if_icmp .ge 21, 3) := by decide +kernel
theorem dX10_likely_72 : decode cX10_likely 72 = .ok (.aload_n 0, 1) := by decide +kernel
theorem dX10_likely_73 : decode cX10_likely 73 = .ok (.invokevirtual 173, 3) := by decide +kernel
theorem dX10_likely_76 : decode cX10_likely 76 = .ok (.lload 4, 2) := by decide +kernel
theorem dX10_likely_78 : decode cX10_likely 78 = .ok (.ldc2_w 167, 3) := by decide +kernel
theorem dX10_likely_81 : decode cX10_likely 81 = .ok (.lmul, 1) := by decide +kernel
theorem dX10_likely_82 : decode cX10_likely 82 = .ok (.lstore 4, 2) := by decide +kernel
theorem dX10_likely_84 : decode cX10_likely 84 = .ok (.iinc 6 1, 3) := by decide +kernel
theorem dX10_likely_87 : decode cX10_likely 87 = .ok (.goto (-21), 3) := by decide +kernel
theorem dX10_likely_90 : decode cX10_likely 90 = .ok (.lconst 0, 1) := by decide +kernel
theorem dX10_likely_91 : decode cX10_likely 91 = .ok (.lstore 6, 2) := by decide +kernel
theorem dX10_likely_93 : decode cX10_likely 93 = .ok (.iconst 0, 1) := by decide +kernel
theorem dX10_likely_94 : decode cX10_likely 94 = .ok (.istore 8, 2) := by decide +kernel
theorem dX10_likely_96 : decode cX10_likely 96 = .ok (.iload 8, 2) := by decide +kernel
theorem dX10_likely_98 : decode cX10_likely 98 = .ok (.aload_n 0, 1) := by decide +kernel
theorem dX10_likely_99 : decode cX10_likely 99 = .ok (.invokevirtual 105, 3) := by decide +kernel
theorem dX10_likely_102 : decode cX10_likely 102 = .ok (.if_icmp .gt 46, 3) := by decide +kernel
theorem dX10_likely_105 : decode cX10_likely 105 = .ok (.lload 6, 2) := by decide +kernel
theorem dX10_likely_107 : decode cX10_likely 107 = .ok (.aload_n 0, 1) := by decide +kernel
theorem dX10_likely_108 : decode cX10_likely 108 = .ok (.getfield 47, 3) := by decide +kernel
theorem dX10_likely_111 : decode cX10_likely 111 = .ok (.iload 8, 2) := by decide +kernel
theorem dX10_likely_113 : decode cX10_likely 113 = .ok (.laload, 1) := by decide +kernel
theorem dX10_likely_114 : decode cX10_likely 114 = .ok (.lconst 0, 1) := by decide +kernel
theorem dX10_likely_115 : decode cX10_likely 115 = .ok (.lcmp, 1) := by decide +kernel
theorem dX10_likely_116 : decode cX10_likely 116 = .ok (.ifCond .le 22, 3) := by decide +kernel
theorem dX10_likely_119 : decode cX10_likely 119 = .ok (.aload_n 0, 1) := by decide +kernel
theorem dX10_likely_120 : decode cX10_likely 120 = .ok (.iload 8, 2) := by decide +kernel
theorem dX10_likely_122 : decode cX10_likely 122 = .ok (.invokevirtual 133, 3) := by decide +kernel
theorem dX10_likely_125 : decode cX10_likely 125 = .ok (.ifCond .eq 13, 3) := by decide +kernel
theorem dX10_likely_128 : decode cX10_likely 128 = .ok (.aload_n 0, 1) := by decide +kernel
theorem dX10_likely_129 : decode cX10_likely 129 = .ok (.getfield 47, 3) := by decide +kernel
theorem dX10_likely_132 : decode cX10_likely 132 = .ok (.iload 8, 2) := by decide +kernel
theorem dX10_likely_134 : decode cX10_likely 134 = .ok (.laload, 1) := by decide +kernel
theorem dX10_likely_135 : decode cX10_likely 135 = .ok (.goto 4, 3) := by decide +kernel
theorem dX10_likely_138 : decode cX10_likely 138 = .ok (.lconst 0, 1) := by decide +kernel
theorem dX10_likely_139 : decode cX10_likely 139 = .ok (.ladd, 1) := by decide +kernel
theorem dX10_likely_140 : decode cX10_likely 140 = .ok (.lstore 6, 2) := by decide +kernel
theorem dX10_likely_142 : decode cX10_likely 142 = .ok (.iinc 8 1, 3) := by decide +kernel
theorem dX10_likely_145 : decode cX10_likely 145 = .ok (.goto (-49), 3) := by decide +kernel
theorem dX10_likely_148 : decode cX10_likely 148 = .ok (.lload 6, 2) := by decide +kernel
theorem dX10_likely_150 : decode cX10_likely 150 = .ok (.lstore 8, 2) := by decide +kernel
theorem dX10_likely_152 : decode cX10_likely 152 = .ok (.lload 4, 2) := by decide +kernel
theorem dX10_likely_154 : decode cX10_likely 154 = .ok (.lstore 10, 2) := by decide +kernel
theorem dX10_likely_156 : decode cX10_likely 156 = .ok (.lload 10, 2) := by decide +kernel
theorem dX10_likely_158 : decode cX10_likely 158 = .ok (.lconst 0, 1) := by decide +kernel
theorem dX10_likely_159 : decode cX10_likely 159 = .ok (.lcmp, 1) := by decide +kernel
theorem dX10_likely_160 : decode cX10_likely 160 = .ok (.ifCond .eq 21, 3) := by decide +kernel
theorem dX10_likely_163 : decode cX10_likely 163 = .ok (.lload 8, 2) := by decide +kernel
theorem dX10_likely_165 : decode cX10_likely 165 = .ok (.lload 10, 2) := by decide +kernel
theorem dX10_likely_167 : decode cX10_likely 167 = .ok (.lrem, 1) := by decide +kernel
theorem dX10_likely_168 : decode cX10_likely 168 = .ok (.lstore 12, 2) := by decide +kernel
theorem dX10_likely_170 : decode cX10_likely 170 = .ok (.lload 10, 2) := by decide +kernel
theorem dX10_likely_172 : decode cX10_likely 172 = .ok (.lstore 8, 2) := by decide +kernel
theorem dX10_likely_174 : decode cX10_likely 174 = .ok (.lload 12, 2) := by decide +kernel
theorem dX10_likely_176 : decode cX10_likely 176 = .ok (.lstore 10, 2) := by decide +kernel
theorem dX10_likely_178 : decode cX10_likely 178 = .ok (.goto (-22), 3) := by decide +kernel
theorem dX10_likely_181 : decode cX10_likely 181 = .ok (.iload_n 3, 1) := by decide +kernel
theorem dX10_likely_182 : decode cX10_likely 182 = .ok (.ifCond .eq 11, 3) := by decide +kernel
theorem dX10_likely_185 : decode cX10_likely 185 = .ok (.lload 6, 2) := by decide +kernel
theorem dX10_likely_187 : decode cX10_likely 187 = .ok (.lload 8, 2) := by decide +kernel
theorem dX10_likely_189 : decode cX10_likely 189 = .ok (.ldiv, 1) := by decide +kernel
theorem dX10_likely_190 : decode cX10_likely 190 = .ok (.goto 8, 3) := by decide +kernel
theorem dX10_likely_193 : decode cX10_likely 193 = .ok (.lload 4, 2) := by decide +kernel
theorem dX10_likely_195 : decode cX10_likely 195 = .ok (.lload 8, 2) := by decide +kernel
theorem dX10_likely_197 : decode cX10_likely 197 = .ok (.ldiv, 1) := by decide +kernel
theorem dX10_likely_198 : decode cX10_likely 198 = .ok (.lreturn, 1) := by decide +kernel
theorem dX10_week_0 : decode cX10_week 0 = .ok (.aload_n 0, 1) := by decide +kernel
theorem dX10_week_1 : decode cX10_week 1 = .ok (.iload_n 1, 1) := by decide +kernel
theorem dX10_week_2 : decode cX10_week 2 = .ok (.invokevirtual 90, 3) := by decide +kernel
theorem dX10_week_5 : decode cX10_week 5 = .ok (.ifCond .ne 6, 3) := by decide +kernel
theorem dX10_week_8 : decode cX10_week 8 = .ok (.bipush (-2), 2) := by decide +kernel
theorem dX10_week_10 : decode cX10_week 10 = .ok (.ireturn, 1) := by decide +kernel
theorem dX10_week_11 : decode cX10_week 11 = .ok (.aload_n 0, 1) := by decide +kernel
theorem dX10_week_12 : decode cX10_week 12 = .ok (.getfield 66, 3) := by decide +kernel
theorem dX10_week_15 : decode cX10_week 15 = .ok (.bipush 8, 2) := by decide +kernel
theorem dX10_week_17 : decode cX10_week 17 = .ok (.if_icmp .ne 6, 3) := by decide +kernel
theorem dX10_week_20 : decode cX10_week 20 = .ok (.bipush (-4), 2) := by decide +kernel
theorem dX10_week_22 : decode cX10_week 22 = .ok (.ireturn, 1) := by decide +kernel
theorem dX10_week_23 : decode cX10_week 23 = .ok (.aload_n 0, 1) := by decide +kernel
theorem dX10_week_24 : decode cX10_week 24 = .ok (.getfield 54, 3) := by decide +kernel
theorem dX10_week_27 : decode cX10_week 27 = .ok (.aload_n 0, 1) := by decide +kernel
theorem dX10_week_28 : decode cX10_week 28 = .ok (.getfield 66, 3) := by decide +kernel
theorem dX10_week_31 : decode cX10_week 31 = .ok (.iload_n 1, 1) := by decide +kernel
theorem dX10_week_32 : decode cX10_week 32 = .ok (.iastore, 1) := by decide +kernel
theorem dX10_week_33 : decode cX10_week 33 = .ok (.aload_n 0, 1) := by decide +kernel
theorem dX10_week_34 : decode cX10_week 34 = .ok (.dup, 1) := by decide +kernel
theorem dX10_week_35 : decode cX10_week 35 = .ok (.getfield 66, 3) := by decide +kernel
theorem dX10_week_38 : decode cX10_week 38 = .ok (.iconst 1, 1) := by decide +kernel
theorem dX10_week_39 : decode cX10_week 39 = .ok (.iadd, 1) := by decide +kernel
theorem dX10_week_40 : decode cX10_week 40 = .ok (.putfield 66, 3) := by decide +kernel
theorem dX10_week_43 : decode cX10_week 43 = .ok (.aload_n 0, 1) := by decide +kernel
theorem dX10_week_44 : decode cX10_week 44 = .ok (.getfield 66, 3) := by decide +kernel
theorem dX10_week_47 : decode cX10_week 47 = .ok (.ireturn, 1) := by decide +kernel
theorem dX10_wipe_0 : decode cX10_wipe 0 = .ok (.aload_n 0, 1) := by decide +kernel
theorem dX10_wipe_1 : decode cX10_wipe 1 = .ok (.getfield 66, 3) := by decide +kernel
theorem dX10_wipe_4 : decode cX10_wipe 4 = .ok (.istore_n 1, 1) := by decide +kernel
theorem dX10_wipe_5 : decode cX10_wipe 5 = .ok (.aload_n 0, 1) := by decide +kernel
theorem dX10_wipe_6 : decode cX10_wipe 6 = .ok (.iconst 0, 1) := by decide +kernel
theorem dX10_wipe_7 : decode cX10_wipe 7 = .ok (.putfield 66, 3) := by decide +kernel
theorem dX10_wipe_10 : decode cX10_wipe 10 = .ok (.iload_n 1, 1) := by decide +kernel
theorem dX10_wipe_11 : decode cX10_wipe 11 = .ok (.ireturn, 1) := by decide +kernel
theorem dX10_maybeOf_0 : decode cX10_maybeOf 0 = .ok (.iconst 0, 1) := by decide +kernel
theorem dX10_maybeOf_1 : decode cX10_maybeOf 1 = .ok (.istore_n 2, 1) := by decide +kernel
theorem dX10_maybeOf_2 : decode cX10_maybeOf 2 = .ok (.iconst 0, 1) := by decide +kernel
theorem dX10_maybeOf_3 : decode cX10_maybeOf 3 = .ok (.istore_n 3, 1) := by decide +kernel
theorem dX10_maybeOf_4 : decode cX10_maybeOf 4 = .ok (.iload_n 3, 1) := by decide +kernel
theorem dX10_maybeOf_5 : decode cX10_maybeOf 5 = .ok (.iconst 4, 1) := by decide +kernel
theorem dX10_maybeOf_6 : decode cX10_maybeOf 6 = .ok (.if_icmp .ge 88, 3) := by decide +kernel
theorem dX10_maybeOf_9 : decode cX10_maybeOf 9 = .ok (.iconst 1, 1) := by decide +kernel
theorem dX10_maybeOf_10 : decode cX10_maybeOf 10 = .ok (.istore 4, 2) := by decide +kernel
theorem dX10_maybeOf_12 : decode cX10_maybeOf 12 = .ok (.iconst 0, 1) := by decide +kernel
theorem dX10_maybeOf_13 : decode cX10_maybeOf 13 = .ok (.istore 5, 2) := by decide +kernel
theorem dX10_maybeOf_15 : decode cX10_maybeOf 15 = .ok (.iload 5, 2) := by decide +kernel
theorem dX10_maybeOf_17 : decode cX10_maybeOf 17 = .ok (.iconst 1, 1) := by decide +kernel
theorem dX10_maybeOf_18 : decode cX10_maybeOf 18 = .ok (.iadd, 1) := by decide +kernel
theorem dX10_maybeOf_19 : decode cX10_maybeOf 19 = .ok (.aload_n 0, 1) := by decide +kernel
theorem dX10_maybeOf_20 : decode cX10_maybeOf 20 = .ok (.getfield 66, 3) := by decide +kernel
theorem dX10_maybeOf_23 : decode cX10_maybeOf 23 = .ok (.if_icmp .ge 50, 3) := by decide +kernel
theorem dX10_maybeOf_26 : decode cX10_maybeOf 26 = .ok (.iload 4, 2) := by decide +kernel
theorem dX10_maybeOf_28 : decode cX10_maybeOf 28 = .ok (.ifCond .eq 36, 3) := by decide +kernel
theorem dX10_maybeOf_31 : decode cX10_maybeOf 31 = .ok (.aload_n 0, 1) := by decide +kernel
theorem dX10_maybeOf_32 : decode cX10_maybeOf 32 = .ok (.iload_n 1, 1) := by decide +kernel
theorem dX10_maybeOf_33 : decode cX10_maybeOf 33 = .ok (.iload_n 3, 1) := by decide +kernel
theorem dX10_maybeOf_34 : decode cX10_maybeOf 34 = .ok (.aload_n 0, 1) := by decide +kernel
theorem dX10_maybeOf_35 : decode cX10_maybeOf 35 = .ok (.getfield 54, 3) := by decide +kernel
theorem dX10_maybeOf_38 : decode cX10_maybeOf 38 = .ok (.iload 5, 2) := by decide +kernel
theorem dX10_maybeOf_40 : decode cX10_maybeOf 40 = .ok (.iaload, 1) := by decide +kernel
theorem dX10_maybeOf_41 : decode cX10_maybeOf 41 = .ok (.invokevirtual 83, 3) := by decide +kernel
theorem dX10_maybeOf_44 : decode cX10_maybeOf 44 = .ok (.aload_n 0, 1) := by decide +kernel
theorem dX10_maybeOf_45 : decode cX10_maybeOf 45 = .ok (.getfield 54, 3) := by decide +kernel
theorem dX10_maybeOf_48 : decode cX10_maybeOf 48 = .ok (.iload 5, 2) := by decide +kernel
theorem dX10_maybeOf_50 : decode cX10_maybeOf 50 = .ok (.iconst 1, 1) := by decide +kernel
theorem dX10_maybeOf_51 : decode cX10_maybeOf 51 = .ok (.iadd, 1) := by decide +kernel
theorem dX10_maybeOf_52 : decode cX10_maybeOf 52 = .ok (.iaload, 1) := by decide +kernel
theorem dX10_maybeOf_53 : decode cX10_maybeOf 53 = .ok (.iload_n 1, 1) := by decide +kernel
theorem dX10_maybeOf_54 : decode cX10_maybeOf 54 = .ok (.ishr, 1) := by decide +kernel
theorem dX10_maybeOf_55 : decode cX10_maybeOf 55 = .ok (.iconst 1, 1) := by decide +kernel
theorem dX10_maybeOf_56 : decode cX10_maybeOf 56 = .ok (.iand, 1) := by decide +kernel
theorem dX10_maybeOf_57 : decode cX10_maybeOf 57 = .ok (.if_icmp .ne 7, 3) := by decide +kernel
theorem dX10_maybeOf_60 : decode cX10_maybeOf 60 = .ok (.iconst 1, 1) := by decide +kernel
theorem dX10_maybeOf_61 : decode cX10_maybeOf 61 = .ok (.goto 4, 3) := by decide +kernel
theorem dX10_maybeOf_64 : decode cX10_maybeOf 64 = .ok (.iconst 0, 1) := by decide +kernel
theorem dX10_maybeOf_65 : decode cX10_maybeOf 65 = .ok (.istore 4, 2) := by decide +kernel
theorem dX10_maybeOf_67 : decode cX10_maybeOf 67 = .ok (.iinc 5 1, 3) := by decide +kernel
theorem dX10_maybeOf_70 : decode cX10_maybeOf 70 = .ok (.goto (-55), 3) := by decide +kernel
theorem dX10_maybeOf_73 : decode cX10_maybeOf 73 = .ok (.iload_n 2, 1) := by decide +kernel
theorem dX10_maybeOf_74 : decode cX10_maybeOf 74 = .ok (.iload 4, 2) := by decide +kernel
theorem dX10_maybeOf_76 : decode cX10_maybeOf 76 = .ok (.ifCond .eq 9, 3) := by decide +kernel
theorem dX10_maybeOf_79 : decode cX10_maybeOf 79 = .ok (.iconst 1, 1) := by decide +kernel
theorem dX10_maybeOf_80 : decode cX10_maybeOf 80 = .ok (.iload_n 3, 1) := by decide +kernel
theorem dX10_maybeOf_81 : decode cX10_maybeOf 81 = .ok (.ishl, 1) := by decide +kernel
theorem dX10_maybeOf_82 : decode cX10_maybeOf 82 = .ok (.goto 4, 3) := by decide +kernel
theorem dX10_maybeOf_85 : decode cX10_maybeOf 85 = .ok (.iconst 0, 1) := by decide +kernel
theorem dX10_maybeOf_86 : decode cX10_maybeOf 86 = .ok (.ior, 1) := by decide +kernel
theorem dX10_maybeOf_87 : decode cX10_maybeOf 87 = .ok (.istore_n 2, 1) := by decide +kernel
theorem dX10_maybeOf_88 : decode cX10_maybeOf 88 = .ok (.iinc 3 1, 3) := by decide +kernel
theorem dX10_maybeOf_91 : decode cX10_maybeOf 91 = .ok (.goto (-87), 3) := by decide +kernel
theorem dX10_maybeOf_94 : decode cX10_maybeOf 94 = .ok (.iload_n 2, 1) := by decide +kernel
theorem dX10_maybeOf_95 : decode cX10_maybeOf 95 = .ok (.ireturn, 1) := by decide +kernel
theorem dX10_maybe_0 : decode cX10_maybe 0 = .ok (.aload_n 0, 1) := by decide +kernel
theorem dX10_maybe_1 : decode cX10_maybe 1 = .ok (.iload_n 1, 1) := by decide +kernel
theorem dX10_maybe_2 : decode cX10_maybe 2 = .ok (.invokevirtual 69, 3) := by decide +kernel
theorem dX10_maybe_5 : decode cX10_maybe 5 = .ok (.ifCond .eq 11, 3) := by decide +kernel
theorem dX10_maybe_8 : decode cX10_maybe 8 = .ok (.aload_n 0, 1) := by decide +kernel
theorem dX10_maybe_9 : decode cX10_maybe 9 = .ok (.iload_n 1, 1) := by decide +kernel
theorem dX10_maybe_10 : decode cX10_maybe 10 = .ok (.invokevirtual 176, 3) := by decide +kernel
theorem dX10_maybe_13 : decode cX10_maybe 13 = .ok (.goto 4, 3) := by decide +kernel
theorem dX10_maybe_16 : decode cX10_maybe 16 = .ok (.iconst (-1), 1) := by decide +kernel
theorem dX10_maybe_17 : decode cX10_maybe 17 = .ok (.ireturn, 1) := by decide +kernel
theorem dX10_ways_0 : decode cX10_ways 0 = .ok (.lconst 1, 1) := by decide +kernel
theorem dX10_ways_1 : decode cX10_ways 1 = .ok (.lstore_n 1, 1) := by decide +kernel
theorem dX10_ways_2 : decode cX10_ways 2 = .ok (.iconst 0, 1) := by decide +kernel
theorem dX10_ways_3 : decode cX10_ways 3 = .ok (.istore_n 3, 1) := by decide +kernel
theorem dX10_ways_4 : decode cX10_ways 4 = .ok (.iload_n 3, 1) := by decide +kernel
theorem dX10_ways_5 : decode cX10_ways 5 = .ok (.aload_n 0, 1) := by decide +kernel
theorem dX10_ways_6 : decode cX10_ways 6 = .ok (.getfield 7, 3) := by decide +kernel
theorem dX10_ways_9 : decode cX10_ways 9 = .ok (.if_icmp .ge 21, 3) := by decide +kernel
theorem dX10_ways_12 : decode cX10_ways 12 = .ok (.lload_n 1, 1) := by decide +kernel
theorem dX10_ways_13 : decode cX10_ways 13 = .ok (.aload_n 0, 1) := by decide +kernel
theorem dX10_ways_14 : decode cX10_ways 14 = .ok (.iload_n 3, 1) := by decide +kernel
theorem dX10_ways_15 : decode cX10_ways 15 = .ok (.invokevirtual 176, 3) := by decide +kernel
theorem dX10_ways_18 : decode cX10_ways 18 = .ok (.invokestatic 161, 3) := by decide +kernel
theorem dX10_ways_21 : decode cX10_ways 21 = .ok (.i2l, 1) := by decide +kernel
theorem dX10_ways_22 : decode cX10_ways 22 = .ok (.lmul, 1) := by decide +kernel
theorem dX10_ways_23 : decode cX10_ways 23 = .ok (.lstore_n 1, 1) := by decide +kernel
theorem dX10_ways_24 : decode cX10_ways 24 = .ok (.iinc 3 1, 3) := by decide +kernel
theorem dX10_ways_27 : decode cX10_ways 27 = .ok (.goto (-23), 3) := by decide +kernel
theorem dX10_ways_30 : decode cX10_ways 30 = .ok (.lload_n 1, 1) := by decide +kernel
theorem dX10_ways_31 : decode cX10_ways 31 = .ok (.lreturn, 1) := by decide +kernel
theorem dX10_take_0 : decode cX10_take 0 = .ok (.aload_n 0, 1) := by decide +kernel
theorem dX10_take_1 : decode cX10_take 1 = .ok (.invokevirtual 179, 3) := by decide +kernel
theorem dX10_take_4 : decode cX10_take 4 = .ok (.lconst 0, 1) := by decide +kernel
theorem dX10_take_5 : decode cX10_take 5 = .ok (.lcmp, 1) := by decide +kernel
theorem dX10_take_6 : decode cX10_take 6 = .ok (.ifCond .ne 6, 3) := by decide +kernel
theorem dX10_take_9 : decode cX10_take 9 = .ok (.bipush (-3), 2) := by decide +kernel
theorem dX10_take_11 : decode cX10_take 11 = .ok (.ireturn, 1) := by decide +kernel
theorem dX10_take_12 : decode cX10_take 12 = .ok (.iconst 0, 1) := by decide +kernel
theorem dX10_take_13 : decode cX10_take 13 = .ok (.istore_n 1, 1) := by decide +kernel
theorem dX10_take_14 : decode cX10_take 14 = .ok (.iconst 0, 1) := by decide +kernel
theorem dX10_take_15 : decode cX10_take 15 = .ok (.istore_n 2, 1) := by decide +kernel
theorem dX10_take_16 : decode cX10_take 16 = .ok (.iload_n 2, 1) := by decide +kernel
theorem dX10_take_17 : decode cX10_take 17 = .ok (.aload_n 0, 1) := by decide +kernel
theorem dX10_take_18 : decode cX10_take 18 = .ok (.getfield 7, 3) := by decide +kernel
theorem dX10_take_21 : decode cX10_take 21 = .ok (.if_icmp .ge 60, 3) := by decide +kernel
theorem dX10_take_24 : decode cX10_take 24 = .ok (.aload_n 0, 1) := by decide +kernel
theorem dX10_take_25 : decode cX10_take 25 = .ok (.iload_n 2, 1) := by decide +kernel
theorem dX10_take_26 : decode cX10_take 26 = .ok (.invokevirtual 176, 3) := by decide +kernel
theorem dX10_take_29 : decode cX10_take 29 = .ok (.istore_n 3, 1) := by decide +kernel
theorem dX10_take_30 : decode cX10_take 30 = .ok (.iconst 0, 1) := by decide +kernel
theorem dX10_take_31 : decode cX10_take 31 = .ok (.istore 4, 2) := by decide +kernel
theorem dX10_take_33 : decode cX10_take 33 = .ok (.iload_n 3, 1) := by decide +kernel
theorem dX10_take_34 : decode cX10_take 34 = .ok (.iload 4, 2) := by decide +kernel
theorem dX10_take_36 : decode cX10_take 36 = .ok (.ishr, 1) := by decide +kernel
theorem dX10_take_37 : decode cX10_take 37 = .ok (.iconst 1, 1) := by decide +kernel
theorem dX10_take_38 : decode cX10_take 38 = .ok (.iand, 1) := by decide +kernel
theorem dX10_take_39 : decode cX10_take 39 = .ok (.ifCond .ne 9, 3) := by decide +kernel
theorem dX10_take_42 : decode cX10_take 42 = .ok (.iinc 4 1, 3) := by decide +kernel
theorem dX10_take_45 : decode cX10_take 45 = .ok (.goto (-12), 3) := by decide +kernel
theorem dX10_take_48 : decode cX10_take 48 = .ok (.iload_n 1, 1) := by decide +kernel
theorem dX10_take_49 : decode cX10_take 49 = .ok (.aload_n 0, 1) := by decide +kernel
theorem dX10_take_50 : decode cX10_take 50 = .ok (.getfield 17, 3) := by decide +kernel
theorem dX10_take_53 : decode cX10_take 53 = .ok (.iload_n 2, 1) := by decide +kernel
theorem dX10_take_54 : decode cX10_take 54 = .ok (.iaload, 1) := by decide +kernel
theorem dX10_take_55 : decode cX10_take 55 = .ok (.iload 4, 2) := by decide +kernel
theorem dX10_take_57 : decode cX10_take 57 = .ok (.if_icmp .ne 7, 3) := by decide +kernel
theorem dX10_take_60 : decode cX10_take 60 = .ok (.iconst 0, 1) := by decide +kernel
theorem dX10_take_61 : decode cX10_take 61 = .ok (.goto 4, 3) := by decide +kernel
theorem dX10_take_64 : decode cX10_take 64 = .ok (.iconst 1, 1) := by decide +kernel
theorem dX10_take_65 : decode cX10_take 65 = .ok (.iadd, 1) := by decide +kernel
theorem dX10_take_66 : decode cX10_take 66 = .ok (.istore_n 1, 1) := by decide +kernel
theorem dX10_take_67 : decode cX10_take 67 = .ok (.aload_n 0, 1) := by decide +kernel
theorem dX10_take_68 : decode cX10_take 68 = .ok (.getfield 17, 3) := by decide +kernel
theorem dX10_take_71 : decode cX10_take 71 = .ok (.iload_n 2, 1) := by decide +kernel
theorem dX10_take_72 : decode cX10_take 72 = .ok (.iload 4, 2) := by decide +kernel
theorem dX10_take_74 : decode cX10_take 74 = .ok (.iastore, 1) := by decide +kernel
theorem dX10_take_75 : decode cX10_take 75 = .ok (.iinc 2 1, 3) := by decide +kernel
theorem dX10_take_78 : decode cX10_take 78 = .ok (.goto (-62), 3) := by decide +kernel
theorem dX10_take_81 : decode cX10_take 81 = .ok (.iload_n 1, 1) := by decide +kernel
theorem dX10_take_82 : decode cX10_take 82 = .ok (.ireturn, 1) := by decide +kernel
theorem dX10_askedOf_0 : decode cX10_askedOf 0 = .ok (.iload_n 1, 1) := by decide +kernel
theorem dX10_askedOf_1 : decode cX10_askedOf 1 = .ok (.istore_n 3, 1) := by decide +kernel
theorem dX10_askedOf_2 : decode cX10_askedOf 2 = .ok (.iconst 0, 1) := by decide +kernel
theorem dX10_askedOf_3 : decode cX10_askedOf 3 = .ok (.istore 4, 2) := by decide +kernel
theorem dX10_askedOf_5 : decode cX10_askedOf 5 = .ok (.iconst 0, 1) := by decide +kernel
theorem dX10_askedOf_6 : decode cX10_askedOf 6 = .ok (.istore 5, 2) := by decide +kernel
theorem dX10_askedOf_8 : decode cX10_askedOf 8 = .ok (.iload 5, 2) := by decide +kernel
theorem dX10_askedOf_10 : decode cX10_askedOf 10 = .ok (.iload_n 2, 1) := by decide +kernel
theorem dX10_askedOf_11 : decode cX10_askedOf 11 = .ok (.if_icmp .ge 34, 3) := by decide +kernel
theorem dX10_askedOf_14 : decode cX10_askedOf 14 = .ok (.aload_n 0, 1) := by decide +kernel
theorem dX10_askedOf_15 : decode cX10_askedOf 15 = .ok (.getfield 23, 3) := by decide +kernel
theorem dX10_askedOf_18 : decode cX10_askedOf 18 = .ok (.iload_n 3, 1) := by decide +kernel
theorem dX10_askedOf_19 : decode cX10_askedOf 19 = .ok (.iaload, 1) := by decide +kernel
theorem dX10_askedOf_20 : decode cX10_askedOf 20 = .ok (.istore 6, 2) := by decide +kernel
theorem dX10_askedOf_22 : decode cX10_askedOf 22 = .ok (.iload 4, 2) := by decide +kernel
theorem dX10_askedOf_24 : decode cX10_askedOf 24 = .ok (.iload 6, 2) := by decide +kernel
theorem dX10_askedOf_26 : decode cX10_askedOf 26 = .ok (.iload_n 3, 1) := by decide +kernel
theorem dX10_askedOf_27 : decode cX10_askedOf 27 = .ok (.iconst (-1), 1) := by decide +kernel
theorem dX10_askedOf_28 : decode cX10_askedOf 28 = .ok (.ixor, 1) := by decide +kernel
theorem dX10_askedOf_29 : decode cX10_askedOf 29 = .ok (.iand, 1) := by decide +kernel
theorem dX10_askedOf_30 : decode cX10_askedOf 30 = .ok (.invokestatic 161, 3) := by decide +kernel
theorem dX10_askedOf_33 : decode cX10_askedOf 33 = .ok (.iadd, 1) := by decide +kernel
theorem dX10_askedOf_34 : decode cX10_askedOf 34 = .ok (.istore 4, 2) := by decide +kernel
theorem dX10_askedOf_36 : decode cX10_askedOf 36 = .ok (.iload 6, 2) := by decide +kernel
theorem dX10_askedOf_38 : decode cX10_askedOf 38 = .ok (.istore_n 3, 1) := by decide +kernel
theorem dX10_askedOf_39 : decode cX10_askedOf 39 = .ok (.iinc 5 1, 3) := by decide +kernel
theorem dX10_askedOf_42 : decode cX10_askedOf 42 = .ok (.goto (-34), 3) := by decide +kernel
theorem dX10_askedOf_45 : decode cX10_askedOf 45 = .ok (.iload 4, 2) := by decide +kernel
theorem dX10_askedOf_47 : decode cX10_askedOf 47 = .ok (.ireturn, 1) := by decide +kernel
theorem dX10_asked_0 : decode cX10_asked 0 = .ok (.aload_n 0, 1) := by decide +kernel
theorem dX10_asked_1 : decode cX10_asked 1 = .ok (.iload_n 1, 1) := by decide +kernel
theorem dX10_asked_2 : decode cX10_asked 2 = .ok (.invokevirtual 90, 3) := by decide +kernel
theorem dX10_asked_5 : decode cX10_asked 5 = .ok (.ifCond .eq 22, 3) := by decide +kernel
theorem dX10_asked_8 : decode cX10_asked 8 = .ok (.iload_n 2, 1) := by decide +kernel
theorem dX10_asked_9 : decode cX10_asked 9 = .ok (.invokestatic 97, 3) := by decide +kernel
theorem dX10_asked_12 : decode cX10_asked 12 = .ok (.ifCond .eq 15, 3) := by decide +kernel
theorem dX10_asked_15 : decode cX10_asked 15 = .ok (.iload_n 3, 1) := by decide +kernel
theorem dX10_asked_16 : decode cX10_asked 16 = .ok (.i2l, 1) := by decide +kernel
theorem dX10_asked_17 : decode cX10_asked 17 = .ok (.lconst 1, 1) := by decide +kernel
theorem dX10_asked_18 : decode cX10_asked 18 = .ok (.ldc2_w 183, 3) := by decide +kernel
theorem dX10_asked_21 : decode cX10_asked 21 = .ok (.invokestatic 60, 3) := by decide +kernel
theorem dX10_asked_24 : decode cX10_asked 24 = .ok (.ifCond .ne 6, 3) := by decide +kernel
theorem dX10_asked_27 : decode cX10_asked 27 = .ok (.bipush (-2), 2) := by decide +kernel
theorem dX10_asked_29 : decode cX10_asked 29 = .ok (.ireturn, 1) := by decide +kernel
theorem dX10_asked_30 : decode cX10_asked 30 = .ok (.aload_n 0, 1) := by decide +kernel
theorem dX10_asked_31 : decode cX10_asked 31 = .ok (.iload_n 2, 1) := by decide +kernel
theorem dX10_asked_32 : decode cX10_asked 32 = .ok (.invokevirtual 120, 3) := by decide +kernel
theorem dX10_asked_35 : decode cX10_asked 35 = .ok (.aload_n 0, 1) := by decide +kernel
theorem dX10_asked_36 : decode cX10_asked 36 = .ok (.iload_n 1, 1) := by decide +kernel
theorem dX10_asked_37 : decode cX10_asked 37 = .ok (.iload_n 3, 1) := by decide +kernel
theorem dX10_asked_38 : decode cX10_asked 38 = .ok (.invokevirtual 185, 3) := by decide +kernel
theorem dX10_asked_41 : decode cX10_asked 41 = .ok (.ireturn, 1) := by decide +kernel
theorem dX10_layAsks_0 : decode cX10_layAsks 0 = .ok (.aload_n 0, 1) := by decide +kernel
theorem dX10_layAsks_1 : decode cX10_layAsks 1 = .ok (.iload_n 1, 1) := by decide +kernel
theorem dX10_layAsks_2 : decode cX10_layAsks 2 = .ok (.invokevirtual 120, 3) := by decide +kernel
theorem dX10_layAsks_5 : decode cX10_layAsks 5 = .ok (.iconst 0, 1) := by decide +kernel
theorem dX10_layAsks_6 : decode cX10_layAsks 6 = .ok (.istore_n 3, 1) := by decide +kernel
theorem dX10_layAsks_7 : decode cX10_layAsks 7 = .ok (.iload_n 3, 1) := by decide +kernel
theorem dX10_layAsks_8 : decode cX10_layAsks 8 = .ok (.aload_n 0, 1) := by decide +kernel
theorem dX10_layAsks_9 : decode cX10_layAsks 9 = .ok (.invokevirtual 105, 3) := by decide +kernel
theorem dX10_layAsks_12 : decode cX10_layAsks 12 = .ok (.if_icmp .gt 21, 3) := by decide +kernel
theorem dX10_layAsks_15 : decode cX10_layAsks 15 = .ok (.aload_n 0, 1) := by decide +kernel
theorem dX10_layAsks_16 : decode cX10_layAsks 16 = .ok (.getfield 57, 3) := by decide +kernel
theorem dX10_layAsks_19 : decode cX10_layAsks 19 = .ok (.iload_n 3, 1) := by decide +kernel
theorem dX10_layAsks_20 : decode cX10_layAsks 20 = .ok (.aload_n 0, 1) := by decide +kernel
theorem dX10_layAsks_21 : decode cX10_layAsks 21 = .ok (.iload_n 3, 1) := by decide +kernel
theorem dX10_layAsks_22 : decode cX10_layAsks 22 = .ok (.iload_n 2, 1) := by decide +kernel
theorem dX10_layAsks_23 : decode cX10_layAsks 23 = .ok (.invokevirtual 185, 3) := by decide +kernel
theorem dX10_layAsks_26 : decode cX10_layAsks 26 = .ok (.iastore, 1) := by decide +kernel
theorem dX10_layAsks_27 : decode cX10_layAsks 27 = .ok (.iinc 3 1, 3) := by decide +kernel
theorem dX10_layAsks_30 : decode cX10_layAsks 30 = .ok (.goto (-23), 3) := by decide +kernel
theorem dX10_layAsks_33 : decode cX10_layAsks 33 = .ok (.return_, 1) := by decide +kernel
theorem dX10_gainOf_0 : decode cX10_gainOf 0 = .ok (.iconst 0, 1) := by decide +kernel
theorem dX10_gainOf_1 : decode cX10_gainOf 1 = .ok (.istore 4, 2) := by decide +kernel
theorem dX10_gainOf_3 : decode cX10_gainOf 3 = .ok (.iconst 0, 1) := by decide +kernel
theorem dX10_gainOf_4 : decode cX10_gainOf 4 = .ok (.istore 5, 2) := by decide +kernel
theorem dX10_gainOf_6 : decode cX10_gainOf 6 = .ok (.iload 5, 2) := by decide +kernel
theorem dX10_gainOf_8 : decode cX10_gainOf 8 = .ok (.aload_n 0, 1) := by decide +kernel
theorem dX10_gainOf_9 : decode cX10_gainOf 9 = .ok (.invokevirtual 105, 3) := by decide +kernel
theorem dX10_gainOf_12 : decode cX10_gainOf 12 = .ok (.if_icmp .gt 42, 3) := by decide +kernel
theorem dX10_gainOf_15 : decode cX10_gainOf 15 = .ok (.iload 4, 2) := by decide +kernel
theorem dX10_gainOf_17 : decode cX10_gainOf 17 = .ok (.iload_n 3, 1) := by decide +kernel
theorem dX10_gainOf_18 : decode cX10_gainOf 18 = .ok (.aload_n 0, 1) := by decide +kernel
theorem dX10_gainOf_19 : decode cX10_gainOf 19 = .ok (.getfield 57, 3) := by decide +kernel
theorem dX10_gainOf_22 : decode cX10_gainOf 22 = .ok (.iload 5, 2) := by decide +kernel
theorem dX10_gainOf_24 : decode cX10_gainOf 24 = .ok (.iaload, 1) := by decide +kernel
theorem dX10_gainOf_25 : decode cX10_gainOf 25 = .ok (.iload_n 1, 1) := by decide +kernel
theorem dX10_gainOf_26 : decode cX10_gainOf 26 = .ok (.if_icmp .ge 13, 3) := by decide +kernel
theorem dX10_gainOf_29 : decode cX10_gainOf 29 = .ok (.aload_n 0, 1) := by decide +kernel
theorem dX10_gainOf_30 : decode cX10_gainOf 30 = .ok (.getfield 57, 3) := by decide +kernel
theorem dX10_gainOf_33 : decode cX10_gainOf 33 = .ok (.iload 5, 2) := by decide +kernel
theorem dX10_gainOf_35 : decode cX10_gainOf 35 = .ok (.iaload, 1) := by decide +kernel
theorem dX10_gainOf_36 : decode cX10_gainOf 36 = .ok (.goto 4, 3) := by decide +kernel
theorem dX10_gainOf_39 : decode cX10_gainOf 39 = .ok (.iload_n 1, 1) := by decide +kernel
theorem dX10_gainOf_40 : decode cX10_gainOf 40 = .ok (.imul, 1) := by decide +kernel
theorem dX10_gainOf_41 : decode cX10_gainOf 41 = .ok (.iload_n 2, 1) := by decide +kernel
theorem dX10_gainOf_42 : decode cX10_gainOf 42 = .ok (.iload_n 1, 1) := by decide +kernel
theorem dX10_gainOf_43 : decode cX10_gainOf 43 = .ok (.imul, 1) := by decide +kernel
theorem dX10_gainOf_44 : decode cX10_gainOf 44 = .ok (.isub, 1) := by decide +kernel
theorem dX10_gainOf_45 : decode cX10_gainOf 45 = .ok (.iadd, 1) := by decide +kernel
theorem dX10_gainOf_46 : decode cX10_gainOf 46 = .ok (.istore 4, 2) := by decide +kernel
theorem dX10_gainOf_48 : decode cX10_gainOf 48 = .ok (.iinc 5 1, 3) := by decide +kernel
theorem dX10_gainOf_51 : decode cX10_gainOf 51 = .ok (.goto (-45), 3) := by decide +kernel
theorem dX10_gainOf_54 : decode cX10_gainOf 54 = .ok (.iload 4, 2) := by decide +kernel
theorem dX10_gainOf_56 : decode cX10_gainOf 56 = .ok (.ireturn, 1) := by decide +kernel
theorem dX10_isShop_0 : decode cX10_isShop 0 = .ok (.iload_n 0, 1) := by decide +kernel
theorem dX10_isShop_1 : decode cX10_isShop 1 = .ok (.invokestatic 97, 3) := by decide +kernel
theorem dX10_isShop_4 : decode cX10_isShop 4 = .ok (.ifCond .eq 43, 3) := by decide +kernel
theorem dX10_isShop_7 : decode cX10_isShop 7 = .ok (.iload_n 1, 1) := by decide +kernel
theorem dX10_isShop_8 : decode cX10_isShop 8 = .ok (.i2l, 1) := by decide +kernel
theorem dX10_isShop_9 : decode cX10_isShop 9 = .ok (.lconst 1, 1) := by decide +kernel
theorem dX10_isShop_10 : decode cX10_isShop 10 = .ok (.ldc2_w 183, 3) := by decide +kernel
theorem dX10_isShop_13 : decode cX10_isShop 13 = .ok (.invokestatic 60, 3) := by decide +kernel
theorem dX10_isShop_16 : decode cX10_isShop 16 = .ok (.ifCond .eq 31, 3) := by decide +kernel
theorem dX10_isShop_19 : decode cX10_isShop 19 = .ok (.iload_n 2, 1) := by decide +kernel
theorem dX10_isShop_20 : decode cX10_isShop 20 = .ok (.i2l, 1) := by decide +kernel
theorem dX10_isShop_21 : decode cX10_isShop 21 = .ok (.lconst 1, 1) := by decide +kernel
theorem dX10_isShop_22 : decode cX10_isShop 22 = .ok (.ldc2_w 188, 3) := by decide +kernel
theorem dX10_isShop_25 : decode cX10_isShop 25 = .ok (.invokestatic 60, 3) := by decide +kernel
theorem dX10_isShop_28 : decode cX10_isShop 28 = .ok (.ifCond .eq 19, 3) := by decide +kernel
theorem dX10_isShop_31 : decode cX10_isShop 31 = .ok (.iload_n 3, 1) := by decide +kernel
theorem dX10_isShop_32 : decode cX10_isShop 32 = .ok (.i2l, 1) := by decide +kernel
theorem dX10_isShop_33 : decode cX10_isShop 33 = .ok (.lconst 1, 1) := by decide +kernel
theorem dX10_isShop_34 : decode cX10_isShop 34 = .ok (.ldc2_w 188, 3) := by decide +kernel
theorem dX10_isShop_37 : decode cX10_isShop 37 = .ok (.invokestatic 60, 3) := by decide +kernel
theorem dX10_isShop_40 : decode cX10_isShop 40 = .ok (.ifCond .eq 7, 3) := by decide +kernel
theorem dX10_isShop_43 : decode cX10_isShop 43 = .ok (.iconst 1, 1) := by decide +kernel
theorem dX10_isShop_44 : decode cX10_isShop 44 = .ok (.goto 4, 3) := by decide +kernel
theorem dX10_isShop_47 : decode cX10_isShop 47 = .ok (.iconst 0, 1) := by decide +kernel
theorem dX10_isShop_48 : decode cX10_isShop 48 = .ok (.ireturn, 1) := by decide +kernel
theorem dX10_gain_0 : decode cX10_gain 0 = .ok (.iload_n 1, 1) := by decide +kernel
theorem dX10_gain_1 : decode cX10_gain 1 = .ok (.iload_n 2, 1) := by decide +kernel
theorem dX10_gain_2 : decode cX10_gain 2 = .ok (.iload 4, 2) := by decide +kernel
theorem dX10_gain_4 : decode cX10_gain 4 = .ok (.iload 5, 2) := by decide +kernel
theorem dX10_gain_6 : decode cX10_gain 6 = .ok (.invokestatic 190, 3) := by decide +kernel
theorem dX10_gain_9 : decode cX10_gain 9 = .ok (.ifCond .eq 15, 3) := by decide +kernel
theorem dX10_gain_12 : decode cX10_gain 12 = .ok (.iload_n 3, 1) := by decide +kernel
theorem dX10_gain_13 : decode cX10_gain 13 = .ok (.i2l, 1) := by decide +kernel
theorem dX10_gain_14 : decode cX10_gain 14 = .ok (.lconst 0, 1) := by decide +kernel
theorem dX10_gain_15 : decode cX10_gain 15 = .ok (.ldc2_w 194, 3) := by decide +kernel
theorem dX10_gain_18 : decode cX10_gain 18 = .ok (.invokestatic 60, 3) := by decide +kernel
theorem dX10_gain_21 : decode cX10_gain 21 = .ok (.ifCond .ne 6, 3) := by decide +kernel
theorem dX10_gain_24 : decode cX10_gain 24 = .ok (.bipush (-2), 2) := by decide +kernel
theorem dX10_gain_26 : decode cX10_gain 26 = .ok (.ireturn, 1) := by decide +kernel
theorem dX10_gain_27 : decode cX10_gain 27 = .ok (.aload_n 0, 1) := by decide +kernel
theorem dX10_gain_28 : decode cX10_gain 28 = .ok (.iload_n 1, 1) := by decide +kernel
theorem dX10_gain_29 : decode cX10_gain 29 = .ok (.iload_n 2, 1) := by decide +kernel
theorem dX10_gain_30 : decode cX10_gain 30 = .ok (.invokevirtual 196, 3) := by decide +kernel
theorem dX10_gain_33 : decode cX10_gain 33 = .ok (.aload_n 0, 1) := by decide +kernel
theorem dX10_gain_34 : decode cX10_gain 34 = .ok (.iload_n 3, 1) := by decide +kernel
theorem dX10_gain_35 : decode cX10_gain 35 = .ok (.iload 4, 2) := by decide +kernel
theorem dX10_gain_37 : decode cX10_gain 37 = .ok (.iload 5, 2) := by decide +kernel
theorem dX10_gain_39 : decode cX10_gain 39 = .ok (.invokevirtual 200, 3) := by decide +kernel
theorem dX10_gain_42 : decode cX10_gain 42 = .ok (.ireturn, 1) := by decide +kernel
theorem dX10_order_0 : decode cX10_order 0 = .ok (.iload_n 1, 1) := by decide +kernel
theorem dX10_order_1 : decode cX10_order 1 = .ok (.iload_n 2, 1) := by decide +kernel
theorem dX10_order_2 : decode cX10_order 2 = .ok (.iload_n 3, 1) := by decide +kernel
theorem dX10_order_3 : decode cX10_order 3 = .ok (.iload 4, 2) := by decide +kernel
theorem dX10_order_5 : decode cX10_order 5 = .ok (.invokestatic 190, 3) := by decide +kernel
theorem dX10_order_8 : decode cX10_order 8 = .ok (.ifCond .ne 6, 3) := by decide +kernel
theorem dX10_order_11 : decode cX10_order 11 = .ok (.bipush (-2), 2) := by decide +kernel
theorem dX10_order_13 : decode cX10_order 13 = .ok (.ireturn, 1) := by decide +kernel
theorem dX10_order_14 : decode cX10_order 14 = .ok (.aload_n 0, 1) := by decide +kernel
theorem dX10_order_15 : decode cX10_order 15 = .ok (.iload_n 1, 1) := by decide +kernel
theorem dX10_order_16 : decode cX10_order 16 = .ok (.iload_n 2, 1) := by decide +kernel
theorem dX10_order_17 : decode cX10_order 17 = .ok (.invokevirtual 196, 3) := by decide +kernel
theorem dX10_order_20 : decode cX10_order 20 = .ok (.iconst 0, 1) := by decide +kernel
theorem dX10_order_21 : decode cX10_order 21 = .ok (.istore 5, 2) := by decide +kernel
theorem dX10_order_23 : decode cX10_order 23 = .ok (.iconst 0, 1) := by decide +kernel
theorem dX10_order_24 : decode cX10_order 24 = .ok (.istore 6, 2) := by decide +kernel
theorem dX10_order_26 : decode cX10_order 26 = .ok (.iconst 1, 1) := by decide +kernel
theorem dX10_order_27 : decode cX10_order 27 = .ok (.istore 7, 2) := by decide +kernel
theorem dX10_order_29 : decode cX10_order 29 = .ok (.iload 7, 2) := by decide +kernel
theorem dX10_order_31 : decode cX10_order 31 = .ok (.sipush 501, 3) := by decide +kernel
theorem dX10_order_34 : decode cX10_order 34 = .ok (.if_icmp .ge 52, 3) := by decide +kernel
theorem dX10_order_37 : decode cX10_order 37 = .ok (.aload_n 0, 1) := by decide +kernel
theorem dX10_order_38 : decode cX10_order 38 = .ok (.iload 7, 2) := by decide +kernel
theorem dX10_order_40 : decode cX10_order 40 = .ok (.iload_n 3, 1) := by decide +kernel
theorem dX10_order_41 : decode cX10_order 41 = .ok (.iload 4, 2) := by decide +kernel
theorem dX10_order_43 : decode cX10_order 43 = .ok (.invokevirtual 200, 3) := by decide +kernel
theorem dX10_order_46 : decode cX10_order 46 = .ok (.istore 8, 2) := by decide +kernel
theorem dX10_order_48 : decode cX10_order 48 = .ok (.iload 8, 2) := by decide +kernel
theorem dX10_order_50 : decode cX10_order 50 = .ok (.iload 6, 2) := by decide +kernel
theorem dX10_order_52 : decode cX10_order 52 = .ok (.if_icmp .le 8, 3) := by decide +kernel
theorem dX10_order_55 : decode cX10_order 55 = .ok (.iload 7, 2) := by decide +kernel
theorem dX10_order_57 : decode cX10_order 57 = .ok (.goto 5, 3) := by decide +kernel
theorem dX10_order_60 : decode cX10_order 60 = .ok (.iload 5, 2) := by decide +kernel
theorem dX10_order_62 : decode cX10_order 62 = .ok (.istore 5, 2) := by decide +kernel
theorem dX10_order_64 : decode cX10_order 64 = .ok (.iload 8, 2) := by decide +kernel
theorem dX10_order_66 : decode cX10_order 66 = .ok (.iload 6, 2) := by decide +kernel
theorem dX10_order_68 : decode cX10_order 68 = .ok (.if_icmp .le 8, 3) := by decide +kernel
theorem dX10_order_71 : decode cX10_order 71 = .ok (.iload 8, 2) := by decide +kernel
theorem dX10_order_73 : decode cX10_order 73 = .ok (.goto 5, 3) := by decide +kernel
theorem dX10_order_76 : decode cX10_order 76 = .ok (.iload 6, 2) := by decide +kernel
theorem dX10_order_78 : decode cX10_order 78 = .ok (.istore 6, 2) := by decide +kernel
theorem dX10_order_80 : decode cX10_order 80 = .ok (.iinc 7 1, 3) := by decide +kernel
theorem dX10_order_83 : decode cX10_order 83 = .ok (.goto (-54), 3) := by decide +kernel
theorem dX10_order_86 : decode cX10_order 86 = .ok (.iload 5, 2) := by decide +kernel
theorem dX10_order_88 : decode cX10_order 88 = .ok (.ireturn, 1) := by decide +kernel
theorem dX10_count_0 : decode cX10_count 0 = .ok (.iconst 0, 1) := by decide +kernel
theorem dX10_count_1 : decode cX10_count 1 = .ok (.istore_n 2, 1) := by decide +kernel
theorem dX10_count_2 : decode cX10_count 2 = .ok (.iconst 0, 1) := by decide +kernel
theorem dX10_count_3 : decode cX10_count 3 = .ok (.istore_n 3, 1) := by decide +kernel
theorem dX10_count_4 : decode cX10_count 4 = .ok (.iconst 0, 1) := by decide +kernel
theorem dX10_count_5 : decode cX10_count 5 = .ok (.istore 4, 2) := by decide +kernel
theorem dX10_count_7 : decode cX10_count 7 = .ok (.iconst 0, 1) := by decide +kernel
theorem dX10_count_8 : decode cX10_count 8 = .ok (.istore 5, 2) := by decide +kernel
theorem dX10_count_10 : decode cX10_count 10 = .ok (.iload 5, 2) := by decide +kernel
theorem dX10_count_12 : decode cX10_count 12 = .ok (.bipush 100, 2) := by decide +kernel
theorem dX10_count_14 : decode cX10_count 14 = .ok (.if_icmp .ge 27, 3) := by decide +kernel
theorem dX10_count_17 : decode cX10_count 17 = .ok (.iload_n 2, 1) := by decide +kernel
theorem dX10_count_18 : decode cX10_count 18 = .ok (.aload_n 0, 1) := by decide +kernel
theorem dX10_count_19 : decode cX10_count 19 = .ok (.getfield 13, 3) := by decide +kernel
theorem dX10_count_22 : decode cX10_count 22 = .ok (.iload 5, 2) := by decide +kernel
theorem dX10_count_24 : decode cX10_count 24 = .ok (.iaload, 1) := by decide +kernel
theorem dX10_count_25 : decode cX10_count 25 = .ok (.ifCond .le 7, 3) := by decide +kernel
theorem dX10_count_28 : decode cX10_count 28 = .ok (.iconst 1, 1) := by decide +kernel
theorem dX10_count_29 : decode cX10_count 29 = .ok (.goto 4, 3) := by decide +kernel
theorem dX10_count_32 : decode cX10_count 32 = .ok (.iconst 0, 1) := by decide +kernel
theorem dX10_count_33 : decode cX10_count 33 = .ok (.iadd, 1) := by decide +kernel
theorem dX10_count_34 : decode cX10_count 34 = .ok (.istore_n 2, 1) := by decide +kernel
theorem dX10_count_35 : decode cX10_count 35 = .ok (.iinc 5 1, 3) := by decide +kernel
theorem dX10_count_38 : decode cX10_count 38 = .ok (.goto (-28), 3) := by decide +kernel
theorem dX10_count_41 : decode cX10_count 41 = .ok (.iconst 0, 1) := by decide +kernel
theorem dX10_count_42 : decode cX10_count 42 = .ok (.istore 5, 2) := by decide +kernel
theorem dX10_count_44 : decode cX10_count 44 = .ok (.iload 5, 2) := by decide +kernel
theorem dX10_count_46 : decode cX10_count 46 = .ok (.aload_n 0, 1) := by decide +kernel
theorem dX10_count_47 : decode cX10_count 47 = .ok (.getfield 7, 3) := by decide +kernel
theorem dX10_count_50 : decode cX10_count 50 = .ok (.if_icmp .ge 48, 3) := by decide +kernel
theorem dX10_count_53 : decode cX10_count 53 = .ok (.iload_n 3, 1) := by decide +kernel
theorem dX10_count_54 : decode cX10_count 54 = .ok (.aload_n 0, 1) := by decide +kernel
theorem dX10_count_55 : decode cX10_count 55 = .ok (.getfield 17, 3) := by decide +kernel
theorem dX10_count_58 : decode cX10_count 58 = .ok (.iload 5, 2) := by decide +kernel
theorem dX10_count_60 : decode cX10_count 60 = .ok (.iaload, 1) := by decide +kernel
theorem dX10_count_61 : decode cX10_count 61 = .ok (.ifCond .ne 7, 3) := by decide +kernel
theorem dX10_count_64 : decode cX10_count 64 = .ok (.iconst 1, 1) := by decide +kernel
theorem dX10_count_65 : decode cX10_count 65 = .ok (.goto 4, 3) := by decide +kernel
theorem dX10_count_68 : decode cX10_count 68 = .ok (.iconst 0, 1) := by decide +kernel
theorem dX10_count_69 : decode cX10_count 69 = .ok (.iadd, 1) := by decide +kernel
theorem dX10_count_70 : decode cX10_count 70 = .ok (.istore_n 3, 1) := by decide +kernel
theorem dX10_count_71 : decode cX10_count 71 = .ok (.iload 4, 2) := by decide +kernel
theorem dX10_count_73 : decode cX10_count 73 = .ok (.aload_n 0, 1) := by decide +kernel
theorem dX10_count_74 : decode cX10_count 74 = .ok (.getfield 17, 3) := by decide +kernel
theorem dX10_count_77 : decode cX10_count 77 = .ok (.iload 5, 2) := by decide +kernel
theorem dX10_count_79 : decode cX10_count 79 = .ok (.iaload, 1) := by decide +kernel
theorem dX10_count_80 : decode cX10_count 80 = .ok (.iconst 1, 1) := by decide +kernel
theorem dX10_count_81 : decode cX10_count 81 = .ok (.if_icmp .ne 7, 3) := by decide +kernel
theorem dX10_count_84 : decode cX10_count 84 = .ok (.iconst 1, 1) := by decide +kernel
theorem dX10_count_85 : decode cX10_count 85 = .ok (.goto 4, 3) := by decide +kernel
theorem dX10_count_88 : decode cX10_count 88 = .ok (.iconst 0, 1) := by decide +kernel
theorem dX10_count_89 : decode cX10_count 89 = .ok (.iadd, 1) := by decide +kernel
theorem dX10_count_90 : decode cX10_count 90 = .ok (.istore 4, 2) := by decide +kernel
theorem dX10_count_92 : decode cX10_count 92 = .ok (.iinc 5 1, 3) := by decide +kernel
theorem dX10_count_95 : decode cX10_count 95 = .ok (.goto (-51), 3) := by decide +kernel
theorem dX10_count_98 : decode cX10_count 98 = .ok (.iload_n 1, 1) := by decide +kernel
theorem dX10_count_99 : decode cX10_count 99 = .ok (.tableswitch 50 0 4 #[33, 38, 40, 45, 47], 33) := by decide +kernel
theorem dX10_count_132 : decode cX10_count 132 = .ok (.aload_n 0, 1) := by decide +kernel
theorem dX10_count_133 : decode cX10_count 133 = .ok (.getfield 7, 3) := by decide +kernel
theorem dX10_count_136 : decode cX10_count 136 = .ok (.ireturn, 1) := by decide +kernel
theorem dX10_count_137 : decode cX10_count 137 = .ok (.iload_n 2, 1) := by decide +kernel
theorem dX10_count_138 : decode cX10_count 138 = .ok (.ireturn, 1) := by decide +kernel
theorem dX10_count_139 : decode cX10_count 139 = .ok (.aload_n 0, 1) := by decide +kernel
theorem dX10_count_140 : decode cX10_count 140 = .ok (.getfield 66, 3) := by decide +kernel
theorem dX10_count_143 : decode cX10_count 143 = .ok (.ireturn, 1) := by decide +kernel
theorem dX10_count_144 : decode cX10_count 144 = .ok (.iload_n 3, 1) := by decide +kernel
theorem dX10_count_145 : decode cX10_count 145 = .ok (.ireturn, 1) := by decide +kernel
theorem dX10_count_146 : decode cX10_count 146 = .ok (.iload 4, 2) := by decide +kernel
theorem dX10_count_148 : decode cX10_count 148 = .ok (.ireturn, 1) := by decide +kernel
theorem dX10_count_149 : decode cX10_count 149 = .ok (.bipush (-2), 2) := by decide +kernel
theorem dX10_count_151 : decode cX10_count 151 = .ok (.ireturn, 1) := by decide +kernel
end
section
section ZPre
variable {S : ST} {X : XT} {own : String} {cc : ByteArray} {nL d pc : Nat} {ret : Option FieldType} {Q : Option Value → Mem → Prop} {lv : List (Nat × Value)} {st : List Value} {M : Mem}
theorem z_topi {x : Int32} (k : ∀ y : Int32, y = x → Z S X d nL Q pc lv (.int y :: st) M) : Z S X d nL Q pc lv (.int x :: st) M := k x rfl
theorem z_topl {x : Int64} (k : ∀ y : Int64, y = x → Z S X d nL Q pc lv (.long y :: st) M) : Z S X d nL Q pc lv (.long x :: st) M := k x rfl
theorem z_iastM (hX : Cx S X own cc nL ret) {i x : Int32} (k : Nat) {n : Nat} {rs : List (Option Nat)} (hs : S.1[k]? = some (1, n, rs)) (hin : vp_in i n) (hd : decode cc pc = .ok (.iastore, 1)) (kk : ∀ M1 : Mem, M1 = z_st M k i.toNatClampNeg x → Z S X d nL Q (pc + 1) lv st M1) : Z S X d nL Q pc lv (.int x :: .int i :: .ref (X.1.2.1 k) :: st) M := z_iast hX k hs hin hd (kk _ rfl)
theorem z_lastM (hX : Cx S X own cc nL ret) {i : Int32} {x : Int64} (k : Nat) {n : Nat} {rs : List (Option Nat)} (hs : S.1[k]? = some (2, n, rs)) (hin : vp_in i n) (hd : decode cc pc = .ok (.lastore, 1)) (kk : ∀ M1 : Mem, M1 = z_sl M k i.toNatClampNeg x → Z S X d nL Q (pc + 1) lv st M1) : Z S X d nL Q pc lv (.long x :: .int i :: .ref (X.1.2.1 k) :: st) M := z_last hX k hs hin hd (kk _ rfl)
end ZPre
end
section
set_option maxRecDepth 100000 in
set_option maxHeartbeats 4000000 in
theorem EJ6_bitCount_0f7a4 {S : ST} {E : ET} {Q : Option Value → Mem → Prop} {x0 : Int32} {M : Mem} (h : ∀ v1 : Int32, v1 = x0 - (((x0.toUInt32 >>> ((1 : Int32).toUInt32 &&& Int32.toUInt32 31)).toInt32) &&& (1431655765 : Int32)) → (∀ v2 : Int32, v2 = (v1 &&& (858993459 : Int32)) + (((v1.toUInt32 >>> ((2 : Int32).toUInt32 &&& Int32.toUInt32 31)).toInt32) &&& (858993459 : Int32)) → (∀ v3 : Int32, v3 = (v2 + ((v2.toUInt32 >>> ((4 : Int32).toUInt32 &&& Int32.toUInt32 31)).toInt32)) &&& (252645135 : Int32) → (∀ v4 : Int32, v4 = v3 + ((v3.toUInt32 >>> ((8 : Int32).toUInt32 &&& Int32.toUInt32 31)).toInt32) → (∀ v5 : Int32, v5 = v4 + ((v4.toUInt32 >>> ((16 : Int32).toUInt32 &&& Int32.toUInt32 31)).toInt32) → (Q (some (.int (v5 &&& (63 : Int32)))) M)))))) : CJ6_bitCount S E [.int x0] M Q := by
  refine z_entry (by decide +kernel) (Nat.le_of_ble_eq_true rfl) (fun X hE hX => ?_)
  subst hE
  show Z S X 0 1 Q 0 [(0, .int x0)] [] M
  refine z_iload_n hX dJ6_bitCount_0f7a4_0 rfl 0 rfl ?_
  refine z_iload_n hX dJ6_bitCount_0f7a4_1 rfl 0 rfl ?_
  refine z_iconst (v := 1) hX dJ6_bitCount_0f7a4_2 (by decide) ?_
  refine z_iushr hX dJ6_bitCount_0f7a4_3 ?_
  refine z_ldcw (v := 1431655765) hX dJ6_bitCount_0f7a4_4 (z_w (List.mem_append_right _ (List.mem_of_getElem? (i := 579) (by decide +kernel))) rfl) ?_
  refine z_iand hX dJ6_bitCount_0f7a4_7 ?_
  refine z_isub hX dJ6_bitCount_0f7a4_8 ?_
  refine z_topi (fun v1 ev1 => ?_)
  replace h := h v1 ev1
  refine z_istore_n hX dJ6_bitCount_0f7a4_9 rfl (by decide) [(0, .int v1)] rfl ?_
  refine z_iload_n hX dJ6_bitCount_0f7a4_10 rfl 0 rfl ?_
  refine z_ldcw (v := 858993459) hX dJ6_bitCount_0f7a4_11 (z_w (List.mem_append_right _ (List.mem_of_getElem? (i := 580) (by decide +kernel))) rfl) ?_
  refine z_iand hX dJ6_bitCount_0f7a4_14 ?_
  refine z_iload_n hX dJ6_bitCount_0f7a4_15 rfl 0 rfl ?_
  refine z_iconst (v := 2) hX dJ6_bitCount_0f7a4_16 (by decide) ?_
  refine z_iushr hX dJ6_bitCount_0f7a4_17 ?_
  refine z_ldcw (v := 858993459) hX dJ6_bitCount_0f7a4_18 (z_w (List.mem_append_right _ (List.mem_of_getElem? (i := 580) (by decide +kernel))) rfl) ?_
  refine z_iand hX dJ6_bitCount_0f7a4_21 ?_
  refine z_iadd hX dJ6_bitCount_0f7a4_22 ?_
  refine z_topi (fun v2 ev2 => ?_)
  replace h := h v2 ev2
  refine z_istore_n hX dJ6_bitCount_0f7a4_23 rfl (by decide) [(0, .int v2)] rfl ?_
  refine z_iload_n hX dJ6_bitCount_0f7a4_24 rfl 0 rfl ?_
  refine z_iload_n hX dJ6_bitCount_0f7a4_25 rfl 0 rfl ?_
  refine z_iconst (v := 4) hX dJ6_bitCount_0f7a4_26 (by decide) ?_
  refine z_iushr hX dJ6_bitCount_0f7a4_27 ?_
  refine z_iadd hX dJ6_bitCount_0f7a4_28 ?_
  refine z_ldcw (v := 252645135) hX dJ6_bitCount_0f7a4_29 (z_w (List.mem_append_right _ (List.mem_of_getElem? (i := 581) (by decide +kernel))) rfl) ?_
  refine z_iand hX dJ6_bitCount_0f7a4_32 ?_
  refine z_topi (fun v3 ev3 => ?_)
  replace h := h v3 ev3
  refine z_istore_n hX dJ6_bitCount_0f7a4_33 rfl (by decide) [(0, .int v3)] rfl ?_
  refine z_iload_n hX dJ6_bitCount_0f7a4_34 rfl 0 rfl ?_
  refine z_iload_n hX dJ6_bitCount_0f7a4_35 rfl 0 rfl ?_
  refine z_bipush (v := 8) hX dJ6_bitCount_0f7a4_36 (by decide) ?_
  refine z_iushr hX dJ6_bitCount_0f7a4_38 ?_
  refine z_iadd hX dJ6_bitCount_0f7a4_39 ?_
  refine z_topi (fun v4 ev4 => ?_)
  replace h := h v4 ev4
  refine z_istore_n hX dJ6_bitCount_0f7a4_40 rfl (by decide) [(0, .int v4)] rfl ?_
  refine z_iload_n hX dJ6_bitCount_0f7a4_41 rfl 0 rfl ?_
  refine z_iload_n hX dJ6_bitCount_0f7a4_42 rfl 0 rfl ?_
  refine z_bipush (v := 16) hX dJ6_bitCount_0f7a4_43 (by decide) ?_
  refine z_iushr hX dJ6_bitCount_0f7a4_45 ?_
  refine z_iadd hX dJ6_bitCount_0f7a4_46 ?_
  refine z_topi (fun v5 ev5 => ?_)
  replace h := h v5 ev5
  refine z_istore_n hX dJ6_bitCount_0f7a4_47 rfl (by decide) [(0, .int v5)] rfl ?_
  refine z_iload_n hX dJ6_bitCount_0f7a4_48 rfl 0 rfl ?_
  refine z_bipush (v := 63) hX dJ6_bitCount_0f7a4_49 (by decide) ?_
  refine z_iand hX dJ6_bitCount_0f7a4_51 ?_
  exact z_iret hX dJ6_bitCount_0f7a4_52 h
set_option maxRecDepth 100000 in
set_option maxHeartbeats 4000000 in
theorem EX7_size {E : ET} {Q : Option Value → Mem → Prop} {M : Mem} (h : Q (some (.int (M.1 7 5))) M) : CX7_size E [.ref (E.2.1 7)] M Q := by
  refine z_entry (by decide +kernel) (Nat.le_of_ble_eq_true rfl) (fun X hE hX => ?_)
  subst hE
  show Z SX X 0 1 Q 0 [(0, .ref (X.1.2.1 7))] [] M
  refine z_aload_n hX dX7_size_0 rfl 0 rfl ?_
  refine gfX7_29 hX dX7_size_1 ?_
  exact z_iret hX dX7_size_4 h
set_option maxRecDepth 100000 in
set_option maxHeartbeats 4000000 in
theorem EX7_dresses {E : ET} {Q : Option Value → Mem → Prop} {M : Mem} (h : Q (some (.int ((1 : Int32) <<< ((M.1 7 5) &&& 31)))) M) : CX7_dresses E [.ref (E.2.1 7)] M Q := by
  refine z_entry (by decide +kernel) (Nat.le_of_ble_eq_true rfl) (fun X hE hX => ?_)
  subst hE
  show Z SX X 0 1 Q 0 [(0, .ref (X.1.2.1 7))] [] M
  refine z_iconst (v := 1) hX dX7_dresses_0 (by decide) ?_
  refine z_aload_n hX dX7_dresses_1 rfl 0 rfl ?_
  refine gfX7_29 hX dX7_dresses_2 ?_
  refine z_ishl hX dX7_dresses_5 ?_
  exact z_iret hX dX7_dresses_6 h
set_option maxRecDepth 100000 in
set_option maxHeartbeats 4000000 in
theorem EX7_version {E : ET} {Q : Option Value → Mem → Prop} {M : Mem} (h : Q (some (.int (M.1 7 7))) M) : CX7_version E [.ref (E.2.1 7)] M Q := by
  refine z_entry (by decide +kernel) (Nat.le_of_ble_eq_true rfl) (fun X hE hX => ?_)
  subst hE
  show Z SX X 0 1 Q 0 [(0, .ref (X.1.2.1 7))] [] M
  refine z_aload_n hX dX7_version_0 rfl 0 rfl ?_
  refine gfX7_36 hX dX7_version_1 ?_
  exact z_iret hX dX7_version_4 h
set_option maxRecDepth 100000 in
set_option maxHeartbeats 4000000 in
theorem EX7_has {E : ET} {Q : Option Value → Mem → Prop} {x1 : Int32} {M : Mem} (h : ((x1 < 0 → Q (some (.int 0)) M) ∧ (¬ x1 < 0 → (((M.1 7 5) ≤ x1 → Q (some (.int 0)) M) ∧ (¬ (M.1 7 5) ≤ x1 → Q (some (.int 1)) M))))) : CX7_has E [.ref (E.2.1 7), .int x1] M Q := by
  refine z_entry (by decide +kernel) (Nat.le_of_ble_eq_true rfl) (fun X hE hX => ?_)
  subst hE
  show Z SX X 0 2 Q 0 [(0, .ref (X.1.2.1 7)), (1, .int x1)] [] M
  refine z_iload_n hX dX7_has_0 rfl 1 rfl ?_
  refine z_if_lt hX 16 dX7_has_1 (by decide) (fun c0 => ?_) (fun c0 => ?_)
  · replace h := h.1 c0
    refine z_iconst (v := 0) hX dX7_has_16 (by decide) ?_
    exact z_zret hX dX7_has_17 (Or.inl rfl) h
  · replace h := h.2 c0
    refine z_iload_n hX dX7_has_4 rfl 1 rfl ?_
    refine z_aload_n hX dX7_has_5 rfl 0 rfl ?_
    refine gfX7_29 hX dX7_has_6 ?_
    refine z_icmp_ge hX 16 dX7_has_9 (by decide) (fun c0 => ?_) (fun c0 => ?_)
    · replace h := h.1 c0
      refine z_iconst (v := 0) hX dX7_has_16 (by decide) ?_
      exact z_zret hX dX7_has_17 (Or.inl rfl) h
    · replace h := h.2 c0
      refine z_iconst (v := 1) hX dX7_has_12 (by decide) ?_
      refine z_goto hX 17 dX7_has_13 (by decide) ?_
      exact z_zret hX dX7_has_17 (Or.inr rfl) h
set_option maxRecDepth 100000 in
set_option maxHeartbeats 4000000 in
theorem EX7_isDress {E : ET} {Q : Option Value → Mem → Prop} {x1 : Int32} {M : Mem} (h : ((x1 < 0 → Q (some (.int 0)) M) ∧ (¬ x1 < 0 → (∃ (r1 : Int32), CX7_dresses E [.ref (E.2.1 7)] M (z_is (some (.int r1)) M) ∧ ((r1 ≤ x1 → Q (some (.int 0)) M) ∧ (¬ r1 ≤ x1 → Q (some (.int 1)) M)))))) : CX7_isDress E [.ref (E.2.1 7), .int x1] M Q := by
  refine z_entry (by decide +kernel) (Nat.le_of_ble_eq_true rfl) (fun X hE hX => ?_)
  subst hE
  show Z SX X 1 2 Q 0 [(0, .ref (X.1.2.1 7)), (1, .int x1)] [] M
  refine z_iload_n hX dX7_isDress_0 rfl 1 rfl ?_
  refine z_if_lt hX 16 dX7_isDress_1 (by decide) (fun c0 => ?_) (fun c0 => ?_)
  · replace h := h.1 c0
    refine z_iconst (v := 0) hX dX7_isDress_16 (by decide) ?_
    exact z_zret hX dX7_isDress_17 (Or.inl rfl) h
  · replace h := h.2 c0
    refine z_iload_n hX dX7_isDress_4 rfl 1 rfl ?_
    refine z_aload_n hX dX7_isDress_5 rfl 0 rfl ?_
    obtain ⟨r1, c9, h⟩ := h
    refine mcX7_39 hX dX7_isDress_6 (by decide) (Nat.le_of_ble_eq_true rfl) c9 ?_
    refine z_icmp_ge hX 16 dX7_isDress_9 (by decide) (fun c0 => ?_) (fun c0 => ?_)
    · replace h := h.1 c0
      refine z_iconst (v := 0) hX dX7_isDress_16 (by decide) ?_
      exact z_zret hX dX7_isDress_17 (Or.inl rfl) h
    · replace h := h.2 c0
      refine z_iconst (v := 1) hX dX7_isDress_12 (by decide) ?_
      refine z_goto hX 17 dX7_isDress_13 (by decide) ?_
      exact z_zret hX dX7_isDress_17 (Or.inr rfl) h
abbrev LX7_startAnew_7 (X : XT) (Q : Option Value → Mem → Prop) (x2 : Int32) (M : Mem) : Prop := Z SX X 1 4 Q 7 [(0, .ref (X.1.2.1 7)), (2, .int x2)] [] M
abbrev LX7_startAnew_63 (X : XT) (Q : Option Value → Mem → Prop) (x2 : Int32) (M : Mem) : Prop := Z SX X 1 4 Q 63 [(0, .ref (X.1.2.1 7)), (2, .int x2)] [] M
abbrev LX7_startAnew_15 (X : XT) (Q : Option Value → Mem → Prop) (x2 : Int32) (x3 : Int32) (M : Mem) : Prop := Z SX X 1 4 Q 15 [(0, .ref (X.1.2.1 7)), (2, .int x2), (3, .int x3)] [] M
set_option maxRecDepth 100000 in
set_option maxHeartbeats 4000000 in
theorem EX7_startAnew {E : ET} {Q : Option Value → Mem → Prop} {x1 : Int32} {M : Mem} (h : ∀ X : XT, X.1 = E → KX7_startAnew X → (∀ M1 : Mem, M1 = z_st M 7 5 x1 → LX7_startAnew_7 X Q (0 : Int32) M1)) : CX7_startAnew E [.ref (E.2.1 7), .int x1] M Q := by
  refine z_entry (by decide +kernel) (Nat.le_of_ble_eq_true rfl) (fun X hE hX => ?_)
  subst hE
  replace h := h X rfl hX
  show Z SX X 1 4 Q 0 [(0, .ref (X.1.2.1 7)), (1, .int x1)] [] M
  refine z_aload_n hX dX7_startAnew_0 rfl 0 rfl ?_
  refine z_iload_n hX dX7_startAnew_1 rfl 1 rfl ?_
  refine pfX7_29 hX dX7_startAnew_2 (fun M1 eM1 => ?_)
  replace h := h M1 eM1
  refine z_iconst (v := 0) hX dX7_startAnew_5 (by decide) ?_
  refine z_istore_n hX dX7_startAnew_6 rfl (by decide) [(2, .int (0 : Int32)), (0, .ref (X.1.2.1 7)), (1, .int x1)] rfl ?_
  exact z_sub [1, 0] rfl h
set_option maxRecDepth 100000 in
set_option maxHeartbeats 4000000 in
theorem BX7_startAnew_7 {X : XT} {Q : Option Value → Mem → Prop} (hX : KX7_startAnew X) {x2 : Int32} {M : Mem} (h : (((10 : Int32) ≤ x2 → LX7_startAnew_63 X Q (0 : Int32) M) ∧ (¬ (10 : Int32) ≤ x2 → LX7_startAnew_15 X Q x2 (0 : Int32) M))) : LX7_startAnew_7 X Q x2 M := by
  show Z SX X 1 4 Q 7 [(0, .ref (X.1.2.1 7)), (2, .int x2)] [] M
  refine z_iload_n hX dX7_startAnew_7 rfl 1 rfl ?_
  refine z_bipush (v := 10) hX dX7_startAnew_8 (by decide) ?_
  refine z_icmp_ge hX 61 dX7_startAnew_10 (by decide) (fun c0 => ?_) (fun c0 => ?_)
  · replace h := h.1 c0
    refine z_iconst (v := 0) hX dX7_startAnew_61 (by decide) ?_
    refine z_istore_n hX dX7_startAnew_62 rfl (by decide) [(2, .int (0 : Int32)), (0, .ref (X.1.2.1 7))] rfl ?_
    exact z_sub [1, 0] rfl h
  · replace h := h.2 c0
    refine z_iconst (v := 0) hX dX7_startAnew_13 (by decide) ?_
    refine z_istore_n hX dX7_startAnew_14 rfl (by decide) [(3, .int (0 : Int32)), (0, .ref (X.1.2.1 7)), (2, .int x2)] rfl ?_
    exact z_sub [1, 2, 0] rfl h
set_option maxRecDepth 100000 in
set_option maxHeartbeats 4000000 in
theorem BX7_startAnew_63 {X : XT} {Q : Option Value → Mem → Prop} (hX : KX7_startAnew X) {x2 : Int32} {M : Mem} (h : (((1024 : Int32) ≤ x2 → Q none M) ∧ (¬ (1024 : Int32) ≤ x2 → (vp_in x2 1024 ∧ (∀ M1 : Mem, M1 = z_st M 24 x2.toNatClampNeg (0 : Int32) → LX7_startAnew_63 X Q (x2 + (1 : Int32)) M1))))) : LX7_startAnew_63 X Q x2 M := by
  show Z SX X 1 4 Q 63 [(0, .ref (X.1.2.1 7)), (2, .int x2)] [] M
  refine z_iload_n hX dX7_startAnew_63 rfl 1 rfl ?_
  refine z_sipush (v := 1024) hX dX7_startAnew_64 (by decide) ?_
  refine z_icmp_ge hX 83 dX7_startAnew_67 (by decide) (fun c0 => ?_) (fun c0 => ?_)
  · replace h := h.1 c0
    exact z_vret hX dX7_startAnew_83 h
  · replace h := h.2 c0
    refine z_aload_n hX dX7_startAnew_70 rfl 0 rfl ?_
    refine gfX7_26 hX dX7_startAnew_71 ?_
    refine z_iload_n hX dX7_startAnew_74 rfl 1 rfl ?_
    refine z_iconst (v := 0) hX dX7_startAnew_75 (by decide) ?_
    refine z_iastM hX 24 rfl h.1 dX7_startAnew_76 (fun M1 eM1 => ?_)
    replace h := h.2 M1 eM1
    refine z_iinc (v := x2 + (1 : Int32)) hX dX7_startAnew_77 1 rfl rfl (by decide) [(2, .int (x2 + (1 : Int32))), (0, .ref (X.1.2.1 7))] rfl ?_
    refine z_goto hX 63 dX7_startAnew_80 (by decide) ?_
    exact z_sub [1, 0] rfl h
set_option maxRecDepth 100000 in
set_option maxHeartbeats 4000000 in
theorem BX7_startAnew_15 {X : XT} {Q : Option Value → Mem → Prop} (hX : KX7_startAnew X) {x2 x3 : Int32} {M : Mem} (h : (((10 : Int32) ≤ x3 → (vp_in x2 10 ∧ (∀ M1 : Mem, M1 = z_st M 21 x2.toNatClampNeg (0 : Int32) → (vp_in x2 10 ∧ (∀ M2 : Mem, M2 = z_st M1 22 x2.toNatClampNeg (0 : Int32) → (∃ (M3 : Mem), CX7_changed X.1 [.ref (X.1.2.1 7), .int x2] M2 (z_is none M3) ∧ LX7_startAnew_7 X Q (x2 + (1 : Int32)) M3)))))) ∧ (¬ (10 : Int32) ≤ x3 → (vp_in x2 10 ∧ (vp_in x2 10 ∧ vp_in x3 10 ∧ (∀ M4 : Mem, M4 = z_st M (10 + x2.toNatClampNeg) x3.toNatClampNeg (0 : Int32) → LX7_startAnew_15 X Q x2 (x3 + (1 : Int32)) M4)))))) : LX7_startAnew_15 X Q x2 x3 M := by
  show Z SX X 1 4 Q 15 [(0, .ref (X.1.2.1 7)), (2, .int x2), (3, .int x3)] [] M
  refine z_iload_n hX dX7_startAnew_15 rfl 2 rfl ?_
  refine z_bipush (v := 10) hX dX7_startAnew_16 (by decide) ?_
  refine z_icmp_ge hX 36 dX7_startAnew_18 (by decide) (fun c0 => ?_) (fun c0 => ?_)
  · replace h := h.1 c0
    refine z_aload_n hX dX7_startAnew_36 rfl 0 rfl ?_
    refine gfX7_16 hX dX7_startAnew_37 ?_
    refine z_iload_n hX dX7_startAnew_40 rfl 1 rfl ?_
    refine z_iconst (v := 0) hX dX7_startAnew_41 (by decide) ?_
    refine z_iastM hX 21 rfl h.1 dX7_startAnew_42 (fun M1 eM1 => ?_)
    replace h := h.2 M1 eM1
    refine z_aload_n hX dX7_startAnew_43 rfl 0 rfl ?_
    refine gfX7_20 hX dX7_startAnew_44 ?_
    refine z_iload_n hX dX7_startAnew_47 rfl 1 rfl ?_
    refine z_iconst (v := 0) hX dX7_startAnew_48 (by decide) ?_
    refine z_iastM hX 22 rfl h.1 dX7_startAnew_49 (fun M2 eM2 => ?_)
    replace h := h.2 M2 eM2
    refine z_aload_n hX dX7_startAnew_50 rfl 0 rfl ?_
    refine z_iload_n hX dX7_startAnew_51 rfl 1 rfl ?_
    obtain ⟨M3, c9, h⟩ := h
    refine mcX7_43 hX dX7_startAnew_52 (by decide) (Nat.le_of_ble_eq_true rfl) c9 ?_
    refine z_iinc (v := x2 + (1 : Int32)) hX dX7_startAnew_55 1 rfl rfl (by decide) [(2, .int (x2 + (1 : Int32))), (0, .ref (X.1.2.1 7)), (3, .int x3)] rfl ?_
    refine z_goto hX 7 dX7_startAnew_58 (by decide) ?_
    exact z_sub [1, 0] rfl h
  · replace h := h.2 c0
    refine z_aload_n hX dX7_startAnew_21 rfl 0 rfl ?_
    refine gfX7_11 hX dX7_startAnew_22 ?_
    refine z_iload_n hX dX7_startAnew_25 rfl 1 rfl ?_
    refine z_aald hX 20 rfl h.1 (z_row h.1) dX7_startAnew_26 ?_
    replace h := h.2
    refine z_iload_n hX dX7_startAnew_27 rfl 2 rfl ?_
    refine z_iconst (v := 0) hX dX7_startAnew_28 (by decide) ?_
    refine z_iastM hX (10 + x2.toNatClampNeg) (z_rowc h.1) h.2.1 dX7_startAnew_29 (fun M4 eM4 => ?_)
    replace h := h.2.2 M4 eM4
    refine z_iinc (v := x3 + (1 : Int32)) hX dX7_startAnew_30 2 rfl rfl (by decide) [(3, .int (x3 + (1 : Int32))), (0, .ref (X.1.2.1 7)), (2, .int x2)] rfl ?_
    refine z_goto hX 15 dX7_startAnew_33 (by decide) ?_
    exact z_sub [1, 2, 0] rfl h
set_option maxRecDepth 100000 in
set_option maxHeartbeats 4000000 in
theorem EX7_weight {E : ET} {Q : Option Value → Mem → Prop} {x1 x2 : Int32} {M : Mem} (h : vp_in x1 10 ∧ (vp_in x1 10 ∧ vp_in x2 10 ∧ Q (some (.int (M.1 (10 + x1.toNatClampNeg) x2.toNatClampNeg))) M)) : CX7_weight E [.ref (E.2.1 7), .int x1, .int x2] M Q := by
  refine z_entry (by decide +kernel) (Nat.le_of_ble_eq_true rfl) (fun X hE hX => ?_)
  subst hE
  show Z SX X 0 3 Q 0 [(0, .ref (X.1.2.1 7)), (1, .int x1), (2, .int x2)] [] M
  refine z_aload_n hX dX7_weight_0 rfl 0 rfl ?_
  refine gfX7_11 hX dX7_weight_1 ?_
  refine z_iload_n hX dX7_weight_4 rfl 1 rfl ?_
  refine z_aald hX 20 rfl h.1 (z_row h.1) dX7_weight_5 ?_
  replace h := h.2
  refine z_iload_n hX dX7_weight_6 rfl 2 rfl ?_
  refine z_iald hX (10 + x1.toNatClampNeg) (z_rowc h.1) h.2.1 dX7_weight_7 ?_
  replace h := h.2.2
  exact z_iret hX dX7_weight_8 h
set_option maxRecDepth 100000 in
set_option maxHeartbeats 4000000 in
theorem EX7_setWeight {E : ET} {Q : Option Value → Mem → Prop} {x1 x2 x3 : Int32} {M : Mem} (h : vp_in x1 10 ∧ (vp_in x1 10 ∧ vp_in x2 10 ∧ (∀ M1 : Mem, M1 = z_st M (10 + x1.toNatClampNeg) x2.toNatClampNeg x3 → (∃ (M2 : Mem), CX7_changed E [.ref (E.2.1 7), .int x1] M1 (z_is none M2) ∧ Q none M2)))) : CX7_setWeight E [.ref (E.2.1 7), .int x1, .int x2, .int x3] M Q := by
  refine z_entry (by decide +kernel) (Nat.le_of_ble_eq_true rfl) (fun X hE hX => ?_)
  subst hE
  show Z SX X 1 4 Q 0 [(0, .ref (X.1.2.1 7)), (1, .int x1), (2, .int x2), (3, .int x3)] [] M
  refine z_aload_n hX dX7_setWeight_0 rfl 0 rfl ?_
  refine gfX7_11 hX dX7_setWeight_1 ?_
  refine z_iload_n hX dX7_setWeight_4 rfl 1 rfl ?_
  refine z_aald hX 20 rfl h.1 (z_row h.1) dX7_setWeight_5 ?_
  replace h := h.2
  refine z_iload_n hX dX7_setWeight_6 rfl 2 rfl ?_
  refine z_iload_n hX dX7_setWeight_7 rfl 3 rfl ?_
  refine z_iastM hX (10 + x1.toNatClampNeg) (z_rowc h.1) h.2.1 dX7_setWeight_8 (fun M1 eM1 => ?_)
  replace h := h.2.2 M1 eM1
  refine z_aload_n hX dX7_setWeight_9 rfl 0 rfl ?_
  refine z_iload_n hX dX7_setWeight_10 rfl 1 rfl ?_
  obtain ⟨M2, c9, h⟩ := h
  refine mcX7_43 hX dX7_setWeight_11 (by decide) (Nat.le_of_ble_eq_true rfl) c9 ?_
  exact z_vret hX dX7_setWeight_14 h
set_option maxRecDepth 100000 in
set_option maxHeartbeats 4000000 in
theorem EX7_kind {E : ET} {Q : Option Value → Mem → Prop} {x1 : Int32} {M : Mem} (h : vp_in x1 10 ∧ Q (some (.int (M.1 21 x1.toNatClampNeg))) M) : CX7_kind E [.ref (E.2.1 7), .int x1] M Q := by
  refine z_entry (by decide +kernel) (Nat.le_of_ble_eq_true rfl) (fun X hE hX => ?_)
  subst hE
  show Z SX X 0 2 Q 0 [(0, .ref (X.1.2.1 7)), (1, .int x1)] [] M
  refine z_aload_n hX dX7_kind_0 rfl 0 rfl ?_
  refine gfX7_16 hX dX7_kind_1 ?_
  refine z_iload_n hX dX7_kind_4 rfl 1 rfl ?_
  refine z_iald hX 21 rfl h.1 dX7_kind_5 ?_
  replace h := h.2
  exact z_iret hX dX7_kind_6 h
set_option maxRecDepth 100000 in
set_option maxHeartbeats 4000000 in
theorem EX7_setKind {E : ET} {Q : Option Value → Mem → Prop} {x1 x2 : Int32} {M : Mem} (h : vp_in x1 10 ∧ (∀ M1 : Mem, M1 = z_st M 21 x1.toNatClampNeg x2 → (∃ (M2 : Mem), CX7_changed E [.ref (E.2.1 7), .int x1] M1 (z_is none M2) ∧ Q none M2))) : CX7_setKind E [.ref (E.2.1 7), .int x1, .int x2] M Q := by
  refine z_entry (by decide +kernel) (Nat.le_of_ble_eq_true rfl) (fun X hE hX => ?_)
  subst hE
  show Z SX X 1 3 Q 0 [(0, .ref (X.1.2.1 7)), (1, .int x1), (2, .int x2)] [] M
  refine z_aload_n hX dX7_setKind_0 rfl 0 rfl ?_
  refine gfX7_16 hX dX7_setKind_1 ?_
  refine z_iload_n hX dX7_setKind_4 rfl 1 rfl ?_
  refine z_iload_n hX dX7_setKind_5 rfl 2 rfl ?_
  refine z_iastM hX 21 rfl h.1 dX7_setKind_6 (fun M1 eM1 => ?_)
  replace h := h.2 M1 eM1
  refine z_aload_n hX dX7_setKind_7 rfl 0 rfl ?_
  refine z_iload_n hX dX7_setKind_8 rfl 1 rfl ?_
  obtain ⟨M2, c9, h⟩ := h
  refine mcX7_43 hX dX7_setKind_9 (by decide) (Nat.le_of_ble_eq_true rfl) c9 ?_
  exact z_vret hX dX7_setKind_12 h
set_option maxRecDepth 100000 in
set_option maxHeartbeats 4000000 in
theorem EX7_lean {E : ET} {Q : Option Value → Mem → Prop} {x1 : Int32} {M : Mem} (h : vp_in x1 10 ∧ Q (some (.int (M.1 22 x1.toNatClampNeg))) M) : CX7_lean E [.ref (E.2.1 7), .int x1] M Q := by
  refine z_entry (by decide +kernel) (Nat.le_of_ble_eq_true rfl) (fun X hE hX => ?_)
  subst hE
  show Z SX X 0 2 Q 0 [(0, .ref (X.1.2.1 7)), (1, .int x1)] [] M
  refine z_aload_n hX dX7_lean_0 rfl 0 rfl ?_
  refine gfX7_20 hX dX7_lean_1 ?_
  refine z_iload_n hX dX7_lean_4 rfl 1 rfl ?_
  refine z_iald hX 22 rfl h.1 dX7_lean_5 ?_
  replace h := h.2
  exact z_iret hX dX7_lean_6 h
set_option maxRecDepth 100000 in
set_option maxHeartbeats 4000000 in
theorem EX7_setLean {E : ET} {Q : Option Value → Mem → Prop} {x1 x2 : Int32} {M : Mem} (h : vp_in x1 10 ∧ (∀ M1 : Mem, M1 = z_st M 22 x1.toNatClampNeg x2 → (∃ (M2 : Mem), CX7_changed E [.ref (E.2.1 7), .int x1] M1 (z_is none M2) ∧ Q none M2))) : CX7_setLean E [.ref (E.2.1 7), .int x1, .int x2] M Q := by
  refine z_entry (by decide +kernel) (Nat.le_of_ble_eq_true rfl) (fun X hE hX => ?_)
  subst hE
  show Z SX X 1 3 Q 0 [(0, .ref (X.1.2.1 7)), (1, .int x1), (2, .int x2)] [] M
  refine z_aload_n hX dX7_setLean_0 rfl 0 rfl ?_
  refine gfX7_20 hX dX7_setLean_1 ?_
  refine z_iload_n hX dX7_setLean_4 rfl 1 rfl ?_
  refine z_iload_n hX dX7_setLean_5 rfl 2 rfl ?_
  refine z_iastM hX 22 rfl h.1 dX7_setLean_6 (fun M1 eM1 => ?_)
  replace h := h.2 M1 eM1
  refine z_aload_n hX dX7_setLean_7 rfl 0 rfl ?_
  refine z_iload_n hX dX7_setLean_8 rfl 1 rfl ?_
  obtain ⟨M2, c9, h⟩ := h
  refine mcX7_43 hX dX7_setLean_9 (by decide) (Nat.le_of_ble_eq_true rfl) c9 ?_
  exact z_vret hX dX7_setLean_12 h
set_option maxRecDepth 100000 in
set_option maxHeartbeats 4000000 in
theorem EX7_changed {E : ET} {Q : Option Value → Mem → Prop} {x1 : Int32} {M : Mem} (h : ∀ M1 : Mem, M1 = z_st M 7 6 ((M.1 7 6) ||| ((1 : Int32) <<< (x1 &&& 31))) → (∀ M2 : Mem, M2 = z_st M1 7 7 ((M1.1 7 7) + (1 : Int32)) → Q none M2)) : CX7_changed E [.ref (E.2.1 7), .int x1] M Q := by
  refine z_entry (by decide +kernel) (Nat.le_of_ble_eq_true rfl) (fun X hE hX => ?_)
  subst hE
  show Z SX X 0 2 Q 0 [(0, .ref (X.1.2.1 7)), (1, .int x1)] [] M
  refine z_aload_n hX dX7_changed_0 rfl 0 rfl ?_
  refine z_dup hX dX7_changed_1 rfl ?_
  refine gfX7_33 hX dX7_changed_2 ?_
  refine z_iconst (v := 1) hX dX7_changed_5 (by decide) ?_
  refine z_iload_n hX dX7_changed_6 rfl 1 rfl ?_
  refine z_ishl hX dX7_changed_7 ?_
  refine z_ior hX dX7_changed_8 ?_
  refine pfX7_33 hX dX7_changed_9 (fun M1 eM1 => ?_)
  replace h := h M1 eM1
  refine z_aload_n hX dX7_changed_12 rfl 0 rfl ?_
  refine z_dup hX dX7_changed_13 rfl ?_
  refine gfX7_36 hX dX7_changed_14 ?_
  refine z_iconst (v := 1) hX dX7_changed_17 (by decide) ?_
  refine z_iadd hX dX7_changed_18 ?_
  refine pfX7_36 hX dX7_changed_19 (fun M2 eM2 => ?_)
  replace h := h M2 eM2
  exact z_vret hX dX7_changed_22 h
abbrev LX7_seenBy_4 (X : XT) (Q : Option Value → Mem → Prop) (x1 : Int32) (x2 : Int32) (x3 : Int32) (M : Mem) : Prop := Z SX X 0 4 Q 4 [(0, .ref (X.1.2.1 7)), (1, .int x1), (2, .int x2), (3, .int x3)] [] M
set_option maxRecDepth 100000 in
set_option maxHeartbeats 4000000 in
theorem EX7_seenBy {E : ET} {Q : Option Value → Mem → Prop} {x1 : Int32} {M : Mem} (h : ∀ X : XT, X.1 = E → KX7_seenBy X → LX7_seenBy_4 X Q x1 (0 : Int32) (0 : Int32) M) : CX7_seenBy E [.ref (E.2.1 7), .int x1] M Q := by
  refine z_entry (by decide +kernel) (Nat.le_of_ble_eq_true rfl) (fun X hE hX => ?_)
  subst hE
  replace h := h X rfl hX
  show Z SX X 0 4 Q 0 [(0, .ref (X.1.2.1 7)), (1, .int x1)] [] M
  refine z_iconst (v := 0) hX dX7_seenBy_0 (by decide) ?_
  refine z_istore_n hX dX7_seenBy_1 rfl (by decide) [(2, .int (0 : Int32)), (0, .ref (X.1.2.1 7)), (1, .int x1)] rfl ?_
  refine z_iconst (v := 0) hX dX7_seenBy_2 (by decide) ?_
  refine z_istore_n hX dX7_seenBy_3 rfl (by decide) [(3, .int (0 : Int32)), (2, .int (0 : Int32)), (0, .ref (X.1.2.1 7)), (1, .int x1)] rfl ?_
  exact z_sub [2, 3, 1, 0] rfl h
set_option maxRecDepth 100000 in
set_option maxHeartbeats 4000000 in
theorem BX7_seenBy_4 {X : XT} {Q : Option Value → Mem → Prop} (hX : KX7_seenBy X) {x1 x2 x3 : Int32} {M : Mem} (h : (((M.1 7 5) ≤ x3 → Q (some (.int x2)) M) ∧ (¬ (M.1 7 5) ≤ x3 → (vp_in x1 10 ∧ (vp_in x1 10 ∧ vp_in x3 10 ∧ (((M.1 (10 + x1.toNatClampNeg) x3.toNatClampNeg) ≤ 0 → LX7_seenBy_4 X Q x1 x2 (x3 + (1 : Int32)) M) ∧ (¬ (M.1 (10 + x1.toNatClampNeg) x3.toNatClampNeg) ≤ 0 → LX7_seenBy_4 X Q x1 (x2 + (1 : Int32)) (x3 + (1 : Int32)) M))))))) : LX7_seenBy_4 X Q x1 x2 x3 M := by
  show Z SX X 0 4 Q 4 [(0, .ref (X.1.2.1 7)), (1, .int x1), (2, .int x2), (3, .int x3)] [] M
  refine z_iload_n hX dX7_seenBy_4 rfl 3 rfl ?_
  refine z_aload_n hX dX7_seenBy_5 rfl 0 rfl ?_
  refine gfX7_29 hX dX7_seenBy_6 ?_
  refine z_icmp_ge hX 32 dX7_seenBy_9 (by decide) (fun c0 => ?_) (fun c0 => ?_)
  · replace h := h.1 c0
    refine z_iload_n hX dX7_seenBy_32 rfl 2 rfl ?_
    exact z_iret hX dX7_seenBy_33 h
  · replace h := h.2 c0
    refine z_aload_n hX dX7_seenBy_12 rfl 0 rfl ?_
    refine gfX7_11 hX dX7_seenBy_13 ?_
    refine z_iload_n hX dX7_seenBy_16 rfl 1 rfl ?_
    refine z_aald hX 20 rfl h.1 (z_row h.1) dX7_seenBy_17 ?_
    replace h := h.2
    refine z_iload_n hX dX7_seenBy_18 rfl 3 rfl ?_
    refine z_iald hX (10 + x1.toNatClampNeg) (z_rowc h.1) h.2.1 dX7_seenBy_19 ?_
    replace h := h.2.2
    refine z_if_le hX 26 dX7_seenBy_20 (by decide) (fun c0 => ?_) (fun c0 => ?_)
    · replace h := h.1 c0
      refine z_iinc (v := x3 + (1 : Int32)) hX dX7_seenBy_26 3 rfl rfl (by decide) [(3, .int (x3 + (1 : Int32))), (0, .ref (X.1.2.1 7)), (1, .int x1), (2, .int x2)] rfl ?_
      refine z_goto hX 4 dX7_seenBy_29 (by decide) ?_
      exact z_sub [1, 2, 3, 0] rfl h
    · replace h := h.2 c0
      refine z_iinc (v := x2 + (1 : Int32)) hX dX7_seenBy_23 2 rfl rfl (by decide) [(2, .int (x2 + (1 : Int32))), (0, .ref (X.1.2.1 7)), (1, .int x1), (3, .int x3)] rfl ?_
      refine z_iinc (v := x3 + (1 : Int32)) hX dX7_seenBy_26 3 rfl rfl (by decide) [(3, .int (x3 + (1 : Int32))), (2, .int (x2 + (1 : Int32))), (0, .ref (X.1.2.1 7)), (1, .int x1)] rfl ?_
      refine z_goto hX 4 dX7_seenBy_29 (by decide) ?_
      exact z_sub [2, 3, 1, 0] rfl h
abbrev LX7_seeing_4 (X : XT) (Q : Option Value → Mem → Prop) (x1 : Int32) (x2 : Int32) (x3 : Int32) (M : Mem) : Prop := Z SX X 0 4 Q 4 [(0, .ref (X.1.2.1 7)), (1, .int x1), (2, .int x2), (3, .int x3)] [] M
set_option maxRecDepth 100000 in
set_option maxHeartbeats 4000000 in
theorem EX7_seeing {E : ET} {Q : Option Value → Mem → Prop} {x1 : Int32} {M : Mem} (h : ∀ X : XT, X.1 = E → KX7_seeing X → LX7_seeing_4 X Q x1 (0 : Int32) (0 : Int32) M) : CX7_seeing E [.ref (E.2.1 7), .int x1] M Q := by
  refine z_entry (by decide +kernel) (Nat.le_of_ble_eq_true rfl) (fun X hE hX => ?_)
  subst hE
  replace h := h X rfl hX
  show Z SX X 0 4 Q 0 [(0, .ref (X.1.2.1 7)), (1, .int x1)] [] M
  refine z_iconst (v := 0) hX dX7_seeing_0 (by decide) ?_
  refine z_istore_n hX dX7_seeing_1 rfl (by decide) [(2, .int (0 : Int32)), (0, .ref (X.1.2.1 7)), (1, .int x1)] rfl ?_
  refine z_iconst (v := 0) hX dX7_seeing_2 (by decide) ?_
  refine z_istore_n hX dX7_seeing_3 rfl (by decide) [(3, .int (0 : Int32)), (2, .int (0 : Int32)), (0, .ref (X.1.2.1 7)), (1, .int x1)] rfl ?_
  exact z_sub [2, 3, 1, 0] rfl h
set_option maxRecDepth 100000 in
set_option maxHeartbeats 4000000 in
theorem BX7_seeing_4 {X : XT} {Q : Option Value → Mem → Prop} (hX : KX7_seeing X) {x1 x2 x3 : Int32} {M : Mem} (h : (((M.1 7 5) ≤ x3 → Q (some (.int x2)) M) ∧ (¬ (M.1 7 5) ≤ x3 → (vp_in x3 10 ∧ (vp_in x3 10 ∧ vp_in x1 10 ∧ (((M.1 (10 + x3.toNatClampNeg) x1.toNatClampNeg) ≤ 0 → LX7_seeing_4 X Q x1 x2 (x3 + (1 : Int32)) M) ∧ (¬ (M.1 (10 + x3.toNatClampNeg) x1.toNatClampNeg) ≤ 0 → LX7_seeing_4 X Q x1 (x2 + (1 : Int32)) (x3 + (1 : Int32)) M))))))) : LX7_seeing_4 X Q x1 x2 x3 M := by
  show Z SX X 0 4 Q 4 [(0, .ref (X.1.2.1 7)), (1, .int x1), (2, .int x2), (3, .int x3)] [] M
  refine z_iload_n hX dX7_seeing_4 rfl 3 rfl ?_
  refine z_aload_n hX dX7_seeing_5 rfl 0 rfl ?_
  refine gfX7_29 hX dX7_seeing_6 ?_
  refine z_icmp_ge hX 32 dX7_seeing_9 (by decide) (fun c0 => ?_) (fun c0 => ?_)
  · replace h := h.1 c0
    refine z_iload_n hX dX7_seeing_32 rfl 2 rfl ?_
    exact z_iret hX dX7_seeing_33 h
  · replace h := h.2 c0
    refine z_aload_n hX dX7_seeing_12 rfl 0 rfl ?_
    refine gfX7_11 hX dX7_seeing_13 ?_
    refine z_iload_n hX dX7_seeing_16 rfl 3 rfl ?_
    refine z_aald hX 20 rfl h.1 (z_row h.1) dX7_seeing_17 ?_
    replace h := h.2
    refine z_iload_n hX dX7_seeing_18 rfl 1 rfl ?_
    refine z_iald hX (10 + x3.toNatClampNeg) (z_rowc h.1) h.2.1 dX7_seeing_19 ?_
    replace h := h.2.2
    refine z_if_le hX 26 dX7_seeing_20 (by decide) (fun c0 => ?_) (fun c0 => ?_)
    · replace h := h.1 c0
      refine z_iinc (v := x3 + (1 : Int32)) hX dX7_seeing_26 3 rfl rfl (by decide) [(3, .int (x3 + (1 : Int32))), (0, .ref (X.1.2.1 7)), (1, .int x1), (2, .int x2)] rfl ?_
      refine z_goto hX 4 dX7_seeing_29 (by decide) ?_
      exact z_sub [1, 2, 3, 0] rfl h
    · replace h := h.2 c0
      refine z_iinc (v := x2 + (1 : Int32)) hX dX7_seeing_23 2 rfl rfl (by decide) [(2, .int (x2 + (1 : Int32))), (0, .ref (X.1.2.1 7)), (1, .int x1), (3, .int x3)] rfl ?_
      refine z_iinc (v := x3 + (1 : Int32)) hX dX7_seeing_26 3 rfl rfl (by decide) [(3, .int (x3 + (1 : Int32))), (2, .int (x2 + (1 : Int32))), (0, .ref (X.1.2.1 7)), (1, .int x1)] rfl ?_
      refine z_goto hX 4 dX7_seeing_29 (by decide) ?_
      exact z_sub [2, 3, 1, 0] rfl h
abbrev LX7_ties_4 (X : XT) (Q : Option Value → Mem → Prop) (x1 : Int32) (x2 : Int32) (M : Mem) : Prop := Z SX X 1 3 Q 4 [(0, .ref (X.1.2.1 7)), (1, .int x1), (2, .int x2)] [] M
set_option maxRecDepth 100000 in
set_option maxHeartbeats 4000000 in
theorem EX7_ties {E : ET} {Q : Option Value → Mem → Prop} {M : Mem} (h : ∀ X : XT, X.1 = E → KX7_ties X → LX7_ties_4 X Q (0 : Int32) (0 : Int32) M) : CX7_ties E [.ref (E.2.1 7)] M Q := by
  refine z_entry (by decide +kernel) (Nat.le_of_ble_eq_true rfl) (fun X hE hX => ?_)
  subst hE
  replace h := h X rfl hX
  show Z SX X 1 3 Q 0 [(0, .ref (X.1.2.1 7))] [] M
  refine z_iconst (v := 0) hX dX7_ties_0 (by decide) ?_
  refine z_istore_n hX dX7_ties_1 rfl (by decide) [(1, .int (0 : Int32)), (0, .ref (X.1.2.1 7))] rfl ?_
  refine z_iconst (v := 0) hX dX7_ties_2 (by decide) ?_
  refine z_istore_n hX dX7_ties_3 rfl (by decide) [(2, .int (0 : Int32)), (1, .int (0 : Int32)), (0, .ref (X.1.2.1 7))] rfl ?_
  exact z_sub [2, 1, 0] rfl h
set_option maxRecDepth 100000 in
set_option maxHeartbeats 4000000 in
theorem BX7_ties_4 {X : XT} {Q : Option Value → Mem → Prop} (hX : KX7_ties X) {x1 x2 : Int32} {M : Mem} (h : (((M.1 7 5) ≤ x2 → Q (some (.int x1)) M) ∧ (¬ (M.1 7 5) ≤ x2 → (∃ (r1 : Int32), CX7_seenBy X.1 [.ref (X.1.2.1 7), .int x2] M (z_is (some (.int r1)) M) ∧ LX7_ties_4 X Q (x1 + r1) (x2 + (1 : Int32)) M)))) : LX7_ties_4 X Q x1 x2 M := by
  show Z SX X 1 3 Q 4 [(0, .ref (X.1.2.1 7)), (1, .int x1), (2, .int x2)] [] M
  refine z_iload_n hX dX7_ties_4 rfl 2 rfl ?_
  refine z_aload_n hX dX7_ties_5 rfl 0 rfl ?_
  refine gfX7_29 hX dX7_ties_6 ?_
  refine z_icmp_ge hX 26 dX7_ties_9 (by decide) (fun c0 => ?_) (fun c0 => ?_)
  · replace h := h.1 c0
    refine z_iload_n hX dX7_ties_26 rfl 1 rfl ?_
    exact z_iret hX dX7_ties_27 h
  · replace h := h.2 c0
    refine z_iload_n hX dX7_ties_12 rfl 1 rfl ?_
    refine z_aload_n hX dX7_ties_13 rfl 0 rfl ?_
    refine z_iload_n hX dX7_ties_14 rfl 2 rfl ?_
    obtain ⟨r1, c9, h⟩ := h
    refine mcX7_47 hX dX7_ties_15 (by decide) (Nat.le_of_ble_eq_true rfl) c9 ?_
    refine z_iadd hX dX7_ties_18 ?_
    refine z_istore_n hX dX7_ties_19 rfl (by decide) [(1, .int (x1 + r1)), (0, .ref (X.1.2.1 7)), (2, .int x2)] rfl ?_
    refine z_iinc (v := x2 + (1 : Int32)) hX dX7_ties_20 2 rfl rfl (by decide) [(2, .int (x2 + (1 : Int32))), (1, .int (x1 + r1)), (0, .ref (X.1.2.1 7))] rfl ?_
    refine z_goto hX 4 dX7_ties_23 (by decide) ?_
    exact z_sub [2, 1, 0] rfl h
abbrev LX7_countKind_4 (X : XT) (Q : Option Value → Mem → Prop) (x1 : Int32) (x2 : Int32) (x3 : Int32) (M : Mem) : Prop := Z SX X 0 4 Q 4 [(0, .ref (X.1.2.1 7)), (1, .int x1), (2, .int x2), (3, .int x3)] [] M
set_option maxRecDepth 100000 in
set_option maxHeartbeats 4000000 in
theorem EX7_countKind {E : ET} {Q : Option Value → Mem → Prop} {x1 : Int32} {M : Mem} (h : ∀ X : XT, X.1 = E → KX7_countKind X → LX7_countKind_4 X Q x1 (0 : Int32) (0 : Int32) M) : CX7_countKind E [.ref (E.2.1 7), .int x1] M Q := by
  refine z_entry (by decide +kernel) (Nat.le_of_ble_eq_true rfl) (fun X hE hX => ?_)
  subst hE
  replace h := h X rfl hX
  show Z SX X 0 4 Q 0 [(0, .ref (X.1.2.1 7)), (1, .int x1)] [] M
  refine z_iconst (v := 0) hX dX7_countKind_0 (by decide) ?_
  refine z_istore_n hX dX7_countKind_1 rfl (by decide) [(2, .int (0 : Int32)), (0, .ref (X.1.2.1 7)), (1, .int x1)] rfl ?_
  refine z_iconst (v := 0) hX dX7_countKind_2 (by decide) ?_
  refine z_istore_n hX dX7_countKind_3 rfl (by decide) [(3, .int (0 : Int32)), (2, .int (0 : Int32)), (0, .ref (X.1.2.1 7)), (1, .int x1)] rfl ?_
  exact z_sub [2, 3, 1, 0] rfl h
set_option maxRecDepth 100000 in
set_option maxHeartbeats 4000000 in
theorem BX7_countKind_4 {X : XT} {Q : Option Value → Mem → Prop} (hX : KX7_countKind X) {x1 x2 x3 : Int32} {M : Mem} (h : (((M.1 7 5) ≤ x3 → Q (some (.int x2)) M) ∧ (¬ (M.1 7 5) ≤ x3 → (vp_in x3 10 ∧ ((¬ (M.1 21 x3.toNatClampNeg) = x1 → LX7_countKind_4 X Q x1 x2 (x3 + (1 : Int32)) M) ∧ ((M.1 21 x3.toNatClampNeg) = x1 → LX7_countKind_4 X Q x1 (x2 + (1 : Int32)) (x3 + (1 : Int32)) M)))))) : LX7_countKind_4 X Q x1 x2 x3 M := by
  show Z SX X 0 4 Q 4 [(0, .ref (X.1.2.1 7)), (1, .int x1), (2, .int x2), (3, .int x3)] [] M
  refine z_iload_n hX dX7_countKind_4 rfl 3 rfl ?_
  refine z_aload_n hX dX7_countKind_5 rfl 0 rfl ?_
  refine gfX7_29 hX dX7_countKind_6 ?_
  refine z_icmp_ge hX 31 dX7_countKind_9 (by decide) (fun c0 => ?_) (fun c0 => ?_)
  · replace h := h.1 c0
    refine z_iload_n hX dX7_countKind_31 rfl 2 rfl ?_
    exact z_iret hX dX7_countKind_32 h
  · replace h := h.2 c0
    refine z_aload_n hX dX7_countKind_12 rfl 0 rfl ?_
    refine gfX7_16 hX dX7_countKind_13 ?_
    refine z_iload_n hX dX7_countKind_16 rfl 3 rfl ?_
    refine z_iald hX 21 rfl h.1 dX7_countKind_17 ?_
    replace h := h.2
    refine z_iload_n hX dX7_countKind_18 rfl 1 rfl ?_
    refine z_icmp_ne hX 25 dX7_countKind_19 (by decide) (fun c0 => ?_) (fun c0 => ?_)
    · replace h := h.1 c0
      refine z_iinc (v := x3 + (1 : Int32)) hX dX7_countKind_25 3 rfl rfl (by decide) [(3, .int (x3 + (1 : Int32))), (0, .ref (X.1.2.1 7)), (1, .int x1), (2, .int x2)] rfl ?_
      refine z_goto hX 4 dX7_countKind_28 (by decide) ?_
      exact z_sub [1, 2, 3, 0] rfl h
    · replace h := h.2 c0
      refine z_iinc (v := x2 + (1 : Int32)) hX dX7_countKind_22 2 rfl rfl (by decide) [(2, .int (x2 + (1 : Int32))), (0, .ref (X.1.2.1 7)), (1, .int x1), (3, .int x3)] rfl ?_
      refine z_iinc (v := x3 + (1 : Int32)) hX dX7_countKind_25 3 rfl rfl (by decide) [(3, .int (x3 + (1 : Int32))), (2, .int (x2 + (1 : Int32))), (0, .ref (X.1.2.1 7)), (1, .int x1)] rfl ?_
      refine z_goto hX 4 dX7_countKind_28 (by decide) ?_
      exact z_sub [2, 3, 1, 0] rfl h
abbrev LX7_sumOf_10 (X : XT) (Q : Option Value → Mem → Prop) (x1 : Int32) (x2 : Int32) (x3 : Int32) (x4 : Int32) (M : Mem) : Prop := Z SX X 1 6 Q 10 [(0, .ref (X.1.2.1 7)), (1, .int x1), (2, .int x2), (3, .int x3), (4, .int x4)] [] M
set_option maxRecDepth 100000 in
set_option maxHeartbeats 4000000 in
theorem EX7_sumOf {E : ET} {Q : Option Value → Mem → Prop} {x1 x2 : Int32} {M : Mem} (h : ∀ X : XT, X.1 = E → KX7_sumOf X → (vp_in x1 10 ∧ LX7_sumOf_10 X Q x1 x2 (M.1 22 x1.toNatClampNeg) (0 : Int32) M)) : CX7_sumOf E [.ref (E.2.1 7), .int x1, .int x2] M Q := by
  refine z_entry (by decide +kernel) (Nat.le_of_ble_eq_true rfl) (fun X hE hX => ?_)
  subst hE
  replace h := h X rfl hX
  show Z SX X 1 6 Q 0 [(0, .ref (X.1.2.1 7)), (1, .int x1), (2, .int x2)] [] M
  refine z_aload_n hX dX7_sumOf_0 rfl 0 rfl ?_
  refine gfX7_20 hX dX7_sumOf_1 ?_
  refine z_iload_n hX dX7_sumOf_4 rfl 1 rfl ?_
  refine z_iald hX 22 rfl h.1 dX7_sumOf_5 ?_
  replace h := h.2
  refine z_istore_n hX dX7_sumOf_6 rfl (by decide) [(3, .int (M.1 22 x1.toNatClampNeg)), (0, .ref (X.1.2.1 7)), (1, .int x1), (2, .int x2)] rfl ?_
  refine z_iconst (v := 0) hX dX7_sumOf_7 (by decide) ?_
  refine z_istore hX dX7_sumOf_8 (by decide) [(4, .int (0 : Int32)), (3, .int (M.1 22 x1.toNatClampNeg)), (0, .ref (X.1.2.1 7)), (1, .int x1), (2, .int x2)] rfl ?_
  exact z_sub [2, 3, 4, 1, 0] rfl h
set_option maxRecDepth 100000 in
set_option maxHeartbeats 4000000 in
theorem BX7_sumOf_10 {X : XT} {Q : Option Value → Mem → Prop} (hX : KX7_sumOf X) {x1 x2 x3 x4 : Int32} {M : Mem} (h : (((M.1 7 5) ≤ x4 → Q (some (.int x3)) M) ∧ (¬ (M.1 7 5) ≤ x4 → (vp_in x1 10 ∧ (vp_in x1 10 ∧ vp_in x4 10 ∧ (∃ (r1 : Int32), CX7_worn X.1 [.int x2, .int x4] M (z_is (some (.int r1)) M) ∧ ((¬ r1 = (1 : Int32) → LX7_sumOf_10 X Q x1 x2 (x3 + (-(M.1 (10 + x1.toNatClampNeg) x4.toNatClampNeg))) (x4 + (1 : Int32)) M) ∧ (r1 = (1 : Int32) → LX7_sumOf_10 X Q x1 x2 (x3 + (M.1 (10 + x1.toNatClampNeg) x4.toNatClampNeg)) (x4 + (1 : Int32)) M)))))))) : LX7_sumOf_10 X Q x1 x2 x3 x4 M := by
  show Z SX X 1 6 Q 10 [(0, .ref (X.1.2.1 7)), (1, .int x1), (2, .int x2), (3, .int x3), (4, .int x4)] [] M
  refine z_iload hX dX7_sumOf_10 4 rfl ?_
  refine z_aload_n hX dX7_sumOf_12 rfl 0 rfl ?_
  refine gfX7_29 hX dX7_sumOf_13 ?_
  refine z_icmp_ge hX 57 dX7_sumOf_16 (by decide) (fun c0 => ?_) (fun c0 => ?_)
  · replace h := h.1 c0
    refine z_iload_n hX dX7_sumOf_57 rfl 3 rfl ?_
    exact z_iret hX dX7_sumOf_58 h
  · replace h := h.2 c0
    refine z_aload_n hX dX7_sumOf_19 rfl 0 rfl ?_
    refine gfX7_11 hX dX7_sumOf_20 ?_
    refine z_iload_n hX dX7_sumOf_23 rfl 1 rfl ?_
    refine z_aald hX 20 rfl h.1 (z_row h.1) dX7_sumOf_24 ?_
    replace h := h.2
    refine z_iload hX dX7_sumOf_25 4 rfl ?_
    refine z_iald hX (10 + x1.toNatClampNeg) (z_rowc h.1) h.2.1 dX7_sumOf_27 ?_
    replace h := h.2.2
    refine z_istore hX dX7_sumOf_28 (by decide) [(5, .int (M.1 (10 + x1.toNatClampNeg) x4.toNatClampNeg)), (0, .ref (X.1.2.1 7)), (1, .int x1), (2, .int x2), (3, .int x3), (4, .int x4)] rfl ?_
    refine z_iload_n hX dX7_sumOf_30 rfl 4 rfl ?_
    refine z_iload_n hX dX7_sumOf_31 rfl 3 rfl ?_
    refine z_iload hX dX7_sumOf_32 5 rfl ?_
    obtain ⟨r1, c9, h⟩ := h
    refine mcX7_51 hX dX7_sumOf_34 (by decide) (Nat.le_of_ble_eq_true rfl) c9 ?_
    refine z_iconst (v := 1) hX dX7_sumOf_37 (by decide) ?_
    refine z_icmp_ne hX 46 dX7_sumOf_38 (by decide) (fun c0 => ?_) (fun c0 => ?_)
    · replace h := h.1 c0
      refine z_iload hX dX7_sumOf_46 0 rfl ?_
      refine z_ineg hX dX7_sumOf_48 ?_
      refine z_iadd hX dX7_sumOf_49 ?_
      refine z_istore_n hX dX7_sumOf_50 rfl (by decide) [(3, .int (x3 + (-(M.1 (10 + x1.toNatClampNeg) x4.toNatClampNeg)))), (5, .int (M.1 (10 + x1.toNatClampNeg) x4.toNatClampNeg)), (0, .ref (X.1.2.1 7)), (1, .int x1), (2, .int x2), (4, .int x4)] rfl ?_
      refine z_iinc (v := x4 + (1 : Int32)) hX dX7_sumOf_51 5 rfl rfl (by decide) [(4, .int (x4 + (1 : Int32))), (3, .int (x3 + (-(M.1 (10 + x1.toNatClampNeg) x4.toNatClampNeg)))), (5, .int (M.1 (10 + x1.toNatClampNeg) x4.toNatClampNeg)), (0, .ref (X.1.2.1 7)), (1, .int x1), (2, .int x2)] rfl ?_
      refine z_goto hX 10 dX7_sumOf_54 (by decide) ?_
      exact z_sub [3, 4, 5, 1, 0] rfl h
    · replace h := h.2 c0
      refine z_iload hX dX7_sumOf_41 0 rfl ?_
      refine z_goto hX 49 dX7_sumOf_43 (by decide) ?_
      refine z_iadd hX dX7_sumOf_49 ?_
      refine z_istore_n hX dX7_sumOf_50 rfl (by decide) [(3, .int (x3 + (M.1 (10 + x1.toNatClampNeg) x4.toNatClampNeg))), (5, .int (M.1 (10 + x1.toNatClampNeg) x4.toNatClampNeg)), (0, .ref (X.1.2.1 7)), (1, .int x1), (2, .int x2), (4, .int x4)] rfl ?_
      refine z_iinc (v := x4 + (1 : Int32)) hX dX7_sumOf_51 5 rfl rfl (by decide) [(4, .int (x4 + (1 : Int32))), (3, .int (x3 + (M.1 (10 + x1.toNatClampNeg) x4.toNatClampNeg))), (5, .int (M.1 (10 + x1.toNatClampNeg) x4.toNatClampNeg)), (0, .ref (X.1.2.1 7)), (1, .int x1), (2, .int x2)] rfl ?_
      refine z_goto hX 10 dX7_sumOf_54 (by decide) ?_
      exact z_sub [3, 4, 5, 1, 0] rfl h
set_option maxRecDepth 100000 in
set_option maxHeartbeats 4000000 in
theorem EX7_worn {E : ET} {Q : Option Value → Mem → Prop} {x0 x1 : Int32} {M : Mem} (h : Q (some (.int ((x0 >>> (x1 &&& 31)) &&& (1 : Int32)))) M) : CX7_worn E [.int x0, .int x1] M Q := by
  refine z_entry (by decide +kernel) (Nat.le_of_ble_eq_true rfl) (fun X hE hX => ?_)
  subst hE
  show Z SX X 0 2 Q 0 [(0, .int x0), (1, .int x1)] [] M
  refine z_iload_n hX dX7_worn_0 rfl 0 rfl ?_
  refine z_iload_n hX dX7_worn_1 rfl 1 rfl ?_
  refine z_ishr hX dX7_worn_2 ?_
  refine z_iconst (v := 1) hX dX7_worn_3 (by decide) ?_
  refine z_iand hX dX7_worn_4 ?_
  exact z_iret hX dX7_worn_5 h
set_option maxRecDepth 100000 in
set_option maxHeartbeats 4000000 in
theorem EX7_nextOf {E : ET} {Q : Option Value → Mem → Prop} {x0 x1 x2 : Int32} {M : Mem} (h : ((¬ x0 = (3 : Int32) → ((x0 = (2 : Int32) → Q (some (.int x2)) M) ∧ (¬ x0 = (2 : Int32) → ((¬ x1 = 0 → ((x1 ≤ 0 → ((¬ x0 = 0 → ((¬ (0 : Int32) = (0 : Int32) → Q (some (.int (0 : Int32))) M) ∧ ((0 : Int32) = (0 : Int32) → Q (some (.int (1 : Int32))) M))) ∧ (x0 = 0 → ((¬ (0 : Int32) = (1 : Int32) → Q (some (.int (0 : Int32))) M) ∧ ((0 : Int32) = (1 : Int32) → Q (some (.int (1 : Int32))) M))))) ∧ (¬ x1 ≤ 0 → ((¬ x0 = 0 → ((¬ (1 : Int32) = (0 : Int32) → Q (some (.int (0 : Int32))) M) ∧ ((1 : Int32) = (0 : Int32) → Q (some (.int (1 : Int32))) M))) ∧ (x0 = 0 → ((¬ (1 : Int32) = (1 : Int32) → Q (some (.int (0 : Int32))) M) ∧ ((1 : Int32) = (1 : Int32) → Q (some (.int (1 : Int32))) M))))))) ∧ (x1 = 0 → Q (some (.int x2)) M))))) ∧ (x0 = (3 : Int32) → Q (some (.int ((1 : Int32) - x2))) M))) : CX7_nextOf E [.int x0, .int x1, .int x2] M Q := by
  refine z_entry (by decide +kernel) (Nat.le_of_ble_eq_true rfl) (fun X hE hX => ?_)
  subst hE
  show Z SX X 0 3 Q 0 [(0, .int x0), (1, .int x1), (2, .int x2)] [] M
  refine z_iload_n hX dX7_nextOf_0 rfl 0 rfl ?_
  refine z_iconst (v := 3) hX dX7_nextOf_1 (by decide) ?_
  refine z_icmp_ne hX 9 dX7_nextOf_2 (by decide) (fun c0 => ?_) (fun c0 => ?_)
  · replace h := h.1 c0
    refine z_iload_n hX dX7_nextOf_9 rfl 0 rfl ?_
    refine z_iconst (v := 2) hX dX7_nextOf_10 (by decide) ?_
    refine z_icmp_eq hX 18 dX7_nextOf_11 (by decide) (fun c0 => ?_) (fun c0 => ?_)
    · replace h := h.1 c0
      refine z_iload_n hX dX7_nextOf_18 rfl 2 rfl ?_
      exact z_iret hX dX7_nextOf_19 h
    · replace h := h.2 c0
      refine z_iload_n hX dX7_nextOf_14 rfl 1 rfl ?_
      refine z_if_ne hX 20 dX7_nextOf_15 (by decide) (fun c0 => ?_) (fun c0 => ?_)
      · replace h := h.1 c0
        refine z_iload_n hX dX7_nextOf_20 rfl 1 rfl ?_
        refine z_if_le hX 28 dX7_nextOf_21 (by decide) (fun c0 => ?_) (fun c0 => ?_)
        · replace h := h.1 c0
          refine z_iconst (v := 0) hX dX7_nextOf_28 (by decide) ?_
          refine z_iload_n hX dX7_nextOf_29 rfl 0 rfl ?_
          refine z_if_ne hX 37 dX7_nextOf_30 (by decide) (fun c0 => ?_) (fun c0 => ?_)
          · replace h := h.1 c0
            refine z_iconst (v := 0) hX dX7_nextOf_37 (by decide) ?_
            refine z_icmp_ne hX 45 dX7_nextOf_38 (by decide) (fun c0 => ?_) (fun c0 => ?_)
            · replace h := h.1 c0
              refine z_iconst (v := 0) hX dX7_nextOf_45 (by decide) ?_
              exact z_iret hX dX7_nextOf_46 h
            · replace h := h.2 c0
              refine z_iconst (v := 1) hX dX7_nextOf_41 (by decide) ?_
              refine z_goto hX 46 dX7_nextOf_42 (by decide) ?_
              exact z_iret hX dX7_nextOf_46 h
          · replace h := h.2 c0
            refine z_iconst (v := 1) hX dX7_nextOf_33 (by decide) ?_
            refine z_goto hX 38 dX7_nextOf_34 (by decide) ?_
            refine z_icmp_ne hX 45 dX7_nextOf_38 (by decide) (fun c0 => ?_) (fun c0 => ?_)
            · replace h := h.1 c0
              refine z_iconst (v := 0) hX dX7_nextOf_45 (by decide) ?_
              exact z_iret hX dX7_nextOf_46 h
            · replace h := h.2 c0
              refine z_iconst (v := 1) hX dX7_nextOf_41 (by decide) ?_
              refine z_goto hX 46 dX7_nextOf_42 (by decide) ?_
              exact z_iret hX dX7_nextOf_46 h
        · replace h := h.2 c0
          refine z_iconst (v := 1) hX dX7_nextOf_24 (by decide) ?_
          refine z_goto hX 29 dX7_nextOf_25 (by decide) ?_
          refine z_iload_n hX dX7_nextOf_29 rfl 0 rfl ?_
          refine z_if_ne hX 37 dX7_nextOf_30 (by decide) (fun c0 => ?_) (fun c0 => ?_)
          · replace h := h.1 c0
            refine z_iconst (v := 0) hX dX7_nextOf_37 (by decide) ?_
            refine z_icmp_ne hX 45 dX7_nextOf_38 (by decide) (fun c0 => ?_) (fun c0 => ?_)
            · replace h := h.1 c0
              refine z_iconst (v := 0) hX dX7_nextOf_45 (by decide) ?_
              exact z_iret hX dX7_nextOf_46 h
            · replace h := h.2 c0
              refine z_iconst (v := 1) hX dX7_nextOf_41 (by decide) ?_
              refine z_goto hX 46 dX7_nextOf_42 (by decide) ?_
              exact z_iret hX dX7_nextOf_46 h
          · replace h := h.2 c0
            refine z_iconst (v := 1) hX dX7_nextOf_33 (by decide) ?_
            refine z_goto hX 38 dX7_nextOf_34 (by decide) ?_
            refine z_icmp_ne hX 45 dX7_nextOf_38 (by decide) (fun c0 => ?_) (fun c0 => ?_)
            · replace h := h.1 c0
              refine z_iconst (v := 0) hX dX7_nextOf_45 (by decide) ?_
              exact z_iret hX dX7_nextOf_46 h
            · replace h := h.2 c0
              refine z_iconst (v := 1) hX dX7_nextOf_41 (by decide) ?_
              refine z_goto hX 46 dX7_nextOf_42 (by decide) ?_
              exact z_iret hX dX7_nextOf_46 h
      · replace h := h.2 c0
        refine z_iload_n hX dX7_nextOf_18 rfl 2 rfl ?_
        exact z_iret hX dX7_nextOf_19 h
  · replace h := h.2 c0
    refine z_iconst (v := 1) hX dX7_nextOf_5 (by decide) ?_
    refine z_iload_n hX dX7_nextOf_6 rfl 2 rfl ?_
    refine z_isub hX dX7_nextOf_7 ?_
    exact z_iret hX dX7_nextOf_8 h
set_option maxRecDepth 100000 in
set_option maxHeartbeats 4000000 in
theorem EX7_isCalm {E : ET} {Q : Option Value → Mem → Prop} {x1 x2 : Int32} {M : Mem} (h : ∃ (r1 : Int32), CX7_worn E [.int x2, .int x1] M (z_is (some (.int r1)) M) ∧ (vp_in x1 10 ∧ (∃ (r2 : Int32), CX7_sumOf E [.ref (E.2.1 7), .int x1, .int x2] M (z_is (some (.int r2)) M) ∧ (∃ (r3 : Int32), CX7_nextOf E [.int (M.1 21 x1.toNatClampNeg), .int r2, .int r1] M (z_is (some (.int r3)) M) ∧ ((¬ r3 = r1 → Q (some (.int 0)) M) ∧ (r3 = r1 → Q (some (.int 1)) M)))))) : CX7_isCalm E [.ref (E.2.1 7), .int x1, .int x2] M Q := by
  refine z_entry (by decide +kernel) (Nat.le_of_ble_eq_true rfl) (fun X hE hX => ?_)
  subst hE
  show Z SX X 2 4 Q 0 [(0, .ref (X.1.2.1 7)), (1, .int x1), (2, .int x2)] [] M
  refine z_iload_n hX dX7_isCalm_0 rfl 2 rfl ?_
  refine z_iload_n hX dX7_isCalm_1 rfl 1 rfl ?_
  obtain ⟨r1, c9, h⟩ := h
  refine mcX7_51 hX dX7_isCalm_2 (by decide) (Nat.le_of_ble_eq_true rfl) c9 ?_
  refine z_istore_n hX dX7_isCalm_5 rfl (by decide) [(3, .int r1), (0, .ref (X.1.2.1 7)), (1, .int x1), (2, .int x2)] rfl ?_
  refine z_aload_n hX dX7_isCalm_6 rfl 1 rfl ?_
  refine gfX7_16 hX dX7_isCalm_7 ?_
  refine z_iload_n hX dX7_isCalm_10 rfl 2 rfl ?_
  refine z_iald hX 21 rfl h.1 dX7_isCalm_11 ?_
  replace h := h.2
  refine z_aload_n hX dX7_isCalm_12 rfl 1 rfl ?_
  refine z_iload_n hX dX7_isCalm_13 rfl 2 rfl ?_
  refine z_iload_n hX dX7_isCalm_14 rfl 3 rfl ?_
  obtain ⟨r2, c9, h⟩ := h
  refine mcX7_55 hX dX7_isCalm_15 (by decide) (Nat.le_of_ble_eq_true rfl) c9 ?_
  refine z_iload_n hX dX7_isCalm_18 rfl 0 rfl ?_
  obtain ⟨r3, c9, h⟩ := h
  refine mcX7_58 hX dX7_isCalm_19 (by decide) (Nat.le_of_ble_eq_true rfl) c9 ?_
  refine z_iload_n hX dX7_isCalm_22 rfl 0 rfl ?_
  refine z_icmp_ne hX 30 dX7_isCalm_23 (by decide) (fun c0 => ?_) (fun c0 => ?_)
  · replace h := h.1 c0
    refine z_iconst (v := 0) hX dX7_isCalm_30 (by decide) ?_
    exact z_zret hX dX7_isCalm_31 (Or.inl rfl) h
  · replace h := h.2 c0
    refine z_iconst (v := 1) hX dX7_isCalm_26 (by decide) ?_
    refine z_goto hX 31 dX7_isCalm_27 (by decide) ?_
    exact z_zret hX dX7_isCalm_31 (Or.inr rfl) h
abbrev LX7_restlessIn_4 (X : XT) (Q : Option Value → Mem → Prop) (x1 : Int32) (x2 : Int32) (x3 : Int32) (M : Mem) : Prop := Z SX X 3 4 Q 4 [(0, .ref (X.1.2.1 7)), (1, .int x1), (2, .int x2), (3, .int x3)] [] M
set_option maxRecDepth 100000 in
set_option maxHeartbeats 4000000 in
theorem EX7_restlessIn {E : ET} {Q : Option Value → Mem → Prop} {x1 : Int32} {M : Mem} (h : ∀ X : XT, X.1 = E → KX7_restlessIn X → LX7_restlessIn_4 X Q x1 (0 : Int32) (0 : Int32) M) : CX7_restlessIn E [.ref (E.2.1 7), .int x1] M Q := by
  refine z_entry (by decide +kernel) (Nat.le_of_ble_eq_true rfl) (fun X hE hX => ?_)
  subst hE
  replace h := h X rfl hX
  show Z SX X 3 4 Q 0 [(0, .ref (X.1.2.1 7)), (1, .int x1)] [] M
  refine z_iconst (v := 0) hX dX7_restlessIn_0 (by decide) ?_
  refine z_istore_n hX dX7_restlessIn_1 rfl (by decide) [(2, .int (0 : Int32)), (0, .ref (X.1.2.1 7)), (1, .int x1)] rfl ?_
  refine z_iconst (v := 0) hX dX7_restlessIn_2 (by decide) ?_
  refine z_istore_n hX dX7_restlessIn_3 rfl (by decide) [(3, .int (0 : Int32)), (2, .int (0 : Int32)), (0, .ref (X.1.2.1 7)), (1, .int x1)] rfl ?_
  exact z_sub [2, 3, 1, 0] rfl h
set_option maxRecDepth 100000 in
set_option maxHeartbeats 4000000 in
theorem BX7_restlessIn_4 {X : XT} {Q : Option Value → Mem → Prop} (hX : KX7_restlessIn X) {x1 x2 x3 : Int32} {M : Mem} (h : (((M.1 7 5) ≤ x3 → Q (some (.int x2)) M) ∧ (¬ (M.1 7 5) ≤ x3 → (∃ (r1 : Int32), CX7_isCalm X.1 [.ref (X.1.2.1 7), .int x3, .int x1] M (z_is (some (.int r1)) M) ∧ ((¬ r1 = 0 → LX7_restlessIn_4 X Q x1 x2 (x3 + (1 : Int32)) M) ∧ (r1 = 0 → LX7_restlessIn_4 X Q x1 (x2 ||| ((1 : Int32) <<< (x3 &&& 31))) (x3 + (1 : Int32)) M)))))) : LX7_restlessIn_4 X Q x1 x2 x3 M := by
  show Z SX X 3 4 Q 4 [(0, .ref (X.1.2.1 7)), (1, .int x1), (2, .int x2), (3, .int x3)] [] M
  refine z_iload_n hX dX7_restlessIn_4 rfl 3 rfl ?_
  refine z_aload_n hX dX7_restlessIn_5 rfl 0 rfl ?_
  refine gfX7_29 hX dX7_restlessIn_6 ?_
  refine z_icmp_ge hX 33 dX7_restlessIn_9 (by decide) (fun c0 => ?_) (fun c0 => ?_)
  · replace h := h.1 c0
    refine z_iload_n hX dX7_restlessIn_33 rfl 2 rfl ?_
    exact z_iret hX dX7_restlessIn_34 h
  · replace h := h.2 c0
    refine z_aload_n hX dX7_restlessIn_12 rfl 0 rfl ?_
    refine z_iload_n hX dX7_restlessIn_13 rfl 3 rfl ?_
    refine z_iload_n hX dX7_restlessIn_14 rfl 1 rfl ?_
    obtain ⟨r1, c9, h⟩ := h
    refine mcX7_62 hX dX7_restlessIn_15 (by decide) (Nat.le_of_ble_eq_true rfl) c9 ?_
    refine z_if_ne hX 27 dX7_restlessIn_18 (by decide) (fun c0 => ?_) (fun c0 => ?_)
    · replace h := h.1 c0
      refine z_iinc (v := x3 + (1 : Int32)) hX dX7_restlessIn_27 3 rfl rfl (by decide) [(3, .int (x3 + (1 : Int32))), (0, .ref (X.1.2.1 7)), (1, .int x1), (2, .int x2)] rfl ?_
      refine z_goto hX 4 dX7_restlessIn_30 (by decide) ?_
      exact z_sub [1, 2, 3, 0] rfl h
    · replace h := h.2 c0
      refine z_iload_n hX dX7_restlessIn_21 rfl 2 rfl ?_
      refine z_iconst (v := 1) hX dX7_restlessIn_22 (by decide) ?_
      refine z_iload_n hX dX7_restlessIn_23 rfl 3 rfl ?_
      refine z_ishl hX dX7_restlessIn_24 ?_
      refine z_ior hX dX7_restlessIn_25 ?_
      refine z_istore_n hX dX7_restlessIn_26 rfl (by decide) [(2, .int (x2 ||| ((1 : Int32) <<< (x3 &&& 31)))), (0, .ref (X.1.2.1 7)), (1, .int x1), (3, .int x3)] rfl ?_
      refine z_iinc (v := x3 + (1 : Int32)) hX dX7_restlessIn_27 3 rfl rfl (by decide) [(3, .int (x3 + (1 : Int32))), (2, .int (x2 ||| ((1 : Int32) <<< (x3 &&& 31)))), (0, .ref (X.1.2.1 7)), (1, .int x1)] rfl ?_
      refine z_goto hX 4 dX7_restlessIn_30 (by decide) ?_
      exact z_sub [2, 3, 1, 0] rfl h
abbrev LX7_restless_2 (X : XT) (Q : Option Value → Mem → Prop) (x1 : Int32) (M : Mem) : Prop := Z SX X 2 2 Q 2 [(0, .ref (X.1.2.1 7)), (1, .int x1)] [] M
set_option maxRecDepth 100000 in
set_option maxHeartbeats 4000000 in
theorem EX7_restless {E : ET} {Q : Option Value → Mem → Prop} {M : Mem} (h : ∀ X : XT, X.1 = E → KX7_restless X → LX7_restless_2 X Q (0 : Int32) M) : CX7_restless E [.ref (E.2.1 7)] M Q := by
  refine z_entry (by decide +kernel) (Nat.le_of_ble_eq_true rfl) (fun X hE hX => ?_)
  subst hE
  replace h := h X rfl hX
  show Z SX X 2 2 Q 0 [(0, .ref (X.1.2.1 7))] [] M
  refine z_iconst (v := 0) hX dX7_restless_0 (by decide) ?_
  refine z_istore_n hX dX7_restless_1 rfl (by decide) [(1, .int (0 : Int32)), (0, .ref (X.1.2.1 7))] rfl ?_
  exact z_sub [1, 0] rfl h
set_option maxRecDepth 100000 in
set_option maxHeartbeats 4000000 in
theorem BX7_restless_2 {X : XT} {Q : Option Value → Mem → Prop} (hX : KX7_restless X) {x1 : Int32} {M : Mem} (h : (((M.1 7 5) ≤ x1 → (∀ M1 : Mem, M1 = z_st M 7 6 (0 : Int32) → Q (some (.ref (X.1.2.1 24))) M1)) ∧ (¬ (M.1 7 5) ≤ x1 → (∃ (r2 : Int32), CX7_worn X.1 [.int (M.1 7 6), .int x1] M (z_is (some (.int r2)) M) ∧ ((¬ r2 = (1 : Int32) → LX7_restless_2 X Q (x1 + (1 : Int32)) M) ∧ (r2 = (1 : Int32) → (∃ (M3 : Mem), CX7_renew X.1 [.ref (X.1.2.1 7), .int x1] M (z_is none M3) ∧ LX7_restless_2 X Q (x1 + (1 : Int32)) M3))))))) : LX7_restless_2 X Q x1 M := by
  show Z SX X 2 2 Q 2 [(0, .ref (X.1.2.1 7)), (1, .int x1)] [] M
  refine z_iload_n hX dX7_restless_2 rfl 1 rfl ?_
  refine z_aload_n hX dX7_restless_3 rfl 0 rfl ?_
  refine gfX7_29 hX dX7_restless_4 ?_
  refine z_icmp_ge hX 33 dX7_restless_7 (by decide) (fun c0 => ?_) (fun c0 => ?_)
  · replace h := h.1 c0
    refine z_aload_n hX dX7_restless_33 rfl 0 rfl ?_
    refine z_iconst (v := 0) hX dX7_restless_34 (by decide) ?_
    refine pfX7_33 hX dX7_restless_35 (fun M1 eM1 => ?_)
    replace h := h M1 eM1
    refine z_aload_n hX dX7_restless_38 rfl 0 rfl ?_
    refine gfX7_26 hX dX7_restless_39 ?_
    exact z_aret hX dX7_restless_42 h
  · replace h := h.2 c0
    refine z_aload_n hX dX7_restless_10 rfl 0 rfl ?_
    refine gfX7_33 hX dX7_restless_11 ?_
    refine z_iload_n hX dX7_restless_14 rfl 1 rfl ?_
    obtain ⟨r2, c9, h⟩ := h
    refine mcX7_51 hX dX7_restless_15 (by decide) (Nat.le_of_ble_eq_true rfl) c9 ?_
    refine z_iconst (v := 1) hX dX7_restless_18 (by decide) ?_
    refine z_icmp_ne hX 27 dX7_restless_19 (by decide) (fun c0 => ?_) (fun c0 => ?_)
    · replace h := h.1 c0
      refine z_iinc (v := x1 + (1 : Int32)) hX dX7_restless_27 1 rfl rfl (by decide) [(1, .int (x1 + (1 : Int32))), (0, .ref (X.1.2.1 7))] rfl ?_
      refine z_goto hX 2 dX7_restless_30 (by decide) ?_
      exact z_sub [1, 0] rfl h
    · replace h := h.2 c0
      refine z_aload_n hX dX7_restless_22 rfl 0 rfl ?_
      refine z_iload_n hX dX7_restless_23 rfl 1 rfl ?_
      obtain ⟨M3, c9, h⟩ := h
      refine mcX7_66 hX dX7_restless_24 (by decide) (Nat.le_of_ble_eq_true rfl) c9 ?_
      refine z_iinc (v := x1 + (1 : Int32)) hX dX7_restless_27 1 rfl rfl (by decide) [(1, .int (x1 + (1 : Int32))), (0, .ref (X.1.2.1 7))] rfl ?_
      refine z_goto hX 2 dX7_restless_30 (by decide) ?_
      exact z_sub [1, 0] rfl h
abbrev LX7_renew_25 (X : XT) (Q : Option Value → Mem → Prop) (x1 : Int32) (x2 : Int32) (x3 : Int32) (x4 : Int32) (x5 : Int32) (M : Mem) : Prop := Z SX X 1 8 Q 25 [(0, .ref (X.1.2.1 7)), (1, .int x1), (2, .int x2), (3, .int x3), (4, .int x4), (5, .int x5)] [] M
set_option maxRecDepth 100000 in
set_option maxHeartbeats 4000000 in
theorem EX7_renew {E : ET} {Q : Option Value → Mem → Prop} {x1 : Int32} {M : Mem} (h : ∀ X : XT, X.1 = E → KX7_renew X → (∃ (M1 : Mem), CX7_fillSums X.1 [.ref (X.1.2.1 7), .int x1] M (z_is none M1) ∧ (vp_in x1 10 ∧ (∃ (r2 : Int32), CX7_dresses X.1 [.ref (X.1.2.1 7)] M1 (z_is (some (.int r2)) M1) ∧ LX7_renew_25 X Q x1 (M1.1 21 x1.toNatClampNeg) ((1 : Int32) <<< (x1 &&& 31)) r2 (0 : Int32) M1)))) : CX7_renew E [.ref (E.2.1 7), .int x1] M Q := by
  refine z_entry (by decide +kernel) (Nat.le_of_ble_eq_true rfl) (fun X hE hX => ?_)
  subst hE
  replace h := h X rfl hX
  show Z SX X 1 8 Q 0 [(0, .ref (X.1.2.1 7)), (1, .int x1)] [] M
  refine z_aload_n hX dX7_renew_0 rfl 0 rfl ?_
  refine z_iload_n hX dX7_renew_1 rfl 1 rfl ?_
  obtain ⟨M1, c9, h⟩ := h
  refine mcX7_69 hX dX7_renew_2 (by decide) (Nat.le_of_ble_eq_true rfl) c9 ?_
  refine z_aload_n hX dX7_renew_5 rfl 0 rfl ?_
  refine gfX7_16 hX dX7_renew_6 ?_
  refine z_iload_n hX dX7_renew_9 rfl 1 rfl ?_
  refine z_iald hX 21 rfl h.1 dX7_renew_10 ?_
  replace h := h.2
  refine z_istore_n hX dX7_renew_11 rfl (by decide) [(2, .int (M1.1 21 x1.toNatClampNeg)), (0, .ref (X.1.2.1 7)), (1, .int x1)] rfl ?_
  refine z_iconst (v := 1) hX dX7_renew_12 (by decide) ?_
  refine z_iload_n hX dX7_renew_13 rfl 2 rfl ?_
  refine z_ishl hX dX7_renew_14 ?_
  refine z_istore_n hX dX7_renew_15 rfl (by decide) [(3, .int ((1 : Int32) <<< (x1 &&& 31))), (2, .int (M1.1 21 x1.toNatClampNeg)), (0, .ref (X.1.2.1 7)), (1, .int x1)] rfl ?_
  refine z_aload_n hX dX7_renew_16 rfl 2 rfl ?_
  obtain ⟨r2, c9, h⟩ := h
  refine mcX7_39 hX dX7_renew_17 (by decide) (Nat.le_of_ble_eq_true rfl) c9 ?_
  refine z_istore hX dX7_renew_20 (by decide) [(4, .int r2), (3, .int ((1 : Int32) <<< (x1 &&& 31))), (2, .int (M1.1 21 x1.toNatClampNeg)), (0, .ref (X.1.2.1 7)), (1, .int x1)] rfl ?_
  refine z_iconst (v := 0) hX dX7_renew_22 (by decide) ?_
  refine z_istore hX dX7_renew_23 (by decide) [(5, .int (0 : Int32)), (4, .int r2), (3, .int ((1 : Int32) <<< (x1 &&& 31))), (2, .int (M1.1 21 x1.toNatClampNeg)), (0, .ref (X.1.2.1 7)), (1, .int x1)] rfl ?_
  exact z_sub [4, 5, 3, 2, 1, 0] rfl h
set_option maxRecDepth 100000 in
set_option maxHeartbeats 4000000 in
theorem BX7_renew_25 {X : XT} {Q : Option Value → Mem → Prop} (hX : KX7_renew X) {x1 x2 x3 x4 x5 : Int32} {M : Mem} (h : ((x4 ≤ x5 → Q none M) ∧ (¬ x4 ≤ x5 → (∃ (r1 : Int32), CX7_worn X.1 [.int x5, .int x1] M (z_is (some (.int r1)) M) ∧ (vp_in x5 1024 ∧ (∃ (r2 : Int32), CX7_nextOf X.1 [.int x2, .int (M.1 23 x5.toNatClampNeg), .int r1] M (z_is (some (.int r2)) M) ∧ ((¬ r2 = r1 → (((0 : Int32) = 0 → (vp_in x5 1024 ∧ (vp_in x5 1024 ∧ (∀ M3 : Mem, M3 = z_st M 24 x5.toNatClampNeg ((M.1 24 x5.toNatClampNeg) ||| x3) → LX7_renew_25 X Q x1 x2 x3 x4 (x5 + (1 : Int32)) M3)))) ∧ (¬ (0 : Int32) = 0 → (vp_in x5 1024 ∧ (vp_in x5 1024 ∧ (∀ M4 : Mem, M4 = z_st M 24 x5.toNatClampNeg ((M.1 24 x5.toNatClampNeg) &&& (x3 ^^^ (-1 : Int32))) → LX7_renew_25 X Q x1 x2 x3 x4 (x5 + (1 : Int32)) M4)))))) ∧ (r2 = r1 → (((1 : Int32) = 0 → (vp_in x5 1024 ∧ (vp_in x5 1024 ∧ (∀ M5 : Mem, M5 = z_st M 24 x5.toNatClampNeg ((M.1 24 x5.toNatClampNeg) ||| x3) → LX7_renew_25 X Q x1 x2 x3 x4 (x5 + (1 : Int32)) M5)))) ∧ (¬ (1 : Int32) = 0 → (vp_in x5 1024 ∧ (vp_in x5 1024 ∧ (∀ M6 : Mem, M6 = z_st M 24 x5.toNatClampNeg ((M.1 24 x5.toNatClampNeg) &&& (x3 ^^^ (-1 : Int32))) → LX7_renew_25 X Q x1 x2 x3 x4 (x5 + (1 : Int32)) M6))))))))))))) : LX7_renew_25 X Q x1 x2 x3 x4 x5 M := by
  show Z SX X 1 8 Q 25 [(0, .ref (X.1.2.1 7)), (1, .int x1), (2, .int x2), (3, .int x3), (4, .int x4), (5, .int x5)] [] M
  refine z_iload hX dX7_renew_25 5 rfl ?_
  refine z_iload hX dX7_renew_27 4 rfl ?_
  refine z_icmp_ge hX 106 dX7_renew_29 (by decide) (fun c0 => ?_) (fun c0 => ?_)
  · replace h := h.1 c0
    exact z_vret hX dX7_renew_106 h
  · replace h := h.2 c0
    refine z_iload hX dX7_renew_32 5 rfl ?_
    refine z_iload_n hX dX7_renew_34 rfl 1 rfl ?_
    obtain ⟨r1, c9, h⟩ := h
    refine mcX7_51 hX dX7_renew_35 (by decide) (Nat.le_of_ble_eq_true rfl) c9 ?_
    refine z_istore hX dX7_renew_38 (by decide) [(6, .int r1), (0, .ref (X.1.2.1 7)), (1, .int x1), (2, .int x2), (3, .int x3), (4, .int x4), (5, .int x5)] rfl ?_
    refine z_iload_n hX dX7_renew_40 rfl 3 rfl ?_
    refine z_aload_n hX dX7_renew_41 rfl 1 rfl ?_
    refine gfX7_23 hX dX7_renew_42 ?_
    refine z_iload hX dX7_renew_45 6 rfl ?_
    refine z_iald hX 23 rfl h.1 dX7_renew_47 ?_
    replace h := h.2
    refine z_iload hX dX7_renew_48 0 rfl ?_
    obtain ⟨r2, c9, h⟩ := h
    refine mcX7_58 hX dX7_renew_50 (by decide) (Nat.le_of_ble_eq_true rfl) c9 ?_
    refine z_iload hX dX7_renew_53 0 rfl ?_
    refine z_icmp_ne hX 62 dX7_renew_55 (by decide) (fun c0 => ?_) (fun c0 => ?_)
    · replace h := h.1 c0
      refine z_iconst (v := 0) hX dX7_renew_62 (by decide) ?_
      refine z_istore hX dX7_renew_63 (by decide) [(7, .int (0 : Int32)), (6, .int r1), (0, .ref (X.1.2.1 7)), (1, .int x1), (2, .int x2), (3, .int x3), (4, .int x4), (5, .int x5)] rfl ?_
      refine z_aload_n hX dX7_renew_65 rfl 2 rfl ?_
      refine gfX7_26 hX dX7_renew_66 ?_
      refine z_iload hX dX7_renew_69 7 rfl ?_
      refine z_iload hX dX7_renew_71 0 rfl ?_
      refine z_if_eq hX 90 dX7_renew_73 (by decide) (fun c0 => ?_) (fun c0 => ?_)
      · replace h := h.1 c0
        refine z_aload_n hX dX7_renew_90 rfl 2 rfl ?_
        refine gfX7_26 hX dX7_renew_91 ?_
        refine z_iload hX dX7_renew_94 7 rfl ?_
        refine z_iald hX 24 rfl h.1 dX7_renew_96 ?_
        replace h := h.2
        refine z_iload_n hX dX7_renew_97 rfl 5 rfl ?_
        refine z_ior hX dX7_renew_98 ?_
        refine z_iastM hX 24 rfl h.1 dX7_renew_99 (fun M3 eM3 => ?_)
        replace h := h.2 M3 eM3
        refine z_iinc (v := x5 + (1 : Int32)) hX dX7_renew_100 7 rfl rfl (by decide) [(5, .int (x5 + (1 : Int32))), (7, .int (0 : Int32)), (6, .int r1), (0, .ref (X.1.2.1 7)), (1, .int x1), (2, .int x2), (3, .int x3), (4, .int x4)] rfl ?_
        refine z_goto hX 25 dX7_renew_103 (by decide) ?_
        exact z_sub [3, 4, 5, 6, 7, 0] rfl h
      · replace h := h.2 c0
        refine z_aload_n hX dX7_renew_76 rfl 2 rfl ?_
        refine gfX7_26 hX dX7_renew_77 ?_
        refine z_iload hX dX7_renew_80 7 rfl ?_
        refine z_iald hX 24 rfl h.1 dX7_renew_82 ?_
        replace h := h.2
        refine z_iload_n hX dX7_renew_83 rfl 5 rfl ?_
        refine z_iconst (v := -1) hX dX7_renew_84 (by decide) ?_
        refine z_ixor hX dX7_renew_85 ?_
        refine z_iand hX dX7_renew_86 ?_
        refine z_goto hX 99 dX7_renew_87 (by decide) ?_
        refine z_iastM hX 24 rfl h.1 dX7_renew_99 (fun M4 eM4 => ?_)
        replace h := h.2 M4 eM4
        refine z_iinc (v := x5 + (1 : Int32)) hX dX7_renew_100 7 rfl rfl (by decide) [(5, .int (x5 + (1 : Int32))), (7, .int (0 : Int32)), (6, .int r1), (0, .ref (X.1.2.1 7)), (1, .int x1), (2, .int x2), (3, .int x3), (4, .int x4)] rfl ?_
        refine z_goto hX 25 dX7_renew_103 (by decide) ?_
        exact z_sub [3, 4, 5, 6, 7, 0] rfl h
    · replace h := h.2 c0
      refine z_iconst (v := 1) hX dX7_renew_58 (by decide) ?_
      refine z_goto hX 63 dX7_renew_59 (by decide) ?_
      refine z_istore hX dX7_renew_63 (by decide) [(7, .int (1 : Int32)), (6, .int r1), (0, .ref (X.1.2.1 7)), (1, .int x1), (2, .int x2), (3, .int x3), (4, .int x4), (5, .int x5)] rfl ?_
      refine z_aload_n hX dX7_renew_65 rfl 2 rfl ?_
      refine gfX7_26 hX dX7_renew_66 ?_
      refine z_iload hX dX7_renew_69 7 rfl ?_
      refine z_iload hX dX7_renew_71 0 rfl ?_
      refine z_if_eq hX 90 dX7_renew_73 (by decide) (fun c0 => ?_) (fun c0 => ?_)
      · replace h := h.1 c0
        refine z_aload_n hX dX7_renew_90 rfl 2 rfl ?_
        refine gfX7_26 hX dX7_renew_91 ?_
        refine z_iload hX dX7_renew_94 7 rfl ?_
        refine z_iald hX 24 rfl h.1 dX7_renew_96 ?_
        replace h := h.2
        refine z_iload_n hX dX7_renew_97 rfl 5 rfl ?_
        refine z_ior hX dX7_renew_98 ?_
        refine z_iastM hX 24 rfl h.1 dX7_renew_99 (fun M5 eM5 => ?_)
        replace h := h.2 M5 eM5
        refine z_iinc (v := x5 + (1 : Int32)) hX dX7_renew_100 7 rfl rfl (by decide) [(5, .int (x5 + (1 : Int32))), (7, .int (1 : Int32)), (6, .int r1), (0, .ref (X.1.2.1 7)), (1, .int x1), (2, .int x2), (3, .int x3), (4, .int x4)] rfl ?_
        refine z_goto hX 25 dX7_renew_103 (by decide) ?_
        exact z_sub [3, 4, 5, 6, 7, 0] rfl h
      · replace h := h.2 c0
        refine z_aload_n hX dX7_renew_76 rfl 2 rfl ?_
        refine gfX7_26 hX dX7_renew_77 ?_
        refine z_iload hX dX7_renew_80 7 rfl ?_
        refine z_iald hX 24 rfl h.1 dX7_renew_82 ?_
        replace h := h.2
        refine z_iload_n hX dX7_renew_83 rfl 5 rfl ?_
        refine z_iconst (v := -1) hX dX7_renew_84 (by decide) ?_
        refine z_ixor hX dX7_renew_85 ?_
        refine z_iand hX dX7_renew_86 ?_
        refine z_goto hX 99 dX7_renew_87 (by decide) ?_
        refine z_iastM hX 24 rfl h.1 dX7_renew_99 (fun M6 eM6 => ?_)
        replace h := h.2 M6 eM6
        refine z_iinc (v := x5 + (1 : Int32)) hX dX7_renew_100 7 rfl rfl (by decide) [(5, .int (x5 + (1 : Int32))), (7, .int (1 : Int32)), (6, .int r1), (0, .ref (X.1.2.1 7)), (1, .int x1), (2, .int x2), (3, .int x3), (4, .int x4)] rfl ?_
        refine z_goto hX 25 dX7_renew_103 (by decide) ?_
        exact z_sub [3, 4, 5, 6, 7, 0] rfl h
abbrev LX7_fillSums_17 (X : XT) (Q : Option Value → Mem → Prop) (x1 : Int32) (x3 : Int32) (x4 : Int32) (M : Mem) : Prop := Z SX X 0 8 Q 17 [(0, .ref (X.1.2.1 7)), (1, .int x1), (2, .ref (X.1.2.1 (10 + x1.toNatClampNeg))), (3, .int x3), (4, .int x4)] [] M
abbrev LX7_fillSums_49 (X : XT) (Q : Option Value → Mem → Prop) (x1 : Int32) (x4 : Int32) (M : Mem) : Prop := Z SX X 0 8 Q 49 [(0, .ref (X.1.2.1 7)), (1, .int x1), (2, .ref (X.1.2.1 (10 + x1.toNatClampNeg))), (4, .int x4)] [] M
abbrev LX7_fillSums_75 (X : XT) (Q : Option Value → Mem → Prop) (x1 : Int32) (x4 : Int32) (x5 : Int32) (x6 : Int32) (x7 : Int32) (M : Mem) : Prop := Z SX X 0 8 Q 75 [(0, .ref (X.1.2.1 7)), (1, .int x1), (2, .ref (X.1.2.1 (10 + x1.toNatClampNeg))), (4, .int x4), (5, .int x5), (6, .int x6), (7, .int x7)] [] M
set_option maxRecDepth 100000 in
set_option maxHeartbeats 4000000 in
theorem EX7_fillSums {E : ET} {Q : Option Value → Mem → Prop} {x1 : Int32} {M : Mem} (h : ∀ X : XT, X.1 = E → KX7_fillSums X → (vp_in x1 10 ∧ (vp_in x1 10 ∧ LX7_fillSums_17 X Q x1 (M.1 22 x1.toNatClampNeg) (0 : Int32) M))) : CX7_fillSums E [.ref (E.2.1 7), .int x1] M Q := by
  refine z_entry (by decide +kernel) (Nat.le_of_ble_eq_true rfl) (fun X hE hX => ?_)
  subst hE
  replace h := h X rfl hX
  show Z SX X 0 8 Q 0 [(0, .ref (X.1.2.1 7)), (1, .int x1)] [] M
  refine z_aload_n hX dX7_fillSums_0 rfl 0 rfl ?_
  refine gfX7_11 hX dX7_fillSums_1 ?_
  refine z_iload_n hX dX7_fillSums_4 rfl 1 rfl ?_
  refine z_aald hX 20 rfl h.1 (z_row h.1) dX7_fillSums_5 ?_
  replace h := h.2
  refine z_astore_n hX dX7_fillSums_6 rfl (by decide) [(2, .ref (X.1.2.1 (10 + x1.toNatClampNeg))), (0, .ref (X.1.2.1 7)), (1, .int x1)] rfl ?_
  refine z_aload_n hX dX7_fillSums_7 rfl 1 rfl ?_
  refine gfX7_20 hX dX7_fillSums_8 ?_
  refine z_iload_n hX dX7_fillSums_11 rfl 2 rfl ?_
  refine z_iald hX 22 rfl h.1 dX7_fillSums_12 ?_
  replace h := h.2
  refine z_istore_n hX dX7_fillSums_13 rfl (by decide) [(3, .int (M.1 22 x1.toNatClampNeg)), (2, .ref (X.1.2.1 (10 + x1.toNatClampNeg))), (0, .ref (X.1.2.1 7)), (1, .int x1)] rfl ?_
  refine z_iconst (v := 0) hX dX7_fillSums_14 (by decide) ?_
  refine z_istore hX dX7_fillSums_15 (by decide) [(4, .int (0 : Int32)), (3, .int (M.1 22 x1.toNatClampNeg)), (2, .ref (X.1.2.1 (10 + x1.toNatClampNeg))), (0, .ref (X.1.2.1 7)), (1, .int x1)] rfl ?_
  exact z_sub [3, 4, 2, 1, 0] rfl h
set_option maxRecDepth 100000 in
set_option maxHeartbeats 4000000 in
theorem BX7_fillSums_17 {X : XT} {Q : Option Value → Mem → Prop} (hX : KX7_fillSums X) {x1 x3 x4 : Int32} {M : Mem} (h : (((M.1 7 5) ≤ x4 → (vp_in (0 : Int32) 1024 ∧ (∀ M1 : Mem, M1 = z_st M 23 (0 : Int32).toNatClampNeg x3 → LX7_fillSums_49 X Q x1 (0 : Int32) M1))) ∧ (¬ (M.1 7 5) ≤ x4 → (vp_in x1 10 ∧ vp_in x4 10 ∧ LX7_fillSums_17 X Q x1 (x3 - (M.1 (10 + x1.toNatClampNeg) x4.toNatClampNeg)) (x4 + (1 : Int32)) M)))) : LX7_fillSums_17 X Q x1 x3 x4 M := by
  show Z SX X 0 8 Q 17 [(0, .ref (X.1.2.1 7)), (1, .int x1), (2, .ref (X.1.2.1 (10 + x1.toNatClampNeg))), (3, .int x3), (4, .int x4)] [] M
  refine z_iload hX dX7_fillSums_17 4 rfl ?_
  refine z_aload_n hX dX7_fillSums_19 rfl 0 rfl ?_
  refine gfX7_29 hX dX7_fillSums_20 ?_
  refine z_icmp_ge hX 39 dX7_fillSums_23 (by decide) (fun c0 => ?_) (fun c0 => ?_)
  · replace h := h.1 c0
    refine z_aload_n hX dX7_fillSums_39 rfl 0 rfl ?_
    refine gfX7_23 hX dX7_fillSums_40 ?_
    refine z_iconst (v := 0) hX dX7_fillSums_43 (by decide) ?_
    refine z_iload_n hX dX7_fillSums_44 rfl 3 rfl ?_
    refine z_iastM hX 23 rfl h.1 dX7_fillSums_45 (fun M1 eM1 => ?_)
    replace h := h.2 M1 eM1
    refine z_iconst (v := 0) hX dX7_fillSums_46 (by decide) ?_
    refine z_istore hX dX7_fillSums_47 (by decide) [(4, .int (0 : Int32)), (0, .ref (X.1.2.1 7)), (1, .int x1), (2, .ref (X.1.2.1 (10 + x1.toNatClampNeg))), (3, .int x3)] rfl ?_
    exact z_sub [1, 2, 3, 0] rfl h
  · replace h := h.2 c0
    refine z_iload_n hX dX7_fillSums_26 rfl 3 rfl ?_
    refine z_aload_n hX dX7_fillSums_27 rfl 2 rfl ?_
    refine z_iload hX dX7_fillSums_28 4 rfl ?_
    refine z_iald hX (10 + x1.toNatClampNeg) (z_rowc h.1) h.2.1 dX7_fillSums_30 ?_
    replace h := h.2.2
    refine z_isub hX dX7_fillSums_31 ?_
    refine z_istore_n hX dX7_fillSums_32 rfl (by decide) [(3, .int (x3 - (M.1 (10 + x1.toNatClampNeg) x4.toNatClampNeg))), (0, .ref (X.1.2.1 7)), (1, .int x1), (2, .ref (X.1.2.1 (10 + x1.toNatClampNeg))), (4, .int x4)] rfl ?_
    refine z_iinc (v := x4 + (1 : Int32)) hX dX7_fillSums_33 4 rfl rfl (by decide) [(4, .int (x4 + (1 : Int32))), (3, .int (x3 - (M.1 (10 + x1.toNatClampNeg) x4.toNatClampNeg))), (0, .ref (X.1.2.1 7)), (1, .int x1), (2, .ref (X.1.2.1 (10 + x1.toNatClampNeg)))] rfl ?_
    refine z_goto hX 17 dX7_fillSums_36 (by decide) ?_
    exact z_sub [2, 3, 4, 1, 0] rfl h
set_option maxRecDepth 100000 in
set_option maxHeartbeats 4000000 in
theorem BX7_fillSums_49 {X : XT} {Q : Option Value → Mem → Prop} (hX : KX7_fillSums X) {x1 x4 : Int32} {M : Mem} (h : (((M.1 7 5) ≤ x4 → Q none M) ∧ (¬ (M.1 7 5) ≤ x4 → (vp_in x1 10 ∧ vp_in x4 10 ∧ LX7_fillSums_75 X Q x1 x4 ((1 : Int32) <<< (x4 &&& 31)) ((2 : Int32) * (M.1 (10 + x1.toNatClampNeg) x4.toNatClampNeg)) (0 : Int32) M)))) : LX7_fillSums_49 X Q x1 x4 M := by
  show Z SX X 0 8 Q 49 [(0, .ref (X.1.2.1 7)), (1, .int x1), (2, .ref (X.1.2.1 (10 + x1.toNatClampNeg))), (4, .int x4)] [] M
  refine z_iload hX dX7_fillSums_49 3 rfl ?_
  refine z_aload_n hX dX7_fillSums_51 rfl 0 rfl ?_
  refine gfX7_29 hX dX7_fillSums_52 ?_
  refine z_icmp_ge hX 114 dX7_fillSums_55 (by decide) (fun c0 => ?_) (fun c0 => ?_)
  · replace h := h.1 c0
    exact z_vret hX dX7_fillSums_114 h
  · replace h := h.2 c0
    refine z_iconst (v := 1) hX dX7_fillSums_58 (by decide) ?_
    refine z_iload hX dX7_fillSums_59 3 rfl ?_
    refine z_ishl hX dX7_fillSums_61 ?_
    refine z_istore hX dX7_fillSums_62 (by decide) [(5, .int ((1 : Int32) <<< (x4 &&& 31))), (0, .ref (X.1.2.1 7)), (1, .int x1), (2, .ref (X.1.2.1 (10 + x1.toNatClampNeg))), (4, .int x4)] rfl ?_
    refine z_iconst (v := 2) hX dX7_fillSums_64 (by decide) ?_
    refine z_aload_n hX dX7_fillSums_65 rfl 3 rfl ?_
    refine z_iload hX dX7_fillSums_66 4 rfl ?_
    refine z_iald hX (10 + x1.toNatClampNeg) (z_rowc h.1) h.2.1 dX7_fillSums_68 ?_
    replace h := h.2.2
    refine z_imul hX dX7_fillSums_69 ?_
    refine z_istore hX dX7_fillSums_70 (by decide) [(6, .int ((2 : Int32) * (M.1 (10 + x1.toNatClampNeg) x4.toNatClampNeg))), (5, .int ((1 : Int32) <<< (x4 &&& 31))), (0, .ref (X.1.2.1 7)), (1, .int x1), (2, .ref (X.1.2.1 (10 + x1.toNatClampNeg))), (4, .int x4)] rfl ?_
    refine z_iconst (v := 0) hX dX7_fillSums_72 (by decide) ?_
    refine z_istore hX dX7_fillSums_73 (by decide) [(7, .int (0 : Int32)), (6, .int ((2 : Int32) * (M.1 (10 + x1.toNatClampNeg) x4.toNatClampNeg))), (5, .int ((1 : Int32) <<< (x4 &&& 31))), (0, .ref (X.1.2.1 7)), (1, .int x1), (2, .ref (X.1.2.1 (10 + x1.toNatClampNeg))), (4, .int x4)] rfl ?_
    exact z_sub [3, 4, 5, 6, 2, 1, 0] rfl h
set_option maxRecDepth 100000 in
set_option maxHeartbeats 4000000 in
theorem BX7_fillSums_75 {X : XT} {Q : Option Value → Mem → Prop} (hX : KX7_fillSums X) {x1 x4 x5 x6 x7 : Int32} {M : Mem} (h : ((x5 ≤ x7 → LX7_fillSums_49 X Q x1 (x4 + (1 : Int32)) M) ∧ (¬ x5 ≤ x7 → (vp_in x7 1024 ∧ (vp_in (x7 + x5) 1024 ∧ (∀ M1 : Mem, M1 = z_st M 23 (x7 + x5).toNatClampNeg ((M.1 23 x7.toNatClampNeg) + x6) → LX7_fillSums_75 X Q x1 x4 x5 x6 (x7 + (1 : Int32)) M1)))))) : LX7_fillSums_75 X Q x1 x4 x5 x6 x7 M := by
  show Z SX X 0 8 Q 75 [(0, .ref (X.1.2.1 7)), (1, .int x1), (2, .ref (X.1.2.1 (10 + x1.toNatClampNeg))), (4, .int x4), (5, .int x5), (6, .int x6), (7, .int x7)] [] M
  refine z_iload hX dX7_fillSums_75 6 rfl ?_
  refine z_iload hX dX7_fillSums_77 4 rfl ?_
  refine z_icmp_ge hX 108 dX7_fillSums_79 (by decide) (fun c0 => ?_) (fun c0 => ?_)
  · replace h := h.1 c0
    refine z_iinc (v := x4 + (1 : Int32)) hX dX7_fillSums_108 3 rfl rfl (by decide) [(4, .int (x4 + (1 : Int32))), (0, .ref (X.1.2.1 7)), (1, .int x1), (2, .ref (X.1.2.1 (10 + x1.toNatClampNeg))), (5, .int x5), (6, .int x6), (7, .int x7)] rfl ?_
    refine z_goto hX 49 dX7_fillSums_111 (by decide) ?_
    exact z_sub [1, 2, 3, 0] rfl h
  · replace h := h.2 c0
    refine z_aload_n hX dX7_fillSums_82 rfl 0 rfl ?_
    refine gfX7_23 hX dX7_fillSums_83 ?_
    refine z_iload hX dX7_fillSums_86 6 rfl ?_
    refine z_iload hX dX7_fillSums_88 4 rfl ?_
    refine z_iadd hX dX7_fillSums_90 ?_
    refine z_aload_n hX dX7_fillSums_91 rfl 0 rfl ?_
    refine gfX7_23 hX dX7_fillSums_92 ?_
    refine z_iload hX dX7_fillSums_95 6 rfl ?_
    refine z_iald hX 23 rfl h.1 dX7_fillSums_97 ?_
    replace h := h.2
    refine z_iload hX dX7_fillSums_98 5 rfl ?_
    refine z_iadd hX dX7_fillSums_100 ?_
    refine z_iastM hX 23 rfl h.1 dX7_fillSums_101 (fun M1 eM1 => ?_)
    replace h := h.2 M1 eM1
    refine z_iinc (v := x7 + (1 : Int32)) hX dX7_fillSums_102 6 rfl rfl (by decide) [(7, .int (x7 + (1 : Int32))), (0, .ref (X.1.2.1 7)), (1, .int x1), (2, .ref (X.1.2.1 (10 + x1.toNatClampNeg))), (4, .int x4), (5, .int x5), (6, .int x6)] rfl ?_
    refine z_goto hX 75 dX7_fillSums_105 (by decide) ?_
    exact z_sub [1, 2, 3, 4, 5, 6, 0] rfl h
end
