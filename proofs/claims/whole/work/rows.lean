section
-- ===== PART A: goes FIRST, ahead of the names: the tables' words, and 'selects' of the private methods out of them =====
/-- a private method of a class that the tables say can be made, by its rows of tables_1 -/
def lw_okq (q : MethodName × Nat) : Prop := (q.1.cls ≠ "java/lang/invoke/MethodHandle" ∧ q.1.cls ≠ "java/lang/invoke/VarHandle") ∧ Cond.instantiable q.1.cls q.2 ∈ tables_1 ∧ Cond.privateMethod q.1 ∈ tables_1 ∧ Cond.instanceMethod q.1 ∈ tables_1
theorem lw_p0 : lw_okq (⟨"HigherMoreLeft", "refuse", "(I)I"⟩, 11) := ⟨⟨by decide +kernel, by decide +kernel⟩, List.mem_of_getElem? (i := 15) (by decide +kernel), List.mem_of_getElem? (i := 142) (by decide +kernel), List.mem_of_getElem? (i := 143) (by decide +kernel)⟩
theorem lw_p1 : lw_okq (⟨"HigherMoreLeft$Text", "add", "(I)I"⟩, 2) := ⟨⟨by decide +kernel, by decide +kernel⟩, List.mem_of_getElem? (i := 73) (by decide +kernel), List.mem_of_getElem? (i := 146) (by decide +kernel), List.mem_of_getElem? (i := 147) (by decide +kernel)⟩
theorem lw_p2 : lw_okq (⟨"HigherMoreLeft$Back", "take", "(LHigherMoreLeft$Back;)V"⟩, 9) := ⟨⟨by decide +kernel, by decide +kernel⟩, List.mem_of_getElem? (i := 23) (by decide +kernel), List.mem_of_getElem? (i := 154) (by decide +kernel), List.mem_of_getElem? (i := 155) (by decide +kernel)⟩
theorem lw_p3 : lw_okq (⟨"HigherMoreLeft$Text", "tellTo", "(LHigherMoreLeft$Back;)I"⟩, 2) := ⟨⟨by decide +kernel, by decide +kernel⟩, List.mem_of_getElem? (i := 73) (by decide +kernel), List.mem_of_getElem? (i := 161) (by decide +kernel), List.mem_of_getElem? (i := 162) (by decide +kernel)⟩
theorem lw_p4 : lw_okq (⟨"HigherMoreLeft$Text", "firstWrong", "()I"⟩, 2) := ⟨⟨by decide +kernel, by decide +kernel⟩, List.mem_of_getElem? (i := 73) (by decide +kernel), List.mem_of_getElem? (i := 165) (by decide +kernel), List.mem_of_getElem? (i := 166) (by decide +kernel)⟩
theorem lw_p5 : lw_okq (⟨"HigherMoreLeft$Text", "letterAt", "(I)I"⟩, 2) := ⟨⟨by decide +kernel, by decide +kernel⟩, List.mem_of_getElem? (i := 73) (by decide +kernel), List.mem_of_getElem? (i := 169) (by decide +kernel), List.mem_of_getElem? (i := 170) (by decide +kernel)⟩
theorem lw_p6 : lw_okq (⟨"HigherMoreLeft$Text", "tellOne", "(LHigherMoreLeft$Back;I)Z"⟩, 2) := ⟨⟨by decide +kernel, by decide +kernel⟩, List.mem_of_getElem? (i := 73) (by decide +kernel), List.mem_of_getElem? (i := 296) (by decide +kernel), List.mem_of_getElem? (i := 297) (by decide +kernel)⟩
theorem lw_p7 : lw_okq (⟨"HigherMoreLeft$Text", "cellAt", "(I)I"⟩, 2) := ⟨⟨by decide +kernel, by decide +kernel⟩, List.mem_of_getElem? (i := 73) (by decide +kernel), List.mem_of_getElem? (i := 300) (by decide +kernel), List.mem_of_getElem? (i := 301) (by decide +kernel)⟩
theorem lw_p8 : lw_okq (⟨"HigherMoreLeft$Text", "digitAt", "(I)I"⟩, 2) := ⟨⟨by decide +kernel, by decide +kernel⟩, List.mem_of_getElem? (i := 73) (by decide +kernel), List.mem_of_getElem? (i := 304) (by decide +kernel), List.mem_of_getElem? (i := 305) (by decide +kernel)⟩
theorem lw_p9 : lw_okq (⟨"HigherMoreLeft$Back", "strokeOn", "(I)V"⟩, 9) := ⟨⟨by decide +kernel, by decide +kernel⟩, List.mem_of_getElem? (i := 23) (by decide +kernel), List.mem_of_getElem? (i := 329) (by decide +kernel), List.mem_of_getElem? (i := 330) (by decide +kernel)⟩
theorem lw_p10 : lw_okq (⟨"HigherMoreLeft$Back", "whenStruck", "()I"⟩, 9) := ⟨⟨by decide +kernel, by decide +kernel⟩, List.mem_of_getElem? (i := 23) (by decide +kernel), List.mem_of_getElem? (i := 335) (by decide +kernel), List.mem_of_getElem? (i := 336) (by decide +kernel)⟩
theorem lw_p11 : lw_okq (⟨"HigherMoreLeft$Back", "soreAt", "(I)I"⟩, 9) := ⟨⟨by decide +kernel, by decide +kernel⟩, List.mem_of_getElem? (i := 23) (by decide +kernel), List.mem_of_getElem? (i := 339) (by decide +kernel), List.mem_of_getElem? (i := 340) (by decide +kernel)⟩
theorem lw_p12 : lw_okq (⟨"HigherMoreLeft$Back", "whenBeside", "()I"⟩, 9) := ⟨⟨by decide +kernel, by decide +kernel⟩, List.mem_of_getElem? (i := 23) (by decide +kernel), List.mem_of_getElem? (i := 343) (by decide +kernel), List.mem_of_getElem? (i := 344) (by decide +kernel)⟩
theorem lw_p13 : lw_okq (⟨"HigherMoreLeft$Back", "awayFromHand", "()I"⟩, 9) := ⟨⟨by decide +kernel, by decide +kernel⟩, List.mem_of_getElem? (i := 23) (by decide +kernel), List.mem_of_getElem? (i := 350) (by decide +kernel), List.mem_of_getElem? (i := 351) (by decide +kernel)⟩
theorem lw_p14 : lw_okq (⟨"HigherMoreLeft$Back", "setSore", "(II)V"⟩, 9) := ⟨⟨by decide +kernel, by decide +kernel⟩, List.mem_of_getElem? (i := 23) (by decide +kernel), List.mem_of_getElem? (i := 357) (by decide +kernel), List.mem_of_getElem? (i := 358) (by decide +kernel)⟩
theorem lw_p15 : lw_okq (⟨"HigherMoreLeft$Back", "changeHe", "(II)I"⟩, 9) := ⟨⟨by decide +kernel, by decide +kernel⟩, List.mem_of_getElem? (i := 23) (by decide +kernel), List.mem_of_getElem? (i := 386) (by decide +kernel), List.mem_of_getElem? (i := 387) (by decide +kernel)⟩
def lw_privs_1 : List (MethodName × Nat) := [(⟨"HigherMoreLeft", "refuse", "(I)I"⟩, 11), (⟨"HigherMoreLeft$Text", "add", "(I)I"⟩, 2), (⟨"HigherMoreLeft$Back", "take", "(LHigherMoreLeft$Back;)V"⟩, 9), (⟨"HigherMoreLeft$Text", "tellTo", "(LHigherMoreLeft$Back;)I"⟩, 2), (⟨"HigherMoreLeft$Text", "firstWrong", "()I"⟩, 2), (⟨"HigherMoreLeft$Text", "letterAt", "(I)I"⟩, 2), (⟨"HigherMoreLeft$Text", "tellOne", "(LHigherMoreLeft$Back;I)Z"⟩, 2), (⟨"HigherMoreLeft$Text", "cellAt", "(I)I"⟩, 2), (⟨"HigherMoreLeft$Text", "digitAt", "(I)I"⟩, 2), (⟨"HigherMoreLeft$Back", "strokeOn", "(I)V"⟩, 9), (⟨"HigherMoreLeft$Back", "whenStruck", "()I"⟩, 9), (⟨"HigherMoreLeft$Back", "soreAt", "(I)I"⟩, 9), (⟨"HigherMoreLeft$Back", "whenBeside", "()I"⟩, 9), (⟨"HigherMoreLeft$Back", "awayFromHand", "()I"⟩, 9), (⟨"HigherMoreLeft$Back", "setSore", "(II)V"⟩, 9), (⟨"HigherMoreLeft$Back", "changeHe", "(II)I"⟩, 9)]
theorem lw_r1 : ∀ q ∈ lw_privs_1, lw_okq q := List.forall_mem_cons.mpr ⟨lw_p0, List.forall_mem_cons.mpr ⟨lw_p1, List.forall_mem_cons.mpr ⟨lw_p2, List.forall_mem_cons.mpr ⟨lw_p3, List.forall_mem_cons.mpr ⟨lw_p4, List.forall_mem_cons.mpr ⟨lw_p5, List.forall_mem_cons.mpr ⟨lw_p6, List.forall_mem_cons.mpr ⟨lw_p7, List.forall_mem_cons.mpr ⟨lw_p8, List.forall_mem_cons.mpr ⟨lw_p9, List.forall_mem_cons.mpr ⟨lw_p10, List.forall_mem_cons.mpr ⟨lw_p11, List.forall_mem_cons.mpr ⟨lw_p12, List.forall_mem_cons.mpr ⟨lw_p13, List.forall_mem_cons.mpr ⟨lw_p14, List.forall_mem_cons.mpr ⟨lw_p15, fun _ h => absurd h List.not_mem_nil⟩⟩⟩⟩⟩⟩⟩⟩⟩⟩⟩⟩⟩⟩⟩⟩
theorem lw_p16 : lw_okq (⟨"HigherMoreLeft$Back", "wordNow", "()I"⟩, 9) := ⟨⟨by decide +kernel, by decide +kernel⟩, List.mem_of_getElem? (i := 23) (by decide +kernel), List.mem_of_getElem? (i := 409) (by decide +kernel), List.mem_of_getElem? (i := 410) (by decide +kernel)⟩
theorem lw_p17 : lw_okq (⟨"HigherMoreLeft$Back", "readBy", "(III)I"⟩, 9) := ⟨⟨by decide +kernel, by decide +kernel⟩, List.mem_of_getElem? (i := 23) (by decide +kernel), List.mem_of_getElem? (i := 429) (by decide +kernel), List.mem_of_getElem? (i := 430) (by decide +kernel)⟩
theorem lw_p18 : lw_okq (⟨"HigherMoreLeft$Back", "stepsOf", "(IZ)I"⟩, 9) := ⟨⟨by decide +kernel, by decide +kernel⟩, List.mem_of_getElem? (i := 23) (by decide +kernel), List.mem_of_getElem? (i := 436) (by decide +kernel), List.mem_of_getElem? (i := 437) (by decide +kernel)⟩
theorem lw_p19 : lw_okq (⟨"HigherMoreLeft$Back", "followBy", "(I)I"⟩, 9) := ⟨⟨by decide +kernel, by decide +kernel⟩, List.mem_of_getElem? (i := 23) (by decide +kernel), List.mem_of_getElem? (i := 448) (by decide +kernel), List.mem_of_getElem? (i := 449) (by decide +kernel)⟩
theorem lw_p20 : lw_okq (⟨"HigherMoreLeft", "refuseLong", "(I)J"⟩, 11) := ⟨⟨by decide +kernel, by decide +kernel⟩, List.mem_of_getElem? (i := 15) (by decide +kernel), List.mem_of_getElem? (i := 459) (by decide +kernel), List.mem_of_getElem? (i := 460) (by decide +kernel)⟩
theorem lw_p21 : lw_okq (⟨"HigherMoreLeft$Sayings", "add", "(II)I"⟩, 3) := ⟨⟨by decide +kernel, by decide +kernel⟩, List.mem_of_getElem? (i := 87) (by decide +kernel), List.mem_of_getElem? (i := 484) (by decide +kernel), List.mem_of_getElem? (i := 485) (by decide +kernel)⟩
theorem lw_p22 : lw_okq (⟨"HigherMoreLeft$Sayings", "cellsBy", "(II)I"⟩, 3) := ⟨⟨by decide +kernel, by decide +kernel⟩, List.mem_of_getElem? (i := 87) (by decide +kernel), List.mem_of_getElem? (i := 496) (by decide +kernel), List.mem_of_getElem? (i := 497) (by decide +kernel)⟩
theorem lw_p23 : lw_okq (⟨"HigherMoreLeft$Sayings", "trueAt", "(III)I"⟩, 3) := ⟨⟨by decide +kernel, by decide +kernel⟩, List.mem_of_getElem? (i := 87) (by decide +kernel), List.mem_of_getElem? (i := 500) (by decide +kernel), List.mem_of_getElem? (i := 501) (by decide +kernel)⟩
theorem lw_p24 : lw_okq (⟨"HigherMoreLeft", "weightOf", "(I)J"⟩, 11) := ⟨⟨by decide +kernel, by decide +kernel⟩, List.mem_of_getElem? (i := 15) (by decide +kernel), List.mem_of_getElem? (i := 513) (by decide +kernel), List.mem_of_getElem? (i := 514) (by decide +kernel)⟩
theorem lw_p25 : lw_okq (⟨"HigherMoreLeft", "leftAtWorst", "(II)I"⟩, 11) := ⟨⟨by decide +kernel, by decide +kernel⟩, List.mem_of_getElem? (i := 15) (by decide +kernel), List.mem_of_getElem? (i := 523) (by decide +kernel), List.mem_of_getElem? (i := 524) (by decide +kernel)⟩
theorem lw_p26 : lw_okq (⟨"HigherMoreLeft", "strokesOfStrip", "(I)I"⟩, 11) := ⟨⟨by decide +kernel, by decide +kernel⟩, List.mem_of_getElem? (i := 15) (by decide +kernel), List.mem_of_getElem? (i := 532) (by decide +kernel), List.mem_of_getElem? (i := 533) (by decide +kernel)⟩
theorem lw_p27 : lw_okq (⟨"HigherMoreLeft", "firstOf", "(I)I"⟩, 11) := ⟨⟨by decide +kernel, by decide +kernel⟩, List.mem_of_getElem? (i := 15) (by decide +kernel), List.mem_of_getElem? (i := 544) (by decide +kernel), List.mem_of_getElem? (i := 545) (by decide +kernel)⟩
theorem lw_p28 : lw_okq (⟨"HigherMoreLeft", "canBeGone", "(I)Z"⟩, 11) := ⟨⟨by decide +kernel, by decide +kernel⟩, List.mem_of_getElem? (i := 15) (by decide +kernel), List.mem_of_getElem? (i := 548) (by decide +kernel), List.mem_of_getElem? (i := 549) (by decide +kernel)⟩
theorem lw_p29 : lw_okq (⟨"HigherMoreLeft$Back", "soreAround", "(I)I"⟩, 9) := ⟨⟨by decide +kernel, by decide +kernel⟩, List.mem_of_getElem? (i := 23) (by decide +kernel), List.mem_of_getElem? (i := 556) (by decide +kernel), List.mem_of_getElem? (i := 557) (by decide +kernel)⟩
theorem lw_p30 : lw_okq (⟨"HigherMoreLeft", "firstUntrue", "(I)I"⟩, 11) := ⟨⟨by decide +kernel, by decide +kernel⟩, List.mem_of_getElem? (i := 15) (by decide +kernel), List.mem_of_getElem? (i := 580) (by decide +kernel), List.mem_of_getElem? (i := 581) (by decide +kernel)⟩
theorem lw_p31 : lw_okq (⟨"HigherMoreLeft$Back", "soreOfAll", "()I"⟩, 9) := ⟨⟨by decide +kernel, by decide +kernel⟩, List.mem_of_getElem? (i := 23) (by decide +kernel), List.mem_of_getElem? (i := 607) (by decide +kernel), List.mem_of_getElem? (i := 608) (by decide +kernel)⟩
def lw_privs_2 : List (MethodName × Nat) := [(⟨"HigherMoreLeft$Back", "wordNow", "()I"⟩, 9), (⟨"HigherMoreLeft$Back", "readBy", "(III)I"⟩, 9), (⟨"HigherMoreLeft$Back", "stepsOf", "(IZ)I"⟩, 9), (⟨"HigherMoreLeft$Back", "followBy", "(I)I"⟩, 9), (⟨"HigherMoreLeft", "refuseLong", "(I)J"⟩, 11), (⟨"HigherMoreLeft$Sayings", "add", "(II)I"⟩, 3), (⟨"HigherMoreLeft$Sayings", "cellsBy", "(II)I"⟩, 3), (⟨"HigherMoreLeft$Sayings", "trueAt", "(III)I"⟩, 3), (⟨"HigherMoreLeft", "weightOf", "(I)J"⟩, 11), (⟨"HigherMoreLeft", "leftAtWorst", "(II)I"⟩, 11), (⟨"HigherMoreLeft", "strokesOfStrip", "(I)I"⟩, 11), (⟨"HigherMoreLeft", "firstOf", "(I)I"⟩, 11), (⟨"HigherMoreLeft", "canBeGone", "(I)Z"⟩, 11), (⟨"HigherMoreLeft$Back", "soreAround", "(I)I"⟩, 9), (⟨"HigherMoreLeft", "firstUntrue", "(I)I"⟩, 11), (⟨"HigherMoreLeft$Back", "soreOfAll", "()I"⟩, 9)]
theorem lw_r2 : ∀ q ∈ lw_privs_2, lw_okq q := List.forall_mem_cons.mpr ⟨lw_p16, List.forall_mem_cons.mpr ⟨lw_p17, List.forall_mem_cons.mpr ⟨lw_p18, List.forall_mem_cons.mpr ⟨lw_p19, List.forall_mem_cons.mpr ⟨lw_p20, List.forall_mem_cons.mpr ⟨lw_p21, List.forall_mem_cons.mpr ⟨lw_p22, List.forall_mem_cons.mpr ⟨lw_p23, List.forall_mem_cons.mpr ⟨lw_p24, List.forall_mem_cons.mpr ⟨lw_p25, List.forall_mem_cons.mpr ⟨lw_p26, List.forall_mem_cons.mpr ⟨lw_p27, List.forall_mem_cons.mpr ⟨lw_p28, List.forall_mem_cons.mpr ⟨lw_p29, List.forall_mem_cons.mpr ⟨lw_p30, List.forall_mem_cons.mpr ⟨lw_p31, fun _ h => absurd h List.not_mem_nil⟩⟩⟩⟩⟩⟩⟩⟩⟩⟩⟩⟩⟩⟩⟩⟩
theorem lw_p32 : lw_okq (⟨"HigherMoreLeftModel", "no", "(I)I"⟩, 26) := ⟨⟨by decide +kernel, by decide +kernel⟩, List.mem_of_getElem? (i := 612) (by decide +kernel), List.mem_of_getElem? (i := 704) (by decide +kernel), List.mem_of_getElem? (i := 705) (by decide +kernel)⟩
theorem lw_p33 : lw_okq (⟨"HigherMoreLeftModel", "statement", "()Z"⟩, 26) := ⟨⟨by decide +kernel, by decide +kernel⟩, List.mem_of_getElem? (i := 612) (by decide +kernel), List.mem_of_getElem? (i := 712) (by decide +kernel), List.mem_of_getElem? (i := 713) (by decide +kernel)⟩
theorem lw_p34 : lw_okq (⟨"HigherMoreLeftModel", "next", "()I"⟩, 26) := ⟨⟨by decide +kernel, by decide +kernel⟩, List.mem_of_getElem? (i := 612) (by decide +kernel), List.mem_of_getElem? (i := 716) (by decide +kernel), List.mem_of_getElem? (i := 717) (by decide +kernel)⟩
theorem lw_p35 : lw_okq (⟨"HigherMoreLeftModel", "readsAll", "(II)Z"⟩, 26) := ⟨⟨by decide +kernel, by decide +kernel⟩, List.mem_of_getElem? (i := 612) (by decide +kernel), List.mem_of_getElem? (i := 720) (by decide +kernel), List.mem_of_getElem? (i := 721) (by decide +kernel)⟩
theorem lw_p36 : lw_okq (⟨"HigherMoreLeftModel", "readsItch", "(I)Z"⟩, 26) := ⟨⟨by decide +kernel, by decide +kernel⟩, List.mem_of_getElem? (i := 612) (by decide +kernel), List.mem_of_getElem? (i := 724) (by decide +kernel), List.mem_of_getElem? (i := 725) (by decide +kernel)⟩
theorem lw_p37 : lw_okq (⟨"HigherMoreLeftModel", "readsDigits", "(II)Z"⟩, 26) := ⟨⟨by decide +kernel, by decide +kernel⟩, List.mem_of_getElem? (i := 612) (by decide +kernel), List.mem_of_getElem? (i := 731) (by decide +kernel), List.mem_of_getElem? (i := 732) (by decide +kernel)⟩
theorem lw_p38 : lw_okq (⟨"HigherMoreLeftModel", "passesAll", "(IZ)V"⟩, 26) := ⟨⟨by decide +kernel, by decide +kernel⟩, List.mem_of_getElem? (i := 612) (by decide +kernel), List.mem_of_getElem? (i := 738) (by decide +kernel), List.mem_of_getElem? (i := 739) (by decide +kernel)⟩
theorem lw_p39 : lw_okq (⟨"HigherMoreLeftModel", "passes", "([I)V"⟩, 26) := ⟨⟨by decide +kernel, by decide +kernel⟩, List.mem_of_getElem? (i := 612) (by decide +kernel), List.mem_of_getElem? (i := 742) (by decide +kernel), List.mem_of_getElem? (i := 743) (by decide +kernel)⟩
theorem lw_p40 : lw_okq (⟨"HigherMoreLeftModel", "passOne", "(I)I"⟩, 26) := ⟨⟨by decide +kernel, by decide +kernel⟩, List.mem_of_getElem? (i := 612) (by decide +kernel), List.mem_of_getElem? (i := 746) (by decide +kernel), List.mem_of_getElem? (i := 747) (by decide +kernel)⟩
theorem lw_p41 : lw_okq (⟨"HigherMoreLeftModel", "comes", "(I)Z"⟩, 26) := ⟨⟨by decide +kernel, by decide +kernel⟩, List.mem_of_getElem? (i := 612) (by decide +kernel), List.mem_of_getElem? (i := 750) (by decide +kernel), List.mem_of_getElem? (i := 751) (by decide +kernel)⟩
theorem lw_p42 : lw_okq (⟨"HigherMoreLeftModel", "comesHe", "(I)Z"⟩, 26) := ⟨⟨by decide +kernel, by decide +kernel⟩, List.mem_of_getElem? (i := 612) (by decide +kernel), List.mem_of_getElem? (i := 757) (by decide +kernel), List.mem_of_getElem? (i := 758) (by decide +kernel)⟩
theorem lw_p43 : lw_okq (⟨"HigherMoreLeftModel", "strokes", "(I)V"⟩, 26) := ⟨⟨by decide +kernel, by decide +kernel⟩, List.mem_of_getElem? (i := 612) (by decide +kernel), List.mem_of_getElem? (i := 767) (by decide +kernel), List.mem_of_getElem? (i := 768) (by decide +kernel)⟩
theorem lw_p44 : lw_okq (⟨"HigherMoreLeftModel", "struckBy", "()I"⟩, 26) := ⟨⟨by decide +kernel, by decide +kernel⟩, List.mem_of_getElem? (i := 612) (by decide +kernel), List.mem_of_getElem? (i := 771) (by decide +kernel), List.mem_of_getElem? (i := 772) (by decide +kernel)⟩
theorem lw_p45 : lw_okq (⟨"HigherMoreLeftModel", "besideBy", "()I"⟩, 26) := ⟨⟨by decide +kernel, by decide +kernel⟩, List.mem_of_getElem? (i := 612) (by decide +kernel), List.mem_of_getElem? (i := 775) (by decide +kernel), List.mem_of_getElem? (i := 776) (by decide +kernel)⟩
theorem lw_p46 : lw_okq (⟨"HigherMoreLeftModel", "creepsBeside", "()I"⟩, 26) := ⟨⟨by decide +kernel, by decide +kernel⟩, List.mem_of_getElem? (i := 612) (by decide +kernel), List.mem_of_getElem? (i := 779) (by decide +kernel), List.mem_of_getElem? (i := 780) (by decide +kernel)⟩
theorem lw_p47 : lw_okq (⟨"HigherMoreLeftModel", "plainBeside", "()I"⟩, 26) := ⟨⟨by decide +kernel, by decide +kernel⟩, List.mem_of_getElem? (i := 612) (by decide +kernel), List.mem_of_getElem? (i := 783) (by decide +kernel), List.mem_of_getElem? (i := 784) (by decide +kernel)⟩
def lw_privs_3 : List (MethodName × Nat) := [(⟨"HigherMoreLeftModel", "no", "(I)I"⟩, 26), (⟨"HigherMoreLeftModel", "statement", "()Z"⟩, 26), (⟨"HigherMoreLeftModel", "next", "()I"⟩, 26), (⟨"HigherMoreLeftModel", "readsAll", "(II)Z"⟩, 26), (⟨"HigherMoreLeftModel", "readsItch", "(I)Z"⟩, 26), (⟨"HigherMoreLeftModel", "readsDigits", "(II)Z"⟩, 26), (⟨"HigherMoreLeftModel", "passesAll", "(IZ)V"⟩, 26), (⟨"HigherMoreLeftModel", "passes", "([I)V"⟩, 26), (⟨"HigherMoreLeftModel", "passOne", "(I)I"⟩, 26), (⟨"HigherMoreLeftModel", "comes", "(I)Z"⟩, 26), (⟨"HigherMoreLeftModel", "comesHe", "(I)Z"⟩, 26), (⟨"HigherMoreLeftModel", "strokes", "(I)V"⟩, 26), (⟨"HigherMoreLeftModel", "struckBy", "()I"⟩, 26), (⟨"HigherMoreLeftModel", "besideBy", "()I"⟩, 26), (⟨"HigherMoreLeftModel", "creepsBeside", "()I"⟩, 26), (⟨"HigherMoreLeftModel", "plainBeside", "()I"⟩, 26)]
theorem lw_r3 : ∀ q ∈ lw_privs_3, lw_okq q := List.forall_mem_cons.mpr ⟨lw_p32, List.forall_mem_cons.mpr ⟨lw_p33, List.forall_mem_cons.mpr ⟨lw_p34, List.forall_mem_cons.mpr ⟨lw_p35, List.forall_mem_cons.mpr ⟨lw_p36, List.forall_mem_cons.mpr ⟨lw_p37, List.forall_mem_cons.mpr ⟨lw_p38, List.forall_mem_cons.mpr ⟨lw_p39, List.forall_mem_cons.mpr ⟨lw_p40, List.forall_mem_cons.mpr ⟨lw_p41, List.forall_mem_cons.mpr ⟨lw_p42, List.forall_mem_cons.mpr ⟨lw_p43, List.forall_mem_cons.mpr ⟨lw_p44, List.forall_mem_cons.mpr ⟨lw_p45, List.forall_mem_cons.mpr ⟨lw_p46, List.forall_mem_cons.mpr ⟨lw_p47, fun _ h => absurd h List.not_mem_nil⟩⟩⟩⟩⟩⟩⟩⟩⟩⟩⟩⟩⟩⟩⟩⟩
theorem lw_p48 : lw_okq (⟨"HigherMoreLeftModel", "leapsBeside", "()I"⟩, 26) := ⟨⟨by decide +kernel, by decide +kernel⟩, List.mem_of_getElem? (i := 612) (by decide +kernel), List.mem_of_getElem? (i := 790) (by decide +kernel), List.mem_of_getElem? (i := 791) (by decide +kernel)⟩
theorem lw_p49 : lw_okq (⟨"HigherMoreLeftModel", "wordFrom", "(II)I"⟩, 26) := ⟨⟨by decide +kernel, by decide +kernel⟩, List.mem_of_getElem? (i := 612) (by decide +kernel), List.mem_of_getElem? (i := 833) (by decide +kernel), List.mem_of_getElem? (i := 834) (by decide +kernel)⟩
theorem lw_p50 : lw_okq (⟨"HigherMoreLeftModel", "wordBy", "(IIII)I"⟩, 26) := ⟨⟨by decide +kernel, by decide +kernel⟩, List.mem_of_getElem? (i := 612) (by decide +kernel), List.mem_of_getElem? (i := 837) (by decide +kernel), List.mem_of_getElem? (i := 838) (by decide +kernel)⟩
theorem lw_p51 : lw_okq (⟨"HigherMoreLeftModel", "readBy", "(III)I"⟩, 26) := ⟨⟨by decide +kernel, by decide +kernel⟩, List.mem_of_getElem? (i := 612) (by decide +kernel), List.mem_of_getElem? (i := 853) (by decide +kernel), List.mem_of_getElem? (i := 854) (by decide +kernel)⟩
theorem lw_p52 : lw_okq (⟨"HigherMoreLeftModel", "followBy", "(I)I"⟩, 26) := ⟨⟨by decide +kernel, by decide +kernel⟩, List.mem_of_getElem? (i := 612) (by decide +kernel), List.mem_of_getElem? (i := 864) (by decide +kernel), List.mem_of_getElem? (i := 865) (by decide +kernel)⟩
theorem lw_p53 : lw_okq (⟨"HigherMoreLeftModel", "lowest", "(I)J"⟩, 26) := ⟨⟨by decide +kernel, by decide +kernel⟩, List.mem_of_getElem? (i := 612) (by decide +kernel), List.mem_of_getElem? (i := 872) (by decide +kernel), List.mem_of_getElem? (i := 873) (by decide +kernel)⟩
theorem lw_p54 : lw_okq (⟨"HigherMoreLeftModel", "goesAll", "(I)V"⟩, 26) := ⟨⟨by decide +kernel, by decide +kernel⟩, List.mem_of_getElem? (i := 612) (by decide +kernel), List.mem_of_getElem? (i := 877) (by decide +kernel), List.mem_of_getElem? (i := 878) (by decide +kernel)⟩
theorem lw_p55 : lw_okq (⟨"HigherMoreLeftModel", "mayBy", "(II)I"⟩, 26) := ⟨⟨by decide +kernel, by decide +kernel⟩, List.mem_of_getElem? (i := 612) (by decide +kernel), List.mem_of_getElem? (i := 911) (by decide +kernel), List.mem_of_getElem? (i := 912) (by decide +kernel)⟩
theorem lw_p56 : lw_okq (⟨"HigherMoreLeftModel", "rightBy", "(III)I"⟩, 26) := ⟨⟨by decide +kernel, by decide +kernel⟩, List.mem_of_getElem? (i := 612) (by decide +kernel), List.mem_of_getElem? (i := 915) (by decide +kernel), List.mem_of_getElem? (i := 916) (by decide +kernel)⟩
theorem lw_p57 : lw_okq (⟨"HigherMoreLeftModel", "weightOf", "(I)J"⟩, 26) := ⟨⟨by decide +kernel, by decide +kernel⟩, List.mem_of_getElem? (i := 612) (by decide +kernel), List.mem_of_getElem? (i := 927) (by decide +kernel), List.mem_of_getElem? (i := 928) (by decide +kernel)⟩
theorem lw_p58 : lw_okq (⟨"HigherMoreLeftModel", "worstFrom", "(II)I"⟩, 26) := ⟨⟨by decide +kernel, by decide +kernel⟩, List.mem_of_getElem? (i := 612) (by decide +kernel), List.mem_of_getElem? (i := 936) (by decide +kernel), List.mem_of_getElem? (i := 937) (by decide +kernel)⟩
theorem lw_p59 : lw_okq (⟨"HigherMoreLeftModel", "stripBy", "(I)I"⟩, 26) := ⟨⟨by decide +kernel, by decide +kernel⟩, List.mem_of_getElem? (i := 612) (by decide +kernel), List.mem_of_getElem? (i := 944) (by decide +kernel), List.mem_of_getElem? (i := 945) (by decide +kernel)⟩
theorem lw_p60 : lw_okq (⟨"HigherMoreLeftModel", "doesGo", "(II)Z"⟩, 26) := ⟨⟨by decide +kernel, by decide +kernel⟩, List.mem_of_getElem? (i := 612) (by decide +kernel), List.mem_of_getElem? (i := 956) (by decide +kernel), List.mem_of_getElem? (i := 957) (by decide +kernel)⟩
theorem lw_p61 : lw_okq (⟨"HigherMoreLeftModel", "soreAround", "(I)I"⟩, 26) := ⟨⟨by decide +kernel, by decide +kernel⟩, List.mem_of_getElem? (i := 612) (by decide +kernel), List.mem_of_getElem? (i := 964) (by decide +kernel), List.mem_of_getElem? (i := 965) (by decide +kernel)⟩
theorem lw_p62 : lw_okq (⟨"HigherMoreLeftModel", "wrongBy", "(I)I"⟩, 26) := ⟨⟨by decide +kernel, by decide +kernel⟩, List.mem_of_getElem? (i := 612) (by decide +kernel), List.mem_of_getElem? (i := 987) (by decide +kernel), List.mem_of_getElem? (i := 988) (by decide +kernel)⟩
def lw_privs_4 : List (MethodName × Nat) := [(⟨"HigherMoreLeftModel", "leapsBeside", "()I"⟩, 26), (⟨"HigherMoreLeftModel", "wordFrom", "(II)I"⟩, 26), (⟨"HigherMoreLeftModel", "wordBy", "(IIII)I"⟩, 26), (⟨"HigherMoreLeftModel", "readBy", "(III)I"⟩, 26), (⟨"HigherMoreLeftModel", "followBy", "(I)I"⟩, 26), (⟨"HigherMoreLeftModel", "lowest", "(I)J"⟩, 26), (⟨"HigherMoreLeftModel", "goesAll", "(I)V"⟩, 26), (⟨"HigherMoreLeftModel", "mayBy", "(II)I"⟩, 26), (⟨"HigherMoreLeftModel", "rightBy", "(III)I"⟩, 26), (⟨"HigherMoreLeftModel", "weightOf", "(I)J"⟩, 26), (⟨"HigherMoreLeftModel", "worstFrom", "(II)I"⟩, 26), (⟨"HigherMoreLeftModel", "stripBy", "(I)I"⟩, 26), (⟨"HigherMoreLeftModel", "doesGo", "(II)Z"⟩, 26), (⟨"HigherMoreLeftModel", "soreAround", "(I)I"⟩, 26), (⟨"HigherMoreLeftModel", "wrongBy", "(I)I"⟩, 26)]
theorem lw_r4 : ∀ q ∈ lw_privs_4, lw_okq q := List.forall_mem_cons.mpr ⟨lw_p48, List.forall_mem_cons.mpr ⟨lw_p49, List.forall_mem_cons.mpr ⟨lw_p50, List.forall_mem_cons.mpr ⟨lw_p51, List.forall_mem_cons.mpr ⟨lw_p52, List.forall_mem_cons.mpr ⟨lw_p53, List.forall_mem_cons.mpr ⟨lw_p54, List.forall_mem_cons.mpr ⟨lw_p55, List.forall_mem_cons.mpr ⟨lw_p56, List.forall_mem_cons.mpr ⟨lw_p57, List.forall_mem_cons.mpr ⟨lw_p58, List.forall_mem_cons.mpr ⟨lw_p59, List.forall_mem_cons.mpr ⟨lw_p60, List.forall_mem_cons.mpr ⟨lw_p61, List.forall_mem_cons.mpr ⟨lw_p62, fun _ h => absurd h List.not_mem_nil⟩⟩⟩⟩⟩⟩⟩⟩⟩⟩⟩⟩⟩⟩⟩
def lw_privs : List (MethodName × Nat) := lw_privs_1 ++ (lw_privs_2 ++ (lw_privs_3 ++ (lw_privs_4)))
def lw_tbl : List Cond := k2_sels lw_privs ++ tables_1
theorem lw_privs_ok : ∀ q ∈ lw_privs, lw_okq q := by
  show ∀ q ∈ lw_privs_1 ++ (lw_privs_2 ++ (lw_privs_3 ++ (lw_privs_4))), lw_okq q
  exact List.forall_mem_append.mpr ⟨lw_r1, List.forall_mem_append.mpr ⟨lw_r2, List.forall_mem_append.mpr ⟨lw_r3, lw_r4⟩⟩⟩
end
section
/-! ===== BEGIN printed: names, fields, word lists, decode rows ===== -/
def RX0 : String := "HigherMoreLeft$Back"
def TX0 : u_T := fun k => match k with
  | 0 => ("HigherMoreLeft$Back", "sores", "[I", true)
  | 1 => ("HigherMoreLeft$Back", "kind", "I", false)
  | 2 => ("HigherMoreLeft$Back", "place", "I", false)
  | 3 => ("HigherMoreLeft$Back", "hand", "I", false)
  | 4 => ("HigherMoreLeft$Back", "time", "I", false)
  | 5 => ("HigherMoreLeft$Back", "left", "I", false)
  | 6 => ("HigherMoreLeft$Back", "bit", "I", false)
  | 7 => ("HigherMoreLeft$Back", "lot", "I", false)
  | _ => ("HigherMoreLeft$Back", "seam", "I", false)
def tyX0 : Nat → FieldType := fun k => match k with
  | 0 => .array .int
  | 1 => .int
  | 2 => .int
  | 3 => .int
  | 4 => .int
  | 5 => .int
  | 6 => .int
  | 7 => .int
  | _ => .int
abbrev wsX00 : List Cond := u_ws RX0 TX0 9
theorem nmX0 : ∀ a, a < 9 → ∀ b, b < 9 → a ≠ b → (TX0 a).2.1 ≠ (TX0 b).2.1 := by decide +kernel
theorem tyX0_ok : ∀ k, k < 9 → parseFieldDescriptor (TX0 k).2.2.1 = some (tyX0 k) := by decide +kernel
abbrev cX0_init : ByteArray := prog_2_method_1_code
def yX0_init : MethodName := ⟨RX0, "<init>", "()V"⟩
abbrev cX0_take : ByteArray := prog_2_method_2_code
def yX0_take : MethodName := ⟨RX0, "take", "(LHigherMoreLeft$Back;)V"⟩
abbrev cX0_changeHe : ByteArray := prog_2_method_3_code
def yX0_changeHe : MethodName := ⟨RX0, "changeHe", "(II)I"⟩
abbrev cX0_soreAt : ByteArray := prog_2_method_4_code
def yX0_soreAt : MethodName := ⟨RX0, "soreAt", "(I)I"⟩
abbrev cX0_setSore : ByteArray := prog_2_method_5_code
def yX0_setSore : MethodName := ⟨RX0, "setSore", "(II)V"⟩
abbrev cX0_soreOfAll : ByteArray := prog_2_method_6_code
def yX0_soreOfAll : MethodName := ⟨RX0, "soreOfAll", "()I"⟩
abbrev cX0_soreAround : ByteArray := prog_2_method_7_code
def yX0_soreAround : MethodName := ⟨RX0, "soreAround", "(I)I"⟩
abbrev cX0_strokeOn : ByteArray := prog_2_method_8_code
def yX0_strokeOn : MethodName := ⟨RX0, "strokeOn", "(I)V"⟩
abbrev cX0_whenStruck : ByteArray := prog_2_method_9_code
def yX0_whenStruck : MethodName := ⟨RX0, "whenStruck", "()I"⟩
abbrev cX0_whenBeside : ByteArray := prog_2_method_10_code
def yX0_whenBeside : MethodName := ⟨RX0, "whenBeside", "()I"⟩
abbrev cX0_awayFromHand : ByteArray := prog_2_method_11_code
def yX0_awayFromHand : MethodName := ⟨RX0, "awayFromHand", "()I"⟩
abbrev cX0_wordNow : ByteArray := prog_2_method_12_code
def yX0_wordNow : MethodName := ⟨RX0, "wordNow", "()I"⟩
abbrev cX0_readBy : ByteArray := prog_2_method_13_code
def yX0_readBy : MethodName := ⟨RX0, "readBy", "(III)I"⟩
abbrev cX0_stepsOf : ByteArray := prog_2_method_14_code
def yX0_stepsOf : MethodName := ⟨RX0, "stepsOf", "(IZ)I"⟩
abbrev cX0_clamp : ByteArray := prog_2_method_15_code
def yX0_clamp : MethodName := ⟨RX0, "clamp", "(II)I"⟩
abbrev cX0_followBy : ByteArray := prog_2_method_16_code
def yX0_followBy : MethodName := ⟨RX0, "followBy", "(I)I"⟩
def RX1 : String := "HigherMoreLeft$Sayings"
def TX1 : u_T := fun k => match k with
  | 0 => ("HigherMoreLeft$Sayings", "cells", "[I", true)
  | 1 => ("HigherMoreLeft$Sayings", "words", "[I", true)
  | _ => ("HigherMoreLeft$Sayings", "many", "I", false)
def tyX1 : Nat → FieldType := fun k => match k with
  | 0 => .array .int
  | 1 => .array .int
  | _ => .int
abbrev wsX10 : List Cond := u_ws RX1 TX1 3
theorem nmX1 : ∀ a, a < 3 → ∀ b, b < 3 → a ≠ b → (TX1 a).2.1 ≠ (TX1 b).2.1 := by decide +kernel
theorem tyX1_ok : ∀ k, k < 3 → parseFieldDescriptor (TX1 k).2.2.1 = some (tyX1 k) := by decide +kernel
abbrev cX1_init : ByteArray := prog_3_method_1_code
def yX1_init : MethodName := ⟨RX1, "<init>", "()V"⟩
abbrev cX1_add : ByteArray := prog_3_method_2_code
def yX1_add : MethodName := ⟨RX1, "add", "(II)I"⟩
abbrev cX1_trueAt : ByteArray := prog_3_method_3_code
def yX1_trueAt : MethodName := ⟨RX1, "trueAt", "(III)I"⟩
abbrev cX1_cellsBy : ByteArray := prog_3_method_4_code
def yX1_cellsBy : MethodName := ⟨RX1, "cellsBy", "(II)I"⟩
def RX2 : String := "HigherMoreLeft$Text"
def TX2 : u_T := fun k => match k with
  | 0 => ("HigherMoreLeft$Text", "letters", "[I", true)
  | _ => ("HigherMoreLeft$Text", "many", "I", false)
def tyX2 : Nat → FieldType := fun k => match k with
  | 0 => .array .int
  | _ => .int
abbrev wsX20 : List Cond := u_ws RX2 TX2 2
theorem nmX2 : ∀ a, a < 2 → ∀ b, b < 2 → a ≠ b → (TX2 a).2.1 ≠ (TX2 b).2.1 := by decide +kernel
theorem tyX2_ok : ∀ k, k < 2 → parseFieldDescriptor (TX2 k).2.2.1 = some (tyX2 k) := by decide +kernel
abbrev cX2_init : ByteArray := prog_4_method_1_code
def yX2_init : MethodName := ⟨RX2, "<init>", "()V"⟩
abbrev cX2_add : ByteArray := prog_4_method_2_code
def yX2_add : MethodName := ⟨RX2, "add", "(I)I"⟩
abbrev cX2_tellTo : ByteArray := prog_4_method_3_code
def yX2_tellTo : MethodName := ⟨RX2, "tellTo", "(LHigherMoreLeft$Back;)I"⟩
abbrev cX2_firstWrong : ByteArray := prog_4_method_4_code
def yX2_firstWrong : MethodName := ⟨RX2, "firstWrong", "()I"⟩
abbrev cX2_shapeOf : ByteArray := prog_4_method_5_code
def yX2_shapeOf : MethodName := ⟨RX2, "shapeOf", "(I)Ljava/lang/String;"⟩
abbrev cX2_fits : ByteArray := prog_4_method_6_code
def yX2_fits : MethodName := ⟨RX2, "fits", "(II)Z"⟩
abbrev cX2_letterAt : ByteArray := prog_4_method_7_code
def yX2_letterAt : MethodName := ⟨RX2, "letterAt", "(I)I"⟩
abbrev cX2_digitAt : ByteArray := prog_4_method_8_code
def yX2_digitAt : MethodName := ⟨RX2, "digitAt", "(I)I"⟩
abbrev cX2_cellAt : ByteArray := prog_4_method_9_code
def yX2_cellAt : MethodName := ⟨RX2, "cellAt", "(I)I"⟩
abbrev cX2_tellOne : ByteArray := prog_4_method_10_code
def yX2_tellOne : MethodName := ⟨RX2, "tellOne", "(LHigherMoreLeft$Back;I)Z"⟩
abbrev cX2_tellItch : ByteArray := prog_4_method_11_code
def yX2_tellItch : MethodName := ⟨RX2, "tellItch", "(LHigherMoreLeft$Back;II)Z"⟩
abbrev cX2_tellHe : ByteArray := prog_4_method_12_code
def yX2_tellHe : MethodName := ⟨RX2, "tellHe", "(LHigherMoreLeft$Back;III)Z"⟩
abbrev cX2_tellSeam : ByteArray := prog_4_method_13_code
def yX2_tellSeam : MethodName := ⟨RX2, "tellSeam", "(LHigherMoreLeft$Back;I)Z"⟩
abbrev cX2_tellStroke : ByteArray := prog_4_method_14_code
def yX2_tellStroke : MethodName := ⟨RX2, "tellStroke", "(LHigherMoreLeft$Back;I)Z"⟩
abbrev cX2_tellSore : ByteArray := prog_4_method_15_code
def yX2_tellSore : MethodName := ⟨RX2, "tellSore", "(LHigherMoreLeft$Back;II)Z"⟩
def RX3 : String := "HigherMoreLeft"
def TX3 : u_T := fun k => match k with
  | 0 => ("HigherMoreLeft", "now", "LHigherMoreLeft$Back;", true)
  | 1 => ("HigherMoreLeft", "kept", "LHigherMoreLeft$Back;", true)
  | 2 => ("HigherMoreLeft", "mind", "LHigherMoreLeft$Back;", true)
  | 3 => ("HigherMoreLeft", "further", "LHigherMoreLeft$Back;", true)
  | 4 => ("HigherMoreLeft", "text", "LHigherMoreLeft$Text;", true)
  | 5 => ("HigherMoreLeft", "sayings", "LHigherMoreLeft$Sayings;", true)
  | 6 => ("HigherMoreLeft", "told", "[I", true)
  | 7 => ("HigherMoreLeft", "groups", "[I", true)
  | 8 => ("HigherMoreLeft", "refused", "[I", true)
  | 9 => ("HigherMoreLeft", "toldMany", "I", false)
  | _ => ("HigherMoreLeft", "hasKept", "Z", false)
def tyX3 : Nat → FieldType := fun k => match k with
  | 0 => .object "HigherMoreLeft$Back"
  | 1 => .object "HigherMoreLeft$Back"
  | 2 => .object "HigherMoreLeft$Back"
  | 3 => .object "HigherMoreLeft$Back"
  | 4 => .object "HigherMoreLeft$Text"
  | 5 => .object "HigherMoreLeft$Sayings"
  | 6 => .array .int
  | 7 => .array .int
  | 8 => .array .int
  | 9 => .int
  | _ => .boolean
abbrev wsX30 : List Cond := u_ws RX3 TX3 11
theorem nmX3 : ∀ a, a < 11 → ∀ b, b < 11 → a ≠ b → (TX3 a).2.1 ≠ (TX3 b).2.1 := by decide +kernel
theorem tyX3_ok : ∀ k, k < 11 → parseFieldDescriptor (TX3 k).2.2.1 = some (tyX3 k) := by decide +kernel
abbrev cX3_init : ByteArray := prog_1_method_1_code
def yX3_init : MethodName := ⟨RX3, "<init>", "()V"⟩
abbrev cX3_letter : ByteArray := prog_1_method_2_code
def yX3_letter : MethodName := ⟨RX3, "letter", "(I)I"⟩
abbrev cX3_back : ByteArray := prog_1_method_3_code
def yX3_back : MethodName := ⟨RX3, "back", "()I"⟩
abbrev cX3_itch : ByteArray := prog_1_method_4_code
def yX3_itch : MethodName := ⟨RX3, "itch", "(I)I"⟩
abbrev cX3_sore : ByteArray := prog_1_method_5_code
def yX3_sore : MethodName := ⟨RX3, "sore", "(I)I"⟩
abbrev cX3_heal : ByteArray := prog_1_method_6_code
def yX3_heal : MethodName := ⟨RX3, "heal", "(I)I"⟩
abbrev cX3_he : ByteArray := prog_1_method_7_code
def yX3_he : MethodName := ⟨RX3, "he", "(II)I"⟩
abbrev cX3_stroke : ByteArray := prog_1_method_8_code
def yX3_stroke : MethodName := ⟨RX3, "stroke", "(I)I"⟩
abbrev cX3_far : ByteArray := prog_1_method_9_code
def yX3_far : MethodName := ⟨RX3, "far", "(II)I"⟩
abbrev cX3_say : ByteArray := prog_1_method_10_code
def yX3_say : MethodName := ⟨RX3, "say", "()I"⟩
abbrev cX3_word : ByteArray := prog_1_method_11_code
def yX3_word : MethodName := ⟨RX3, "word", "(II)I"⟩
abbrev cX3_behind : ByteArray := prog_1_method_12_code
def yX3_behind : MethodName := ⟨RX3, "behind", "(II)I"⟩
abbrev cX3_reads : ByteArray := prog_1_method_13_code
def yX3_reads : MethodName := ⟨RX3, "reads", "(III)I"⟩
abbrev cX3_follow : ByteArray := prog_1_method_14_code
def yX3_follow : MethodName := ⟨RX3, "follow", "(I)I"⟩
abbrev cX3_mean : ByteArray := prog_1_method_15_code
def yX3_mean : MethodName := ⟨RX3, "mean", "(II)J"⟩
abbrev cX3_hardest : ByteArray := prog_1_method_16_code
def yX3_hardest : MethodName := ⟨RX3, "hardest", "(I)I"⟩
abbrev cX3_speak : ByteArray := prog_1_method_17_code
def yX3_speak : MethodName := ⟨RX3, "speak", "(II)I"⟩
abbrev cX3_saying : ByteArray := prog_1_method_18_code
def yX3_saying : MethodName := ⟨RX3, "saying", "(II)I"⟩
abbrev cX3_hush : ByteArray := prog_1_method_19_code
def yX3_hush : MethodName := ⟨RX3, "hush", "()I"⟩
abbrev cX3_may : ByteArray := prog_1_method_20_code
def yX3_may : MethodName := ⟨RX3, "may", "(I)I"⟩
abbrev cX3_heMany : ByteArray := prog_1_method_21_code
def yX3_heMany : MethodName := ⟨RX3, "heMany", "()I"⟩
abbrev cX3_odds : ByteArray := prog_1_method_22_code
def yX3_odds : MethodName := ⟨RX3, "odds", "(II)J"⟩
abbrev cX3_next : ByteArray := prog_1_method_23_code
def yX3_next : MethodName := ⟨RX3, "next", "(I)I"⟩
abbrev cX3_strip : ByteArray := prog_1_method_24_code
def yX3_strip : MethodName := ⟨RX3, "strip", "(I)I"⟩
abbrev cX3_bestStrip : ByteArray := prog_1_method_25_code
def yX3_bestStrip : MethodName := ⟨RX3, "bestStrip", "()I"⟩
abbrev cX3_fewest : ByteArray := prog_1_method_26_code
def yX3_fewest : MethodName := ⟨RX3, "fewest", "(I)I"⟩
abbrev cX3_bears : ByteArray := prog_1_method_27_code
def yX3_bears : MethodName := ⟨RX3, "bears", "(II)I"⟩
abbrev cX3_grid : ByteArray := prog_1_method_28_code
def yX3_grid : MethodName := ⟨RX3, "grid", "(IIII)I"⟩
abbrev cX3_taught : ByteArray := prog_1_method_29_code
def yX3_taught : MethodName := ⟨RX3, "taught", "()I"⟩
abbrev cX3_row : ByteArray := prog_1_method_30_code
def yX3_row : MethodName := ⟨RX3, "row", "(I)I"⟩
abbrev cX3_kinds : ByteArray := prog_1_method_31_code
def yX3_kinds : MethodName := ⟨RX3, "kinds", "()I"⟩
abbrev cX3_judge : ByteArray := prog_1_method_32_code
def yX3_judge : MethodName := ⟨RX3, "judge", "()I"⟩
abbrev cX3_evenings : ByteArray := prog_1_method_33_code
def yX3_evenings : MethodName := ⟨RX3, "evenings", "(III)I"⟩
abbrev cX3_image : ByteArray := prog_1_method_34_code
def yX3_image : MethodName := ⟨RX3, "image", "()I"⟩
abbrev cX3_on : ByteArray := prog_1_method_35_code
def yX3_on : MethodName := ⟨RX3, "on", "()I"⟩
abbrev cX3_count : ByteArray := prog_1_method_36_code
def yX3_count : MethodName := ⟨RX3, "count", "(I)I"⟩
abbrev cX3_refuse : ByteArray := prog_1_method_37_code
def yX3_refuse : MethodName := ⟨RX3, "refuse", "(I)I"⟩
abbrev cX3_refuseLong : ByteArray := prog_1_method_38_code
def yX3_refuseLong : MethodName := ⟨RX3, "refuseLong", "(I)J"⟩
abbrev cX3_weightOf : ByteArray := prog_1_method_39_code
def yX3_weightOf : MethodName := ⟨RX3, "weightOf", "(I)J"⟩
abbrev cX3_leftAtWorst : ByteArray := prog_1_method_40_code
def yX3_leftAtWorst : MethodName := ⟨RX3, "leftAtWorst", "(II)I"⟩
abbrev cX3_strokesOfStrip : ByteArray := prog_1_method_41_code
def yX3_strokesOfStrip : MethodName := ⟨RX3, "strokesOfStrip", "(I)I"⟩
abbrev cX3_firstOf : ByteArray := prog_1_method_42_code
def yX3_firstOf : MethodName := ⟨RX3, "firstOf", "(I)I"⟩
abbrev cX3_canBeGone : ByteArray := prog_1_method_43_code
def yX3_canBeGone : MethodName := ⟨RX3, "canBeGone", "(I)Z"⟩
abbrev cX3_firstUntrue : ByteArray := prog_1_method_44_code
def yX3_firstUntrue : MethodName := ⟨RX3, "firstUntrue", "(I)I"⟩
abbrev cX3_isNot : ByteArray := prog_1_method_45_code
def yX3_isNot : MethodName := ⟨RX3, "isNot", "(II)Z"⟩
abbrev cX3_isNoCell : ByteArray := prog_1_method_46_code
def yX3_isNoCell : MethodName := ⟨RX3, "isNoCell", "(I)Z"⟩
abbrev cX3_within : ByteArray := prog_1_method_47_code
def yX3_within : MethodName := ⟨RX3, "within", "(III)Z"⟩
abbrev cX3_farApart : ByteArray := prog_1_method_48_code
def yX3_farApart : MethodName := ⟨RX3, "farApart", "(II)I"⟩
abbrev cX3_boxOf : ByteArray := prog_1_method_49_code
def yX3_boxOf : MethodName := ⟨RX3, "boxOf", "(III)I"⟩
abbrev cX3_wordSaid : ByteArray := prog_1_method_50_code
def yX3_wordSaid : MethodName := ⟨RX3, "wordSaid", "(IIII)I"⟩
abbrev cX3_partOfFraction : ByteArray := prog_1_method_51_code
def yX3_partOfFraction : MethodName := ⟨RX3, "partOfFraction", "(JJI)J"⟩
abbrev cX3_commonDivisor : ByteArray := prog_1_method_52_code
def yX3_commonDivisor : MethodName := ⟨RX3, "commonDivisor", "(JJ)J"⟩
def RX4 : String := "HigherMoreLeftModel"
def TX4 : u_T := fun k => match k with
  | 0 => ("HigherMoreLeftModel", "refused", "[I", true)
  | 1 => ("HigherMoreLeftModel", "sore", "[I", true)
  | 2 => ("HigherMoreLeftModel", "he", "[I", true)
  | 3 => ("HigherMoreLeftModel", "sort", "I", false)
  | 4 => ("HigherMoreLeftModel", "at", "I", false)
  | 5 => ("HigherMoreLeftModel", "hand", "I", false)
  | 6 => ("HigherMoreLeftModel", "time", "I", false)
  | 7 => ("HigherMoreLeftModel", "tape", "[I", true)
  | 8 => ("HigherMoreLeftModel", "letter", "[I", true)
  | 9 => ("HigherMoreLeftModel", "letterAt", "[I", true)
  | 10 => ("HigherMoreLeftModel", "told", "[I", true)
  | 11 => ("HigherMoreLeftModel", "taped", "I", false)
  | 12 => ("HigherMoreLeftModel", "place", "I", false)
  | 13 => ("HigherMoreLeftModel", "statements", "I", false)
  | 14 => ("HigherMoreLeftModel", "kept", "[I", true)
  | 15 => ("HigherMoreLeftModel", "hasImage", "Z", false)
  | 16 => ("HigherMoreLeftModel", "isKeeping", "Z", false)
  | 17 => ("HigherMoreLeftModel", "cursor", "I", false)
  | 18 => ("HigherMoreLeftModel", "meanSum", "I", false)
  | 19 => ("HigherMoreLeftModel", "hardestCell", "I", false)
  | 20 => ("HigherMoreLeftModel", "saidFrom", "[I", true)
  | 21 => ("HigherMoreLeftModel", "said", "[I", true)
  | 22 => ("HigherMoreLeftModel", "byWord", "[I", true)
  | 23 => ("HigherMoreLeftModel", "sayings", "I", false)
  | 24 => ("HigherMoreLeftModel", "row", "[I", true)
  | _ => ("HigherMoreLeftModel", "rowMany", "I", false)
def tyX4 : Nat → FieldType := fun k => match k with
  | 0 => .array .int
  | 1 => .array .int
  | 2 => .array .int
  | 3 => .int
  | 4 => .int
  | 5 => .int
  | 6 => .int
  | 7 => .array .int
  | 8 => .array .int
  | 9 => .array .int
  | 10 => .array .int
  | 11 => .int
  | 12 => .int
  | 13 => .int
  | 14 => .array .int
  | 15 => .boolean
  | 16 => .boolean
  | 17 => .int
  | 18 => .int
  | 19 => .int
  | 20 => .array .int
  | 21 => .array .int
  | 22 => .array .int
  | 23 => .int
  | 24 => .array .int
  | _ => .int
abbrev wsX40 : List Cond := u_ws RX4 TX4 26
theorem nmX4 : ∀ a, a < 26 → ∀ b, b < 26 → a ≠ b → (TX4 a).2.1 ≠ (TX4 b).2.1 := by decide +kernel
theorem tyX4_ok : ∀ k, k < 26 → parseFieldDescriptor (TX4 k).2.2.1 = some (tyX4 k) := by decide +kernel
abbrev cX4_init : ByteArray := prog_6_method_1_code
def yX4_init : MethodName := ⟨RX4, "<init>", "()V"⟩
abbrev cX4_no : ByteArray := prog_6_method_2_code
def yX4_no : MethodName := ⟨RX4, "no", "(I)I"⟩
abbrev cX4_lowest : ByteArray := prog_6_method_3_code
def yX4_lowest : MethodName := ⟨RX4, "lowest", "(I)J"⟩
abbrev cX4_isIn : ByteArray := prog_6_method_4_code
def yX4_isIn : MethodName := ⟨RX4, "isIn", "(III)Z"⟩
abbrev cX4_bound : ByteArray := prog_6_method_5_code
def yX4_bound : MethodName := ⟨RX4, "bound", "(III)I"⟩
abbrev cX4_held : ByteArray := prog_6_method_6_code
def yX4_held : MethodName := ⟨RX4, "held", "(III)I"⟩
abbrev cX4_apart : ByteArray := prog_6_method_7_code
def yX4_apart : MethodName := ⟨RX4, "apart", "(II)I"⟩
abbrev cX4_isCell : ByteArray := prog_6_method_8_code
def yX4_isCell : MethodName := ⟨RX4, "isCell", "(I)Z"⟩
abbrev cX4_farOf : ByteArray := prog_6_method_9_code
def yX4_farOf : MethodName := ⟨RX4, "farOf", "(II)I"⟩
abbrev cX4_letter : ByteArray := prog_6_method_10_code
def yX4_letter : MethodName := ⟨RX4, "letter", "(I)I"⟩
abbrev cX4_next : ByteArray := prog_6_method_11_code
def yX4_next : MethodName := ⟨RX4, "next", "()I"⟩
abbrev cX4_readsDigits : ByteArray := prog_6_method_12_code
def yX4_readsDigits : MethodName := ⟨RX4, "readsDigits", "(II)Z"⟩
abbrev cX4_kindOf : ByteArray := prog_6_method_13_code
def yX4_kindOf : MethodName := ⟨RX4, "kindOf", "(I)I"⟩
abbrev cX4_readsItch : ByteArray := prog_6_method_14_code
def yX4_readsItch : MethodName := ⟨RX4, "readsItch", "(I)Z"⟩
abbrev cX4_readsAll : ByteArray := prog_6_method_15_code
def yX4_readsAll : MethodName := ⟨RX4, "readsAll", "(II)Z"⟩
abbrev cX4_statement : ByteArray := prog_6_method_16_code
def yX4_statement : MethodName := ⟨RX4, "statement", "()Z"⟩
abbrev cX4_leastOf : ByteArray := prog_6_method_17_code
def yX4_leastOf : MethodName := ⟨RX4, "leastOf", "(I)I"⟩
abbrev cX4_mostOf : ByteArray := prog_6_method_18_code
def yX4_mostOf : MethodName := ⟨RX4, "mostOf", "(I)I"⟩
abbrev cX4_comesHe : ByteArray := prog_6_method_19_code
def yX4_comesHe : MethodName := ⟨RX4, "comesHe", "(I)Z"⟩
abbrev cX4_comes : ByteArray := prog_6_method_20_code
def yX4_comes : MethodName := ⟨RX4, "comes", "(I)Z"⟩
abbrev cX4_back : ByteArray := prog_6_method_21_code
def yX4_back : MethodName := ⟨RX4, "back", "()I"⟩
abbrev cX4_passes : ByteArray := prog_6_method_22_code
def yX4_passes : MethodName := ⟨RX4, "passes", "([I)V"⟩
abbrev cX4_passOne : ByteArray := prog_6_method_23_code
def yX4_passOne : MethodName := ⟨RX4, "passOne", "(I)I"⟩
abbrev cX4_passesAll : ByteArray := prog_6_method_24_code
def yX4_passesAll : MethodName := ⟨RX4, "passesAll", "(IZ)V"⟩
abbrev cX4_image : ByteArray := prog_6_method_25_code
def yX4_image : MethodName := ⟨RX4, "image", "()I"⟩
abbrev cX4_on : ByteArray := prog_6_method_26_code
def yX4_on : MethodName := ⟨RX4, "on", "()I"⟩
abbrev cX4_plainBeside : ByteArray := prog_6_method_27_code
def yX4_plainBeside : MethodName := ⟨RX4, "plainBeside", "()I"⟩
abbrev cX4_creepsBeside : ByteArray := prog_6_method_28_code
def yX4_creepsBeside : MethodName := ⟨RX4, "creepsBeside", "()I"⟩
abbrev cX4_leapsBeside : ByteArray := prog_6_method_29_code
def yX4_leapsBeside : MethodName := ⟨RX4, "leapsBeside", "()I"⟩
abbrev cX4_besideBy : ByteArray := prog_6_method_30_code
def yX4_besideBy : MethodName := ⟨RX4, "besideBy", "()I"⟩
abbrev cX4_struckBy : ByteArray := prog_6_method_31_code
def yX4_struckBy : MethodName := ⟨RX4, "struckBy", "()I"⟩
abbrev cX4_strokes : ByteArray := prog_6_method_32_code
def yX4_strokes : MethodName := ⟨RX4, "strokes", "(I)V"⟩
abbrev cX4_wordBy : ByteArray := prog_6_method_33_code
def yX4_wordBy : MethodName := ⟨RX4, "wordBy", "(IIII)I"⟩
abbrev cX4_wordFrom : ByteArray := prog_6_method_34_code
def yX4_wordFrom : MethodName := ⟨RX4, "wordFrom", "(II)I"⟩
abbrev cX4_itch : ByteArray := prog_6_method_35_code
def yX4_itch : MethodName := ⟨RX4, "itch", "(I)I"⟩
abbrev cX4_sore : ByteArray := prog_6_method_36_code
def yX4_sore : MethodName := ⟨RX4, "sore", "(I)I"⟩
abbrev cX4_heal : ByteArray := prog_6_method_37_code
def yX4_heal : MethodName := ⟨RX4, "heal", "(I)I"⟩
abbrev cX4_he : ByteArray := prog_6_method_38_code
def yX4_he : MethodName := ⟨RX4, "he", "(II)I"⟩
abbrev cX4_stroke : ByteArray := prog_6_method_39_code
def yX4_stroke : MethodName := ⟨RX4, "stroke", "(I)I"⟩
abbrev cX4_far : ByteArray := prog_6_method_40_code
def yX4_far : MethodName := ⟨RX4, "far", "(II)I"⟩
abbrev cX4_say : ByteArray := prog_6_method_41_code
def yX4_say : MethodName := ⟨RX4, "say", "()I"⟩
abbrev cX4_word : ByteArray := prog_6_method_42_code
def yX4_word : MethodName := ⟨RX4, "word", "(II)I"⟩
abbrev cX4_behind : ByteArray := prog_6_method_43_code
def yX4_behind : MethodName := ⟨RX4, "behind", "(II)I"⟩
abbrev cX4_readBy : ByteArray := prog_6_method_44_code
def yX4_readBy : MethodName := ⟨RX4, "readBy", "(III)I"⟩
abbrev cX4_reads : ByteArray := prog_6_method_45_code
def yX4_reads : MethodName := ⟨RX4, "reads", "(III)I"⟩
abbrev cX4_followBy : ByteArray := prog_6_method_46_code
def yX4_followBy : MethodName := ⟨RX4, "followBy", "(I)I"⟩
abbrev cX4_orElse : ByteArray := prog_6_method_47_code
def yX4_orElse : MethodName := ⟨RX4, "orElse", "(II)I"⟩
abbrev cX4_follow : ByteArray := prog_6_method_48_code
def yX4_follow : MethodName := ⟨RX4, "follow", "(I)I"⟩
abbrev cX4_goesAll : ByteArray := prog_6_method_49_code
def yX4_goesAll : MethodName := ⟨RX4, "goesAll", "(I)V"⟩
abbrev cX4_divisor : ByteArray := prog_6_method_50_code
def yX4_divisor : MethodName := ⟨RX4, "divisor", "(JJ)J"⟩
abbrev cX4_partOf : ByteArray := prog_6_method_51_code
def yX4_partOf : MethodName := ⟨RX4, "partOf", "(JJI)J"⟩
abbrev cX4_mean : ByteArray := prog_6_method_52_code
def yX4_mean : MethodName := ⟨RX4, "mean", "(II)J"⟩
abbrev cX4_hardest : ByteArray := prog_6_method_53_code
def yX4_hardest : MethodName := ⟨RX4, "hardest", "(I)I"⟩
abbrev cX4_speak : ByteArray := prog_6_method_54_code
def yX4_speak : MethodName := ⟨RX4, "speak", "(II)I"⟩
abbrev cX4_saying : ByteArray := prog_6_method_55_code
def yX4_saying : MethodName := ⟨RX4, "saying", "(II)I"⟩
abbrev cX4_hush : ByteArray := prog_6_method_56_code
def yX4_hush : MethodName := ⟨RX4, "hush", "()I"⟩
abbrev cX4_rightBy : ByteArray := prog_6_method_57_code
def yX4_rightBy : MethodName := ⟨RX4, "rightBy", "(III)I"⟩
abbrev cX4_mayBy : ByteArray := prog_6_method_58_code
def yX4_mayBy : MethodName := ⟨RX4, "mayBy", "(II)I"⟩
abbrev cX4_may : ByteArray := prog_6_method_59_code
def yX4_may : MethodName := ⟨RX4, "may", "(I)I"⟩
abbrev cX4_heMany : ByteArray := prog_6_method_60_code
def yX4_heMany : MethodName := ⟨RX4, "heMany", "()I"⟩
abbrev cX4_weightOf : ByteArray := prog_6_method_61_code
def yX4_weightOf : MethodName := ⟨RX4, "weightOf", "(I)J"⟩
abbrev cX4_odds : ByteArray := prog_6_method_62_code
def yX4_odds : MethodName := ⟨RX4, "odds", "(II)J"⟩
abbrev cX4_worstFrom : ByteArray := prog_6_method_63_code
def yX4_worstFrom : MethodName := ⟨RX4, "worstFrom", "(II)I"⟩
abbrev cX4_next_ : ByteArray := prog_6_method_64_code
def yX4_next_ : MethodName := ⟨RX4, "next", "(I)I"⟩
abbrev cX4_stripBy : ByteArray := prog_6_method_65_code
def yX4_stripBy : MethodName := ⟨RX4, "stripBy", "(I)I"⟩
abbrev cX4_strip : ByteArray := prog_6_method_66_code
def yX4_strip : MethodName := ⟨RX4, "strip", "(I)I"⟩
abbrev cX4_bestStrip : ByteArray := prog_6_method_67_code
def yX4_bestStrip : MethodName := ⟨RX4, "bestStrip", "()I"⟩
abbrev cX4_doesGo : ByteArray := prog_6_method_68_code
def yX4_doesGo : MethodName := ⟨RX4, "doesGo", "(II)Z"⟩
abbrev cX4_fewest : ByteArray := prog_6_method_69_code
def yX4_fewest : MethodName := ⟨RX4, "fewest", "(I)I"⟩
abbrev cX4_soreAround : ByteArray := prog_6_method_70_code
def yX4_soreAround : MethodName := ⟨RX4, "soreAround", "(I)I"⟩
abbrev cX4_bears : ByteArray := prog_6_method_71_code
def yX4_bears : MethodName := ⟨RX4, "bears", "(II)I"⟩
abbrev cX4_boxOf : ByteArray := prog_6_method_72_code
def yX4_boxOf : MethodName := ⟨RX4, "boxOf", "(III)I"⟩
abbrev cX4_grid : ByteArray := prog_6_method_73_code
def yX4_grid : MethodName := ⟨RX4, "grid", "(IIII)I"⟩
abbrev cX4_taught : ByteArray := prog_6_method_74_code
def yX4_taught : MethodName := ⟨RX4, "taught", "()I"⟩
abbrev cX4_row : ByteArray := prog_6_method_75_code
def yX4_row : MethodName := ⟨RX4, "row", "(I)I"⟩
abbrev cX4_wrongBy : ByteArray := prog_6_method_76_code
def yX4_wrongBy : MethodName := ⟨RX4, "wrongBy", "(I)I"⟩
abbrev cX4_kinds : ByteArray := prog_6_method_77_code
def yX4_kinds : MethodName := ⟨RX4, "kinds", "()I"⟩
abbrev cX4_judge : ByteArray := prog_6_method_78_code
def yX4_judge : MethodName := ⟨RX4, "judge", "()I"⟩
abbrev cX4_evenings : ByteArray := prog_6_method_79_code
def yX4_evenings : MethodName := ⟨RX4, "evenings", "(III)I"⟩
abbrev cX4_count : ByteArray := prog_6_method_80_code
def yX4_count : MethodName := ⟨RX4, "count", "(I)I"⟩
def RJ11 : String := "java/lang/Character"
def TJ11 : u_T := fun k => match k with
  | _ => ("", "", "", false)
def tyJ11 : Nat → FieldType := fun k => match k with
  | _ => .int
abbrev wsJ110 : List Cond := u_ws RJ11 TJ11 0
theorem nmJ11 : ∀ a, a < 0 → ∀ b, b < 0 → a ≠ b → (TJ11 a).2.1 ≠ (TJ11 b).2.1 := by decide +kernel
theorem tyJ11_ok : ∀ k, k < 0 → parseFieldDescriptor (TJ11 k).2.2.1 = some (tyJ11 k) := by decide +kernel
abbrev cJ11_isValidCodePoint_9a6ad : ByteArray := prog_7_method_11_code
def yJ11_isValidCodePoint_9a6ad : MethodName := ⟨RJ11, "isValidCodePoint", "(I)Z"⟩
abbrev cJ11_highSurrogate_5068e : ByteArray := prog_7_method_28_code
def yJ11_highSurrogate_5068e : MethodName := ⟨RJ11, "highSurrogate", "(I)C"⟩
abbrev cJ11_lowSurrogate_5068e : ByteArray := prog_7_method_29_code
def yJ11_lowSurrogate_5068e : MethodName := ⟨RJ11, "lowSurrogate", "(I)C"⟩
def RJ6 : String := "java/lang/Integer"
def TJ6 : u_T := fun k => match k with
  | _ => ("", "", "", false)
def tyJ6 : Nat → FieldType := fun k => match k with
  | _ => .int
abbrev wsJ60 : List Cond := u_ws RJ6 TJ6 0
theorem nmJ6 : ∀ a, a < 0 → ∀ b, b < 0 → a ≠ b → (TJ6 a).2.1 ≠ (TJ6 b).2.1 := by decide +kernel
theorem tyJ6_ok : ∀ k, k < 0 → parseFieldDescriptor (TJ6 k).2.2.1 = some (tyJ6 k) := by decide +kernel
abbrev cJ6_compare_7cf53 : ByteArray := prog_8_method_40_code
def yJ6_compare_7cf53 : MethodName := ⟨RJ6, "compare", "(II)I"⟩
def RJ9 : String := "java/lang/Math"
def TJ9 : u_T := fun k => match k with
  | _ => ("", "", "", false)
def tyJ9 : Nat → FieldType := fun k => match k with
  | _ => .int
abbrev wsJ90 : List Cond := u_ws RJ9 TJ9 0
theorem nmJ9 : ∀ a, a < 0 → ∀ b, b < 0 → a ≠ b → (TJ9 a).2.1 ≠ (TJ9 b).2.1 := by decide +kernel
theorem tyJ9_ok : ∀ k, k < 0 → parseFieldDescriptor (TJ9 k).2.2.1 = some (tyJ9 k) := by decide +kernel
abbrev cJ9_floorMod_7cf53 : ByteArray := prog_9_method_50_code
def yJ9_floorMod_7cf53 : MethodName := ⟨RJ9, "floorMod", "(II)I"⟩
abbrev cJ9_abs_0f7a4 : ByteArray := prog_9_method_59_code
def yJ9_abs_0f7a4 : MethodName := ⟨RJ9, "abs", "(I)I"⟩
abbrev cJ9_max_7cf53 : ByteArray := prog_9_method_65_code
def yJ9_max_7cf53 : MethodName := ⟨RJ9, "max", "(II)I"⟩
abbrev cJ9_min_7cf53 : ByteArray := prog_9_method_69_code
def yJ9_min_7cf53 : MethodName := ⟨RJ9, "min", "(II)I"⟩
def RJ0 : String := "java/lang/String"
def TJ0 : u_T := fun k => match k with
  | _ => ("", "", "", false)
def tyJ0 : Nat → FieldType := fun k => match k with
  | _ => .int
abbrev wsJ00 : List Cond := u_ws RJ0 TJ0 0
theorem nmJ0 : ∀ a, a < 0 → ∀ b, b < 0 → a ≠ b → (TJ0 a).2.1 ≠ (TJ0 b).2.1 := by decide +kernel
theorem tyJ0_ok : ∀ k, k < 0 → parseFieldDescriptor (TJ0 k).2.2.1 = some (tyJ0 k) := by decide +kernel
abbrev cJ0_length_8abf5 : ByteArray := prog_10_method_54_code
def yJ0_length_8abf5 : MethodName := ⟨RJ0, "length", "()I"⟩
abbrev cJ0_isEmpty_aae02 : ByteArray := prog_10_method_55_code
def yJ0_isEmpty_aae02 : MethodName := ⟨RJ0, "isEmpty", "()Z"⟩
abbrev cJ0_charAt_5068e : ByteArray := prog_10_method_56_code
def yJ0_charAt_5068e : MethodName := ⟨RJ0, "charAt", "(I)C"⟩
abbrev cJ0_indexOf_0f7a4 : ByteArray := prog_10_method_79_code
def yJ0_indexOf_0f7a4 : MethodName := ⟨RJ0, "indexOf", "(I)I"⟩
abbrev cJ0_indexOf_7cf53 : ByteArray := prog_10_method_80_code
def yJ0_indexOf_7cf53 : MethodName := ⟨RJ0, "indexOf", "(II)I"⟩
abbrev cJ0_coder_7d493 : ByteArray := prog_10_method_152_code
def yJ0_coder_7d493 : MethodName := ⟨RJ0, "coder", "()B"⟩
abbrev cJ0_isLatin1_aae02 : ByteArray := prog_10_method_154_code
def yJ0_isLatin1_aae02 : MethodName := ⟨RJ0, "isLatin1", "()Z"⟩
abbrev cJ0_checkIndex_df160 : ByteArray := prog_10_method_155_code
def yJ0_checkIndex_df160 : MethodName := ⟨RJ0, "checkIndex", "(II)V"⟩
abbrev cJ0_checkBoundsBeginEnd_23922 : ByteArray := prog_10_method_158_code
def yJ0_checkBoundsBeginEnd_23922 : MethodName := ⟨RJ0, "checkBoundsBeginEnd", "(III)V"⟩
def RJ1 : String := "java/lang/StringLatin1"
def TJ1 : u_T := fun k => match k with
  | _ => ("", "", "", false)
def tyJ1 : Nat → FieldType := fun k => match k with
  | _ => .int
abbrev wsJ10 : List Cond := u_ws RJ1 TJ1 0
theorem nmJ1 : ∀ a, a < 0 → ∀ b, b < 0 → a ≠ b → (TJ1 a).2.1 ≠ (TJ1 b).2.1 := by decide +kernel
theorem tyJ1_ok : ∀ k, k < 0 → parseFieldDescriptor (TJ1 k).2.2.1 = some (tyJ1 k) := by decide +kernel
abbrev cJ1_charAt_3b067 : ByteArray := prog_11_method_2_code
def yJ1_charAt_3b067 : MethodName := ⟨RJ1, "charAt", "([BI)C"⟩
abbrev cJ1_canEncode_9a6ad : ByteArray := prog_11_method_4_code
def yJ1_canEncode_9a6ad : MethodName := ⟨RJ1, "canEncode", "(I)Z"⟩
abbrev cJ1_indexOf_4cfef : ByteArray := prog_11_method_22_code
def yJ1_indexOf_4cfef : MethodName := ⟨RJ1, "indexOf", "([BIII)I"⟩
abbrev cJ1_indexOfChar_4cfef : ByteArray := prog_11_method_23_code
def yJ1_indexOfChar_4cfef : MethodName := ⟨RJ1, "indexOfChar", "([BIII)I"⟩
def RJ2 : String := "java/lang/StringUTF16"
def TJ2 : u_T := fun k => match k with
  | _ => ("", "", "", false)
def tyJ2 : Nat → FieldType := fun k => match k with
  | _ => .int
abbrev wsJ20 : List Cond := u_ws RJ2 TJ2 0
theorem nmJ2 : ∀ a, a < 0 → ∀ b, b < 0 → a ≠ b → (TJ2 a).2.1 ≠ (TJ2 b).2.1 := by decide +kernel
theorem tyJ2_ok : ∀ k, k < 0 → parseFieldDescriptor (TJ2 k).2.2.1 = some (tyJ2 k) := by decide +kernel
abbrev cJ2_getChar_3b067 : ByteArray := prog_12_method_5_code
def yJ2_getChar_3b067 : MethodName := ⟨RJ2, "getChar", "([BI)C"⟩
abbrev cJ2_length_9d52b : ByteArray := prog_12_method_6_code
def yJ2_length_9d52b : MethodName := ⟨RJ2, "length", "([B)I"⟩
abbrev cJ2_indexOf_4cfef : ByteArray := prog_12_method_40_code
def yJ2_indexOf_4cfef : MethodName := ⟨RJ2, "indexOf", "([BIII)I"⟩
abbrev cJ2_indexOfChar_4cfef : ByteArray := prog_12_method_47_code
def yJ2_indexOfChar_4cfef : MethodName := ⟨RJ2, "indexOfChar", "([BIII)I"⟩
abbrev cJ2_indexOfCharUnsafe_4cfef : ByteArray := prog_12_method_48_code
def yJ2_indexOfCharUnsafe_4cfef : MethodName := ⟨RJ2, "indexOfCharUnsafe", "([BIII)I"⟩
abbrev cJ2_indexOfSupplementary_4cfef : ByteArray := prog_12_method_49_code
def yJ2_indexOfSupplementary_4cfef : MethodName := ⟨RJ2, "indexOfSupplementary", "([BIII)I"⟩
abbrev cJ2_charAt_3b067 : ByteArray := prog_12_method_83_code
def yJ2_charAt_3b067 : MethodName := ⟨RJ2, "charAt", "([BI)C"⟩
abbrev cJ2_checkIndex_2214a : ByteArray := prog_12_method_91_code
def yJ2_checkIndex_2214a : MethodName := ⟨RJ2, "checkIndex", "(I[B)V"⟩
abbrev cJ2_checkBoundsBeginEnd_d044e : ByteArray := prog_12_method_93_code
def yJ2_checkBoundsBeginEnd_d044e : MethodName := ⟨RJ2, "checkBoundsBeginEnd", "(II[B)V"⟩
def RJ10 : String := "java/lang/System"
def TJ10 : u_T := fun k => match k with
  | _ => ("", "", "", false)
def tyJ10 : Nat → FieldType := fun k => match k with
  | _ => .int
abbrev wsJ100 : List Cond := u_ws RJ10 TJ10 0
theorem nmJ10 : ∀ a, a < 0 → ∀ b, b < 0 → a ≠ b → (TJ10 a).2.1 ≠ (TJ10 b).2.1 := by decide +kernel
theorem tyJ10_ok : ∀ k, k < 0 → parseFieldDescriptor (TJ10 k).2.2.1 = some (tyJ10 k) := by decide +kernel
def RJ3 : String := "jdk/internal/util/Preconditions"
def TJ3 : u_T := fun k => match k with
  | _ => ("", "", "", false)
def tyJ3 : Nat → FieldType := fun k => match k with
  | _ => .int
abbrev wsJ30 : List Cond := u_ws RJ3 TJ3 0
theorem nmJ3 : ∀ a, a < 0 → ∀ b, b < 0 → a ≠ b → (TJ3 a).2.1 ≠ (TJ3 b).2.1 := by decide +kernel
theorem tyJ3_ok : ∀ k, k < 0 → parseFieldDescriptor (TJ3 k).2.2.1 = some (tyJ3 k) := by decide +kernel
abbrev cJ3_checkIndex_8e157 : ByteArray := prog_14_method_11_code
def yJ3_checkIndex_8e157 : MethodName := ⟨RJ3, "checkIndex", "(IILjava/util/function/BiFunction;)I"⟩
abbrev cJ3_checkFromToIndex_8c36e : ByteArray := prog_14_method_12_code
def yJ3_checkFromToIndex_8c36e : MethodName := ⟨RJ3, "checkFromToIndex", "(IIILjava/util/function/BiFunction;)I"⟩
def RL : String := "HigherMoreLeftLaw"
abbrev cL_law : ByteArray := code
def yL_law : MethodName := ⟨RL, "law", "([I)Z"⟩
abbrev vwCl : List vw_C := [(RX0, TX0, 9), (RX1, TX1, 3), (RX2, TX2, 2), (RX3, TX3, 11), (RX4, TX4, 26)]
end
section
theorem dX0_init_0 : decode cX0_init 0 = .ok (.aload_n 0, 1) := by decide +kernel
theorem dX0_init_1 : decode cX0_init 1 = .ok (.invokespecial 3, 3) := by decide +kernel
theorem dX0_init_4 : decode cX0_init 4 = .ok (.aload_n 0, 1) := by decide +kernel
theorem dX0_init_5 : decode cX0_init 5 = .ok (.bipush 24, 2) := by decide +kernel
theorem dX0_init_7 : decode cX0_init 7 = .ok (.newarray .int, 2) := by decide +kernel
theorem dX0_init_9 : decode cX0_init 9 = .ok (.putfield 9, 3) := by decide +kernel
theorem dX0_init_12 : decode cX0_init 12 = .ok (.aload_n 0, 1) := by decide +kernel
theorem dX0_init_13 : decode cX0_init 13 = .ok (.iconst 0, 1) := by decide +kernel
theorem dX0_init_14 : decode cX0_init 14 = .ok (.putfield 15, 3) := by decide +kernel
theorem dX0_init_17 : decode cX0_init 17 = .ok (.aload_n 0, 1) := by decide +kernel
theorem dX0_init_18 : decode cX0_init 18 = .ok (.iconst 0, 1) := by decide +kernel
theorem dX0_init_19 : decode cX0_init 19 = .ok (.putfield 19, 3) := by decide +kernel
theorem dX0_init_22 : decode cX0_init 22 = .ok (.aload_n 0, 1) := by decide +kernel
theorem dX0_init_23 : decode cX0_init 23 = .ok (.iconst 0, 1) := by decide +kernel
theorem dX0_init_24 : decode cX0_init 24 = .ok (.putfield 22, 3) := by decide +kernel
theorem dX0_init_27 : decode cX0_init 27 = .ok (.aload_n 0, 1) := by decide +kernel
theorem dX0_init_28 : decode cX0_init 28 = .ok (.iconst 0, 1) := by decide +kernel
theorem dX0_init_29 : decode cX0_init 29 = .ok (.putfield 25, 3) := by decide +kernel
theorem dX0_init_32 : decode cX0_init 32 = .ok (.aload_n 0, 1) := by decide +kernel
theorem dX0_init_33 : decode cX0_init 33 = .ok (.iconst 0, 1) := by decide +kernel
theorem dX0_init_34 : decode cX0_init 34 = .ok (.putfield 28, 3) := by decide +kernel
theorem dX0_init_37 : decode cX0_init 37 = .ok (.aload_n 0, 1) := by decide +kernel
theorem dX0_init_38 : decode cX0_init 38 = .ok (.iconst 1, 1) := by decide +kernel
theorem dX0_init_39 : decode cX0_init 39 = .ok (.putfield 31, 3) := by decide +kernel
theorem dX0_init_42 : decode cX0_init 42 = .ok (.aload_n 0, 1) := by decide +kernel
theorem dX0_init_43 : decode cX0_init 43 = .ok (.iconst 3, 1) := by decide +kernel
theorem dX0_init_44 : decode cX0_init 44 = .ok (.putfield 34, 3) := by decide +kernel
theorem dX0_init_47 : decode cX0_init 47 = .ok (.aload_n 0, 1) := by decide +kernel
theorem dX0_init_48 : decode cX0_init 48 = .ok (.iconst 0, 1) := by decide +kernel
theorem dX0_init_49 : decode cX0_init 49 = .ok (.putfield 37, 3) := by decide +kernel
theorem dX0_init_52 : decode cX0_init 52 = .ok (.return_, 1) := by decide +kernel
theorem dX0_take_0 : decode cX0_take 0 = .ok (.aload_n 1, 1) := by decide +kernel
theorem dX0_take_1 : decode cX0_take 1 = .ok (.ifnonnull 4, 3) := by decide +kernel
theorem dX0_take_4 : decode cX0_take 4 = .ok (.return_, 1) := by decide +kernel
theorem dX0_take_5 : decode cX0_take 5 = .ok (.aload_n 1, 1) := by decide +kernel
theorem dX0_take_6 : decode cX0_take 6 = .ok (.getfield 9, 3) := by decide +kernel
theorem dX0_take_9 : decode cX0_take 9 = .ok (.iconst 0, 1) := by decide +kernel
theorem dX0_take_10 : decode cX0_take 10 = .ok (.aload_n 0, 1) := by decide +kernel
theorem dX0_take_11 : decode cX0_take 11 = .ok (.getfield 9, 3) := by decide +kernel
theorem dX0_take_14 : decode cX0_take 14 = .ok (.iconst 0, 1) := by decide +kernel
theorem dX0_take_15 : decode cX0_take 15 = .ok (.bipush 24, 2) := by decide +kernel
theorem dX0_take_17 : decode cX0_take 17 = .ok (.invokestatic 40, 3) := by decide +kernel
theorem dX0_take_20 : decode cX0_take 20 = .ok (.aload_n 0, 1) := by decide +kernel
theorem dX0_take_21 : decode cX0_take 21 = .ok (.aload_n 1, 1) := by decide +kernel
theorem dX0_take_22 : decode cX0_take 22 = .ok (.getfield 15, 3) := by decide +kernel
theorem dX0_take_25 : decode cX0_take 25 = .ok (.putfield 15, 3) := by decide +kernel
theorem dX0_take_28 : decode cX0_take 28 = .ok (.aload_n 0, 1) := by decide +kernel
theorem dX0_take_29 : decode cX0_take 29 = .ok (.aload_n 1, 1) := by decide +kernel
theorem dX0_take_30 : decode cX0_take 30 = .ok (.getfield 19, 3) := by decide +kernel
theorem dX0_take_33 : decode cX0_take 33 = .ok (.putfield 19, 3) := by decide +kernel
theorem dX0_take_36 : decode cX0_take 36 = .ok (.aload_n 0, 1) := by decide +kernel
theorem dX0_take_37 : decode cX0_take 37 = .ok (.aload_n 1, 1) := by decide +kernel
theorem dX0_take_38 : decode cX0_take 38 = .ok (.getfield 22, 3) := by decide +kernel
theorem dX0_take_41 : decode cX0_take 41 = .ok (.putfield 22, 3) := by decide +kernel
theorem dX0_take_44 : decode cX0_take 44 = .ok (.aload_n 0, 1) := by decide +kernel
theorem dX0_take_45 : decode cX0_take 45 = .ok (.aload_n 1, 1) := by decide +kernel
theorem dX0_take_46 : decode cX0_take 46 = .ok (.getfield 25, 3) := by decide +kernel
theorem dX0_take_49 : decode cX0_take 49 = .ok (.putfield 25, 3) := by decide +kernel
theorem dX0_take_52 : decode cX0_take 52 = .ok (.aload_n 0, 1) := by decide +kernel
theorem dX0_take_53 : decode cX0_take 53 = .ok (.aload_n 1, 1) := by decide +kernel
theorem dX0_take_54 : decode cX0_take 54 = .ok (.getfield 28, 3) := by decide +kernel
theorem dX0_take_57 : decode cX0_take 57 = .ok (.putfield 28, 3) := by decide +kernel
theorem dX0_take_60 : decode cX0_take 60 = .ok (.aload_n 0, 1) := by decide +kernel
theorem dX0_take_61 : decode cX0_take 61 = .ok (.aload_n 1, 1) := by decide +kernel
theorem dX0_take_62 : decode cX0_take 62 = .ok (.getfield 31, 3) := by decide +kernel
theorem dX0_take_65 : decode cX0_take 65 = .ok (.putfield 31, 3) := by decide +kernel
theorem dX0_take_68 : decode cX0_take 68 = .ok (.aload_n 0, 1) := by decide +kernel
theorem dX0_take_69 : decode cX0_take 69 = .ok (.aload_n 1, 1) := by decide +kernel
theorem dX0_take_70 : decode cX0_take 70 = .ok (.getfield 34, 3) := by decide +kernel
theorem dX0_take_73 : decode cX0_take 73 = .ok (.putfield 34, 3) := by decide +kernel
theorem dX0_take_76 : decode cX0_take 76 = .ok (.aload_n 0, 1) := by decide +kernel
theorem dX0_take_77 : decode cX0_take 77 = .ok (.aload_n 1, 1) := by decide +kernel
theorem dX0_take_78 : decode cX0_take 78 = .ok (.getfield 37, 3) := by decide +kernel
theorem dX0_take_81 : decode cX0_take 81 = .ok (.putfield 37, 3) := by decide +kernel
theorem dX0_take_84 : decode cX0_take 84 = .ok (.return_, 1) := by decide +kernel
theorem dX0_changeHe_0 : decode cX0_changeHe 0 = .ok (.iload_n 1, 1) := by decide +kernel
theorem dX0_changeHe_1 : decode cX0_changeHe 1 = .ok (.tableswitch 63 0 2 #[27, 39, 51], 27) := by decide +kernel
theorem dX0_changeHe_28 : decode cX0_changeHe 28 = .ok (.aload_n 0, 1) := by decide +kernel
theorem dX0_changeHe_29 : decode cX0_changeHe 29 = .ok (.getfield 28, 3) := by decide +kernel
theorem dX0_changeHe_32 : decode cX0_changeHe 32 = .ok (.istore_n 3, 1) := by decide +kernel
theorem dX0_changeHe_33 : decode cX0_changeHe 33 = .ok (.aload_n 0, 1) := by decide +kernel
theorem dX0_changeHe_34 : decode cX0_changeHe 34 = .ok (.iload_n 2, 1) := by decide +kernel
theorem dX0_changeHe_35 : decode cX0_changeHe 35 = .ok (.putfield 28, 3) := by decide +kernel
theorem dX0_changeHe_38 : decode cX0_changeHe 38 = .ok (.iload_n 3, 1) := by decide +kernel
theorem dX0_changeHe_39 : decode cX0_changeHe 39 = .ok (.ireturn, 1) := by decide +kernel
theorem dX0_changeHe_40 : decode cX0_changeHe 40 = .ok (.aload_n 0, 1) := by decide +kernel
theorem dX0_changeHe_41 : decode cX0_changeHe 41 = .ok (.getfield 31, 3) := by decide +kernel
theorem dX0_changeHe_44 : decode cX0_changeHe 44 = .ok (.istore_n 3, 1) := by decide +kernel
theorem dX0_changeHe_45 : decode cX0_changeHe 45 = .ok (.aload_n 0, 1) := by decide +kernel
theorem dX0_changeHe_46 : decode cX0_changeHe 46 = .ok (.iload_n 2, 1) := by decide +kernel
theorem dX0_changeHe_47 : decode cX0_changeHe 47 = .ok (.putfield 31, 3) := by decide +kernel
theorem dX0_changeHe_50 : decode cX0_changeHe 50 = .ok (.iload_n 3, 1) := by decide +kernel
theorem dX0_changeHe_51 : decode cX0_changeHe 51 = .ok (.ireturn, 1) := by decide +kernel
theorem dX0_changeHe_52 : decode cX0_changeHe 52 = .ok (.aload_n 0, 1) := by decide +kernel
theorem dX0_changeHe_53 : decode cX0_changeHe 53 = .ok (.getfield 34, 3) := by decide +kernel
theorem dX0_changeHe_56 : decode cX0_changeHe 56 = .ok (.istore_n 3, 1) := by decide +kernel
theorem dX0_changeHe_57 : decode cX0_changeHe 57 = .ok (.aload_n 0, 1) := by decide +kernel
theorem dX0_changeHe_58 : decode cX0_changeHe 58 = .ok (.iload_n 2, 1) := by decide +kernel
theorem dX0_changeHe_59 : decode cX0_changeHe 59 = .ok (.putfield 34, 3) := by decide +kernel
theorem dX0_changeHe_62 : decode cX0_changeHe 62 = .ok (.iload_n 3, 1) := by decide +kernel
theorem dX0_changeHe_63 : decode cX0_changeHe 63 = .ok (.ireturn, 1) := by decide +kernel
theorem dX0_changeHe_64 : decode cX0_changeHe 64 = .ok (.aload_n 0, 1) := by decide +kernel
theorem dX0_changeHe_65 : decode cX0_changeHe 65 = .ok (.getfield 37, 3) := by decide +kernel
theorem dX0_changeHe_68 : decode cX0_changeHe 68 = .ok (.istore_n 3, 1) := by decide +kernel
theorem dX0_changeHe_69 : decode cX0_changeHe 69 = .ok (.aload_n 0, 1) := by decide +kernel
theorem dX0_changeHe_70 : decode cX0_changeHe 70 = .ok (.iload_n 2, 1) := by decide +kernel
theorem dX0_changeHe_71 : decode cX0_changeHe 71 = .ok (.putfield 37, 3) := by decide +kernel
theorem dX0_changeHe_74 : decode cX0_changeHe 74 = .ok (.iload_n 3, 1) := by decide +kernel
theorem dX0_changeHe_75 : decode cX0_changeHe 75 = .ok (.ireturn, 1) := by decide +kernel
theorem dX0_soreAt_0 : decode cX0_soreAt 0 = .ok (.iload_n 1, 1) := by decide +kernel
theorem dX0_soreAt_1 : decode cX0_soreAt 1 = .ok (.ifCond .lt 9, 3) := by decide +kernel
theorem dX0_soreAt_4 : decode cX0_soreAt 4 = .ok (.iload_n 1, 1) := by decide +kernel
theorem dX0_soreAt_5 : decode cX0_soreAt 5 = .ok (.bipush 24, 2) := by decide +kernel
theorem dX0_soreAt_7 : decode cX0_soreAt 7 = .ok (.if_icmp .lt 7, 3) := by decide +kernel
theorem dX0_soreAt_10 : decode cX0_soreAt 10 = .ok (.iconst 0, 1) := by decide +kernel
theorem dX0_soreAt_11 : decode cX0_soreAt 11 = .ok (.goto 9, 3) := by decide +kernel
theorem dX0_soreAt_14 : decode cX0_soreAt 14 = .ok (.aload_n 0, 1) := by decide +kernel
theorem dX0_soreAt_15 : decode cX0_soreAt 15 = .ok (.getfield 9, 3) := by decide +kernel
theorem dX0_soreAt_18 : decode cX0_soreAt 18 = .ok (.iload_n 1, 1) := by decide +kernel
theorem dX0_soreAt_19 : decode cX0_soreAt 19 = .ok (.iaload, 1) := by decide +kernel
theorem dX0_soreAt_20 : decode cX0_soreAt 20 = .ok (.ireturn, 1) := by decide +kernel
theorem dX0_setSore_0 : decode cX0_setSore 0 = .ok (.iload_n 1, 1) := by decide +kernel
theorem dX0_setSore_1 : decode cX0_setSore 1 = .ok (.invokestatic 46, 3) := by decide +kernel
theorem dX0_setSore_4 : decode cX0_setSore 4 = .ok (.ifCond .ne 10, 3) := by decide +kernel
theorem dX0_setSore_7 : decode cX0_setSore 7 = .ok (.aload_n 0, 1) := by decide +kernel
theorem dX0_setSore_8 : decode cX0_setSore 8 = .ok (.getfield 9, 3) := by decide +kernel
theorem dX0_setSore_11 : decode cX0_setSore 11 = .ok (.iload_n 1, 1) := by decide +kernel
theorem dX0_setSore_12 : decode cX0_setSore 12 = .ok (.iload_n 2, 1) := by decide +kernel
theorem dX0_setSore_13 : decode cX0_setSore 13 = .ok (.iastore, 1) := by decide +kernel
theorem dX0_setSore_14 : decode cX0_setSore 14 = .ok (.return_, 1) := by decide +kernel
theorem dX0_soreOfAll_0 : decode cX0_soreOfAll 0 = .ok (.iconst 0, 1) := by decide +kernel
theorem dX0_soreOfAll_1 : decode cX0_soreOfAll 1 = .ok (.istore_n 1, 1) := by decide +kernel
theorem dX0_soreOfAll_2 : decode cX0_soreOfAll 2 = .ok (.iconst 0, 1) := by decide +kernel
theorem dX0_soreOfAll_3 : decode cX0_soreOfAll 3 = .ok (.istore_n 2, 1) := by decide +kernel
theorem dX0_soreOfAll_4 : decode cX0_soreOfAll 4 = .ok (.iload_n 2, 1) := by decide +kernel
theorem dX0_soreOfAll_5 : decode cX0_soreOfAll 5 = .ok (.bipush 24, 2) := by decide +kernel
theorem dX0_soreOfAll_7 : decode cX0_soreOfAll 7 = .ok (.if_icmp .ge 18, 3) := by decide +kernel
theorem dX0_soreOfAll_10 : decode cX0_soreOfAll 10 = .ok (.iload_n 1, 1) := by decide +kernel
theorem dX0_soreOfAll_11 : decode cX0_soreOfAll 11 = .ok (.aload_n 0, 1) := by decide +kernel
theorem dX0_soreOfAll_12 : decode cX0_soreOfAll 12 = .ok (.getfield 9, 3) := by decide +kernel
theorem dX0_soreOfAll_15 : decode cX0_soreOfAll 15 = .ok (.iload_n 2, 1) := by decide +kernel
theorem dX0_soreOfAll_16 : decode cX0_soreOfAll 16 = .ok (.iaload, 1) := by decide +kernel
theorem dX0_soreOfAll_17 : decode cX0_soreOfAll 17 = .ok (.iadd, 1) := by decide +kernel
theorem dX0_soreOfAll_18 : decode cX0_soreOfAll 18 = .ok (.istore_n 1, 1) := by decide +kernel
theorem dX0_soreOfAll_19 : decode cX0_soreOfAll 19 = .ok (.iinc 2 1, 3) := by decide +kernel
theorem dX0_soreOfAll_22 : decode cX0_soreOfAll 22 = .ok (.goto (-18), 3) := by decide +kernel
theorem dX0_soreOfAll_25 : decode cX0_soreOfAll 25 = .ok (.iload_n 1, 1) := by decide +kernel
theorem dX0_soreOfAll_26 : decode cX0_soreOfAll 26 = .ok (.ireturn, 1) := by decide +kernel
theorem dX0_soreAround_0 : decode cX0_soreAround 0 = .ok (.iconst 0, 1) := by decide +kernel
theorem dX0_soreAround_1 : decode cX0_soreAround 1 = .ok (.istore_n 2, 1) := by decide +kernel
theorem dX0_soreAround_2 : decode cX0_soreAround 2 = .ok (.iconst 0, 1) := by decide +kernel
theorem dX0_soreAround_3 : decode cX0_soreAround 3 = .ok (.istore_n 3, 1) := by decide +kernel
theorem dX0_soreAround_4 : decode cX0_soreAround 4 = .ok (.iload_n 3, 1) := by decide +kernel
theorem dX0_soreAround_5 : decode cX0_soreAround 5 = .ok (.bipush 24, 2) := by decide +kernel
theorem dX0_soreAround_7 : decode cX0_soreAround 7 = .ok (.if_icmp .ge 27, 3) := by decide +kernel
theorem dX0_soreAround_10 : decode cX0_soreAround 10 = .ok (.iload_n 1, 1) := by decide +kernel
theorem dX0_soreAround_11 : decode cX0_soreAround 11 = .ok (.iload_n 3, 1) := by decide +kernel
theorem dX0_soreAround_12 : decode cX0_soreAround 12 = .ok (.invokestatic 50, 3) := by decide +kernel
theorem dX0_soreAround_15 : decode cX0_soreAround 15 = .ok (.iconst 1, 1) := by decide +kernel
theorem dX0_soreAround_16 : decode cX0_soreAround 16 = .ok (.if_icmp .ne 12, 3) := by decide +kernel
theorem dX0_soreAround_19 : decode cX0_soreAround 19 = .ok (.iload_n 2, 1) := by decide +kernel
theorem dX0_soreAround_20 : decode cX0_soreAround 20 = .ok (.aload_n 0, 1) := by decide +kernel
theorem dX0_soreAround_21 : decode cX0_soreAround 21 = .ok (.getfield 9, 3) := by decide +kernel
theorem dX0_soreAround_24 : decode cX0_soreAround 24 = .ok (.iload_n 3, 1) := by decide +kernel
theorem dX0_soreAround_25 : decode cX0_soreAround 25 = .ok (.iaload, 1) := by decide +kernel
theorem dX0_soreAround_26 : decode cX0_soreAround 26 = .ok (.iadd, 1) := by decide +kernel
theorem dX0_soreAround_27 : decode cX0_soreAround 27 = .ok (.istore_n 2, 1) := by decide +kernel
theorem dX0_soreAround_28 : decode cX0_soreAround 28 = .ok (.iinc 3 1, 3) := by decide +kernel
theorem dX0_soreAround_31 : decode cX0_soreAround 31 = .ok (.goto (-27), 3) := by decide +kernel
theorem dX0_soreAround_34 : decode cX0_soreAround 34 = .ok (.iload_n 2, 1) := by decide +kernel
theorem dX0_soreAround_35 : decode cX0_soreAround 35 = .ok (.ireturn, 1) := by decide +kernel
theorem dX0_strokeOn_0 : decode cX0_strokeOn 0 = .ok (.iload_n 1, 1) := by decide +kernel
theorem dX0_strokeOn_1 : decode cX0_strokeOn 1 = .ok (.invokestatic 46, 3) := by decide +kernel
theorem dX0_strokeOn_4 : decode cX0_strokeOn 4 = .ok (.ifCond .eq 4, 3) := by decide +kernel
theorem dX0_strokeOn_7 : decode cX0_strokeOn 7 = .ok (.return_, 1) := by decide +kernel
theorem dX0_strokeOn_8 : decode cX0_strokeOn 8 = .ok (.aload_n 0, 1) := by decide +kernel
theorem dX0_strokeOn_9 : decode cX0_strokeOn 9 = .ok (.getfield 9, 3) := by decide +kernel
theorem dX0_strokeOn_12 : decode cX0_strokeOn 12 = .ok (.iload_n 1, 1) := by decide +kernel
theorem dX0_strokeOn_13 : decode cX0_strokeOn 13 = .ok (.bipush 9, 2) := by decide +kernel
theorem dX0_strokeOn_15 : decode cX0_strokeOn 15 = .ok (.aload_n 0, 1) := by decide +kernel
theorem dX0_strokeOn_16 : decode cX0_strokeOn 16 = .ok (.getfield 9, 3) := by decide +kernel
theorem dX0_strokeOn_19 : decode cX0_strokeOn 19 = .ok (.iload_n 1, 1) := by decide +kernel
theorem dX0_strokeOn_20 : decode cX0_strokeOn 20 = .ok (.iaload, 1) := by decide +kernel
theorem dX0_strokeOn_21 : decode cX0_strokeOn 21 = .ok (.iconst 1, 1) := by decide +kernel
theorem dX0_strokeOn_22 : decode cX0_strokeOn 22 = .ok (.iadd, 1) := by decide +kernel
theorem dX0_strokeOn_23 : decode cX0_strokeOn 23 = .ok (.invokestatic 54, 3) := by decide +kernel
theorem dX0_strokeOn_26 : decode cX0_strokeOn 26 = .ok (.iastore, 1) := by decide +kernel
theorem dX0_strokeOn_27 : decode cX0_strokeOn 27 = .ok (.aload_n 0, 1) := by decide +kernel
theorem dX0_strokeOn_28 : decode cX0_strokeOn 28 = .ok (.iload_n 1, 1) := by decide +kernel
theorem dX0_strokeOn_29 : decode cX0_strokeOn 29 = .ok (.putfield 22, 3) := by decide +kernel
theorem dX0_strokeOn_32 : decode cX0_strokeOn 32 = .ok (.aload_n 0, 1) := by decide +kernel
theorem dX0_strokeOn_33 : decode cX0_strokeOn 33 = .ok (.getfield 19, 3) := by decide +kernel
theorem dX0_strokeOn_36 : decode cX0_strokeOn 36 = .ok (.bipush 24, 2) := by decide +kernel
theorem dX0_strokeOn_38 : decode cX0_strokeOn 38 = .ok (.if_icmp .eq 26, 3) := by decide +kernel
theorem dX0_strokeOn_41 : decode cX0_strokeOn 41 = .ok (.aload_n 0, 1) := by decide +kernel
theorem dX0_strokeOn_42 : decode cX0_strokeOn 42 = .ok (.aload_n 0, 1) := by decide +kernel
theorem dX0_strokeOn_43 : decode cX0_strokeOn 43 = .ok (.getfield 19, 3) := by decide +kernel
theorem dX0_strokeOn_46 : decode cX0_strokeOn 46 = .ok (.iload_n 1, 1) := by decide +kernel
theorem dX0_strokeOn_47 : decode cX0_strokeOn 47 = .ok (.if_icmp .ne 10, 3) := by decide +kernel
theorem dX0_strokeOn_50 : decode cX0_strokeOn 50 = .ok (.aload_n 0, 1) := by decide +kernel
theorem dX0_strokeOn_51 : decode cX0_strokeOn 51 = .ok (.invokevirtual 59, 3) := by decide +kernel
theorem dX0_strokeOn_54 : decode cX0_strokeOn 54 = .ok (.goto 7, 3) := by decide +kernel
theorem dX0_strokeOn_57 : decode cX0_strokeOn 57 = .ok (.aload_n 0, 1) := by decide +kernel
theorem dX0_strokeOn_58 : decode cX0_strokeOn 58 = .ok (.invokevirtual 63, 3) := by decide +kernel
theorem dX0_strokeOn_61 : decode cX0_strokeOn 61 = .ok (.putfield 19, 3) := by decide +kernel
theorem dX0_strokeOn_64 : decode cX0_strokeOn 64 = .ok (.aload_n 0, 1) := by decide +kernel
theorem dX0_strokeOn_65 : decode cX0_strokeOn 65 = .ok (.dup, 1) := by decide +kernel
theorem dX0_strokeOn_66 : decode cX0_strokeOn 66 = .ok (.getfield 25, 3) := by decide +kernel
theorem dX0_strokeOn_69 : decode cX0_strokeOn 69 = .ok (.iconst 1, 1) := by decide +kernel
theorem dX0_strokeOn_70 : decode cX0_strokeOn 70 = .ok (.iadd, 1) := by decide +kernel
theorem dX0_strokeOn_71 : decode cX0_strokeOn 71 = .ok (.putfield 25, 3) := by decide +kernel
theorem dX0_strokeOn_74 : decode cX0_strokeOn 74 = .ok (.return_, 1) := by decide +kernel
theorem dX0_whenStruck_0 : decode cX0_whenStruck 0 = .ok (.aload_n 0, 1) := by decide +kernel
theorem dX0_whenStruck_1 : decode cX0_whenStruck 1 = .ok (.getfield 15, 3) := by decide +kernel
theorem dX0_whenStruck_4 : decode cX0_whenStruck 4 = .ok (.lookupswitch 61 #[(3, 28), (4, 39)], 28) := by decide +kernel
theorem dX0_whenStruck_32 : decode cX0_whenStruck 32 = .ok (.aload_n 0, 1) := by decide +kernel
theorem dX0_whenStruck_33 : decode cX0_whenStruck 33 = .ok (.getfield 19, 3) := by decide +kernel
theorem dX0_whenStruck_36 : decode cX0_whenStruck 36 = .ok (.bipush 7, 2) := by decide +kernel
theorem dX0_whenStruck_38 : decode cX0_whenStruck 38 = .ok (.iadd, 1) := by decide +kernel
theorem dX0_whenStruck_39 : decode cX0_whenStruck 39 = .ok (.bipush 24, 2) := by decide +kernel
theorem dX0_whenStruck_41 : decode cX0_whenStruck 41 = .ok (.irem, 1) := by decide +kernel
theorem dX0_whenStruck_42 : decode cX0_whenStruck 42 = .ok (.ireturn, 1) := by decide +kernel
theorem dX0_whenStruck_43 : decode cX0_whenStruck 43 = .ok (.aload_n 0, 1) := by decide +kernel
theorem dX0_whenStruck_44 : decode cX0_whenStruck 44 = .ok (.aload_n 0, 1) := by decide +kernel
theorem dX0_whenStruck_45 : decode cX0_whenStruck 45 = .ok (.getfield 19, 3) := by decide +kernel
theorem dX0_whenStruck_48 : decode cX0_whenStruck 48 = .ok (.invokevirtual 66, 3) := by decide +kernel
theorem dX0_whenStruck_51 : decode cX0_whenStruck 51 = .ok (.iconst 3, 1) := by decide +kernel
theorem dX0_whenStruck_52 : decode cX0_whenStruck 52 = .ok (.if_icmp .lt 8, 3) := by decide +kernel
theorem dX0_whenStruck_55 : decode cX0_whenStruck 55 = .ok (.bipush 24, 2) := by decide +kernel
theorem dX0_whenStruck_57 : decode cX0_whenStruck 57 = .ok (.goto 7, 3) := by decide +kernel
theorem dX0_whenStruck_60 : decode cX0_whenStruck 60 = .ok (.aload_n 0, 1) := by decide +kernel
theorem dX0_whenStruck_61 : decode cX0_whenStruck 61 = .ok (.getfield 19, 3) := by decide +kernel
theorem dX0_whenStruck_64 : decode cX0_whenStruck 64 = .ok (.ireturn, 1) := by decide +kernel
theorem dX0_whenStruck_65 : decode cX0_whenStruck 65 = .ok (.bipush 24, 2) := by decide +kernel
theorem dX0_whenStruck_67 : decode cX0_whenStruck 67 = .ok (.ireturn, 1) := by decide +kernel
theorem dX0_whenBeside_0 : decode cX0_whenBeside 0 = .ok (.aload_n 0, 1) := by decide +kernel
theorem dX0_whenBeside_1 : decode cX0_whenBeside 1 = .ok (.getfield 15, 3) := by decide +kernel
theorem dX0_whenBeside_4 : decode cX0_whenBeside 4 = .ok (.iconst 5, 1) := by decide +kernel
theorem dX0_whenBeside_5 : decode cX0_whenBeside 5 = .ok (.if_icmp .ne 6, 3) := by decide +kernel
theorem dX0_whenBeside_8 : decode cX0_whenBeside 8 = .ok (.bipush 24, 2) := by decide +kernel
theorem dX0_whenBeside_10 : decode cX0_whenBeside 10 = .ok (.ireturn, 1) := by decide +kernel
theorem dX0_whenBeside_11 : decode cX0_whenBeside 11 = .ok (.aload_n 0, 1) := by decide +kernel
theorem dX0_whenBeside_12 : decode cX0_whenBeside 12 = .ok (.getfield 15, 3) := by decide +kernel
theorem dX0_whenBeside_15 : decode cX0_whenBeside 15 = .ok (.iconst 2, 1) := by decide +kernel
theorem dX0_whenBeside_16 : decode cX0_whenBeside 16 = .ok (.if_icmp .ne 8, 3) := by decide +kernel
theorem dX0_whenBeside_19 : decode cX0_whenBeside 19 = .ok (.aload_n 0, 1) := by decide +kernel
theorem dX0_whenBeside_20 : decode cX0_whenBeside 20 = .ok (.getfield 19, 3) := by decide +kernel
theorem dX0_whenBeside_23 : decode cX0_whenBeside 23 = .ok (.ireturn, 1) := by decide +kernel
theorem dX0_whenBeside_24 : decode cX0_whenBeside 24 = .ok (.aload_n 0, 1) := by decide +kernel
theorem dX0_whenBeside_25 : decode cX0_whenBeside 25 = .ok (.getfield 15, 3) := by decide +kernel
theorem dX0_whenBeside_28 : decode cX0_whenBeside 28 = .ok (.iconst 4, 1) := by decide +kernel
theorem dX0_whenBeside_29 : decode cX0_whenBeside 29 = .ok (.if_icmp .ne 23, 3) := by decide +kernel
theorem dX0_whenBeside_32 : decode cX0_whenBeside 32 = .ok (.aload_n 0, 1) := by decide +kernel
theorem dX0_whenBeside_33 : decode cX0_whenBeside 33 = .ok (.getfield 19, 3) := by decide +kernel
theorem dX0_whenBeside_36 : decode cX0_whenBeside 36 = .ok (.aload_n 0, 1) := by decide +kernel
theorem dX0_whenBeside_37 : decode cX0_whenBeside 37 = .ok (.getfield 37, 3) := by decide +kernel
theorem dX0_whenBeside_40 : decode cX0_whenBeside 40 = .ok (.aload_n 0, 1) := by decide +kernel
theorem dX0_whenBeside_41 : decode cX0_whenBeside 41 = .ok (.getfield 19, 3) := by decide +kernel
theorem dX0_whenBeside_44 : decode cX0_whenBeside 44 = .ok (.bipush 6, 2) := by decide +kernel
theorem dX0_whenBeside_46 : decode cX0_whenBeside 46 = .ok (.irem, 1) := by decide +kernel
theorem dX0_whenBeside_47 : decode cX0_whenBeside 47 = .ok (.invokestatic 70, 3) := by decide +kernel
theorem dX0_whenBeside_50 : decode cX0_whenBeside 50 = .ok (.iadd, 1) := by decide +kernel
theorem dX0_whenBeside_51 : decode cX0_whenBeside 51 = .ok (.ireturn, 1) := by decide +kernel
theorem dX0_whenBeside_52 : decode cX0_whenBeside 52 = .ok (.aload_n 0, 1) := by decide +kernel
theorem dX0_whenBeside_53 : decode cX0_whenBeside 53 = .ok (.getfield 15, 3) := by decide +kernel
theorem dX0_whenBeside_56 : decode cX0_whenBeside 56 = .ok (.ifCond .eq 27, 3) := by decide +kernel
theorem dX0_whenBeside_59 : decode cX0_whenBeside 59 = .ok (.aload_n 0, 1) := by decide +kernel
theorem dX0_whenBeside_60 : decode cX0_whenBeside 60 = .ok (.getfield 25, 3) := by decide +kernel
theorem dX0_whenBeside_63 : decode cX0_whenBeside 63 = .ok (.iconst 3, 1) := by decide +kernel
theorem dX0_whenBeside_64 : decode cX0_whenBeside 64 = .ok (.irem, 1) := by decide +kernel
theorem dX0_whenBeside_65 : decode cX0_whenBeside 65 = .ok (.ifCond .ne 18, 3) := by decide +kernel
theorem dX0_whenBeside_68 : decode cX0_whenBeside 68 = .ok (.aload_n 0, 1) := by decide +kernel
theorem dX0_whenBeside_69 : decode cX0_whenBeside 69 = .ok (.getfield 19, 3) := by decide +kernel
theorem dX0_whenBeside_72 : decode cX0_whenBeside 72 = .ok (.bipush 6, 2) := by decide +kernel
theorem dX0_whenBeside_74 : decode cX0_whenBeside 74 = .ok (.idiv, 1) := by decide +kernel
theorem dX0_whenBeside_75 : decode cX0_whenBeside 75 = .ok (.iconst 3, 1) := by decide +kernel
theorem dX0_whenBeside_76 : decode cX0_whenBeside 76 = .ok (.if_icmp .ge 7, 3) := by decide +kernel
theorem dX0_whenBeside_79 : decode cX0_whenBeside 79 = .ok (.iconst 1, 1) := by decide +kernel
theorem dX0_whenBeside_80 : decode cX0_whenBeside 80 = .ok (.goto 4, 3) := by decide +kernel
theorem dX0_whenBeside_83 : decode cX0_whenBeside 83 = .ok (.iconst 0, 1) := by decide +kernel
theorem dX0_whenBeside_84 : decode cX0_whenBeside 84 = .ok (.istore_n 1, 1) := by decide +kernel
theorem dX0_whenBeside_85 : decode cX0_whenBeside 85 = .ok (.iload_n 1, 1) := by decide +kernel
theorem dX0_whenBeside_86 : decode cX0_whenBeside 86 = .ok (.ifCond .eq 13, 3) := by decide +kernel
theorem dX0_whenBeside_89 : decode cX0_whenBeside 89 = .ok (.aload_n 0, 1) := by decide +kernel
theorem dX0_whenBeside_90 : decode cX0_whenBeside 90 = .ok (.getfield 19, 3) := by decide +kernel
theorem dX0_whenBeside_93 : decode cX0_whenBeside 93 = .ok (.bipush 6, 2) := by decide +kernel
theorem dX0_whenBeside_95 : decode cX0_whenBeside 95 = .ok (.iadd, 1) := by decide +kernel
theorem dX0_whenBeside_96 : decode cX0_whenBeside 96 = .ok (.goto 7, 3) := by decide +kernel
theorem dX0_whenBeside_99 : decode cX0_whenBeside 99 = .ok (.aload_n 0, 1) := by decide +kernel
theorem dX0_whenBeside_100 : decode cX0_whenBeside 100 = .ok (.invokevirtual 75, 3) := by decide +kernel
theorem dX0_whenBeside_103 : decode cX0_whenBeside 103 = .ok (.istore_n 2, 1) := by decide +kernel
theorem dX0_whenBeside_104 : decode cX0_whenBeside 104 = .ok (.aload_n 0, 1) := by decide +kernel
theorem dX0_whenBeside_105 : decode cX0_whenBeside 105 = .ok (.getfield 15, 3) := by decide +kernel
theorem dX0_whenBeside_108 : decode cX0_whenBeside 108 = .ok (.iconst 3, 1) := by decide +kernel
theorem dX0_whenBeside_109 : decode cX0_whenBeside 109 = .ok (.if_icmp .ne 11, 3) := by decide +kernel
theorem dX0_whenBeside_112 : decode cX0_whenBeside 112 = .ok (.iload_n 2, 1) := by decide +kernel
theorem dX0_whenBeside_113 : decode cX0_whenBeside 113 = .ok (.aload_n 0, 1) := by decide +kernel
theorem dX0_whenBeside_114 : decode cX0_whenBeside 114 = .ok (.getfield 19, 3) := by decide +kernel
theorem dX0_whenBeside_117 : decode cX0_whenBeside 117 = .ok (.if_icmp .eq 5, 3) := by decide +kernel
theorem dX0_whenBeside_120 : decode cX0_whenBeside 120 = .ok (.iload_n 2, 1) := by decide +kernel
theorem dX0_whenBeside_121 : decode cX0_whenBeside 121 = .ok (.ireturn, 1) := by decide +kernel
theorem dX0_whenBeside_122 : decode cX0_whenBeside 122 = .ok (.aload_n 0, 1) := by decide +kernel
theorem dX0_whenBeside_123 : decode cX0_whenBeside 123 = .ok (.getfield 19, 3) := by decide +kernel
theorem dX0_whenBeside_126 : decode cX0_whenBeside 126 = .ok (.bipush 6, 2) := by decide +kernel
theorem dX0_whenBeside_128 : decode cX0_whenBeside 128 = .ok (.idiv, 1) := by decide +kernel
theorem dX0_whenBeside_129 : decode cX0_whenBeside 129 = .ok (.bipush 6, 2) := by decide +kernel
theorem dX0_whenBeside_131 : decode cX0_whenBeside 131 = .ok (.imul, 1) := by decide +kernel
theorem dX0_whenBeside_132 : decode cX0_whenBeside 132 = .ok (.bipush 6, 2) := by decide +kernel
theorem dX0_whenBeside_134 : decode cX0_whenBeside 134 = .ok (.iadd, 1) := by decide +kernel
theorem dX0_whenBeside_135 : decode cX0_whenBeside 135 = .ok (.iconst 1, 1) := by decide +kernel
theorem dX0_whenBeside_136 : decode cX0_whenBeside 136 = .ok (.isub, 1) := by decide +kernel
theorem dX0_whenBeside_137 : decode cX0_whenBeside 137 = .ok (.aload_n 0, 1) := by decide +kernel
theorem dX0_whenBeside_138 : decode cX0_whenBeside 138 = .ok (.getfield 19, 3) := by decide +kernel
theorem dX0_whenBeside_141 : decode cX0_whenBeside 141 = .ok (.bipush 6, 2) := by decide +kernel
theorem dX0_whenBeside_143 : decode cX0_whenBeside 143 = .ok (.irem, 1) := by decide +kernel
theorem dX0_whenBeside_144 : decode cX0_whenBeside 144 = .ok (.isub, 1) := by decide +kernel
theorem dX0_whenBeside_145 : decode cX0_whenBeside 145 = .ok (.istore_n 3, 1) := by decide +kernel
theorem dX0_whenBeside_146 : decode cX0_whenBeside 146 = .ok (.aload_n 0, 1) := by decide +kernel
theorem dX0_whenBeside_147 : decode cX0_whenBeside 147 = .ok (.iload_n 3, 1) := by decide +kernel
theorem dX0_whenBeside_148 : decode cX0_whenBeside 148 = .ok (.invokevirtual 66, 3) := by decide +kernel
theorem dX0_whenBeside_151 : decode cX0_whenBeside 151 = .ok (.ifCond .ne 7, 3) := by decide +kernel
theorem dX0_whenBeside_154 : decode cX0_whenBeside 154 = .ok (.iload_n 3, 1) := by decide +kernel
theorem dX0_whenBeside_155 : decode cX0_whenBeside 155 = .ok (.goto 7, 3) := by decide +kernel
theorem dX0_whenBeside_158 : decode cX0_whenBeside 158 = .ok (.aload_n 0, 1) := by decide +kernel
theorem dX0_whenBeside_159 : decode cX0_whenBeside 159 = .ok (.getfield 19, 3) := by decide +kernel
theorem dX0_whenBeside_162 : decode cX0_whenBeside 162 = .ok (.ireturn, 1) := by decide +kernel
theorem dX0_awayFromHand_0 : decode cX0_awayFromHand 0 = .ok (.aload_n 0, 1) := by decide +kernel
theorem dX0_awayFromHand_1 : decode cX0_awayFromHand 1 = .ok (.getfield 19, 3) := by decide +kernel
theorem dX0_awayFromHand_4 : decode cX0_awayFromHand 4 = .ok (.bipush 6, 2) := by decide +kernel
theorem dX0_awayFromHand_6 : decode cX0_awayFromHand 6 = .ok (.idiv, 1) := by decide +kernel
theorem dX0_awayFromHand_7 : decode cX0_awayFromHand 7 = .ok (.aload_n 0, 1) := by decide +kernel
theorem dX0_awayFromHand_8 : decode cX0_awayFromHand 8 = .ok (.getfield 22, 3) := by decide +kernel
theorem dX0_awayFromHand_11 : decode cX0_awayFromHand 11 = .ok (.bipush 6, 2) := by decide +kernel
theorem dX0_awayFromHand_13 : decode cX0_awayFromHand 13 = .ok (.idiv, 1) := by decide +kernel
theorem dX0_awayFromHand_14 : decode cX0_awayFromHand 14 = .ok (.if_icmp .eq 8, 3) := by decide +kernel
theorem dX0_awayFromHand_17 : decode cX0_awayFromHand 17 = .ok (.aload_n 0, 1) := by decide +kernel
theorem dX0_awayFromHand_18 : decode cX0_awayFromHand 18 = .ok (.getfield 19, 3) := by decide +kernel
theorem dX0_awayFromHand_21 : decode cX0_awayFromHand 21 = .ok (.ireturn, 1) := by decide +kernel
theorem dX0_awayFromHand_22 : decode cX0_awayFromHand 22 = .ok (.aload_n 0, 1) := by decide +kernel
theorem dX0_awayFromHand_23 : decode cX0_awayFromHand 23 = .ok (.getfield 19, 3) := by decide +kernel
theorem dX0_awayFromHand_26 : decode cX0_awayFromHand 26 = .ok (.bipush 6, 2) := by decide +kernel
theorem dX0_awayFromHand_28 : decode cX0_awayFromHand 28 = .ok (.irem, 1) := by decide +kernel
theorem dX0_awayFromHand_29 : decode cX0_awayFromHand 29 = .ok (.istore_n 1, 1) := by decide +kernel
theorem dX0_awayFromHand_30 : decode cX0_awayFromHand 30 = .ok (.aload_n 0, 1) := by decide +kernel
theorem dX0_awayFromHand_31 : decode cX0_awayFromHand 31 = .ok (.getfield 19, 3) := by decide +kernel
theorem dX0_awayFromHand_34 : decode cX0_awayFromHand 34 = .ok (.aload_n 0, 1) := by decide +kernel
theorem dX0_awayFromHand_35 : decode cX0_awayFromHand 35 = .ok (.getfield 22, 3) := by decide +kernel
theorem dX0_awayFromHand_38 : decode cX0_awayFromHand 38 = .ok (.iconst 1, 1) := by decide +kernel
theorem dX0_awayFromHand_39 : decode cX0_awayFromHand 39 = .ok (.iadd, 1) := by decide +kernel
theorem dX0_awayFromHand_40 : decode cX0_awayFromHand 40 = .ok (.if_icmp .ne 15, 3) := by decide +kernel
theorem dX0_awayFromHand_43 : decode cX0_awayFromHand 43 = .ok (.iload_n 1, 1) := by decide +kernel
theorem dX0_awayFromHand_44 : decode cX0_awayFromHand 44 = .ok (.iconst 5, 1) := by decide +kernel
theorem dX0_awayFromHand_45 : decode cX0_awayFromHand 45 = .ok (.if_icmp .ge 10, 3) := by decide +kernel
theorem dX0_awayFromHand_48 : decode cX0_awayFromHand 48 = .ok (.aload_n 0, 1) := by decide +kernel
theorem dX0_awayFromHand_49 : decode cX0_awayFromHand 49 = .ok (.getfield 19, 3) := by decide +kernel
theorem dX0_awayFromHand_52 : decode cX0_awayFromHand 52 = .ok (.iconst 1, 1) := by decide +kernel
theorem dX0_awayFromHand_53 : decode cX0_awayFromHand 53 = .ok (.iadd, 1) := by decide +kernel
theorem dX0_awayFromHand_54 : decode cX0_awayFromHand 54 = .ok (.ireturn, 1) := by decide +kernel
theorem dX0_awayFromHand_55 : decode cX0_awayFromHand 55 = .ok (.aload_n 0, 1) := by decide +kernel
theorem dX0_awayFromHand_56 : decode cX0_awayFromHand 56 = .ok (.getfield 19, 3) := by decide +kernel
theorem dX0_awayFromHand_59 : decode cX0_awayFromHand 59 = .ok (.aload_n 0, 1) := by decide +kernel
theorem dX0_awayFromHand_60 : decode cX0_awayFromHand 60 = .ok (.getfield 22, 3) := by decide +kernel
theorem dX0_awayFromHand_63 : decode cX0_awayFromHand 63 = .ok (.iconst 1, 1) := by decide +kernel
theorem dX0_awayFromHand_64 : decode cX0_awayFromHand 64 = .ok (.isub, 1) := by decide +kernel
theorem dX0_awayFromHand_65 : decode cX0_awayFromHand 65 = .ok (.if_icmp .ne 16, 3) := by decide +kernel
theorem dX0_awayFromHand_68 : decode cX0_awayFromHand 68 = .ok (.iload_n 1, 1) := by decide +kernel
theorem dX0_awayFromHand_69 : decode cX0_awayFromHand 69 = .ok (.ifCond .le 12, 3) := by decide +kernel
theorem dX0_awayFromHand_72 : decode cX0_awayFromHand 72 = .ok (.aload_n 0, 1) := by decide +kernel
theorem dX0_awayFromHand_73 : decode cX0_awayFromHand 73 = .ok (.getfield 19, 3) := by decide +kernel
theorem dX0_awayFromHand_76 : decode cX0_awayFromHand 76 = .ok (.iconst 1, 1) := by decide +kernel
theorem dX0_awayFromHand_77 : decode cX0_awayFromHand 77 = .ok (.isub, 1) := by decide +kernel
theorem dX0_awayFromHand_78 : decode cX0_awayFromHand 78 = .ok (.goto 7, 3) := by decide +kernel
theorem dX0_awayFromHand_81 : decode cX0_awayFromHand 81 = .ok (.aload_n 0, 1) := by decide +kernel
theorem dX0_awayFromHand_82 : decode cX0_awayFromHand 82 = .ok (.getfield 19, 3) := by decide +kernel
theorem dX0_awayFromHand_85 : decode cX0_awayFromHand 85 = .ok (.ireturn, 1) := by decide +kernel
theorem dX0_wordNow_0 : decode cX0_wordNow 0 = .ok (.aload_n 0, 1) := by decide +kernel
theorem dX0_wordNow_1 : decode cX0_wordNow 1 = .ok (.getfield 22, 3) := by decide +kernel
theorem dX0_wordNow_4 : decode cX0_wordNow 4 = .ok (.aload_n 0, 1) := by decide +kernel
theorem dX0_wordNow_5 : decode cX0_wordNow 5 = .ok (.getfield 19, 3) := by decide +kernel
theorem dX0_wordNow_8 : decode cX0_wordNow 8 = .ok (.aload_n 0, 1) := by decide +kernel
theorem dX0_wordNow_9 : decode cX0_wordNow 9 = .ok (.getfield 28, 3) := by decide +kernel
theorem dX0_wordNow_12 : decode cX0_wordNow 12 = .ok (.aload_n 0, 1) := by decide +kernel
theorem dX0_wordNow_13 : decode cX0_wordNow 13 = .ok (.getfield 34, 3) := by decide +kernel
theorem dX0_wordNow_16 : decode cX0_wordNow 16 = .ok (.invokestatic 78, 3) := by decide +kernel
theorem dX0_wordNow_19 : decode cX0_wordNow 19 = .ok (.ireturn, 1) := by decide +kernel
theorem dX0_readBy_0 : decode cX0_readBy 0 = .ok (.iload_n 1, 1) := by decide +kernel
theorem dX0_readBy_1 : decode cX0_readBy 1 = .ok (.iconst 5, 1) := by decide +kernel
theorem dX0_readBy_2 : decode cX0_readBy 2 = .ok (.if_icmp .ne 10, 3) := by decide +kernel
theorem dX0_readBy_5 : decode cX0_readBy 5 = .ok (.iload_n 3, 1) := by decide +kernel
theorem dX0_readBy_6 : decode cX0_readBy 6 = .ok (.bipush 24, 2) := by decide +kernel
theorem dX0_readBy_8 : decode cX0_readBy 8 = .ok (.invokestatic 82, 3) := by decide +kernel
theorem dX0_readBy_11 : decode cX0_readBy 11 = .ok (.ireturn, 1) := by decide +kernel
theorem dX0_readBy_12 : decode cX0_readBy 12 = .ok (.iload_n 2, 1) := by decide +kernel
theorem dX0_readBy_13 : decode cX0_readBy 13 = .ok (.ifCond .lt 9, 3) := by decide +kernel
theorem dX0_readBy_16 : decode cX0_readBy 16 = .ok (.iload_n 2, 1) := by decide +kernel
theorem dX0_readBy_17 : decode cX0_readBy 17 = .ok (.bipush 8, 2) := by decide +kernel
theorem dX0_readBy_19 : decode cX0_readBy 19 = .ok (.if_icmp .lt 8, 3) := by decide +kernel
theorem dX0_readBy_22 : decode cX0_readBy 22 = .ok (.aload_n 0, 1) := by decide +kernel
theorem dX0_readBy_23 : decode cX0_readBy 23 = .ok (.getfield 22, 3) := by decide +kernel
theorem dX0_readBy_26 : decode cX0_readBy 26 = .ok (.ireturn, 1) := by decide +kernel
theorem dX0_readBy_27 : decode cX0_readBy 27 = .ok (.aload_n 0, 1) := by decide +kernel
theorem dX0_readBy_28 : decode cX0_readBy 28 = .ok (.iload_n 1, 1) := by decide +kernel
theorem dX0_readBy_29 : decode cX0_readBy 29 = .ok (.iload_n 2, 1) := by decide +kernel
theorem dX0_readBy_30 : decode cX0_readBy 30 = .ok (.iconst 4, 1) := by decide +kernel
theorem dX0_readBy_31 : decode cX0_readBy 31 = .ok (.if_icmp .lt 7, 3) := by decide +kernel
theorem dX0_readBy_34 : decode cX0_readBy 34 = .ok (.iconst 1, 1) := by decide +kernel
theorem dX0_readBy_35 : decode cX0_readBy 35 = .ok (.goto 4, 3) := by decide +kernel
theorem dX0_readBy_38 : decode cX0_readBy 38 = .ok (.iconst 0, 1) := by decide +kernel
theorem dX0_readBy_39 : decode cX0_readBy 39 = .ok (.invokevirtual 85, 3) := by decide +kernel
theorem dX0_readBy_42 : decode cX0_readBy 42 = .ok (.istore 4, 2) := by decide +kernel
theorem dX0_readBy_44 : decode cX0_readBy 44 = .ok (.iload_n 2, 1) := by decide +kernel
theorem dX0_readBy_45 : decode cX0_readBy 45 = .ok (.iconst 4, 1) := by decide +kernel
theorem dX0_readBy_46 : decode cX0_readBy 46 = .ok (.irem, 1) := by decide +kernel
theorem dX0_readBy_47 : decode cX0_readBy 47 = .ok (.istore 5, 2) := by decide +kernel
theorem dX0_readBy_49 : decode cX0_readBy 49 = .ok (.aload_n 0, 1) := by decide +kernel
theorem dX0_readBy_50 : decode cX0_readBy 50 = .ok (.getfield 22, 3) := by decide +kernel
theorem dX0_readBy_53 : decode cX0_readBy 53 = .ok (.bipush 6, 2) := by decide +kernel
theorem dX0_readBy_55 : decode cX0_readBy 55 = .ok (.idiv, 1) := by decide +kernel
theorem dX0_readBy_56 : decode cX0_readBy 56 = .ok (.istore 6, 2) := by decide +kernel
theorem dX0_readBy_58 : decode cX0_readBy 58 = .ok (.aload_n 0, 1) := by decide +kernel
theorem dX0_readBy_59 : decode cX0_readBy 59 = .ok (.getfield 22, 3) := by decide +kernel
theorem dX0_readBy_62 : decode cX0_readBy 62 = .ok (.bipush 6, 2) := by decide +kernel
theorem dX0_readBy_64 : decode cX0_readBy 64 = .ok (.irem, 1) := by decide +kernel
theorem dX0_readBy_65 : decode cX0_readBy 65 = .ok (.istore 7, 2) := by decide +kernel
theorem dX0_readBy_67 : decode cX0_readBy 67 = .ok (.iload 5, 2) := by decide +kernel
theorem dX0_readBy_69 : decode cX0_readBy 69 = .ok (.ifCond .eq 9, 3) := by decide +kernel
theorem dX0_readBy_72 : decode cX0_readBy 72 = .ok (.iload 5, 2) := by decide +kernel
theorem dX0_readBy_74 : decode cX0_readBy 74 = .ok (.iconst 1, 1) := by decide +kernel
theorem dX0_readBy_75 : decode cX0_readBy 75 = .ok (.if_icmp .ne 24, 3) := by decide +kernel
theorem dX0_readBy_78 : decode cX0_readBy 78 = .ok (.iload 6, 2) := by decide +kernel
theorem dX0_readBy_80 : decode cX0_readBy 80 = .ok (.iload 5, 2) := by decide +kernel
theorem dX0_readBy_82 : decode cX0_readBy 82 = .ok (.ifCond .ne 9, 3) := by decide +kernel
theorem dX0_readBy_85 : decode cX0_readBy 85 = .ok (.iload 4, 2) := by decide +kernel
theorem dX0_readBy_87 : decode cX0_readBy 87 = .ok (.ineg, 1) := by decide +kernel
theorem dX0_readBy_88 : decode cX0_readBy 88 = .ok (.goto 5, 3) := by decide +kernel
theorem dX0_readBy_91 : decode cX0_readBy 91 = .ok (.iload 4, 2) := by decide +kernel
theorem dX0_readBy_93 : decode cX0_readBy 93 = .ok (.iadd, 1) := by decide +kernel
theorem dX0_readBy_94 : decode cX0_readBy 94 = .ok (.istore 6, 2) := by decide +kernel
theorem dX0_readBy_96 : decode cX0_readBy 96 = .ok (.goto 40, 3) := by decide +kernel
theorem dX0_readBy_99 : decode cX0_readBy 99 = .ok (.iload 7, 2) := by decide +kernel
theorem dX0_readBy_101 : decode cX0_readBy 101 = .ok (.iload 5, 2) := by decide +kernel
theorem dX0_readBy_103 : decode cX0_readBy 103 = .ok (.iconst 2, 1) := by decide +kernel
theorem dX0_readBy_104 : decode cX0_readBy 104 = .ok (.if_icmp .ne 7, 3) := by decide +kernel
theorem dX0_readBy_107 : decode cX0_readBy 107 = .ok (.iconst 1, 1) := by decide +kernel
theorem dX0_readBy_108 : decode cX0_readBy 108 = .ok (.goto 4, 3) := by decide +kernel
theorem dX0_readBy_111 : decode cX0_readBy 111 = .ok (.iconst 0, 1) := by decide +kernel
theorem dX0_readBy_112 : decode cX0_readBy 112 = .ok (.iload_n 1, 1) := by decide +kernel
theorem dX0_readBy_113 : decode cX0_readBy 113 = .ok (.iconst 3, 1) := by decide +kernel
theorem dX0_readBy_114 : decode cX0_readBy 114 = .ok (.if_icmp .eq 7, 3) := by decide +kernel
theorem dX0_readBy_117 : decode cX0_readBy 117 = .ok (.iconst 1, 1) := by decide +kernel
theorem dX0_readBy_118 : decode cX0_readBy 118 = .ok (.goto 4, 3) := by decide +kernel
theorem dX0_readBy_121 : decode cX0_readBy 121 = .ok (.iconst 0, 1) := by decide +kernel
theorem dX0_readBy_122 : decode cX0_readBy 122 = .ok (.if_icmp .ne 9, 3) := by decide +kernel
theorem dX0_readBy_125 : decode cX0_readBy 125 = .ok (.iload 4, 2) := by decide +kernel
theorem dX0_readBy_127 : decode cX0_readBy 127 = .ok (.ineg, 1) := by decide +kernel
theorem dX0_readBy_128 : decode cX0_readBy 128 = .ok (.goto 5, 3) := by decide +kernel
theorem dX0_readBy_131 : decode cX0_readBy 131 = .ok (.iload 4, 2) := by decide +kernel
theorem dX0_readBy_133 : decode cX0_readBy 133 = .ok (.iadd, 1) := by decide +kernel
theorem dX0_readBy_134 : decode cX0_readBy 134 = .ok (.istore 7, 2) := by decide +kernel
theorem dX0_readBy_136 : decode cX0_readBy 136 = .ok (.bipush 6, 2) := by decide +kernel
theorem dX0_readBy_138 : decode cX0_readBy 138 = .ok (.iload 6, 2) := by decide +kernel
theorem dX0_readBy_140 : decode cX0_readBy 140 = .ok (.iconst 3, 1) := by decide +kernel
theorem dX0_readBy_141 : decode cX0_readBy 141 = .ok (.invokestatic 89, 3) := by decide +kernel
theorem dX0_readBy_144 : decode cX0_readBy 144 = .ok (.imul, 1) := by decide +kernel
theorem dX0_readBy_145 : decode cX0_readBy 145 = .ok (.iload 7, 2) := by decide +kernel
theorem dX0_readBy_147 : decode cX0_readBy 147 = .ok (.iconst 5, 1) := by decide +kernel
theorem dX0_readBy_148 : decode cX0_readBy 148 = .ok (.invokestatic 89, 3) := by decide +kernel
theorem dX0_readBy_151 : decode cX0_readBy 151 = .ok (.iadd, 1) := by decide +kernel
theorem dX0_readBy_152 : decode cX0_readBy 152 = .ok (.ireturn, 1) := by decide +kernel
theorem dX0_stepsOf_0 : decode cX0_stepsOf 0 = .ok (.iload_n 2, 1) := by decide +kernel
theorem dX0_stepsOf_1 : decode cX0_stepsOf 1 = .ok (.ifCond .eq 10, 3) := by decide +kernel
theorem dX0_stepsOf_4 : decode cX0_stepsOf 4 = .ok (.aload_n 0, 1) := by decide +kernel
theorem dX0_stepsOf_5 : decode cX0_stepsOf 5 = .ok (.getfield 34, 3) := by decide +kernel
theorem dX0_stepsOf_8 : decode cX0_stepsOf 8 = .ok (.goto 7, 3) := by decide +kernel
theorem dX0_stepsOf_11 : decode cX0_stepsOf 11 = .ok (.aload_n 0, 1) := by decide +kernel
theorem dX0_stepsOf_12 : decode cX0_stepsOf 12 = .ok (.getfield 31, 3) := by decide +kernel
theorem dX0_stepsOf_15 : decode cX0_stepsOf 15 = .ok (.istore_n 3, 1) := by decide +kernel
theorem dX0_stepsOf_16 : decode cX0_stepsOf 16 = .ok (.iload_n 1, 1) := by decide +kernel
theorem dX0_stepsOf_17 : decode cX0_stepsOf 17 = .ok (.tableswitch 47 1 4 #[31, 33, 47, 37], 31) := by decide +kernel
theorem dX0_stepsOf_48 : decode cX0_stepsOf 48 = .ok (.iconst 1, 1) := by decide +kernel
theorem dX0_stepsOf_49 : decode cX0_stepsOf 49 = .ok (.ireturn, 1) := by decide +kernel
theorem dX0_stepsOf_50 : decode cX0_stepsOf 50 = .ok (.iconst 2, 1) := by decide +kernel
theorem dX0_stepsOf_51 : decode cX0_stepsOf 51 = .ok (.iload_n 3, 1) := by decide +kernel
theorem dX0_stepsOf_52 : decode cX0_stepsOf 52 = .ok (.imul, 1) := by decide +kernel
theorem dX0_stepsOf_53 : decode cX0_stepsOf 53 = .ok (.ireturn, 1) := by decide +kernel
theorem dX0_stepsOf_54 : decode cX0_stepsOf 54 = .ok (.iload_n 2, 1) := by decide +kernel
theorem dX0_stepsOf_55 : decode cX0_stepsOf 55 = .ok (.ifCond .eq 7, 3) := by decide +kernel
theorem dX0_stepsOf_58 : decode cX0_stepsOf 58 = .ok (.iload_n 3, 1) := by decide +kernel
theorem dX0_stepsOf_59 : decode cX0_stepsOf 59 = .ok (.goto 4, 3) := by decide +kernel
theorem dX0_stepsOf_62 : decode cX0_stepsOf 62 = .ok (.iconst 1, 1) := by decide +kernel
theorem dX0_stepsOf_63 : decode cX0_stepsOf 63 = .ok (.ireturn, 1) := by decide +kernel
theorem dX0_stepsOf_64 : decode cX0_stepsOf 64 = .ok (.iload_n 3, 1) := by decide +kernel
theorem dX0_stepsOf_65 : decode cX0_stepsOf 65 = .ok (.ireturn, 1) := by decide +kernel
theorem dX0_clamp_0 : decode cX0_clamp 0 = .ok (.iconst 0, 1) := by decide +kernel
theorem dX0_clamp_1 : decode cX0_clamp 1 = .ok (.iload_n 1, 1) := by decide +kernel
theorem dX0_clamp_2 : decode cX0_clamp 2 = .ok (.iload_n 0, 1) := by decide +kernel
theorem dX0_clamp_3 : decode cX0_clamp 3 = .ok (.invokestatic 54, 3) := by decide +kernel
theorem dX0_clamp_6 : decode cX0_clamp 6 = .ok (.invokestatic 92, 3) := by decide +kernel
theorem dX0_clamp_9 : decode cX0_clamp 9 = .ok (.ireturn, 1) := by decide +kernel
theorem dX0_followBy_0 : decode cX0_followBy 0 = .ok (.iconst 0, 1) := by decide +kernel
theorem dX0_followBy_1 : decode cX0_followBy 1 = .ok (.istore_n 2, 1) := by decide +kernel
theorem dX0_followBy_2 : decode cX0_followBy 2 = .ok (.iload_n 2, 1) := by decide +kernel
theorem dX0_followBy_3 : decode cX0_followBy 3 = .ok (.bipush 40, 2) := by decide +kernel
theorem dX0_followBy_5 : decode cX0_followBy 5 = .ok (.if_icmp .ge 34, 3) := by decide +kernel
theorem dX0_followBy_8 : decode cX0_followBy 8 = .ok (.aload_n 0, 1) := by decide +kernel
theorem dX0_followBy_9 : decode cX0_followBy 9 = .ok (.getfield 19, 3) := by decide +kernel
theorem dX0_followBy_12 : decode cX0_followBy 12 = .ok (.bipush 24, 2) := by decide +kernel
theorem dX0_followBy_14 : decode cX0_followBy 14 = .ok (.if_icmp .ne 5, 3) := by decide +kernel
theorem dX0_followBy_17 : decode cX0_followBy 17 = .ok (.iload_n 2, 1) := by decide +kernel
theorem dX0_followBy_18 : decode cX0_followBy 18 = .ok (.ireturn, 1) := by decide +kernel
theorem dX0_followBy_19 : decode cX0_followBy 19 = .ok (.aload_n 0, 1) := by decide +kernel
theorem dX0_followBy_20 : decode cX0_followBy 20 = .ok (.aload_n 0, 1) := by decide +kernel
theorem dX0_followBy_21 : decode cX0_followBy 21 = .ok (.iload_n 1, 1) := by decide +kernel
theorem dX0_followBy_22 : decode cX0_followBy 22 = .ok (.aload_n 0, 1) := by decide +kernel
theorem dX0_followBy_23 : decode cX0_followBy 23 = .ok (.invokevirtual 95, 3) := by decide +kernel
theorem dX0_followBy_26 : decode cX0_followBy 26 = .ok (.iload_n 2, 1) := by decide +kernel
theorem dX0_followBy_27 : decode cX0_followBy 27 = .ok (.invokevirtual 98, 3) := by decide +kernel
theorem dX0_followBy_30 : decode cX0_followBy 30 = .ok (.invokevirtual 102, 3) := by decide +kernel
theorem dX0_followBy_33 : decode cX0_followBy 33 = .ok (.iinc 2 1, 3) := by decide +kernel
theorem dX0_followBy_36 : decode cX0_followBy 36 = .ok (.goto (-34), 3) := by decide +kernel
theorem dX0_followBy_39 : decode cX0_followBy 39 = .ok (.aload_n 0, 1) := by decide +kernel
theorem dX0_followBy_40 : decode cX0_followBy 40 = .ok (.getfield 19, 3) := by decide +kernel
theorem dX0_followBy_43 : decode cX0_followBy 43 = .ok (.bipush 24, 2) := by decide +kernel
theorem dX0_followBy_45 : decode cX0_followBy 45 = .ok (.if_icmp .ne 8, 3) := by decide +kernel
theorem dX0_followBy_48 : decode cX0_followBy 48 = .ok (.bipush 40, 2) := by decide +kernel
theorem dX0_followBy_50 : decode cX0_followBy 50 = .ok (.goto 5, 3) := by decide +kernel
theorem dX0_followBy_53 : decode cX0_followBy 53 = .ok (.bipush 41, 2) := by decide +kernel
theorem dX0_followBy_55 : decode cX0_followBy 55 = .ok (.ireturn, 1) := by decide +kernel
theorem dX1_init_0 : decode cX1_init 0 = .ok (.aload_n 0, 1) := by decide +kernel
theorem dX1_init_1 : decode cX1_init 1 = .ok (.invokespecial 3, 3) := by decide +kernel
theorem dX1_init_4 : decode cX1_init 4 = .ok (.aload_n 0, 1) := by decide +kernel
theorem dX1_init_5 : decode cX1_init 5 = .ok (.bipush 8, 2) := by decide +kernel
theorem dX1_init_7 : decode cX1_init 7 = .ok (.newarray .int, 2) := by decide +kernel
theorem dX1_init_9 : decode cX1_init 9 = .ok (.putfield 9, 3) := by decide +kernel
theorem dX1_init_12 : decode cX1_init 12 = .ok (.aload_n 0, 1) := by decide +kernel
theorem dX1_init_13 : decode cX1_init 13 = .ok (.bipush 8, 2) := by decide +kernel
theorem dX1_init_15 : decode cX1_init 15 = .ok (.newarray .int, 2) := by decide +kernel
theorem dX1_init_17 : decode cX1_init 17 = .ok (.putfield 15, 3) := by decide +kernel
theorem dX1_init_20 : decode cX1_init 20 = .ok (.aload_n 0, 1) := by decide +kernel
theorem dX1_init_21 : decode cX1_init 21 = .ok (.iconst 0, 1) := by decide +kernel
theorem dX1_init_22 : decode cX1_init 22 = .ok (.putfield 18, 3) := by decide +kernel
theorem dX1_init_25 : decode cX1_init 25 = .ok (.return_, 1) := by decide +kernel
theorem dX1_add_0 : decode cX1_add 0 = .ok (.aload_n 0, 1) := by decide +kernel
theorem dX1_add_1 : decode cX1_add 1 = .ok (.getfield 18, 3) := by decide +kernel
theorem dX1_add_4 : decode cX1_add 4 = .ok (.ifCond .lt 42, 3) := by decide +kernel
theorem dX1_add_7 : decode cX1_add 7 = .ok (.aload_n 0, 1) := by decide +kernel
theorem dX1_add_8 : decode cX1_add 8 = .ok (.getfield 18, 3) := by decide +kernel
theorem dX1_add_11 : decode cX1_add 11 = .ok (.bipush 8, 2) := by decide +kernel
theorem dX1_add_13 : decode cX1_add 13 = .ok (.if_icmp .ge 33, 3) := by decide +kernel
theorem dX1_add_16 : decode cX1_add 16 = .ok (.aload_n 0, 1) := by decide +kernel
theorem dX1_add_17 : decode cX1_add 17 = .ok (.getfield 9, 3) := by decide +kernel
theorem dX1_add_20 : decode cX1_add 20 = .ok (.aload_n 0, 1) := by decide +kernel
theorem dX1_add_21 : decode cX1_add 21 = .ok (.getfield 18, 3) := by decide +kernel
theorem dX1_add_24 : decode cX1_add 24 = .ok (.iload_n 1, 1) := by decide +kernel
theorem dX1_add_25 : decode cX1_add 25 = .ok (.iastore, 1) := by decide +kernel
theorem dX1_add_26 : decode cX1_add 26 = .ok (.aload_n 0, 1) := by decide +kernel
theorem dX1_add_27 : decode cX1_add 27 = .ok (.getfield 15, 3) := by decide +kernel
theorem dX1_add_30 : decode cX1_add 30 = .ok (.aload_n 0, 1) := by decide +kernel
theorem dX1_add_31 : decode cX1_add 31 = .ok (.getfield 18, 3) := by decide +kernel
theorem dX1_add_34 : decode cX1_add 34 = .ok (.iload_n 2, 1) := by decide +kernel
theorem dX1_add_35 : decode cX1_add 35 = .ok (.iastore, 1) := by decide +kernel
theorem dX1_add_36 : decode cX1_add 36 = .ok (.aload_n 0, 1) := by decide +kernel
theorem dX1_add_37 : decode cX1_add 37 = .ok (.dup, 1) := by decide +kernel
theorem dX1_add_38 : decode cX1_add 38 = .ok (.getfield 18, 3) := by decide +kernel
theorem dX1_add_41 : decode cX1_add 41 = .ok (.iconst 1, 1) := by decide +kernel
theorem dX1_add_42 : decode cX1_add 42 = .ok (.iadd, 1) := by decide +kernel
theorem dX1_add_43 : decode cX1_add 43 = .ok (.putfield 18, 3) := by decide +kernel
theorem dX1_add_46 : decode cX1_add 46 = .ok (.aload_n 0, 1) := by decide +kernel
theorem dX1_add_47 : decode cX1_add 47 = .ok (.getfield 18, 3) := by decide +kernel
theorem dX1_add_50 : decode cX1_add 50 = .ok (.ireturn, 1) := by decide +kernel
theorem dX1_trueAt_0 : decode cX1_trueAt 0 = .ok (.iconst 0, 1) := by decide +kernel
theorem dX1_trueAt_1 : decode cX1_trueAt 1 = .ok (.istore 4, 2) := by decide +kernel
theorem dX1_trueAt_3 : decode cX1_trueAt 3 = .ok (.iconst 0, 1) := by decide +kernel
theorem dX1_trueAt_4 : decode cX1_trueAt 4 = .ok (.istore 5, 2) := by decide +kernel
theorem dX1_trueAt_6 : decode cX1_trueAt 6 = .ok (.iload 5, 2) := by decide +kernel
theorem dX1_trueAt_8 : decode cX1_trueAt 8 = .ok (.aload_n 0, 1) := by decide +kernel
theorem dX1_trueAt_9 : decode cX1_trueAt 9 = .ok (.getfield 18, 3) := by decide +kernel
theorem dX1_trueAt_12 : decode cX1_trueAt 12 = .ok (.if_icmp .ge 42, 3) := by decide +kernel
theorem dX1_trueAt_15 : decode cX1_trueAt 15 = .ok (.iload 5, 2) := by decide +kernel
theorem dX1_trueAt_17 : decode cX1_trueAt 17 = .ok (.bipush 8, 2) := by decide +kernel
theorem dX1_trueAt_19 : decode cX1_trueAt 19 = .ok (.if_icmp .ge 35, 3) := by decide +kernel
theorem dX1_trueAt_22 : decode cX1_trueAt 22 = .ok (.aload_n 0, 1) := by decide +kernel
theorem dX1_trueAt_23 : decode cX1_trueAt 23 = .ok (.getfield 9, 3) := by decide +kernel
theorem dX1_trueAt_26 : decode cX1_trueAt 26 = .ok (.iload 5, 2) := by decide +kernel
theorem dX1_trueAt_28 : decode cX1_trueAt 28 = .ok (.iaload, 1) := by decide +kernel
theorem dX1_trueAt_29 : decode cX1_trueAt 29 = .ok (.iload_n 1, 1) := by decide +kernel
theorem dX1_trueAt_30 : decode cX1_trueAt 30 = .ok (.iload_n 2, 1) := by decide +kernel
theorem dX1_trueAt_31 : decode cX1_trueAt 31 = .ok (.iload_n 3, 1) := by decide +kernel
theorem dX1_trueAt_32 : decode cX1_trueAt 32 = .ok (.invokestatic 22, 3) := by decide +kernel
theorem dX1_trueAt_35 : decode cX1_trueAt 35 = .ok (.aload_n 0, 1) := by decide +kernel
theorem dX1_trueAt_36 : decode cX1_trueAt 36 = .ok (.getfield 15, 3) := by decide +kernel
theorem dX1_trueAt_39 : decode cX1_trueAt 39 = .ok (.iload 5, 2) := by decide +kernel
theorem dX1_trueAt_41 : decode cX1_trueAt 41 = .ok (.iaload, 1) := by decide +kernel
theorem dX1_trueAt_42 : decode cX1_trueAt 42 = .ok (.if_icmp .ne 6, 3) := by decide +kernel
theorem dX1_trueAt_45 : decode cX1_trueAt 45 = .ok (.iinc 4 1, 3) := by decide +kernel
theorem dX1_trueAt_48 : decode cX1_trueAt 48 = .ok (.iinc 5 1, 3) := by decide +kernel
theorem dX1_trueAt_51 : decode cX1_trueAt 51 = .ok (.goto (-45), 3) := by decide +kernel
theorem dX1_trueAt_54 : decode cX1_trueAt 54 = .ok (.iload 4, 2) := by decide +kernel
theorem dX1_trueAt_56 : decode cX1_trueAt 56 = .ok (.ireturn, 1) := by decide +kernel
theorem dX1_cellsBy_0 : decode cX1_cellsBy 0 = .ok (.iconst 0, 1) := by decide +kernel
theorem dX1_cellsBy_1 : decode cX1_cellsBy 1 = .ok (.istore_n 3, 1) := by decide +kernel
theorem dX1_cellsBy_2 : decode cX1_cellsBy 2 = .ok (.iconst 0, 1) := by decide +kernel
theorem dX1_cellsBy_3 : decode cX1_cellsBy 3 = .ok (.istore 4, 2) := by decide +kernel
theorem dX1_cellsBy_5 : decode cX1_cellsBy 5 = .ok (.iload 4, 2) := by decide +kernel
theorem dX1_cellsBy_7 : decode cX1_cellsBy 7 = .ok (.bipush 24, 2) := by decide +kernel
theorem dX1_cellsBy_9 : decode cX1_cellsBy 9 = .ok (.if_icmp .ge 31, 3) := by decide +kernel
theorem dX1_cellsBy_12 : decode cX1_cellsBy 12 = .ok (.aload_n 0, 1) := by decide +kernel
theorem dX1_cellsBy_13 : decode cX1_cellsBy 13 = .ok (.iload 4, 2) := by decide +kernel
theorem dX1_cellsBy_15 : decode cX1_cellsBy 15 = .ok (.iload_n 1, 1) := by decide +kernel
theorem dX1_cellsBy_16 : decode cX1_cellsBy 16 = .ok (.iload_n 2, 1) := by decide +kernel
theorem dX1_cellsBy_17 : decode cX1_cellsBy 17 = .ok (.invokevirtual 26, 3) := by decide +kernel
theorem dX1_cellsBy_20 : decode cX1_cellsBy 20 = .ok (.aload_n 0, 1) := by decide +kernel
theorem dX1_cellsBy_21 : decode cX1_cellsBy 21 = .ok (.getfield 18, 3) := by decide +kernel
theorem dX1_cellsBy_24 : decode cX1_cellsBy 24 = .ok (.if_icmp .ne 10, 3) := by decide +kernel
theorem dX1_cellsBy_27 : decode cX1_cellsBy 27 = .ok (.iload_n 3, 1) := by decide +kernel
theorem dX1_cellsBy_28 : decode cX1_cellsBy 28 = .ok (.iconst 1, 1) := by decide +kernel
theorem dX1_cellsBy_29 : decode cX1_cellsBy 29 = .ok (.iload 4, 2) := by decide +kernel
theorem dX1_cellsBy_31 : decode cX1_cellsBy 31 = .ok (.ishl, 1) := by decide +kernel
theorem dX1_cellsBy_32 : decode cX1_cellsBy 32 = .ok (.ior, 1) := by decide +kernel
theorem dX1_cellsBy_33 : decode cX1_cellsBy 33 = .ok (.istore_n 3, 1) := by decide +kernel
theorem dX1_cellsBy_34 : decode cX1_cellsBy 34 = .ok (.iinc 4 1, 3) := by decide +kernel
theorem dX1_cellsBy_37 : decode cX1_cellsBy 37 = .ok (.goto (-32), 3) := by decide +kernel
theorem dX1_cellsBy_40 : decode cX1_cellsBy 40 = .ok (.iload_n 3, 1) := by decide +kernel
theorem dX1_cellsBy_41 : decode cX1_cellsBy 41 = .ok (.ireturn, 1) := by decide +kernel
theorem dX2_init_0 : decode cX2_init 0 = .ok (.aload_n 0, 1) := by decide +kernel
theorem dX2_init_1 : decode cX2_init 1 = .ok (.invokespecial 3, 3) := by decide +kernel
theorem dX2_init_4 : decode cX2_init 4 = .ok (.aload_n 0, 1) := by decide +kernel
theorem dX2_init_5 : decode cX2_init 5 = .ok (.bipush 80, 2) := by decide +kernel
theorem dX2_init_7 : decode cX2_init 7 = .ok (.newarray .int, 2) := by decide +kernel
theorem dX2_init_9 : decode cX2_init 9 = .ok (.putfield 9, 3) := by decide +kernel
theorem dX2_init_12 : decode cX2_init 12 = .ok (.aload_n 0, 1) := by decide +kernel
theorem dX2_init_13 : decode cX2_init 13 = .ok (.iconst 0, 1) := by decide +kernel
theorem dX2_init_14 : decode cX2_init 14 = .ok (.putfield 15, 3) := by decide +kernel
theorem dX2_init_17 : decode cX2_init 17 = .ok (.return_, 1) := by decide +kernel
theorem dX2_add_0 : decode cX2_add 0 = .ok (.aload_n 0, 1) := by decide +kernel
theorem dX2_add_1 : decode cX2_add 1 = .ok (.getfield 15, 3) := by decide +kernel
theorem dX2_add_4 : decode cX2_add 4 = .ok (.ifCond .lt 32, 3) := by decide +kernel
theorem dX2_add_7 : decode cX2_add 7 = .ok (.aload_n 0, 1) := by decide +kernel
theorem dX2_add_8 : decode cX2_add 8 = .ok (.getfield 15, 3) := by decide +kernel
theorem dX2_add_11 : decode cX2_add 11 = .ok (.bipush 80, 2) := by decide +kernel
theorem dX2_add_13 : decode cX2_add 13 = .ok (.if_icmp .ge 23, 3) := by decide +kernel
theorem dX2_add_16 : decode cX2_add 16 = .ok (.aload_n 0, 1) := by decide +kernel
theorem dX2_add_17 : decode cX2_add 17 = .ok (.getfield 9, 3) := by decide +kernel
theorem dX2_add_20 : decode cX2_add 20 = .ok (.aload_n 0, 1) := by decide +kernel
theorem dX2_add_21 : decode cX2_add 21 = .ok (.getfield 15, 3) := by decide +kernel
theorem dX2_add_24 : decode cX2_add 24 = .ok (.iload_n 1, 1) := by decide +kernel
theorem dX2_add_25 : decode cX2_add 25 = .ok (.iastore, 1) := by decide +kernel
theorem dX2_add_26 : decode cX2_add 26 = .ok (.aload_n 0, 1) := by decide +kernel
theorem dX2_add_27 : decode cX2_add 27 = .ok (.dup, 1) := by decide +kernel
theorem dX2_add_28 : decode cX2_add 28 = .ok (.getfield 15, 3) := by decide +kernel
theorem dX2_add_31 : decode cX2_add 31 = .ok (.iconst 1, 1) := by decide +kernel
theorem dX2_add_32 : decode cX2_add 32 = .ok (.iadd, 1) := by decide +kernel
theorem dX2_add_33 : decode cX2_add 33 = .ok (.putfield 15, 3) := by decide +kernel
theorem dX2_add_36 : decode cX2_add 36 = .ok (.aload_n 0, 1) := by decide +kernel
theorem dX2_add_37 : decode cX2_add 37 = .ok (.getfield 15, 3) := by decide +kernel
theorem dX2_add_40 : decode cX2_add 40 = .ok (.ireturn, 1) := by decide +kernel
theorem dX2_tellTo_0 : decode cX2_tellTo 0 = .ok (.aload_n 0, 1) := by decide +kernel
theorem dX2_tellTo_1 : decode cX2_tellTo 1 = .ok (.invokevirtual 19, 3) := by decide +kernel
theorem dX2_tellTo_4 : decode cX2_tellTo 4 = .ok (.istore_n 2, 1) := by decide +kernel
theorem dX2_tellTo_5 : decode cX2_tellTo 5 = .ok (.iload_n 2, 1) := by decide +kernel
theorem dX2_tellTo_6 : decode cX2_tellTo 6 = .ok (.ifCond .lt 9, 3) := by decide +kernel
theorem dX2_tellTo_9 : decode cX2_tellTo 9 = .ok (.sipush (-1000), 3) := by decide +kernel
theorem dX2_tellTo_12 : decode cX2_tellTo 12 = .ok (.iload_n 2, 1) := by decide +kernel
theorem dX2_tellTo_13 : decode cX2_tellTo 13 = .ok (.isub, 1) := by decide +kernel
theorem dX2_tellTo_14 : decode cX2_tellTo 14 = .ok (.ireturn, 1) := by decide +kernel
theorem dX2_tellTo_15 : decode cX2_tellTo 15 = .ok (.iconst 0, 1) := by decide +kernel
theorem dX2_tellTo_16 : decode cX2_tellTo 16 = .ok (.istore_n 3, 1) := by decide +kernel
theorem dX2_tellTo_17 : decode cX2_tellTo 17 = .ok (.iconst 0, 1) := by decide +kernel
theorem dX2_tellTo_18 : decode cX2_tellTo 18 = .ok (.istore 4, 2) := by decide +kernel
theorem dX2_tellTo_20 : decode cX2_tellTo 20 = .ok (.iconst 0, 1) := by decide +kernel
theorem dX2_tellTo_21 : decode cX2_tellTo 21 = .ok (.istore 5, 2) := by decide +kernel
theorem dX2_tellTo_23 : decode cX2_tellTo 23 = .ok (.iload 5, 2) := by decide +kernel
theorem dX2_tellTo_25 : decode cX2_tellTo 25 = .ok (.bipush 80, 2) := by decide +kernel
theorem dX2_tellTo_27 : decode cX2_tellTo 27 = .ok (.if_icmp .ge 61, 3) := by decide +kernel
theorem dX2_tellTo_30 : decode cX2_tellTo 30 = .ok (.iload 4, 2) := by decide +kernel
theorem dX2_tellTo_32 : decode cX2_tellTo 32 = .ok (.aload_n 0, 1) := by decide +kernel
theorem dX2_tellTo_33 : decode cX2_tellTo 33 = .ok (.getfield 15, 3) := by decide +kernel
theorem dX2_tellTo_36 : decode cX2_tellTo 36 = .ok (.if_icmp .ge 52, 3) := by decide +kernel
theorem dX2_tellTo_39 : decode cX2_tellTo 39 = .ok (.aload_n 1, 1) := by decide +kernel
theorem dX2_tellTo_40 : decode cX2_tellTo 40 = .ok (.ifnull 13, 3) := by decide +kernel
theorem dX2_tellTo_43 : decode cX2_tellTo 43 = .ok (.aload_n 0, 1) := by decide +kernel
theorem dX2_tellTo_44 : decode cX2_tellTo 44 = .ok (.aload_n 1, 1) := by decide +kernel
theorem dX2_tellTo_45 : decode cX2_tellTo 45 = .ok (.iload 4, 2) := by decide +kernel
theorem dX2_tellTo_47 : decode cX2_tellTo 47 = .ok (.invokevirtual 23, 3) := by decide +kernel
theorem dX2_tellTo_50 : decode cX2_tellTo 50 = .ok (.ifCond .ne 10, 3) := by decide +kernel
theorem dX2_tellTo_53 : decode cX2_tellTo 53 = .ok (.sipush (-2000), 3) := by decide +kernel
theorem dX2_tellTo_56 : decode cX2_tellTo 56 = .ok (.iload 4, 2) := by decide +kernel
theorem dX2_tellTo_58 : decode cX2_tellTo 58 = .ok (.isub, 1) := by decide +kernel
theorem dX2_tellTo_59 : decode cX2_tellTo 59 = .ok (.ireturn, 1) := by decide +kernel
theorem dX2_tellTo_60 : decode cX2_tellTo 60 = .ok (.iload 4, 2) := by decide +kernel
theorem dX2_tellTo_62 : decode cX2_tellTo 62 = .ok (.iconst 1, 1) := by decide +kernel
theorem dX2_tellTo_63 : decode cX2_tellTo 63 = .ok (.aload_n 0, 1) := by decide +kernel
theorem dX2_tellTo_64 : decode cX2_tellTo 64 = .ok (.iload 4, 2) := by decide +kernel
theorem dX2_tellTo_66 : decode cX2_tellTo 66 = .ok (.invokevirtual 27, 3) := by decide +kernel
theorem dX2_tellTo_69 : decode cX2_tellTo 69 = .ok (.invokestatic 31, 3) := by decide +kernel
theorem dX2_tellTo_72 : decode cX2_tellTo 72 = .ok (.invokevirtual 35, 3) := by decide +kernel
theorem dX2_tellTo_75 : decode cX2_tellTo 75 = .ok (.iadd, 1) := by decide +kernel
theorem dX2_tellTo_76 : decode cX2_tellTo 76 = .ok (.iadd, 1) := by decide +kernel
theorem dX2_tellTo_77 : decode cX2_tellTo 77 = .ok (.istore 4, 2) := by decide +kernel
theorem dX2_tellTo_79 : decode cX2_tellTo 79 = .ok (.iinc 3 1, 3) := by decide +kernel
theorem dX2_tellTo_82 : decode cX2_tellTo 82 = .ok (.iinc 5 1, 3) := by decide +kernel
theorem dX2_tellTo_85 : decode cX2_tellTo 85 = .ok (.goto (-62), 3) := by decide +kernel
theorem dX2_tellTo_88 : decode cX2_tellTo 88 = .ok (.iload_n 3, 1) := by decide +kernel
theorem dX2_tellTo_89 : decode cX2_tellTo 89 = .ok (.ireturn, 1) := by decide +kernel
theorem dX2_firstWrong_0 : decode cX2_firstWrong 0 = .ok (.aload_n 0, 1) := by decide +kernel
theorem dX2_firstWrong_1 : decode cX2_firstWrong 1 = .ok (.getfield 15, 3) := by decide +kernel
theorem dX2_firstWrong_4 : decode cX2_firstWrong 4 = .ok (.ifCond .ne 5, 3) := by decide +kernel
theorem dX2_firstWrong_7 : decode cX2_firstWrong 7 = .ok (.iconst 0, 1) := by decide +kernel
theorem dX2_firstWrong_8 : decode cX2_firstWrong 8 = .ok (.ireturn, 1) := by decide +kernel
theorem dX2_firstWrong_9 : decode cX2_firstWrong 9 = .ok (.iconst 0, 1) := by decide +kernel
theorem dX2_firstWrong_10 : decode cX2_firstWrong 10 = .ok (.istore_n 1, 1) := by decide +kernel
theorem dX2_firstWrong_11 : decode cX2_firstWrong 11 = .ok (.iconst 0, 1) := by decide +kernel
theorem dX2_firstWrong_12 : decode cX2_firstWrong 12 = .ok (.istore_n 2, 1) := by decide +kernel
theorem dX2_firstWrong_13 : decode cX2_firstWrong 13 = .ok (.iload_n 2, 1) := by decide +kernel
theorem dX2_firstWrong_14 : decode cX2_firstWrong 14 = .ok (.bipush 80, 2) := by decide +kernel
theorem dX2_firstWrong_16 : decode cX2_firstWrong 16 = .ok (.if_icmp .ge 78, 3) := by decide +kernel
theorem dX2_firstWrong_19 : decode cX2_firstWrong 19 = .ok (.iload_n 1, 1) := by decide +kernel
theorem dX2_firstWrong_20 : decode cX2_firstWrong 20 = .ok (.aload_n 0, 1) := by decide +kernel
theorem dX2_firstWrong_21 : decode cX2_firstWrong 21 = .ok (.getfield 15, 3) := by decide +kernel
theorem dX2_firstWrong_24 : decode cX2_firstWrong 24 = .ok (.if_icmp .ge 70, 3) := by decide +kernel
theorem dX2_firstWrong_27 : decode cX2_firstWrong 27 = .ok (.aload_n 0, 1) := by decide +kernel
theorem dX2_firstWrong_28 : decode cX2_firstWrong 28 = .ok (.iload_n 1, 1) := by decide +kernel
theorem dX2_firstWrong_29 : decode cX2_firstWrong 29 = .ok (.invokevirtual 27, 3) := by decide +kernel
theorem dX2_firstWrong_32 : decode cX2_firstWrong 32 = .ok (.invokestatic 31, 3) := by decide +kernel
theorem dX2_firstWrong_35 : decode cX2_firstWrong 35 = .ok (.astore_n 3, 1) := by decide +kernel
theorem dX2_firstWrong_36 : decode cX2_firstWrong 36 = .ok (.aload_n 3, 1) := by decide +kernel
theorem dX2_firstWrong_37 : decode cX2_firstWrong 37 = .ok (.invokevirtual 40, 3) := by decide +kernel
theorem dX2_firstWrong_40 : decode cX2_firstWrong 40 = .ok (.ifCond .eq 5, 3) := by decide +kernel
theorem dX2_firstWrong_43 : decode cX2_firstWrong 43 = .ok (.iload_n 1, 1) := by decide +kernel
theorem dX2_firstWrong_44 : decode cX2_firstWrong 44 = .ok (.ireturn, 1) := by decide +kernel
theorem dX2_firstWrong_45 : decode cX2_firstWrong 45 = .ok (.iconst 0, 1) := by decide +kernel
theorem dX2_firstWrong_46 : decode cX2_firstWrong 46 = .ok (.istore 4, 2) := by decide +kernel
theorem dX2_firstWrong_48 : decode cX2_firstWrong 48 = .ok (.iload 4, 2) := by decide +kernel
theorem dX2_firstWrong_50 : decode cX2_firstWrong 50 = .ok (.aload_n 3, 1) := by decide +kernel
theorem dX2_firstWrong_51 : decode cX2_firstWrong 51 = .ok (.invokevirtual 35, 3) := by decide +kernel
theorem dX2_firstWrong_54 : decode cX2_firstWrong 54 = .ok (.if_icmp .ge 31, 3) := by decide +kernel
theorem dX2_firstWrong_57 : decode cX2_firstWrong 57 = .ok (.iinc 1 1, 3) := by decide +kernel
theorem dX2_firstWrong_60 : decode cX2_firstWrong 60 = .ok (.aload_n 3, 1) := by decide +kernel
theorem dX2_firstWrong_61 : decode cX2_firstWrong 61 = .ok (.iload 4, 2) := by decide +kernel
theorem dX2_firstWrong_63 : decode cX2_firstWrong 63 = .ok (.invokevirtual 44, 3) := by decide +kernel
theorem dX2_firstWrong_66 : decode cX2_firstWrong 66 = .ok (.aload_n 0, 1) := by decide +kernel
theorem dX2_firstWrong_67 : decode cX2_firstWrong 67 = .ok (.iload_n 1, 1) := by decide +kernel
theorem dX2_firstWrong_68 : decode cX2_firstWrong 68 = .ok (.invokevirtual 27, 3) := by decide +kernel
theorem dX2_firstWrong_71 : decode cX2_firstWrong 71 = .ok (.invokestatic 48, 3) := by decide +kernel
theorem dX2_firstWrong_74 : decode cX2_firstWrong 74 = .ok (.ifCond .ne 5, 3) := by decide +kernel
theorem dX2_firstWrong_77 : decode cX2_firstWrong 77 = .ok (.iload_n 1, 1) := by decide +kernel
theorem dX2_firstWrong_78 : decode cX2_firstWrong 78 = .ok (.ireturn, 1) := by decide +kernel
theorem dX2_firstWrong_79 : decode cX2_firstWrong 79 = .ok (.iinc 4 1, 3) := by decide +kernel
theorem dX2_firstWrong_82 : decode cX2_firstWrong 82 = .ok (.goto (-34), 3) := by decide +kernel
theorem dX2_firstWrong_85 : decode cX2_firstWrong 85 = .ok (.iinc 1 1, 3) := by decide +kernel
theorem dX2_firstWrong_88 : decode cX2_firstWrong 88 = .ok (.iinc 2 1, 3) := by decide +kernel
theorem dX2_firstWrong_91 : decode cX2_firstWrong 91 = .ok (.goto (-78), 3) := by decide +kernel
theorem dX2_firstWrong_94 : decode cX2_firstWrong 94 = .ok (.iconst (-1), 1) := by decide +kernel
theorem dX2_firstWrong_95 : decode cX2_firstWrong 95 = .ok (.ireturn, 1) := by decide +kernel
theorem dX2_shapeOf_0 : decode cX2_shapeOf 0 = .ok (.iload_n 0, 1) := by decide +kernel
theorem dX2_shapeOf_1 : decode cX2_shapeOf 1 = .ok (.tableswitch 75 104 115 #[66, 63, 75, 75, 75, 69, 75, 66, 75, 75, 75, 72], 63) := by decide +kernel
theorem dX2_shapeOf_64 : decode cX2_shapeOf 64 = .ok (.ldc 52, 2) := by decide +kernel
theorem dX2_shapeOf_66 : decode cX2_shapeOf 66 = .ok (.areturn, 1) := by decide +kernel
theorem dX2_shapeOf_67 : decode cX2_shapeOf 67 = .ok (.ldc 54, 2) := by decide +kernel
theorem dX2_shapeOf_69 : decode cX2_shapeOf 69 = .ok (.areturn, 1) := by decide +kernel
theorem dX2_shapeOf_70 : decode cX2_shapeOf 70 = .ok (.ldc 56, 2) := by decide +kernel
theorem dX2_shapeOf_72 : decode cX2_shapeOf 72 = .ok (.areturn, 1) := by decide +kernel
theorem dX2_shapeOf_73 : decode cX2_shapeOf 73 = .ok (.ldc 58, 2) := by decide +kernel
theorem dX2_shapeOf_75 : decode cX2_shapeOf 75 = .ok (.areturn, 1) := by decide +kernel
theorem dX2_shapeOf_76 : decode cX2_shapeOf 76 = .ok (.ldc 60, 2) := by decide +kernel
theorem dX2_shapeOf_78 : decode cX2_shapeOf 78 = .ok (.areturn, 1) := by decide +kernel
theorem dX2_fits_0 : decode cX2_fits 0 = .ok (.iload_n 0, 1) := by decide +kernel
theorem dX2_fits_1 : decode cX2_fits 1 = .ok (.lookupswitch 65 #[(100, 47), (107, 27)], 27) := by decide +kernel
theorem dX2_fits_28 : decode cX2_fits 28 = .ok (.iload_n 1, 1) := by decide +kernel
theorem dX2_fits_29 : decode cX2_fits 29 = .ok (.ifCond .lt 17, 3) := by decide +kernel
theorem dX2_fits_32 : decode cX2_fits 32 = .ok (.ldc 62, 2) := by decide +kernel
theorem dX2_fits_34 : decode cX2_fits 34 = .ok (.iload_n 1, 1) := by decide +kernel
theorem dX2_fits_35 : decode cX2_fits 35 = .ok (.i2c, 1) := by decide +kernel
theorem dX2_fits_36 : decode cX2_fits 36 = .ok (.invokevirtual 64, 3) := by decide +kernel
theorem dX2_fits_39 : decode cX2_fits 39 = .ok (.ifCond .lt 7, 3) := by decide +kernel
theorem dX2_fits_42 : decode cX2_fits 42 = .ok (.iconst 1, 1) := by decide +kernel
theorem dX2_fits_43 : decode cX2_fits 43 = .ok (.goto 4, 3) := by decide +kernel
theorem dX2_fits_46 : decode cX2_fits 46 = .ok (.iconst 0, 1) := by decide +kernel
theorem dX2_fits_47 : decode cX2_fits 47 = .ok (.ireturn, 1) := by decide +kernel
theorem dX2_fits_48 : decode cX2_fits 48 = .ok (.iload_n 1, 1) := by decide +kernel
theorem dX2_fits_49 : decode cX2_fits 49 = .ok (.bipush 48, 2) := by decide +kernel
theorem dX2_fits_51 : decode cX2_fits 51 = .ok (.if_icmp .lt 13, 3) := by decide +kernel
theorem dX2_fits_54 : decode cX2_fits 54 = .ok (.iload_n 1, 1) := by decide +kernel
theorem dX2_fits_55 : decode cX2_fits 55 = .ok (.bipush 57, 2) := by decide +kernel
theorem dX2_fits_57 : decode cX2_fits 57 = .ok (.if_icmp .gt 7, 3) := by decide +kernel
theorem dX2_fits_60 : decode cX2_fits 60 = .ok (.iconst 1, 1) := by decide +kernel
theorem dX2_fits_61 : decode cX2_fits 61 = .ok (.goto 4, 3) := by decide +kernel
theorem dX2_fits_64 : decode cX2_fits 64 = .ok (.iconst 0, 1) := by decide +kernel
theorem dX2_fits_65 : decode cX2_fits 65 = .ok (.ireturn, 1) := by decide +kernel
theorem dX2_fits_66 : decode cX2_fits 66 = .ok (.iload_n 1, 1) := by decide +kernel
theorem dX2_fits_67 : decode cX2_fits 67 = .ok (.iload_n 0, 1) := by decide +kernel
theorem dX2_fits_68 : decode cX2_fits 68 = .ok (.if_icmp .ne 7, 3) := by decide +kernel
theorem dX2_fits_71 : decode cX2_fits 71 = .ok (.iconst 1, 1) := by decide +kernel
theorem dX2_fits_72 : decode cX2_fits 72 = .ok (.goto 4, 3) := by decide +kernel
theorem dX2_fits_75 : decode cX2_fits 75 = .ok (.iconst 0, 1) := by decide +kernel
theorem dX2_fits_76 : decode cX2_fits 76 = .ok (.ireturn, 1) := by decide +kernel
theorem dX2_letterAt_0 : decode cX2_letterAt 0 = .ok (.iload_n 1, 1) := by decide +kernel
theorem dX2_letterAt_1 : decode cX2_letterAt 1 = .ok (.ifCond .lt 26, 3) := by decide +kernel
theorem dX2_letterAt_4 : decode cX2_letterAt 4 = .ok (.iload_n 1, 1) := by decide +kernel
theorem dX2_letterAt_5 : decode cX2_letterAt 5 = .ok (.aload_n 0, 1) := by decide +kernel
theorem dX2_letterAt_6 : decode cX2_letterAt 6 = .ok (.getfield 15, 3) := by decide +kernel
theorem dX2_letterAt_9 : decode cX2_letterAt 9 = .ok (.if_icmp .ge 18, 3) := by decide +kernel
theorem dX2_letterAt_12 : decode cX2_letterAt 12 = .ok (.iload_n 1, 1) := by decide +kernel
theorem dX2_letterAt_13 : decode cX2_letterAt 13 = .ok (.bipush 80, 2) := by decide +kernel
theorem dX2_letterAt_15 : decode cX2_letterAt 15 = .ok (.if_icmp .ge 12, 3) := by decide +kernel
theorem dX2_letterAt_18 : decode cX2_letterAt 18 = .ok (.aload_n 0, 1) := by decide +kernel
theorem dX2_letterAt_19 : decode cX2_letterAt 19 = .ok (.getfield 9, 3) := by decide +kernel
theorem dX2_letterAt_22 : decode cX2_letterAt 22 = .ok (.iload_n 1, 1) := by decide +kernel
theorem dX2_letterAt_23 : decode cX2_letterAt 23 = .ok (.iaload, 1) := by decide +kernel
theorem dX2_letterAt_24 : decode cX2_letterAt 24 = .ok (.goto 4, 3) := by decide +kernel
theorem dX2_letterAt_27 : decode cX2_letterAt 27 = .ok (.iconst (-1), 1) := by decide +kernel
theorem dX2_letterAt_28 : decode cX2_letterAt 28 = .ok (.ireturn, 1) := by decide +kernel
theorem dX2_digitAt_0 : decode cX2_digitAt 0 = .ok (.aload_n 0, 1) := by decide +kernel
theorem dX2_digitAt_1 : decode cX2_digitAt 1 = .ok (.iload_n 1, 1) := by decide +kernel
theorem dX2_digitAt_2 : decode cX2_digitAt 2 = .ok (.invokevirtual 27, 3) := by decide +kernel
theorem dX2_digitAt_5 : decode cX2_digitAt 5 = .ok (.bipush 48, 2) := by decide +kernel
theorem dX2_digitAt_7 : decode cX2_digitAt 7 = .ok (.isub, 1) := by decide +kernel
theorem dX2_digitAt_8 : decode cX2_digitAt 8 = .ok (.ireturn, 1) := by decide +kernel
theorem dX2_cellAt_0 : decode cX2_cellAt 0 = .ok (.bipush 10, 2) := by decide +kernel
theorem dX2_cellAt_2 : decode cX2_cellAt 2 = .ok (.aload_n 0, 1) := by decide +kernel
theorem dX2_cellAt_3 : decode cX2_cellAt 3 = .ok (.iload_n 1, 1) := by decide +kernel
theorem dX2_cellAt_4 : decode cX2_cellAt 4 = .ok (.invokevirtual 67, 3) := by decide +kernel
theorem dX2_cellAt_7 : decode cX2_cellAt 7 = .ok (.imul, 1) := by decide +kernel
theorem dX2_cellAt_8 : decode cX2_cellAt 8 = .ok (.aload_n 0, 1) := by decide +kernel
theorem dX2_cellAt_9 : decode cX2_cellAt 9 = .ok (.iload_n 1, 1) := by decide +kernel
theorem dX2_cellAt_10 : decode cX2_cellAt 10 = .ok (.iconst 1, 1) := by decide +kernel
theorem dX2_cellAt_11 : decode cX2_cellAt 11 = .ok (.iadd, 1) := by decide +kernel
theorem dX2_cellAt_12 : decode cX2_cellAt 12 = .ok (.invokevirtual 67, 3) := by decide +kernel
theorem dX2_cellAt_15 : decode cX2_cellAt 15 = .ok (.iadd, 1) := by decide +kernel
theorem dX2_cellAt_16 : decode cX2_cellAt 16 = .ok (.ireturn, 1) := by decide +kernel
theorem dX2_tellOne_0 : decode cX2_tellOne 0 = .ok (.aload_n 0, 1) := by decide +kernel
theorem dX2_tellOne_1 : decode cX2_tellOne 1 = .ok (.iload_n 2, 1) := by decide +kernel
theorem dX2_tellOne_2 : decode cX2_tellOne 2 = .ok (.invokevirtual 27, 3) := by decide +kernel
theorem dX2_tellOne_5 : decode cX2_tellOne 5 = .ok (.lookupswitch 118 #[(104, 68), (105, 43), (109, 94), (115, 106)], 43) := by decide +kernel
theorem dX2_tellOne_48 : decode cX2_tellOne 48 = .ok (.aload_n 1, 1) := by decide +kernel
theorem dX2_tellOne_49 : decode cX2_tellOne 49 = .ok (.ldc 62, 2) := by decide +kernel
theorem dX2_tellOne_51 : decode cX2_tellOne 51 = .ok (.aload_n 0, 1) := by decide +kernel
theorem dX2_tellOne_52 : decode cX2_tellOne 52 = .ok (.iload_n 2, 1) := by decide +kernel
theorem dX2_tellOne_53 : decode cX2_tellOne 53 = .ok (.iconst 1, 1) := by decide +kernel
theorem dX2_tellOne_54 : decode cX2_tellOne 54 = .ok (.iadd, 1) := by decide +kernel
theorem dX2_tellOne_55 : decode cX2_tellOne 55 = .ok (.invokevirtual 27, 3) := by decide +kernel
theorem dX2_tellOne_58 : decode cX2_tellOne 58 = .ok (.i2c, 1) := by decide +kernel
theorem dX2_tellOne_59 : decode cX2_tellOne 59 = .ok (.invokevirtual 64, 3) := by decide +kernel
theorem dX2_tellOne_62 : decode cX2_tellOne 62 = .ok (.aload_n 0, 1) := by decide +kernel
theorem dX2_tellOne_63 : decode cX2_tellOne 63 = .ok (.iload_n 2, 1) := by decide +kernel
theorem dX2_tellOne_64 : decode cX2_tellOne 64 = .ok (.iconst 2, 1) := by decide +kernel
theorem dX2_tellOne_65 : decode cX2_tellOne 65 = .ok (.iadd, 1) := by decide +kernel
theorem dX2_tellOne_66 : decode cX2_tellOne 66 = .ok (.invokevirtual 70, 3) := by decide +kernel
theorem dX2_tellOne_69 : decode cX2_tellOne 69 = .ok (.invokestatic 73, 3) := by decide +kernel
theorem dX2_tellOne_72 : decode cX2_tellOne 72 = .ok (.ireturn, 1) := by decide +kernel
theorem dX2_tellOne_73 : decode cX2_tellOne 73 = .ok (.aload_n 1, 1) := by decide +kernel
theorem dX2_tellOne_74 : decode cX2_tellOne 74 = .ok (.aload_n 0, 1) := by decide +kernel
theorem dX2_tellOne_75 : decode cX2_tellOne 75 = .ok (.iload_n 2, 1) := by decide +kernel
theorem dX2_tellOne_76 : decode cX2_tellOne 76 = .ok (.iconst 1, 1) := by decide +kernel
theorem dX2_tellOne_77 : decode cX2_tellOne 77 = .ok (.iadd, 1) := by decide +kernel
theorem dX2_tellOne_78 : decode cX2_tellOne 78 = .ok (.invokevirtual 67, 3) := by decide +kernel
theorem dX2_tellOne_81 : decode cX2_tellOne 81 = .ok (.aload_n 0, 1) := by decide +kernel
theorem dX2_tellOne_82 : decode cX2_tellOne 82 = .ok (.iload_n 2, 1) := by decide +kernel
theorem dX2_tellOne_83 : decode cX2_tellOne 83 = .ok (.iconst 2, 1) := by decide +kernel
theorem dX2_tellOne_84 : decode cX2_tellOne 84 = .ok (.iadd, 1) := by decide +kernel
theorem dX2_tellOne_85 : decode cX2_tellOne 85 = .ok (.invokevirtual 67, 3) := by decide +kernel
theorem dX2_tellOne_88 : decode cX2_tellOne 88 = .ok (.aload_n 0, 1) := by decide +kernel
theorem dX2_tellOne_89 : decode cX2_tellOne 89 = .ok (.iload_n 2, 1) := by decide +kernel
theorem dX2_tellOne_90 : decode cX2_tellOne 90 = .ok (.iconst 3, 1) := by decide +kernel
theorem dX2_tellOne_91 : decode cX2_tellOne 91 = .ok (.iadd, 1) := by decide +kernel
theorem dX2_tellOne_92 : decode cX2_tellOne 92 = .ok (.invokevirtual 67, 3) := by decide +kernel
theorem dX2_tellOne_95 : decode cX2_tellOne 95 = .ok (.invokestatic 77, 3) := by decide +kernel
theorem dX2_tellOne_98 : decode cX2_tellOne 98 = .ok (.ireturn, 1) := by decide +kernel
theorem dX2_tellOne_99 : decode cX2_tellOne 99 = .ok (.aload_n 1, 1) := by decide +kernel
theorem dX2_tellOne_100 : decode cX2_tellOne 100 = .ok (.aload_n 0, 1) := by decide +kernel
theorem dX2_tellOne_101 : decode cX2_tellOne 101 = .ok (.iload_n 2, 1) := by decide +kernel
theorem dX2_tellOne_102 : decode cX2_tellOne 102 = .ok (.iconst 1, 1) := by decide +kernel
theorem dX2_tellOne_103 : decode cX2_tellOne 103 = .ok (.iadd, 1) := by decide +kernel
theorem dX2_tellOne_104 : decode cX2_tellOne 104 = .ok (.invokevirtual 67, 3) := by decide +kernel
theorem dX2_tellOne_107 : decode cX2_tellOne 107 = .ok (.invokestatic 81, 3) := by decide +kernel
theorem dX2_tellOne_110 : decode cX2_tellOne 110 = .ok (.ireturn, 1) := by decide +kernel
theorem dX2_tellOne_111 : decode cX2_tellOne 111 = .ok (.aload_n 1, 1) := by decide +kernel
theorem dX2_tellOne_112 : decode cX2_tellOne 112 = .ok (.aload_n 0, 1) := by decide +kernel
theorem dX2_tellOne_113 : decode cX2_tellOne 113 = .ok (.iload_n 2, 1) := by decide +kernel
theorem dX2_tellOne_114 : decode cX2_tellOne 114 = .ok (.iconst 1, 1) := by decide +kernel
theorem dX2_tellOne_115 : decode cX2_tellOne 115 = .ok (.iadd, 1) := by decide +kernel
theorem dX2_tellOne_116 : decode cX2_tellOne 116 = .ok (.invokevirtual 70, 3) := by decide +kernel
theorem dX2_tellOne_119 : decode cX2_tellOne 119 = .ok (.invokestatic 84, 3) := by decide +kernel
theorem dX2_tellOne_122 : decode cX2_tellOne 122 = .ok (.ireturn, 1) := by decide +kernel
theorem dX2_tellOne_123 : decode cX2_tellOne 123 = .ok (.aload_n 1, 1) := by decide +kernel
theorem dX2_tellOne_124 : decode cX2_tellOne 124 = .ok (.aload_n 0, 1) := by decide +kernel
theorem dX2_tellOne_125 : decode cX2_tellOne 125 = .ok (.iload_n 2, 1) := by decide +kernel
theorem dX2_tellOne_126 : decode cX2_tellOne 126 = .ok (.iconst 1, 1) := by decide +kernel
theorem dX2_tellOne_127 : decode cX2_tellOne 127 = .ok (.iadd, 1) := by decide +kernel
theorem dX2_tellOne_128 : decode cX2_tellOne 128 = .ok (.invokevirtual 70, 3) := by decide +kernel
theorem dX2_tellOne_131 : decode cX2_tellOne 131 = .ok (.aload_n 0, 1) := by decide +kernel
theorem dX2_tellOne_132 : decode cX2_tellOne 132 = .ok (.iload_n 2, 1) := by decide +kernel
theorem dX2_tellOne_133 : decode cX2_tellOne 133 = .ok (.iconst 3, 1) := by decide +kernel
theorem dX2_tellOne_134 : decode cX2_tellOne 134 = .ok (.iadd, 1) := by decide +kernel
theorem dX2_tellOne_135 : decode cX2_tellOne 135 = .ok (.invokevirtual 67, 3) := by decide +kernel
theorem dX2_tellOne_138 : decode cX2_tellOne 138 = .ok (.invokestatic 87, 3) := by decide +kernel
theorem dX2_tellOne_141 : decode cX2_tellOne 141 = .ok (.ireturn, 1) := by decide +kernel
theorem dX2_tellItch_0 : decode cX2_tellItch 0 = .ok (.iload_n 1, 1) := by decide +kernel
theorem dX2_tellItch_1 : decode cX2_tellItch 1 = .ok (.bipush 6, 2) := by decide +kernel
theorem dX2_tellItch_3 : decode cX2_tellItch 3 = .ok (.invokestatic 90, 3) := by decide +kernel
theorem dX2_tellItch_6 : decode cX2_tellItch 6 = .ok (.ifCond .ne 10, 3) := by decide +kernel
theorem dX2_tellItch_9 : decode cX2_tellItch 9 = .ok (.iload_n 2, 1) := by decide +kernel
theorem dX2_tellItch_10 : decode cX2_tellItch 10 = .ok (.invokestatic 93, 3) := by decide +kernel
theorem dX2_tellItch_13 : decode cX2_tellItch 13 = .ok (.ifCond .eq 5, 3) := by decide +kernel
theorem dX2_tellItch_16 : decode cX2_tellItch 16 = .ok (.iconst 0, 1) := by decide +kernel
theorem dX2_tellItch_17 : decode cX2_tellItch 17 = .ok (.ireturn, 1) := by decide +kernel
theorem dX2_tellItch_18 : decode cX2_tellItch 18 = .ok (.aload_n 0, 1) := by decide +kernel
theorem dX2_tellItch_19 : decode cX2_tellItch 19 = .ok (.iload_n 1, 1) := by decide +kernel
theorem dX2_tellItch_20 : decode cX2_tellItch 20 = .ok (.putfield 97, 3) := by decide +kernel
theorem dX2_tellItch_23 : decode cX2_tellItch 23 = .ok (.aload_n 0, 1) := by decide +kernel
theorem dX2_tellItch_24 : decode cX2_tellItch 24 = .ok (.iload_n 2, 1) := by decide +kernel
theorem dX2_tellItch_25 : decode cX2_tellItch 25 = .ok (.putfield 102, 3) := by decide +kernel
theorem dX2_tellItch_28 : decode cX2_tellItch 28 = .ok (.iconst 1, 1) := by decide +kernel
theorem dX2_tellItch_29 : decode cX2_tellItch 29 = .ok (.ireturn, 1) := by decide +kernel
theorem dX2_tellHe_0 : decode cX2_tellHe 0 = .ok (.iload_n 1, 1) := by decide +kernel
theorem dX2_tellHe_1 : decode cX2_tellHe 1 = .ok (.iconst 0, 1) := by decide +kernel
theorem dX2_tellHe_2 : decode cX2_tellHe 2 = .ok (.iconst 1, 1) := by decide +kernel
theorem dX2_tellHe_3 : decode cX2_tellHe 3 = .ok (.invokestatic 105, 3) := by decide +kernel
theorem dX2_tellHe_6 : decode cX2_tellHe 6 = .ok (.ifCond .eq 25, 3) := by decide +kernel
theorem dX2_tellHe_9 : decode cX2_tellHe 9 = .ok (.iload_n 2, 1) := by decide +kernel
theorem dX2_tellHe_10 : decode cX2_tellHe 10 = .ok (.iconst 1, 1) := by decide +kernel
theorem dX2_tellHe_11 : decode cX2_tellHe 11 = .ok (.iconst 3, 1) := by decide +kernel
theorem dX2_tellHe_12 : decode cX2_tellHe 12 = .ok (.invokestatic 105, 3) := by decide +kernel
theorem dX2_tellHe_15 : decode cX2_tellHe 15 = .ok (.ifCond .eq 16, 3) := by decide +kernel
theorem dX2_tellHe_18 : decode cX2_tellHe 18 = .ok (.iload_n 3, 1) := by decide +kernel
theorem dX2_tellHe_19 : decode cX2_tellHe 19 = .ok (.iconst 2, 1) := by decide +kernel
theorem dX2_tellHe_20 : decode cX2_tellHe 20 = .ok (.iconst 5, 1) := by decide +kernel
theorem dX2_tellHe_21 : decode cX2_tellHe 21 = .ok (.invokestatic 105, 3) := by decide +kernel
theorem dX2_tellHe_24 : decode cX2_tellHe 24 = .ok (.ifCond .eq 7, 3) := by decide +kernel
theorem dX2_tellHe_27 : decode cX2_tellHe 27 = .ok (.iconst 1, 1) := by decide +kernel
theorem dX2_tellHe_28 : decode cX2_tellHe 28 = .ok (.goto 4, 3) := by decide +kernel
theorem dX2_tellHe_31 : decode cX2_tellHe 31 = .ok (.iconst 0, 1) := by decide +kernel
theorem dX2_tellHe_32 : decode cX2_tellHe 32 = .ok (.istore 4, 2) := by decide +kernel
theorem dX2_tellHe_34 : decode cX2_tellHe 34 = .ok (.iload 4, 2) := by decide +kernel
theorem dX2_tellHe_36 : decode cX2_tellHe 36 = .ok (.ifCond .eq 18, 3) := by decide +kernel
theorem dX2_tellHe_39 : decode cX2_tellHe 39 = .ok (.aload_n 0, 1) := by decide +kernel
theorem dX2_tellHe_40 : decode cX2_tellHe 40 = .ok (.iload_n 1, 1) := by decide +kernel
theorem dX2_tellHe_41 : decode cX2_tellHe 41 = .ok (.putfield 109, 3) := by decide +kernel
theorem dX2_tellHe_44 : decode cX2_tellHe 44 = .ok (.aload_n 0, 1) := by decide +kernel
theorem dX2_tellHe_45 : decode cX2_tellHe 45 = .ok (.iload_n 2, 1) := by decide +kernel
theorem dX2_tellHe_46 : decode cX2_tellHe 46 = .ok (.putfield 112, 3) := by decide +kernel
theorem dX2_tellHe_49 : decode cX2_tellHe 49 = .ok (.aload_n 0, 1) := by decide +kernel
theorem dX2_tellHe_50 : decode cX2_tellHe 50 = .ok (.iload_n 3, 1) := by decide +kernel
theorem dX2_tellHe_51 : decode cX2_tellHe 51 = .ok (.putfield 115, 3) := by decide +kernel
theorem dX2_tellHe_54 : decode cX2_tellHe 54 = .ok (.iload 4, 2) := by decide +kernel
theorem dX2_tellHe_56 : decode cX2_tellHe 56 = .ok (.ireturn, 1) := by decide +kernel
theorem dX2_tellSeam_0 : decode cX2_tellSeam 0 = .ok (.iload_n 1, 1) := by decide +kernel
theorem dX2_tellSeam_1 : decode cX2_tellSeam 1 = .ok (.iconst 0, 1) := by decide +kernel
theorem dX2_tellSeam_2 : decode cX2_tellSeam 2 = .ok (.iconst 5, 1) := by decide +kernel
theorem dX2_tellSeam_3 : decode cX2_tellSeam 3 = .ok (.invokestatic 105, 3) := by decide +kernel
theorem dX2_tellSeam_6 : decode cX2_tellSeam 6 = .ok (.istore_n 2, 1) := by decide +kernel
theorem dX2_tellSeam_7 : decode cX2_tellSeam 7 = .ok (.iload_n 2, 1) := by decide +kernel
theorem dX2_tellSeam_8 : decode cX2_tellSeam 8 = .ok (.ifCond .eq 8, 3) := by decide +kernel
theorem dX2_tellSeam_11 : decode cX2_tellSeam 11 = .ok (.aload_n 0, 1) := by decide +kernel
theorem dX2_tellSeam_12 : decode cX2_tellSeam 12 = .ok (.iload_n 1, 1) := by decide +kernel
theorem dX2_tellSeam_13 : decode cX2_tellSeam 13 = .ok (.putfield 118, 3) := by decide +kernel
theorem dX2_tellSeam_16 : decode cX2_tellSeam 16 = .ok (.iload_n 2, 1) := by decide +kernel
theorem dX2_tellSeam_17 : decode cX2_tellSeam 17 = .ok (.ireturn, 1) := by decide +kernel
theorem dX2_tellStroke_0 : decode cX2_tellStroke 0 = .ok (.iload_n 1, 1) := by decide +kernel
theorem dX2_tellStroke_1 : decode cX2_tellStroke 1 = .ok (.invokestatic 93, 3) := by decide +kernel
theorem dX2_tellStroke_4 : decode cX2_tellStroke 4 = .ok (.ifCond .ne 13, 3) := by decide +kernel
theorem dX2_tellStroke_7 : decode cX2_tellStroke 7 = .ok (.aload_n 0, 1) := by decide +kernel
theorem dX2_tellStroke_8 : decode cX2_tellStroke 8 = .ok (.getfield 121, 3) := by decide +kernel
theorem dX2_tellStroke_11 : decode cX2_tellStroke 11 = .ok (.sipush 999, 3) := by decide +kernel
theorem dX2_tellStroke_14 : decode cX2_tellStroke 14 = .ok (.if_icmp .lt 5, 3) := by decide +kernel
theorem dX2_tellStroke_17 : decode cX2_tellStroke 17 = .ok (.iconst 0, 1) := by decide +kernel
theorem dX2_tellStroke_18 : decode cX2_tellStroke 18 = .ok (.ireturn, 1) := by decide +kernel
theorem dX2_tellStroke_19 : decode cX2_tellStroke 19 = .ok (.aload_n 0, 1) := by decide +kernel
theorem dX2_tellStroke_20 : decode cX2_tellStroke 20 = .ok (.iload_n 1, 1) := by decide +kernel
theorem dX2_tellStroke_21 : decode cX2_tellStroke 21 = .ok (.invokevirtual 124, 3) := by decide +kernel
theorem dX2_tellStroke_24 : decode cX2_tellStroke 24 = .ok (.iconst 1, 1) := by decide +kernel
theorem dX2_tellStroke_25 : decode cX2_tellStroke 25 = .ok (.ireturn, 1) := by decide +kernel
theorem dX2_tellSore_0 : decode cX2_tellSore 0 = .ok (.iload_n 1, 1) := by decide +kernel
theorem dX2_tellSore_1 : decode cX2_tellSore 1 = .ok (.invokestatic 93, 3) := by decide +kernel
theorem dX2_tellSore_4 : decode cX2_tellSore 4 = .ok (.ifCond .ne 13, 3) := by decide +kernel
theorem dX2_tellSore_7 : decode cX2_tellSore 7 = .ok (.iload_n 2, 1) := by decide +kernel
theorem dX2_tellSore_8 : decode cX2_tellSore 8 = .ok (.iconst 0, 1) := by decide +kernel
theorem dX2_tellSore_9 : decode cX2_tellSore 9 = .ok (.bipush 9, 2) := by decide +kernel
theorem dX2_tellSore_11 : decode cX2_tellSore 11 = .ok (.invokestatic 105, 3) := by decide +kernel
theorem dX2_tellSore_14 : decode cX2_tellSore 14 = .ok (.ifCond .ne 5, 3) := by decide +kernel
theorem dX2_tellSore_17 : decode cX2_tellSore 17 = .ok (.iconst 0, 1) := by decide +kernel
theorem dX2_tellSore_18 : decode cX2_tellSore 18 = .ok (.ireturn, 1) := by decide +kernel
theorem dX2_tellSore_19 : decode cX2_tellSore 19 = .ok (.aload_n 0, 1) := by decide +kernel
theorem dX2_tellSore_20 : decode cX2_tellSore 20 = .ok (.iload_n 1, 1) := by decide +kernel
theorem dX2_tellSore_21 : decode cX2_tellSore 21 = .ok (.iload_n 2, 1) := by decide +kernel
theorem dX2_tellSore_22 : decode cX2_tellSore 22 = .ok (.invokevirtual 128, 3) := by decide +kernel
theorem dX2_tellSore_25 : decode cX2_tellSore 25 = .ok (.iconst 1, 1) := by decide +kernel
theorem dX2_tellSore_26 : decode cX2_tellSore 26 = .ok (.ireturn, 1) := by decide +kernel
theorem dX3_init_0 : decode cX3_init 0 = .ok (.aload_n 0, 1) := by decide +kernel
theorem dX3_init_1 : decode cX3_init 1 = .ok (.invokespecial 1, 3) := by decide +kernel
theorem dX3_init_4 : decode cX3_init 4 = .ok (.aload_n 0, 1) := by decide +kernel
theorem dX3_init_5 : decode cX3_init 5 = .ok (.new 7, 3) := by decide +kernel
theorem dX3_init_8 : decode cX3_init 8 = .ok (.dup, 1) := by decide +kernel
theorem dX3_init_9 : decode cX3_init 9 = .ok (.invokespecial 9, 3) := by decide +kernel
theorem dX3_init_12 : decode cX3_init 12 = .ok (.putfield 10, 3) := by decide +kernel
theorem dX3_init_15 : decode cX3_init 15 = .ok (.aload_n 0, 1) := by decide +kernel
theorem dX3_init_16 : decode cX3_init 16 = .ok (.new 7, 3) := by decide +kernel
theorem dX3_init_19 : decode cX3_init 19 = .ok (.dup, 1) := by decide +kernel
theorem dX3_init_20 : decode cX3_init 20 = .ok (.invokespecial 9, 3) := by decide +kernel
theorem dX3_init_23 : decode cX3_init 23 = .ok (.putfield 16, 3) := by decide +kernel
theorem dX3_init_26 : decode cX3_init 26 = .ok (.aload_n 0, 1) := by decide +kernel
theorem dX3_init_27 : decode cX3_init 27 = .ok (.new 7, 3) := by decide +kernel
theorem dX3_init_30 : decode cX3_init 30 = .ok (.dup, 1) := by decide +kernel
theorem dX3_init_31 : decode cX3_init 31 = .ok (.invokespecial 9, 3) := by decide +kernel
theorem dX3_init_34 : decode cX3_init 34 = .ok (.putfield 19, 3) := by decide +kernel
theorem dX3_init_37 : decode cX3_init 37 = .ok (.aload_n 0, 1) := by decide +kernel
theorem dX3_init_38 : decode cX3_init 38 = .ok (.new 7, 3) := by decide +kernel
theorem dX3_init_41 : decode cX3_init 41 = .ok (.dup, 1) := by decide +kernel
theorem dX3_init_42 : decode cX3_init 42 = .ok (.invokespecial 9, 3) := by decide +kernel
theorem dX3_init_45 : decode cX3_init 45 = .ok (.putfield 22, 3) := by decide +kernel
theorem dX3_init_48 : decode cX3_init 48 = .ok (.aload_n 0, 1) := by decide +kernel
theorem dX3_init_49 : decode cX3_init 49 = .ok (.new 25, 3) := by decide +kernel
theorem dX3_init_52 : decode cX3_init 52 = .ok (.dup, 1) := by decide +kernel
theorem dX3_init_53 : decode cX3_init 53 = .ok (.invokespecial 27, 3) := by decide +kernel
theorem dX3_init_56 : decode cX3_init 56 = .ok (.putfield 28, 3) := by decide +kernel
theorem dX3_init_59 : decode cX3_init 59 = .ok (.aload_n 0, 1) := by decide +kernel
theorem dX3_init_60 : decode cX3_init 60 = .ok (.new 32, 3) := by decide +kernel
theorem dX3_init_63 : decode cX3_init 63 = .ok (.dup, 1) := by decide +kernel
theorem dX3_init_64 : decode cX3_init 64 = .ok (.invokespecial 34, 3) := by decide +kernel
theorem dX3_init_67 : decode cX3_init 67 = .ok (.putfield 35, 3) := by decide +kernel
theorem dX3_init_70 : decode cX3_init 70 = .ok (.aload_n 0, 1) := by decide +kernel
theorem dX3_init_71 : decode cX3_init 71 = .ok (.bipush 20, 2) := by decide +kernel
theorem dX3_init_73 : decode cX3_init 73 = .ok (.newarray .int, 2) := by decide +kernel
theorem dX3_init_75 : decode cX3_init 75 = .ok (.putfield 39, 3) := by decide +kernel
theorem dX3_init_78 : decode cX3_init 78 = .ok (.aload_n 0, 1) := by decide +kernel
theorem dX3_init_79 : decode cX3_init 79 = .ok (.bipush 9, 2) := by decide +kernel
theorem dX3_init_81 : decode cX3_init 81 = .ok (.newarray .int, 2) := by decide +kernel
theorem dX3_init_83 : decode cX3_init 83 = .ok (.putfield 43, 3) := by decide +kernel
theorem dX3_init_86 : decode cX3_init 86 = .ok (.aload_n 0, 1) := by decide +kernel
theorem dX3_init_87 : decode cX3_init 87 = .ok (.bipush 7, 2) := by decide +kernel
theorem dX3_init_89 : decode cX3_init 89 = .ok (.newarray .int, 2) := by decide +kernel
theorem dX3_init_91 : decode cX3_init 91 = .ok (.putfield 46, 3) := by decide +kernel
theorem dX3_init_94 : decode cX3_init 94 = .ok (.aload_n 0, 1) := by decide +kernel
theorem dX3_init_95 : decode cX3_init 95 = .ok (.iconst 0, 1) := by decide +kernel
theorem dX3_init_96 : decode cX3_init 96 = .ok (.putfield 49, 3) := by decide +kernel
theorem dX3_init_99 : decode cX3_init 99 = .ok (.aload_n 0, 1) := by decide +kernel
theorem dX3_init_100 : decode cX3_init 100 = .ok (.iconst 0, 1) := by decide +kernel
theorem dX3_init_101 : decode cX3_init 101 = .ok (.putfield 53, 3) := by decide +kernel
theorem dX3_init_104 : decode cX3_init 104 = .ok (.return_, 1) := by decide +kernel
theorem dX3_letter_0 : decode cX3_letter 0 = .ok (.iload_n 1, 1) := by decide +kernel
theorem dX3_letter_1 : decode cX3_letter 1 = .ok (.ifCond .ge 10, 3) := by decide +kernel
theorem dX3_letter_4 : decode cX3_letter 4 = .ok (.aload_n 0, 1) := by decide +kernel
theorem dX3_letter_5 : decode cX3_letter 5 = .ok (.bipush (-4), 2) := by decide +kernel
theorem dX3_letter_7 : decode cX3_letter 7 = .ok (.invokevirtual 57, 3) := by decide +kernel
theorem dX3_letter_10 : decode cX3_letter 10 = .ok (.ireturn, 1) := by decide +kernel
theorem dX3_letter_11 : decode cX3_letter 11 = .ok (.iload_n 1, 1) := by decide +kernel
theorem dX3_letter_12 : decode cX3_letter 12 = .ok (.sipush 255, 3) := by decide +kernel
theorem dX3_letter_15 : decode cX3_letter 15 = .ok (.if_icmp .gt 15, 3) := by decide +kernel
theorem dX3_letter_18 : decode cX3_letter 18 = .ok (.aload_n 0, 1) := by decide +kernel
theorem dX3_letter_19 : decode cX3_letter 19 = .ok (.getfield 28, 3) := by decide +kernel
theorem dX3_letter_22 : decode cX3_letter 22 = .ok (.getfield 61, 3) := by decide +kernel
theorem dX3_letter_25 : decode cX3_letter 25 = .ok (.bipush 80, 2) := by decide +kernel
theorem dX3_letter_27 : decode cX3_letter 27 = .ok (.if_icmp .lt 10, 3) := by decide +kernel
theorem dX3_letter_30 : decode cX3_letter 30 = .ok (.aload_n 0, 1) := by decide +kernel
theorem dX3_letter_31 : decode cX3_letter 31 = .ok (.bipush (-6), 2) := by decide +kernel
theorem dX3_letter_33 : decode cX3_letter 33 = .ok (.invokevirtual 57, 3) := by decide +kernel
theorem dX3_letter_36 : decode cX3_letter 36 = .ok (.ireturn, 1) := by decide +kernel
theorem dX3_letter_37 : decode cX3_letter 37 = .ok (.aload_n 0, 1) := by decide +kernel
theorem dX3_letter_38 : decode cX3_letter 38 = .ok (.getfield 28, 3) := by decide +kernel
theorem dX3_letter_41 : decode cX3_letter 41 = .ok (.iload_n 1, 1) := by decide +kernel
theorem dX3_letter_42 : decode cX3_letter 42 = .ok (.invokevirtual 64, 3) := by decide +kernel
theorem dX3_letter_45 : decode cX3_letter 45 = .ok (.ireturn, 1) := by decide +kernel
theorem dX3_back_0 : decode cX3_back 0 = .ok (.aload_n 0, 1) := by decide +kernel
theorem dX3_back_1 : decode cX3_back 1 = .ok (.getfield 19, 3) := by decide +kernel
theorem dX3_back_4 : decode cX3_back 4 = .ok (.aload_n 0, 1) := by decide +kernel
theorem dX3_back_5 : decode cX3_back 5 = .ok (.getfield 10, 3) := by decide +kernel
theorem dX3_back_8 : decode cX3_back 8 = .ok (.invokevirtual 67, 3) := by decide +kernel
theorem dX3_back_11 : decode cX3_back 11 = .ok (.aload_n 0, 1) := by decide +kernel
theorem dX3_back_12 : decode cX3_back 12 = .ok (.getfield 28, 3) := by decide +kernel
theorem dX3_back_15 : decode cX3_back 15 = .ok (.aload_n 0, 1) := by decide +kernel
theorem dX3_back_16 : decode cX3_back 16 = .ok (.getfield 19, 3) := by decide +kernel
theorem dX3_back_19 : decode cX3_back 19 = .ok (.invokevirtual 71, 3) := by decide +kernel
theorem dX3_back_22 : decode cX3_back 22 = .ok (.istore_n 1, 1) := by decide +kernel
theorem dX3_back_23 : decode cX3_back 23 = .ok (.aload_n 0, 1) := by decide +kernel
theorem dX3_back_24 : decode cX3_back 24 = .ok (.getfield 28, 3) := by decide +kernel
theorem dX3_back_27 : decode cX3_back 27 = .ok (.iconst 0, 1) := by decide +kernel
theorem dX3_back_28 : decode cX3_back 28 = .ok (.putfield 61, 3) := by decide +kernel
theorem dX3_back_31 : decode cX3_back 31 = .ok (.iload_n 1, 1) := by decide +kernel
theorem dX3_back_32 : decode cX3_back 32 = .ok (.ifCond .le 14, 3) := by decide +kernel
theorem dX3_back_35 : decode cX3_back 35 = .ok (.aload_n 0, 1) := by decide +kernel
theorem dX3_back_36 : decode cX3_back 36 = .ok (.getfield 10, 3) := by decide +kernel
theorem dX3_back_39 : decode cX3_back 39 = .ok (.aload_n 0, 1) := by decide +kernel
theorem dX3_back_40 : decode cX3_back 40 = .ok (.getfield 19, 3) := by decide +kernel
theorem dX3_back_43 : decode cX3_back 43 = .ok (.invokevirtual 67, 3) := by decide +kernel
theorem dX3_back_46 : decode cX3_back 46 = .ok (.iload_n 1, 1) := by decide +kernel
theorem dX3_back_47 : decode cX3_back 47 = .ok (.ireturn, 1) := by decide +kernel
theorem dX3_itch_0 : decode cX3_itch 0 = .ok (.iload_n 1, 1) := by decide +kernel
theorem dX3_itch_1 : decode cX3_itch 1 = .ok (.iconst 2, 1) := by decide +kernel
theorem dX3_itch_2 : decode cX3_itch 2 = .ok (.invokestatic 75, 3) := by decide +kernel
theorem dX3_itch_5 : decode cX3_itch 5 = .ok (.ifCond .eq 10, 3) := by decide +kernel
theorem dX3_itch_8 : decode cX3_itch 8 = .ok (.aload_n 0, 1) := by decide +kernel
theorem dX3_itch_9 : decode cX3_itch 9 = .ok (.bipush (-2), 2) := by decide +kernel
theorem dX3_itch_11 : decode cX3_itch 11 = .ok (.invokevirtual 57, 3) := by decide +kernel
theorem dX3_itch_14 : decode cX3_itch 14 = .ok (.ireturn, 1) := by decide +kernel
theorem dX3_itch_15 : decode cX3_itch 15 = .ok (.iload_n 1, 1) := by decide +kernel
theorem dX3_itch_16 : decode cX3_itch 16 = .ok (.ifCond .ne 13, 3) := by decide +kernel
theorem dX3_itch_19 : decode cX3_itch 19 = .ok (.aload_n 0, 1) := by decide +kernel
theorem dX3_itch_20 : decode cX3_itch 20 = .ok (.getfield 10, 3) := by decide +kernel
theorem dX3_itch_23 : decode cX3_itch 23 = .ok (.getfield 79, 3) := by decide +kernel
theorem dX3_itch_26 : decode cX3_itch 26 = .ok (.goto 10, 3) := by decide +kernel
theorem dX3_itch_29 : decode cX3_itch 29 = .ok (.aload_n 0, 1) := by decide +kernel
theorem dX3_itch_30 : decode cX3_itch 30 = .ok (.getfield 10, 3) := by decide +kernel
theorem dX3_itch_33 : decode cX3_itch 33 = .ok (.getfield 82, 3) := by decide +kernel
theorem dX3_itch_36 : decode cX3_itch 36 = .ok (.ireturn, 1) := by decide +kernel
theorem dX3_sore_0 : decode cX3_sore 0 = .ok (.iload_n 1, 1) := by decide +kernel
theorem dX3_sore_1 : decode cX3_sore 1 = .ok (.invokestatic 85, 3) := by decide +kernel
theorem dX3_sore_4 : decode cX3_sore 4 = .ok (.ifCond .eq 11, 3) := by decide +kernel
theorem dX3_sore_7 : decode cX3_sore 7 = .ok (.aload_n 0, 1) := by decide +kernel
theorem dX3_sore_8 : decode cX3_sore 8 = .ok (.iconst (-1), 1) := by decide +kernel
theorem dX3_sore_9 : decode cX3_sore 9 = .ok (.invokevirtual 57, 3) := by decide +kernel
theorem dX3_sore_12 : decode cX3_sore 12 = .ok (.goto 11, 3) := by decide +kernel
theorem dX3_sore_15 : decode cX3_sore 15 = .ok (.aload_n 0, 1) := by decide +kernel
theorem dX3_sore_16 : decode cX3_sore 16 = .ok (.getfield 10, 3) := by decide +kernel
theorem dX3_sore_19 : decode cX3_sore 19 = .ok (.iload_n 1, 1) := by decide +kernel
theorem dX3_sore_20 : decode cX3_sore 20 = .ok (.invokevirtual 89, 3) := by decide +kernel
theorem dX3_sore_23 : decode cX3_sore 23 = .ok (.ireturn, 1) := by decide +kernel
theorem dX3_heal_0 : decode cX3_heal 0 = .ok (.iload_n 1, 1) := by decide +kernel
theorem dX3_heal_1 : decode cX3_heal 1 = .ok (.invokestatic 85, 3) := by decide +kernel
theorem dX3_heal_4 : decode cX3_heal 4 = .ok (.ifCond .eq 9, 3) := by decide +kernel
theorem dX3_heal_7 : decode cX3_heal 7 = .ok (.aload_n 0, 1) := by decide +kernel
theorem dX3_heal_8 : decode cX3_heal 8 = .ok (.iconst (-1), 1) := by decide +kernel
theorem dX3_heal_9 : decode cX3_heal 9 = .ok (.invokevirtual 57, 3) := by decide +kernel
theorem dX3_heal_12 : decode cX3_heal 12 = .ok (.ireturn, 1) := by decide +kernel
theorem dX3_heal_13 : decode cX3_heal 13 = .ok (.aload_n 0, 1) := by decide +kernel
theorem dX3_heal_14 : decode cX3_heal 14 = .ok (.getfield 10, 3) := by decide +kernel
theorem dX3_heal_17 : decode cX3_heal 17 = .ok (.iload_n 1, 1) := by decide +kernel
theorem dX3_heal_18 : decode cX3_heal 18 = .ok (.invokevirtual 89, 3) := by decide +kernel
theorem dX3_heal_21 : decode cX3_heal 21 = .ok (.istore_n 2, 1) := by decide +kernel
theorem dX3_heal_22 : decode cX3_heal 22 = .ok (.aload_n 0, 1) := by decide +kernel
theorem dX3_heal_23 : decode cX3_heal 23 = .ok (.getfield 10, 3) := by decide +kernel
theorem dX3_heal_26 : decode cX3_heal 26 = .ok (.iload_n 1, 1) := by decide +kernel
theorem dX3_heal_27 : decode cX3_heal 27 = .ok (.iconst 0, 1) := by decide +kernel
theorem dX3_heal_28 : decode cX3_heal 28 = .ok (.invokevirtual 92, 3) := by decide +kernel
theorem dX3_heal_31 : decode cX3_heal 31 = .ok (.iload_n 2, 1) := by decide +kernel
theorem dX3_heal_32 : decode cX3_heal 32 = .ok (.ireturn, 1) := by decide +kernel
theorem dX3_he_0 : decode cX3_he 0 = .ok (.iload_n 1, 1) := by decide +kernel
theorem dX3_he_1 : decode cX3_he 1 = .ok (.getstatic 96, 3) := by decide +kernel
theorem dX3_he_4 : decode cX3_he 4 = .ok (.arraylength, 1) := by decide +kernel
theorem dX3_he_5 : decode cX3_he 5 = .ok (.invokestatic 75, 3) := by decide +kernel
theorem dX3_he_8 : decode cX3_he 8 = .ok (.ifCond .ne 14, 3) := by decide +kernel
theorem dX3_he_11 : decode cX3_he 11 = .ok (.iload_n 1, 1) := by decide +kernel
theorem dX3_he_12 : decode cX3_he 12 = .ok (.getstatic 99, 3) := by decide +kernel
theorem dX3_he_15 : decode cX3_he 15 = .ok (.arraylength, 1) := by decide +kernel
theorem dX3_he_16 : decode cX3_he 16 = .ok (.invokestatic 75, 3) := by decide +kernel
theorem dX3_he_19 : decode cX3_he 19 = .ok (.ifCond .eq 10, 3) := by decide +kernel
theorem dX3_he_22 : decode cX3_he 22 = .ok (.aload_n 0, 1) := by decide +kernel
theorem dX3_he_23 : decode cX3_he 23 = .ok (.bipush (-2), 2) := by decide +kernel
theorem dX3_he_25 : decode cX3_he 25 = .ok (.invokevirtual 57, 3) := by decide +kernel
theorem dX3_he_28 : decode cX3_he 28 = .ok (.ireturn, 1) := by decide +kernel
theorem dX3_he_29 : decode cX3_he 29 = .ok (.iload_n 2, 1) := by decide +kernel
theorem dX3_he_30 : decode cX3_he 30 = .ok (.getstatic 96, 3) := by decide +kernel
theorem dX3_he_33 : decode cX3_he 33 = .ok (.iload_n 1, 1) := by decide +kernel
theorem dX3_he_34 : decode cX3_he 34 = .ok (.iaload, 1) := by decide +kernel
theorem dX3_he_35 : decode cX3_he 35 = .ok (.if_icmp .ge 10, 3) := by decide +kernel
theorem dX3_he_38 : decode cX3_he 38 = .ok (.aload_n 0, 1) := by decide +kernel
theorem dX3_he_39 : decode cX3_he 39 = .ok (.bipush (-4), 2) := by decide +kernel
theorem dX3_he_41 : decode cX3_he 41 = .ok (.invokevirtual 57, 3) := by decide +kernel
theorem dX3_he_44 : decode cX3_he 44 = .ok (.ireturn, 1) := by decide +kernel
theorem dX3_he_45 : decode cX3_he 45 = .ok (.iload_n 2, 1) := by decide +kernel
theorem dX3_he_46 : decode cX3_he 46 = .ok (.getstatic 99, 3) := by decide +kernel
theorem dX3_he_49 : decode cX3_he 49 = .ok (.iload_n 1, 1) := by decide +kernel
theorem dX3_he_50 : decode cX3_he 50 = .ok (.iaload, 1) := by decide +kernel
theorem dX3_he_51 : decode cX3_he 51 = .ok (.if_icmp .le 10, 3) := by decide +kernel
theorem dX3_he_54 : decode cX3_he 54 = .ok (.aload_n 0, 1) := by decide +kernel
theorem dX3_he_55 : decode cX3_he 55 = .ok (.bipush (-6), 2) := by decide +kernel
theorem dX3_he_57 : decode cX3_he 57 = .ok (.invokevirtual 57, 3) := by decide +kernel
theorem dX3_he_60 : decode cX3_he 60 = .ok (.ireturn, 1) := by decide +kernel
theorem dX3_he_61 : decode cX3_he 61 = .ok (.aload_n 0, 1) := by decide +kernel
theorem dX3_he_62 : decode cX3_he 62 = .ok (.getfield 10, 3) := by decide +kernel
theorem dX3_he_65 : decode cX3_he 65 = .ok (.iload_n 1, 1) := by decide +kernel
theorem dX3_he_66 : decode cX3_he 66 = .ok (.iload_n 2, 1) := by decide +kernel
theorem dX3_he_67 : decode cX3_he 67 = .ok (.invokevirtual 102, 3) := by decide +kernel
theorem dX3_he_70 : decode cX3_he 70 = .ok (.ireturn, 1) := by decide +kernel
theorem dX3_stroke_0 : decode cX3_stroke 0 = .ok (.iload_n 1, 1) := by decide +kernel
theorem dX3_stroke_1 : decode cX3_stroke 1 = .ok (.invokestatic 85, 3) := by decide +kernel
theorem dX3_stroke_4 : decode cX3_stroke 4 = .ok (.ifCond .eq 9, 3) := by decide +kernel
theorem dX3_stroke_7 : decode cX3_stroke 7 = .ok (.aload_n 0, 1) := by decide +kernel
theorem dX3_stroke_8 : decode cX3_stroke 8 = .ok (.iconst (-1), 1) := by decide +kernel
theorem dX3_stroke_9 : decode cX3_stroke 9 = .ok (.invokevirtual 57, 3) := by decide +kernel
theorem dX3_stroke_12 : decode cX3_stroke 12 = .ok (.ireturn, 1) := by decide +kernel
theorem dX3_stroke_13 : decode cX3_stroke 13 = .ok (.aload_n 0, 1) := by decide +kernel
theorem dX3_stroke_14 : decode cX3_stroke 14 = .ok (.getfield 10, 3) := by decide +kernel
theorem dX3_stroke_17 : decode cX3_stroke 17 = .ok (.getfield 106, 3) := by decide +kernel
theorem dX3_stroke_20 : decode cX3_stroke 20 = .ok (.sipush 999, 3) := by decide +kernel
theorem dX3_stroke_23 : decode cX3_stroke 23 = .ok (.if_icmp .lt 10, 3) := by decide +kernel
theorem dX3_stroke_26 : decode cX3_stroke 26 = .ok (.aload_n 0, 1) := by decide +kernel
theorem dX3_stroke_27 : decode cX3_stroke 27 = .ok (.bipush (-6), 2) := by decide +kernel
theorem dX3_stroke_29 : decode cX3_stroke 29 = .ok (.invokevirtual 57, 3) := by decide +kernel
theorem dX3_stroke_32 : decode cX3_stroke 32 = .ok (.ireturn, 1) := by decide +kernel
theorem dX3_stroke_33 : decode cX3_stroke 33 = .ok (.aload_n 0, 1) := by decide +kernel
theorem dX3_stroke_34 : decode cX3_stroke 34 = .ok (.getfield 10, 3) := by decide +kernel
theorem dX3_stroke_37 : decode cX3_stroke 37 = .ok (.iload_n 1, 1) := by decide +kernel
theorem dX3_stroke_38 : decode cX3_stroke 38 = .ok (.invokevirtual 109, 3) := by decide +kernel
theorem dX3_stroke_41 : decode cX3_stroke 41 = .ok (.aload_n 0, 1) := by decide +kernel
theorem dX3_stroke_42 : decode cX3_stroke 42 = .ok (.getfield 10, 3) := by decide +kernel
theorem dX3_stroke_45 : decode cX3_stroke 45 = .ok (.getfield 82, 3) := by decide +kernel
theorem dX3_stroke_48 : decode cX3_stroke 48 = .ok (.ireturn, 1) := by decide +kernel
theorem dX3_far_0 : decode cX3_far 0 = .ok (.iload_n 1, 1) := by decide +kernel
theorem dX3_far_1 : decode cX3_far 1 = .ok (.invokestatic 85, 3) := by decide +kernel
theorem dX3_far_4 : decode cX3_far 4 = .ok (.ifCond .ne 10, 3) := by decide +kernel
theorem dX3_far_7 : decode cX3_far 7 = .ok (.iload_n 2, 1) := by decide +kernel
theorem dX3_far_8 : decode cX3_far 8 = .ok (.invokestatic 85, 3) := by decide +kernel
theorem dX3_far_11 : decode cX3_far 11 = .ok (.ifCond .eq 9, 3) := by decide +kernel
theorem dX3_far_14 : decode cX3_far 14 = .ok (.aload_n 0, 1) := by decide +kernel
theorem dX3_far_15 : decode cX3_far 15 = .ok (.iconst (-1), 1) := by decide +kernel
theorem dX3_far_16 : decode cX3_far 16 = .ok (.invokevirtual 57, 3) := by decide +kernel
theorem dX3_far_19 : decode cX3_far 19 = .ok (.ireturn, 1) := by decide +kernel
theorem dX3_far_20 : decode cX3_far 20 = .ok (.iload_n 1, 1) := by decide +kernel
theorem dX3_far_21 : decode cX3_far 21 = .ok (.iload_n 2, 1) := by decide +kernel
theorem dX3_far_22 : decode cX3_far 22 = .ok (.invokestatic 113, 3) := by decide +kernel
theorem dX3_far_25 : decode cX3_far 25 = .ok (.ireturn, 1) := by decide +kernel
theorem dX3_say_0 : decode cX3_say 0 = .ok (.aload_n 0, 1) := by decide +kernel
theorem dX3_say_1 : decode cX3_say 1 = .ok (.getfield 10, 3) := by decide +kernel
theorem dX3_say_4 : decode cX3_say 4 = .ok (.invokevirtual 116, 3) := by decide +kernel
theorem dX3_say_7 : decode cX3_say 7 = .ok (.ireturn, 1) := by decide +kernel
theorem dX3_word_0 : decode cX3_word 0 = .ok (.iload_n 1, 1) := by decide +kernel
theorem dX3_word_1 : decode cX3_word 1 = .ok (.invokestatic 85, 3) := by decide +kernel
theorem dX3_word_4 : decode cX3_word 4 = .ok (.ifCond .ne 10, 3) := by decide +kernel
theorem dX3_word_7 : decode cX3_word 7 = .ok (.iload_n 2, 1) := by decide +kernel
theorem dX3_word_8 : decode cX3_word 8 = .ok (.invokestatic 85, 3) := by decide +kernel
theorem dX3_word_11 : decode cX3_word 11 = .ok (.ifCond .eq 9, 3) := by decide +kernel
theorem dX3_word_14 : decode cX3_word 14 = .ok (.aload_n 0, 1) := by decide +kernel
theorem dX3_word_15 : decode cX3_word 15 = .ok (.iconst (-1), 1) := by decide +kernel
theorem dX3_word_16 : decode cX3_word 16 = .ok (.invokevirtual 57, 3) := by decide +kernel
theorem dX3_word_19 : decode cX3_word 19 = .ok (.ireturn, 1) := by decide +kernel
theorem dX3_word_20 : decode cX3_word 20 = .ok (.iload_n 1, 1) := by decide +kernel
theorem dX3_word_21 : decode cX3_word 21 = .ok (.iload_n 2, 1) := by decide +kernel
theorem dX3_word_22 : decode cX3_word 22 = .ok (.aload_n 0, 1) := by decide +kernel
theorem dX3_word_23 : decode cX3_word 23 = .ok (.getfield 10, 3) := by decide +kernel
theorem dX3_word_26 : decode cX3_word 26 = .ok (.getfield 120, 3) := by decide +kernel
theorem dX3_word_29 : decode cX3_word 29 = .ok (.aload_n 0, 1) := by decide +kernel
theorem dX3_word_30 : decode cX3_word 30 = .ok (.getfield 10, 3) := by decide +kernel
theorem dX3_word_33 : decode cX3_word 33 = .ok (.getfield 123, 3) := by decide +kernel
theorem dX3_word_36 : decode cX3_word 36 = .ok (.invokestatic 126, 3) := by decide +kernel
theorem dX3_word_39 : decode cX3_word 39 = .ok (.ireturn, 1) := by decide +kernel
theorem dX3_behind_0 : decode cX3_behind 0 = .ok (.iload_n 1, 1) := by decide +kernel
theorem dX3_behind_1 : decode cX3_behind 1 = .ok (.invokestatic 85, 3) := by decide +kernel
theorem dX3_behind_4 : decode cX3_behind 4 = .ok (.ifCond .eq 9, 3) := by decide +kernel
theorem dX3_behind_7 : decode cX3_behind 7 = .ok (.aload_n 0, 1) := by decide +kernel
theorem dX3_behind_8 : decode cX3_behind 8 = .ok (.iconst (-1), 1) := by decide +kernel
theorem dX3_behind_9 : decode cX3_behind 9 = .ok (.invokevirtual 57, 3) := by decide +kernel
theorem dX3_behind_12 : decode cX3_behind 12 = .ok (.ireturn, 1) := by decide +kernel
theorem dX3_behind_13 : decode cX3_behind 13 = .ok (.iload_n 2, 1) := by decide +kernel
theorem dX3_behind_14 : decode cX3_behind 14 = .ok (.ifCond .ge 10, 3) := by decide +kernel
theorem dX3_behind_17 : decode cX3_behind 17 = .ok (.aload_n 0, 1) := by decide +kernel
theorem dX3_behind_18 : decode cX3_behind 18 = .ok (.bipush (-4), 2) := by decide +kernel
theorem dX3_behind_20 : decode cX3_behind 20 = .ok (.invokevirtual 57, 3) := by decide +kernel
theorem dX3_behind_23 : decode cX3_behind 23 = .ok (.ireturn, 1) := by decide +kernel
theorem dX3_behind_24 : decode cX3_behind 24 = .ok (.iload_n 2, 1) := by decide +kernel
theorem dX3_behind_25 : decode cX3_behind 25 = .ok (.bipush 20, 2) := by decide +kernel
theorem dX3_behind_27 : decode cX3_behind 27 = .ok (.if_icmp .le 10, 3) := by decide +kernel
theorem dX3_behind_30 : decode cX3_behind 30 = .ok (.aload_n 0, 1) := by decide +kernel
theorem dX3_behind_31 : decode cX3_behind 31 = .ok (.bipush (-6), 2) := by decide +kernel
theorem dX3_behind_33 : decode cX3_behind 33 = .ok (.invokevirtual 57, 3) := by decide +kernel
theorem dX3_behind_36 : decode cX3_behind 36 = .ok (.ireturn, 1) := by decide +kernel
theorem dX3_behind_37 : decode cX3_behind 37 = .ok (.aload_n 0, 1) := by decide +kernel
theorem dX3_behind_38 : decode cX3_behind 38 = .ok (.getfield 19, 3) := by decide +kernel
theorem dX3_behind_41 : decode cX3_behind 41 = .ok (.aload_n 0, 1) := by decide +kernel
theorem dX3_behind_42 : decode cX3_behind 42 = .ok (.getfield 10, 3) := by decide +kernel
theorem dX3_behind_45 : decode cX3_behind 45 = .ok (.invokevirtual 67, 3) := by decide +kernel
theorem dX3_behind_48 : decode cX3_behind 48 = .ok (.iconst 0, 1) := by decide +kernel
theorem dX3_behind_49 : decode cX3_behind 49 = .ok (.istore_n 3, 1) := by decide +kernel
theorem dX3_behind_50 : decode cX3_behind 50 = .ok (.iload_n 3, 1) := by decide +kernel
theorem dX3_behind_51 : decode cX3_behind 51 = .ok (.iload_n 2, 1) := by decide +kernel
theorem dX3_behind_52 : decode cX3_behind 52 = .ok (.if_icmp .ge 17, 3) := by decide +kernel
theorem dX3_behind_55 : decode cX3_behind 55 = .ok (.aload_n 0, 1) := by decide +kernel
theorem dX3_behind_56 : decode cX3_behind 56 = .ok (.getfield 19, 3) := by decide +kernel
theorem dX3_behind_59 : decode cX3_behind 59 = .ok (.iload_n 1, 1) := by decide +kernel
theorem dX3_behind_60 : decode cX3_behind 60 = .ok (.invokevirtual 109, 3) := by decide +kernel
theorem dX3_behind_63 : decode cX3_behind 63 = .ok (.iinc 3 1, 3) := by decide +kernel
theorem dX3_behind_66 : decode cX3_behind 66 = .ok (.goto (-16), 3) := by decide +kernel
theorem dX3_behind_69 : decode cX3_behind 69 = .ok (.aload_n 0, 1) := by decide +kernel
theorem dX3_behind_70 : decode cX3_behind 70 = .ok (.getfield 19, 3) := by decide +kernel
theorem dX3_behind_73 : decode cX3_behind 73 = .ok (.getfield 82, 3) := by decide +kernel
theorem dX3_behind_76 : decode cX3_behind 76 = .ok (.ireturn, 1) := by decide +kernel
theorem dX3_reads_0 : decode cX3_reads 0 = .ok (.iload_n 1, 1) := by decide +kernel
theorem dX3_reads_1 : decode cX3_reads 1 = .ok (.bipush 6, 2) := by decide +kernel
theorem dX3_reads_3 : decode cX3_reads 3 = .ok (.invokestatic 75, 3) := by decide +kernel
theorem dX3_reads_6 : decode cX3_reads 6 = .ok (.ifCond .ne 12, 3) := by decide +kernel
theorem dX3_reads_9 : decode cX3_reads 9 = .ok (.iload_n 2, 1) := by decide +kernel
theorem dX3_reads_10 : decode cX3_reads 10 = .ok (.bipush 9, 2) := by decide +kernel
theorem dX3_reads_12 : decode cX3_reads 12 = .ok (.invokestatic 75, 3) := by decide +kernel
theorem dX3_reads_15 : decode cX3_reads 15 = .ok (.ifCond .eq 10, 3) := by decide +kernel
theorem dX3_reads_18 : decode cX3_reads 18 = .ok (.aload_n 0, 1) := by decide +kernel
theorem dX3_reads_19 : decode cX3_reads 19 = .ok (.bipush (-2), 2) := by decide +kernel
theorem dX3_reads_21 : decode cX3_reads 21 = .ok (.invokevirtual 57, 3) := by decide +kernel
theorem dX3_reads_24 : decode cX3_reads 24 = .ok (.ireturn, 1) := by decide +kernel
theorem dX3_reads_25 : decode cX3_reads 25 = .ok (.iload_n 3, 1) := by decide +kernel
theorem dX3_reads_26 : decode cX3_reads 26 = .ok (.ifCond .ge 10, 3) := by decide +kernel
theorem dX3_reads_29 : decode cX3_reads 29 = .ok (.aload_n 0, 1) := by decide +kernel
theorem dX3_reads_30 : decode cX3_reads 30 = .ok (.bipush (-4), 2) := by decide +kernel
theorem dX3_reads_32 : decode cX3_reads 32 = .ok (.invokevirtual 57, 3) := by decide +kernel
theorem dX3_reads_35 : decode cX3_reads 35 = .ok (.ireturn, 1) := by decide +kernel
theorem dX3_reads_36 : decode cX3_reads 36 = .ok (.aload_n 0, 1) := by decide +kernel
theorem dX3_reads_37 : decode cX3_reads 37 = .ok (.getfield 10, 3) := by decide +kernel
theorem dX3_reads_40 : decode cX3_reads 40 = .ok (.iload_n 1, 1) := by decide +kernel
theorem dX3_reads_41 : decode cX3_reads 41 = .ok (.iload_n 2, 1) := by decide +kernel
theorem dX3_reads_42 : decode cX3_reads 42 = .ok (.iload_n 3, 1) := by decide +kernel
theorem dX3_reads_43 : decode cX3_reads 43 = .ok (.invokevirtual 130, 3) := by decide +kernel
theorem dX3_reads_46 : decode cX3_reads 46 = .ok (.ireturn, 1) := by decide +kernel
theorem dX3_follow_0 : decode cX3_follow 0 = .ok (.iload_n 1, 1) := by decide +kernel
theorem dX3_follow_1 : decode cX3_follow 1 = .ok (.bipush 6, 2) := by decide +kernel
theorem dX3_follow_3 : decode cX3_follow 3 = .ok (.invokestatic 75, 3) := by decide +kernel
theorem dX3_follow_6 : decode cX3_follow 6 = .ok (.ifCond .eq 10, 3) := by decide +kernel
theorem dX3_follow_9 : decode cX3_follow 9 = .ok (.aload_n 0, 1) := by decide +kernel
theorem dX3_follow_10 : decode cX3_follow 10 = .ok (.bipush (-2), 2) := by decide +kernel
theorem dX3_follow_12 : decode cX3_follow 12 = .ok (.invokevirtual 57, 3) := by decide +kernel
theorem dX3_follow_15 : decode cX3_follow 15 = .ok (.ireturn, 1) := by decide +kernel
theorem dX3_follow_16 : decode cX3_follow 16 = .ok (.aload_n 0, 1) := by decide +kernel
theorem dX3_follow_17 : decode cX3_follow 17 = .ok (.getfield 19, 3) := by decide +kernel
theorem dX3_follow_20 : decode cX3_follow 20 = .ok (.aload_n 0, 1) := by decide +kernel
theorem dX3_follow_21 : decode cX3_follow 21 = .ok (.getfield 10, 3) := by decide +kernel
theorem dX3_follow_24 : decode cX3_follow 24 = .ok (.invokevirtual 67, 3) := by decide +kernel
theorem dX3_follow_27 : decode cX3_follow 27 = .ok (.aload_n 0, 1) := by decide +kernel
theorem dX3_follow_28 : decode cX3_follow 28 = .ok (.getfield 19, 3) := by decide +kernel
theorem dX3_follow_31 : decode cX3_follow 31 = .ok (.iload_n 1, 1) := by decide +kernel
theorem dX3_follow_32 : decode cX3_follow 32 = .ok (.invokevirtual 134, 3) := by decide +kernel
theorem dX3_follow_35 : decode cX3_follow 35 = .ok (.istore_n 2, 1) := by decide +kernel
theorem dX3_follow_36 : decode cX3_follow 36 = .ok (.iload_n 2, 1) := by decide +kernel
theorem dX3_follow_37 : decode cX3_follow 37 = .ok (.bipush 40, 2) := by decide +kernel
theorem dX3_follow_39 : decode cX3_follow 39 = .ok (.if_icmp .le 8, 3) := by decide +kernel
theorem dX3_follow_42 : decode cX3_follow 42 = .ok (.bipush (-9), 2) := by decide +kernel
theorem dX3_follow_44 : decode cX3_follow 44 = .ok (.goto 4, 3) := by decide +kernel
theorem dX3_follow_47 : decode cX3_follow 47 = .ok (.iload_n 2, 1) := by decide +kernel
theorem dX3_follow_48 : decode cX3_follow 48 = .ok (.ireturn, 1) := by decide +kernel
theorem dX3_mean_0 : decode cX3_mean 0 = .ok (.iload_n 1, 1) := by decide +kernel
theorem dX3_mean_1 : decode cX3_mean 1 = .ok (.bipush 6, 2) := by decide +kernel
theorem dX3_mean_3 : decode cX3_mean 3 = .ok (.invokestatic 75, 3) := by decide +kernel
theorem dX3_mean_6 : decode cX3_mean 6 = .ok (.ifCond .ne 11, 3) := by decide +kernel
theorem dX3_mean_9 : decode cX3_mean 9 = .ok (.iload_n 2, 1) := by decide +kernel
theorem dX3_mean_10 : decode cX3_mean 10 = .ok (.iconst 2, 1) := by decide +kernel
theorem dX3_mean_11 : decode cX3_mean 11 = .ok (.invokestatic 75, 3) := by decide +kernel
theorem dX3_mean_14 : decode cX3_mean 14 = .ok (.ifCond .eq 10, 3) := by decide +kernel
theorem dX3_mean_17 : decode cX3_mean 17 = .ok (.aload_n 0, 1) := by decide +kernel
theorem dX3_mean_18 : decode cX3_mean 18 = .ok (.bipush (-2), 2) := by decide +kernel
theorem dX3_mean_20 : decode cX3_mean 20 = .ok (.invokevirtual 137, 3) := by decide +kernel
theorem dX3_mean_23 : decode cX3_mean 23 = .ok (.lreturn, 1) := by decide +kernel
theorem dX3_mean_24 : decode cX3_mean 24 = .ok (.lconst 0, 1) := by decide +kernel
theorem dX3_mean_25 : decode cX3_mean 25 = .ok (.lstore_n 3, 1) := by decide +kernel
theorem dX3_mean_26 : decode cX3_mean 26 = .ok (.iconst 0, 1) := by decide +kernel
theorem dX3_mean_27 : decode cX3_mean 27 = .ok (.istore 5, 2) := by decide +kernel
theorem dX3_mean_29 : decode cX3_mean 29 = .ok (.iload 5, 2) := by decide +kernel
theorem dX3_mean_31 : decode cX3_mean 31 = .ok (.bipush 24, 2) := by decide +kernel
theorem dX3_mean_33 : decode cX3_mean 33 = .ok (.if_icmp .ge 46, 3) := by decide +kernel
theorem dX3_mean_36 : decode cX3_mean 36 = .ok (.aload_n 0, 1) := by decide +kernel
theorem dX3_mean_37 : decode cX3_mean 37 = .ok (.getfield 19, 3) := by decide +kernel
theorem dX3_mean_40 : decode cX3_mean 40 = .ok (.aload_n 0, 1) := by decide +kernel
theorem dX3_mean_41 : decode cX3_mean 41 = .ok (.getfield 10, 3) := by decide +kernel
theorem dX3_mean_44 : decode cX3_mean 44 = .ok (.invokevirtual 67, 3) := by decide +kernel
theorem dX3_mean_47 : decode cX3_mean 47 = .ok (.aload_n 0, 1) := by decide +kernel
theorem dX3_mean_48 : decode cX3_mean 48 = .ok (.getfield 19, 3) := by decide +kernel
theorem dX3_mean_51 : decode cX3_mean 51 = .ok (.iload 5, 2) := by decide +kernel
theorem dX3_mean_53 : decode cX3_mean 53 = .ok (.putfield 82, 3) := by decide +kernel
theorem dX3_mean_56 : decode cX3_mean 56 = .ok (.lload_n 3, 1) := by decide +kernel
theorem dX3_mean_57 : decode cX3_mean 57 = .ok (.bipush 40, 2) := by decide +kernel
theorem dX3_mean_59 : decode cX3_mean 59 = .ok (.aload_n 0, 1) := by decide +kernel
theorem dX3_mean_60 : decode cX3_mean 60 = .ok (.getfield 19, 3) := by decide +kernel
theorem dX3_mean_63 : decode cX3_mean 63 = .ok (.iload_n 1, 1) := by decide +kernel
theorem dX3_mean_64 : decode cX3_mean 64 = .ok (.invokevirtual 134, 3) := by decide +kernel
theorem dX3_mean_67 : decode cX3_mean 67 = .ok (.invokestatic 141, 3) := by decide +kernel
theorem dX3_mean_70 : decode cX3_mean 70 = .ok (.i2l, 1) := by decide +kernel
theorem dX3_mean_71 : decode cX3_mean 71 = .ok (.ladd, 1) := by decide +kernel
theorem dX3_mean_72 : decode cX3_mean 72 = .ok (.lstore_n 3, 1) := by decide +kernel
theorem dX3_mean_73 : decode cX3_mean 73 = .ok (.iinc 5 1, 3) := by decide +kernel
theorem dX3_mean_76 : decode cX3_mean 76 = .ok (.goto (-47), 3) := by decide +kernel
theorem dX3_mean_79 : decode cX3_mean 79 = .ok (.lload_n 3, 1) := by decide +kernel
theorem dX3_mean_80 : decode cX3_mean 80 = .ok (.ldc2_w 146, 3) := by decide +kernel
theorem dX3_mean_83 : decode cX3_mean 83 = .ok (.iload_n 2, 1) := by decide +kernel
theorem dX3_mean_84 : decode cX3_mean 84 = .ok (.invokestatic 148, 3) := by decide +kernel
theorem dX3_mean_87 : decode cX3_mean 87 = .ok (.lreturn, 1) := by decide +kernel
theorem dX3_hardest_0 : decode cX3_hardest 0 = .ok (.iload_n 1, 1) := by decide +kernel
theorem dX3_hardest_1 : decode cX3_hardest 1 = .ok (.bipush 6, 2) := by decide +kernel
theorem dX3_hardest_3 : decode cX3_hardest 3 = .ok (.invokestatic 75, 3) := by decide +kernel
theorem dX3_hardest_6 : decode cX3_hardest 6 = .ok (.ifCond .eq 10, 3) := by decide +kernel
theorem dX3_hardest_9 : decode cX3_hardest 9 = .ok (.aload_n 0, 1) := by decide +kernel
theorem dX3_hardest_10 : decode cX3_hardest 10 = .ok (.bipush (-2), 2) := by decide +kernel
theorem dX3_hardest_12 : decode cX3_hardest 12 = .ok (.invokevirtual 57, 3) := by decide +kernel
theorem dX3_hardest_15 : decode cX3_hardest 15 = .ok (.ireturn, 1) := by decide +kernel
theorem dX3_hardest_16 : decode cX3_hardest 16 = .ok (.iconst 0, 1) := by decide +kernel
theorem dX3_hardest_17 : decode cX3_hardest 17 = .ok (.istore_n 2, 1) := by decide +kernel
theorem dX3_hardest_18 : decode cX3_hardest 18 = .ok (.iconst (-1), 1) := by decide +kernel
theorem dX3_hardest_19 : decode cX3_hardest 19 = .ok (.istore_n 3, 1) := by decide +kernel
theorem dX3_hardest_20 : decode cX3_hardest 20 = .ok (.iconst 0, 1) := by decide +kernel
theorem dX3_hardest_21 : decode cX3_hardest 21 = .ok (.istore 4, 2) := by decide +kernel
theorem dX3_hardest_23 : decode cX3_hardest 23 = .ok (.iload 4, 2) := by decide +kernel
theorem dX3_hardest_25 : decode cX3_hardest 25 = .ok (.bipush 24, 2) := by decide +kernel
theorem dX3_hardest_27 : decode cX3_hardest 27 = .ok (.if_icmp .ge 56, 3) := by decide +kernel
theorem dX3_hardest_30 : decode cX3_hardest 30 = .ok (.aload_n 0, 1) := by decide +kernel
theorem dX3_hardest_31 : decode cX3_hardest 31 = .ok (.getfield 19, 3) := by decide +kernel
theorem dX3_hardest_34 : decode cX3_hardest 34 = .ok (.aload_n 0, 1) := by decide +kernel
theorem dX3_hardest_35 : decode cX3_hardest 35 = .ok (.getfield 10, 3) := by decide +kernel
theorem dX3_hardest_38 : decode cX3_hardest 38 = .ok (.invokevirtual 67, 3) := by decide +kernel
theorem dX3_hardest_41 : decode cX3_hardest 41 = .ok (.aload_n 0, 1) := by decide +kernel
theorem dX3_hardest_42 : decode cX3_hardest 42 = .ok (.getfield 19, 3) := by decide +kernel
theorem dX3_hardest_45 : decode cX3_hardest 45 = .ok (.iload 4, 2) := by decide +kernel
theorem dX3_hardest_47 : decode cX3_hardest 47 = .ok (.putfield 82, 3) := by decide +kernel
theorem dX3_hardest_50 : decode cX3_hardest 50 = .ok (.bipush 40, 2) := by decide +kernel
theorem dX3_hardest_52 : decode cX3_hardest 52 = .ok (.aload_n 0, 1) := by decide +kernel
theorem dX3_hardest_53 : decode cX3_hardest 53 = .ok (.getfield 19, 3) := by decide +kernel
theorem dX3_hardest_56 : decode cX3_hardest 56 = .ok (.iload_n 1, 1) := by decide +kernel
theorem dX3_hardest_57 : decode cX3_hardest 57 = .ok (.invokevirtual 134, 3) := by decide +kernel
theorem dX3_hardest_60 : decode cX3_hardest 60 = .ok (.invokestatic 141, 3) := by decide +kernel
theorem dX3_hardest_63 : decode cX3_hardest 63 = .ok (.istore 5, 2) := by decide +kernel
theorem dX3_hardest_65 : decode cX3_hardest 65 = .ok (.iload 5, 2) := by decide +kernel
theorem dX3_hardest_67 : decode cX3_hardest 67 = .ok (.iload_n 3, 1) := by decide +kernel
theorem dX3_hardest_68 : decode cX3_hardest 68 = .ok (.if_icmp .le 9, 3) := by decide +kernel
theorem dX3_hardest_71 : decode cX3_hardest 71 = .ok (.iload 5, 2) := by decide +kernel
theorem dX3_hardest_73 : decode cX3_hardest 73 = .ok (.istore_n 3, 1) := by decide +kernel
theorem dX3_hardest_74 : decode cX3_hardest 74 = .ok (.iload 4, 2) := by decide +kernel
theorem dX3_hardest_76 : decode cX3_hardest 76 = .ok (.istore_n 2, 1) := by decide +kernel
theorem dX3_hardest_77 : decode cX3_hardest 77 = .ok (.iinc 4 1, 3) := by decide +kernel
theorem dX3_hardest_80 : decode cX3_hardest 80 = .ok (.goto (-57), 3) := by decide +kernel
theorem dX3_hardest_83 : decode cX3_hardest 83 = .ok (.iload_n 2, 1) := by decide +kernel
theorem dX3_hardest_84 : decode cX3_hardest 84 = .ok (.ireturn, 1) := by decide +kernel
theorem dX3_speak_0 : decode cX3_speak 0 = .ok (.iload_n 1, 1) := by decide +kernel
theorem dX3_speak_1 : decode cX3_speak 1 = .ok (.bipush 6, 2) := by decide +kernel
theorem dX3_speak_3 : decode cX3_speak 3 = .ok (.invokestatic 75, 3) := by decide +kernel
theorem dX3_speak_6 : decode cX3_speak 6 = .ok (.ifCond .ne 11, 3) := by decide +kernel
theorem dX3_speak_9 : decode cX3_speak 9 = .ok (.iload_n 2, 1) := by decide +kernel
theorem dX3_speak_10 : decode cX3_speak 10 = .ok (.iconst 2, 1) := by decide +kernel
theorem dX3_speak_11 : decode cX3_speak 11 = .ok (.invokestatic 75, 3) := by decide +kernel
theorem dX3_speak_14 : decode cX3_speak 14 = .ok (.ifCond .eq 10, 3) := by decide +kernel
theorem dX3_speak_17 : decode cX3_speak 17 = .ok (.aload_n 0, 1) := by decide +kernel
theorem dX3_speak_18 : decode cX3_speak 18 = .ok (.bipush (-2), 2) := by decide +kernel
theorem dX3_speak_20 : decode cX3_speak 20 = .ok (.invokevirtual 57, 3) := by decide +kernel
theorem dX3_speak_23 : decode cX3_speak 23 = .ok (.ireturn, 1) := by decide +kernel
theorem dX3_speak_24 : decode cX3_speak 24 = .ok (.iconst 0, 1) := by decide +kernel
theorem dX3_speak_25 : decode cX3_speak 25 = .ok (.istore_n 3, 1) := by decide +kernel
theorem dX3_speak_26 : decode cX3_speak 26 = .ok (.bipush 42, 2) := by decide +kernel
theorem dX3_speak_28 : decode cX3_speak 28 = .ok (.istore 4, 2) := by decide +kernel
theorem dX3_speak_30 : decode cX3_speak 30 = .ok (.iconst 1, 1) := by decide +kernel
theorem dX3_speak_31 : decode cX3_speak 31 = .ok (.istore 5, 2) := by decide +kernel
theorem dX3_speak_33 : decode cX3_speak 33 = .ok (.iload 5, 2) := by decide +kernel
theorem dX3_speak_35 : decode cX3_speak 35 = .ok (.iconst 3, 1) := by decide +kernel
theorem dX3_speak_36 : decode cX3_speak 36 = .ok (.if_icmp .gt 83, 3) := by decide +kernel
theorem dX3_speak_39 : decode cX3_speak 39 = .ok (.iconst 2, 1) := by decide +kernel
theorem dX3_speak_40 : decode cX3_speak 40 = .ok (.istore 6, 2) := by decide +kernel
theorem dX3_speak_42 : decode cX3_speak 42 = .ok (.iload 6, 2) := by decide +kernel
theorem dX3_speak_44 : decode cX3_speak 44 = .ok (.iconst 5, 1) := by decide +kernel
theorem dX3_speak_45 : decode cX3_speak 45 = .ok (.if_icmp .gt 68, 3) := by decide +kernel
theorem dX3_speak_48 : decode cX3_speak 48 = .ok (.aload_n 0, 1) := by decide +kernel
theorem dX3_speak_49 : decode cX3_speak 49 = .ok (.getfield 19, 3) := by decide +kernel
theorem dX3_speak_52 : decode cX3_speak 52 = .ok (.aload_n 0, 1) := by decide +kernel
theorem dX3_speak_53 : decode cX3_speak 53 = .ok (.getfield 10, 3) := by decide +kernel
theorem dX3_speak_56 : decode cX3_speak 56 = .ok (.invokevirtual 67, 3) := by decide +kernel
theorem dX3_speak_59 : decode cX3_speak 59 = .ok (.aload_n 0, 1) := by decide +kernel
theorem dX3_speak_60 : decode cX3_speak 60 = .ok (.getfield 19, 3) := by decide +kernel
theorem dX3_speak_63 : decode cX3_speak 63 = .ok (.iload 5, 2) := by decide +kernel
theorem dX3_speak_65 : decode cX3_speak 65 = .ok (.putfield 152, 3) := by decide +kernel
theorem dX3_speak_68 : decode cX3_speak 68 = .ok (.aload_n 0, 1) := by decide +kernel
theorem dX3_speak_69 : decode cX3_speak 69 = .ok (.getfield 19, 3) := by decide +kernel
theorem dX3_speak_72 : decode cX3_speak 72 = .ok (.iload 6, 2) := by decide +kernel
theorem dX3_speak_74 : decode cX3_speak 74 = .ok (.putfield 123, 3) := by decide +kernel
theorem dX3_speak_77 : decode cX3_speak 77 = .ok (.aload_n 0, 1) := by decide +kernel
theorem dX3_speak_78 : decode cX3_speak 78 = .ok (.getfield 19, 3) := by decide +kernel
theorem dX3_speak_81 : decode cX3_speak 81 = .ok (.iload_n 1, 1) := by decide +kernel
theorem dX3_speak_82 : decode cX3_speak 82 = .ok (.invokevirtual 134, 3) := by decide +kernel
theorem dX3_speak_85 : decode cX3_speak 85 = .ok (.istore 7, 2) := by decide +kernel
theorem dX3_speak_87 : decode cX3_speak 87 = .ok (.iload 7, 2) := by decide +kernel
theorem dX3_speak_89 : decode cX3_speak 89 = .ok (.iload 4, 2) := by decide +kernel
theorem dX3_speak_91 : decode cX3_speak 91 = .ok (.if_icmp .ge 16, 3) := by decide +kernel
theorem dX3_speak_94 : decode cX3_speak 94 = .ok (.iload 7, 2) := by decide +kernel
theorem dX3_speak_96 : decode cX3_speak 96 = .ok (.istore 4, 2) := by decide +kernel
theorem dX3_speak_98 : decode cX3_speak 98 = .ok (.bipush 10, 2) := by decide +kernel
theorem dX3_speak_100 : decode cX3_speak 100 = .ok (.iload 5, 2) := by decide +kernel
theorem dX3_speak_102 : decode cX3_speak 102 = .ok (.imul, 1) := by decide +kernel
theorem dX3_speak_103 : decode cX3_speak 103 = .ok (.iload 6, 2) := by decide +kernel
theorem dX3_speak_105 : decode cX3_speak 105 = .ok (.iadd, 1) := by decide +kernel
theorem dX3_speak_106 : decode cX3_speak 106 = .ok (.istore_n 3, 1) := by decide +kernel
theorem dX3_speak_107 : decode cX3_speak 107 = .ok (.iinc 6 1, 3) := by decide +kernel
theorem dX3_speak_110 : decode cX3_speak 110 = .ok (.goto (-68), 3) := by decide +kernel
theorem dX3_speak_113 : decode cX3_speak 113 = .ok (.iinc 5 1, 3) := by decide +kernel
theorem dX3_speak_116 : decode cX3_speak 116 = .ok (.goto (-83), 3) := by decide +kernel
theorem dX3_speak_119 : decode cX3_speak 119 = .ok (.iload_n 2, 1) := by decide +kernel
theorem dX3_speak_120 : decode cX3_speak 120 = .ok (.ifCond .ne 7, 3) := by decide +kernel
theorem dX3_speak_123 : decode cX3_speak 123 = .ok (.iload_n 3, 1) := by decide +kernel
theorem dX3_speak_124 : decode cX3_speak 124 = .ok (.goto 5, 3) := by decide +kernel
theorem dX3_speak_127 : decode cX3_speak 127 = .ok (.iload 4, 2) := by decide +kernel
theorem dX3_speak_129 : decode cX3_speak 129 = .ok (.ireturn, 1) := by decide +kernel
theorem dX3_saying_0 : decode cX3_saying 0 = .ok (.iload_n 1, 1) := by decide +kernel
theorem dX3_saying_1 : decode cX3_saying 1 = .ok (.invokestatic 85, 3) := by decide +kernel
theorem dX3_saying_4 : decode cX3_saying 4 = .ok (.ifCond .eq 9, 3) := by decide +kernel
theorem dX3_saying_7 : decode cX3_saying 7 = .ok (.aload_n 0, 1) := by decide +kernel
theorem dX3_saying_8 : decode cX3_saying 8 = .ok (.iconst (-1), 1) := by decide +kernel
theorem dX3_saying_9 : decode cX3_saying 9 = .ok (.invokevirtual 57, 3) := by decide +kernel
theorem dX3_saying_12 : decode cX3_saying 12 = .ok (.ireturn, 1) := by decide +kernel
theorem dX3_saying_13 : decode cX3_saying 13 = .ok (.iload_n 2, 1) := by decide +kernel
theorem dX3_saying_14 : decode cX3_saying 14 = .ok (.bipush 9, 2) := by decide +kernel
theorem dX3_saying_16 : decode cX3_saying 16 = .ok (.invokestatic 75, 3) := by decide +kernel
theorem dX3_saying_19 : decode cX3_saying 19 = .ok (.ifCond .eq 10, 3) := by decide +kernel
theorem dX3_saying_22 : decode cX3_saying 22 = .ok (.aload_n 0, 1) := by decide +kernel
theorem dX3_saying_23 : decode cX3_saying 23 = .ok (.bipush (-2), 2) := by decide +kernel
theorem dX3_saying_25 : decode cX3_saying 25 = .ok (.invokevirtual 57, 3) := by decide +kernel
theorem dX3_saying_28 : decode cX3_saying 28 = .ok (.ireturn, 1) := by decide +kernel
theorem dX3_saying_29 : decode cX3_saying 29 = .ok (.aload_n 0, 1) := by decide +kernel
theorem dX3_saying_30 : decode cX3_saying 30 = .ok (.getfield 35, 3) := by decide +kernel
theorem dX3_saying_33 : decode cX3_saying 33 = .ok (.getfield 155, 3) := by decide +kernel
theorem dX3_saying_36 : decode cX3_saying 36 = .ok (.bipush 8, 2) := by decide +kernel
theorem dX3_saying_38 : decode cX3_saying 38 = .ok (.if_icmp .lt 10, 3) := by decide +kernel
theorem dX3_saying_41 : decode cX3_saying 41 = .ok (.aload_n 0, 1) := by decide +kernel
theorem dX3_saying_42 : decode cX3_saying 42 = .ok (.bipush (-6), 2) := by decide +kernel
theorem dX3_saying_44 : decode cX3_saying 44 = .ok (.invokevirtual 57, 3) := by decide +kernel
theorem dX3_saying_47 : decode cX3_saying 47 = .ok (.ireturn, 1) := by decide +kernel
theorem dX3_saying_48 : decode cX3_saying 48 = .ok (.aload_n 0, 1) := by decide +kernel
theorem dX3_saying_49 : decode cX3_saying 49 = .ok (.getfield 35, 3) := by decide +kernel
theorem dX3_saying_52 : decode cX3_saying 52 = .ok (.iload_n 1, 1) := by decide +kernel
theorem dX3_saying_53 : decode cX3_saying 53 = .ok (.iload_n 2, 1) := by decide +kernel
theorem dX3_saying_54 : decode cX3_saying 54 = .ok (.invokevirtual 156, 3) := by decide +kernel
theorem dX3_saying_57 : decode cX3_saying 57 = .ok (.ireturn, 1) := by decide +kernel
theorem dX3_hush_0 : decode cX3_hush 0 = .ok (.aload_n 0, 1) := by decide +kernel
theorem dX3_hush_1 : decode cX3_hush 1 = .ok (.getfield 35, 3) := by decide +kernel
theorem dX3_hush_4 : decode cX3_hush 4 = .ok (.getfield 155, 3) := by decide +kernel
theorem dX3_hush_7 : decode cX3_hush 7 = .ok (.istore_n 1, 1) := by decide +kernel
theorem dX3_hush_8 : decode cX3_hush 8 = .ok (.aload_n 0, 1) := by decide +kernel
theorem dX3_hush_9 : decode cX3_hush 9 = .ok (.getfield 35, 3) := by decide +kernel
theorem dX3_hush_12 : decode cX3_hush 12 = .ok (.iconst 0, 1) := by decide +kernel
theorem dX3_hush_13 : decode cX3_hush 13 = .ok (.putfield 155, 3) := by decide +kernel
theorem dX3_hush_16 : decode cX3_hush 16 = .ok (.iload_n 1, 1) := by decide +kernel
theorem dX3_hush_17 : decode cX3_hush 17 = .ok (.ireturn, 1) := by decide +kernel
theorem dX3_may_0 : decode cX3_may 0 = .ok (.iload_n 1, 1) := by decide +kernel
theorem dX3_may_1 : decode cX3_may 1 = .ok (.iconst 2, 1) := by decide +kernel
theorem dX3_may_2 : decode cX3_may 2 = .ok (.invokestatic 75, 3) := by decide +kernel
theorem dX3_may_5 : decode cX3_may 5 = .ok (.ifCond .eq 10, 3) := by decide +kernel
theorem dX3_may_8 : decode cX3_may 8 = .ok (.aload_n 0, 1) := by decide +kernel
theorem dX3_may_9 : decode cX3_may 9 = .ok (.bipush (-2), 2) := by decide +kernel
theorem dX3_may_11 : decode cX3_may 11 = .ok (.invokevirtual 57, 3) := by decide +kernel
theorem dX3_may_14 : decode cX3_may 14 = .ok (.ireturn, 1) := by decide +kernel
theorem dX3_may_15 : decode cX3_may 15 = .ok (.iload_n 1, 1) := by decide +kernel
theorem dX3_may_16 : decode cX3_may 16 = .ok (.ifCond .ne 25, 3) := by decide +kernel
theorem dX3_may_19 : decode cX3_may 19 = .ok (.aload_n 0, 1) := by decide +kernel
theorem dX3_may_20 : decode cX3_may 20 = .ok (.getfield 35, 3) := by decide +kernel
theorem dX3_may_23 : decode cX3_may 23 = .ok (.aload_n 0, 1) := by decide +kernel
theorem dX3_may_24 : decode cX3_may 24 = .ok (.getfield 10, 3) := by decide +kernel
theorem dX3_may_27 : decode cX3_may 27 = .ok (.getfield 120, 3) := by decide +kernel
theorem dX3_may_30 : decode cX3_may 30 = .ok (.aload_n 0, 1) := by decide +kernel
theorem dX3_may_31 : decode cX3_may 31 = .ok (.getfield 10, 3) := by decide +kernel
theorem dX3_may_34 : decode cX3_may 34 = .ok (.getfield 123, 3) := by decide +kernel
theorem dX3_may_37 : decode cX3_may 37 = .ok (.invokevirtual 158, 3) := by decide +kernel
theorem dX3_may_40 : decode cX3_may 40 = .ok (.ireturn, 1) := by decide +kernel
theorem dX3_may_41 : decode cX3_may 41 = .ok (.iconst 0, 1) := by decide +kernel
theorem dX3_may_42 : decode cX3_may 42 = .ok (.istore_n 2, 1) := by decide +kernel
theorem dX3_may_43 : decode cX3_may 43 = .ok (.iconst 0, 1) := by decide +kernel
theorem dX3_may_44 : decode cX3_may 44 = .ok (.istore_n 3, 1) := by decide +kernel
theorem dX3_may_45 : decode cX3_may 45 = .ok (.iload_n 3, 1) := by decide +kernel
theorem dX3_may_46 : decode cX3_may 46 = .ok (.iconst 1, 1) := by decide +kernel
theorem dX3_may_47 : decode cX3_may 47 = .ok (.if_icmp .gt 37, 3) := by decide +kernel
theorem dX3_may_50 : decode cX3_may 50 = .ok (.iconst 2, 1) := by decide +kernel
theorem dX3_may_51 : decode cX3_may 51 = .ok (.istore 4, 2) := by decide +kernel
theorem dX3_may_53 : decode cX3_may 53 = .ok (.iload 4, 2) := by decide +kernel
theorem dX3_may_55 : decode cX3_may 55 = .ok (.iconst 5, 1) := by decide +kernel
theorem dX3_may_56 : decode cX3_may 56 = .ok (.if_icmp .gt 22, 3) := by decide +kernel
theorem dX3_may_59 : decode cX3_may 59 = .ok (.iload_n 2, 1) := by decide +kernel
theorem dX3_may_60 : decode cX3_may 60 = .ok (.aload_n 0, 1) := by decide +kernel
theorem dX3_may_61 : decode cX3_may 61 = .ok (.getfield 35, 3) := by decide +kernel
theorem dX3_may_64 : decode cX3_may 64 = .ok (.iload_n 3, 1) := by decide +kernel
theorem dX3_may_65 : decode cX3_may 65 = .ok (.iload 4, 2) := by decide +kernel
theorem dX3_may_67 : decode cX3_may 67 = .ok (.invokevirtual 158, 3) := by decide +kernel
theorem dX3_may_70 : decode cX3_may 70 = .ok (.ior, 1) := by decide +kernel
theorem dX3_may_71 : decode cX3_may 71 = .ok (.istore_n 2, 1) := by decide +kernel
theorem dX3_may_72 : decode cX3_may 72 = .ok (.iinc 4 1, 3) := by decide +kernel
theorem dX3_may_75 : decode cX3_may 75 = .ok (.goto (-22), 3) := by decide +kernel
theorem dX3_may_78 : decode cX3_may 78 = .ok (.iinc 3 1, 3) := by decide +kernel
theorem dX3_may_81 : decode cX3_may 81 = .ok (.goto (-36), 3) := by decide +kernel
theorem dX3_may_84 : decode cX3_may 84 = .ok (.iload_n 2, 1) := by decide +kernel
theorem dX3_may_85 : decode cX3_may 85 = .ok (.ireturn, 1) := by decide +kernel
theorem dX3_heMany_0 : decode cX3_heMany 0 = .ok (.iconst 0, 1) := by decide +kernel
theorem dX3_heMany_1 : decode cX3_heMany 1 = .ok (.istore_n 1, 1) := by decide +kernel
theorem dX3_heMany_2 : decode cX3_heMany 2 = .ok (.iconst 0, 1) := by decide +kernel
theorem dX3_heMany_3 : decode cX3_heMany 3 = .ok (.istore_n 2, 1) := by decide +kernel
theorem dX3_heMany_4 : decode cX3_heMany 4 = .ok (.iload_n 2, 1) := by decide +kernel
theorem dX3_heMany_5 : decode cX3_heMany 5 = .ok (.iconst 1, 1) := by decide +kernel
theorem dX3_heMany_6 : decode cX3_heMany 6 = .ok (.if_icmp .gt 37, 3) := by decide +kernel
theorem dX3_heMany_9 : decode cX3_heMany 9 = .ok (.iconst 2, 1) := by decide +kernel
theorem dX3_heMany_10 : decode cX3_heMany 10 = .ok (.istore_n 3, 1) := by decide +kernel
theorem dX3_heMany_11 : decode cX3_heMany 11 = .ok (.iload_n 3, 1) := by decide +kernel
theorem dX3_heMany_12 : decode cX3_heMany 12 = .ok (.iconst 5, 1) := by decide +kernel
theorem dX3_heMany_13 : decode cX3_heMany 13 = .ok (.if_icmp .gt 24, 3) := by decide +kernel
theorem dX3_heMany_16 : decode cX3_heMany 16 = .ok (.aload_n 0, 1) := by decide +kernel
theorem dX3_heMany_17 : decode cX3_heMany 17 = .ok (.getfield 35, 3) := by decide +kernel
theorem dX3_heMany_20 : decode cX3_heMany 20 = .ok (.iload_n 2, 1) := by decide +kernel
theorem dX3_heMany_21 : decode cX3_heMany 21 = .ok (.iload_n 3, 1) := by decide +kernel
theorem dX3_heMany_22 : decode cX3_heMany 22 = .ok (.invokevirtual 158, 3) := by decide +kernel
end
section
theorem dX3_heMany_25 : decode cX3_heMany 25 = .ok (.ifCond .eq 6, 3) := by decide +kernel
theorem dX3_heMany_28 : decode cX3_heMany 28 = .ok (.iinc 1 1, 3) := by decide +kernel
theorem dX3_heMany_31 : decode cX3_heMany 31 = .ok (.iinc 3 1, 3) := by decide +kernel
theorem dX3_heMany_34 : decode cX3_heMany 34 = .ok (.goto (-23), 3) := by decide +kernel
theorem dX3_heMany_37 : decode cX3_heMany 37 = .ok (.iinc 2 1, 3) := by decide +kernel
theorem dX3_heMany_40 : decode cX3_heMany 40 = .ok (.goto (-36), 3) := by decide +kernel
theorem dX3_heMany_43 : decode cX3_heMany 43 = .ok (.iload_n 1, 1) := by decide +kernel
theorem dX3_heMany_44 : decode cX3_heMany 44 = .ok (.ireturn, 1) := by decide +kernel
theorem dX3_odds_0 : decode cX3_odds 0 = .ok (.iload_n 1, 1) := by decide +kernel
theorem dX3_odds_1 : decode cX3_odds 1 = .ok (.invokestatic 85, 3) := by decide +kernel
theorem dX3_odds_4 : decode cX3_odds 4 = .ok (.ifCond .eq 9, 3) := by decide +kernel
theorem dX3_odds_7 : decode cX3_odds 7 = .ok (.aload_n 0, 1) := by decide +kernel
theorem dX3_odds_8 : decode cX3_odds 8 = .ok (.iconst (-1), 1) := by decide +kernel
theorem dX3_odds_9 : decode cX3_odds 9 = .ok (.invokevirtual 137, 3) := by decide +kernel
theorem dX3_odds_12 : decode cX3_odds 12 = .ok (.lreturn, 1) := by decide +kernel
theorem dX3_odds_13 : decode cX3_odds 13 = .ok (.iload_n 2, 1) := by decide +kernel
theorem dX3_odds_14 : decode cX3_odds 14 = .ok (.iconst 2, 1) := by decide +kernel
theorem dX3_odds_15 : decode cX3_odds 15 = .ok (.invokestatic 75, 3) := by decide +kernel
theorem dX3_odds_18 : decode cX3_odds 18 = .ok (.ifCond .eq 10, 3) := by decide +kernel
theorem dX3_odds_21 : decode cX3_odds 21 = .ok (.aload_n 0, 1) := by decide +kernel
theorem dX3_odds_22 : decode cX3_odds 22 = .ok (.bipush (-2), 2) := by decide +kernel
theorem dX3_odds_24 : decode cX3_odds 24 = .ok (.invokevirtual 137, 3) := by decide +kernel
theorem dX3_odds_27 : decode cX3_odds 27 = .ok (.lreturn, 1) := by decide +kernel
theorem dX3_odds_28 : decode cX3_odds 28 = .ok (.lconst 0, 1) := by decide +kernel
theorem dX3_odds_29 : decode cX3_odds 29 = .ok (.lstore_n 3, 1) := by decide +kernel
theorem dX3_odds_30 : decode cX3_odds 30 = .ok (.iconst 0, 1) := by decide +kernel
theorem dX3_odds_31 : decode cX3_odds 31 = .ok (.istore 5, 2) := by decide +kernel
theorem dX3_odds_33 : decode cX3_odds 33 = .ok (.iload 5, 2) := by decide +kernel
theorem dX3_odds_35 : decode cX3_odds 35 = .ok (.bipush 24, 2) := by decide +kernel
theorem dX3_odds_37 : decode cX3_odds 37 = .ok (.if_icmp .ge 18, 3) := by decide +kernel
theorem dX3_odds_40 : decode cX3_odds 40 = .ok (.lload_n 3, 1) := by decide +kernel
theorem dX3_odds_41 : decode cX3_odds 41 = .ok (.aload_n 0, 1) := by decide +kernel
theorem dX3_odds_42 : decode cX3_odds 42 = .ok (.iload 5, 2) := by decide +kernel
theorem dX3_odds_44 : decode cX3_odds 44 = .ok (.invokevirtual 161, 3) := by decide +kernel
theorem dX3_odds_47 : decode cX3_odds 47 = .ok (.ladd, 1) := by decide +kernel
theorem dX3_odds_48 : decode cX3_odds 48 = .ok (.lstore_n 3, 1) := by decide +kernel
theorem dX3_odds_49 : decode cX3_odds 49 = .ok (.iinc 5 1, 3) := by decide +kernel
theorem dX3_odds_52 : decode cX3_odds 52 = .ok (.goto (-19), 3) := by decide +kernel
theorem dX3_odds_55 : decode cX3_odds 55 = .ok (.aload_n 0, 1) := by decide +kernel
theorem dX3_odds_56 : decode cX3_odds 56 = .ok (.iload_n 1, 1) := by decide +kernel
theorem dX3_odds_57 : decode cX3_odds 57 = .ok (.invokevirtual 161, 3) := by decide +kernel
theorem dX3_odds_60 : decode cX3_odds 60 = .ok (.lload_n 3, 1) := by decide +kernel
theorem dX3_odds_61 : decode cX3_odds 61 = .ok (.iload_n 2, 1) := by decide +kernel
theorem dX3_odds_62 : decode cX3_odds 62 = .ok (.invokestatic 148, 3) := by decide +kernel
theorem dX3_odds_65 : decode cX3_odds 65 = .ok (.lreturn, 1) := by decide +kernel
theorem dX3_next_0 : decode cX3_next 0 = .ok (.iload_n 1, 1) := by decide +kernel
theorem dX3_next_1 : decode cX3_next 1 = .ok (.iconst 2, 1) := by decide +kernel
theorem dX3_next_2 : decode cX3_next 2 = .ok (.invokestatic 75, 3) := by decide +kernel
theorem dX3_next_5 : decode cX3_next 5 = .ok (.ifCond .eq 10, 3) := by decide +kernel
theorem dX3_next_8 : decode cX3_next 8 = .ok (.aload_n 0, 1) := by decide +kernel
theorem dX3_next_9 : decode cX3_next 9 = .ok (.bipush (-2), 2) := by decide +kernel
theorem dX3_next_11 : decode cX3_next 11 = .ok (.invokevirtual 57, 3) := by decide +kernel
theorem dX3_next_14 : decode cX3_next 14 = .ok (.ireturn, 1) := by decide +kernel
theorem dX3_next_15 : decode cX3_next 15 = .ok (.aload_n 0, 1) := by decide +kernel
theorem dX3_next_16 : decode cX3_next 16 = .ok (.getfield 35, 3) := by decide +kernel
theorem dX3_next_19 : decode cX3_next 19 = .ok (.aload_n 0, 1) := by decide +kernel
theorem dX3_next_20 : decode cX3_next 20 = .ok (.getfield 10, 3) := by decide +kernel
theorem dX3_next_23 : decode cX3_next 23 = .ok (.getfield 120, 3) := by decide +kernel
theorem dX3_next_26 : decode cX3_next 26 = .ok (.aload_n 0, 1) := by decide +kernel
theorem dX3_next_27 : decode cX3_next 27 = .ok (.getfield 10, 3) := by decide +kernel
theorem dX3_next_30 : decode cX3_next 30 = .ok (.getfield 123, 3) := by decide +kernel
theorem dX3_next_33 : decode cX3_next 33 = .ok (.invokevirtual 158, 3) := by decide +kernel
theorem dX3_next_36 : decode cX3_next 36 = .ok (.istore_n 2, 1) := by decide +kernel
theorem dX3_next_37 : decode cX3_next 37 = .ok (.iload_n 2, 1) := by decide +kernel
theorem dX3_next_38 : decode cX3_next 38 = .ok (.ifCond .ne 6, 3) := by decide +kernel
theorem dX3_next_41 : decode cX3_next 41 = .ok (.bipush (-9), 2) := by decide +kernel
theorem dX3_next_43 : decode cX3_next 43 = .ok (.ireturn, 1) := by decide +kernel
theorem dX3_next_44 : decode cX3_next 44 = .ok (.iconst 0, 1) := by decide +kernel
theorem dX3_next_45 : decode cX3_next 45 = .ok (.istore_n 3, 1) := by decide +kernel
theorem dX3_next_46 : decode cX3_next 46 = .ok (.bipush 25, 2) := by decide +kernel
theorem dX3_next_48 : decode cX3_next 48 = .ok (.istore 4, 2) := by decide +kernel
theorem dX3_next_50 : decode cX3_next 50 = .ok (.iconst 0, 1) := by decide +kernel
theorem dX3_next_51 : decode cX3_next 51 = .ok (.istore 5, 2) := by decide +kernel
theorem dX3_next_53 : decode cX3_next 53 = .ok (.iload 5, 2) := by decide +kernel
theorem dX3_next_55 : decode cX3_next 55 = .ok (.bipush 24, 2) := by decide +kernel
theorem dX3_next_57 : decode cX3_next 57 = .ok (.if_icmp .ge 32, 3) := by decide +kernel
theorem dX3_next_60 : decode cX3_next 60 = .ok (.aload_n 0, 1) := by decide +kernel
theorem dX3_next_61 : decode cX3_next 61 = .ok (.iload 5, 2) := by decide +kernel
theorem dX3_next_63 : decode cX3_next 63 = .ok (.iload_n 2, 1) := by decide +kernel
theorem dX3_next_64 : decode cX3_next 64 = .ok (.invokevirtual 164, 3) := by decide +kernel
theorem dX3_next_67 : decode cX3_next 67 = .ok (.istore 6, 2) := by decide +kernel
theorem dX3_next_69 : decode cX3_next 69 = .ok (.iload 6, 2) := by decide +kernel
theorem dX3_next_71 : decode cX3_next 71 = .ok (.iload 4, 2) := by decide +kernel
theorem dX3_next_73 : decode cX3_next 73 = .ok (.if_icmp .ge 10, 3) := by decide +kernel
theorem dX3_next_76 : decode cX3_next 76 = .ok (.iload 6, 2) := by decide +kernel
theorem dX3_next_78 : decode cX3_next 78 = .ok (.istore 4, 2) := by decide +kernel
theorem dX3_next_80 : decode cX3_next 80 = .ok (.iload 5, 2) := by decide +kernel
theorem dX3_next_82 : decode cX3_next 82 = .ok (.istore_n 3, 1) := by decide +kernel
theorem dX3_next_83 : decode cX3_next 83 = .ok (.iinc 5 1, 3) := by decide +kernel
theorem dX3_next_86 : decode cX3_next 86 = .ok (.goto (-33), 3) := by decide +kernel
theorem dX3_next_89 : decode cX3_next 89 = .ok (.iload_n 1, 1) := by decide +kernel
theorem dX3_next_90 : decode cX3_next 90 = .ok (.ifCond .ne 7, 3) := by decide +kernel
theorem dX3_next_93 : decode cX3_next 93 = .ok (.iload_n 3, 1) := by decide +kernel
theorem dX3_next_94 : decode cX3_next 94 = .ok (.goto 5, 3) := by decide +kernel
theorem dX3_next_97 : decode cX3_next 97 = .ok (.iload 4, 2) := by decide +kernel
theorem dX3_next_99 : decode cX3_next 99 = .ok (.ireturn, 1) := by decide +kernel
theorem dX3_strip_0 : decode cX3_strip 0 = .ok (.iload_n 1, 1) := by decide +kernel
theorem dX3_strip_1 : decode cX3_strip 1 = .ok (.bipush 10, 2) := by decide +kernel
theorem dX3_strip_3 : decode cX3_strip 3 = .ok (.invokestatic 75, 3) := by decide +kernel
theorem dX3_strip_6 : decode cX3_strip 6 = .ok (.ifCond .eq 11, 3) := by decide +kernel
theorem dX3_strip_9 : decode cX3_strip 9 = .ok (.aload_n 0, 1) := by decide +kernel
theorem dX3_strip_10 : decode cX3_strip 10 = .ok (.iconst (-1), 1) := by decide +kernel
theorem dX3_strip_11 : decode cX3_strip 11 = .ok (.invokevirtual 57, 3) := by decide +kernel
theorem dX3_strip_14 : decode cX3_strip 14 = .ok (.goto 8, 3) := by decide +kernel
theorem dX3_strip_17 : decode cX3_strip 17 = .ok (.aload_n 0, 1) := by decide +kernel
theorem dX3_strip_18 : decode cX3_strip 18 = .ok (.iload_n 1, 1) := by decide +kernel
theorem dX3_strip_19 : decode cX3_strip 19 = .ok (.invokevirtual 167, 3) := by decide +kernel
theorem dX3_strip_22 : decode cX3_strip 22 = .ok (.ireturn, 1) := by decide +kernel
theorem dX3_bestStrip_0 : decode cX3_bestStrip 0 = .ok (.bipush (-9), 2) := by decide +kernel
theorem dX3_bestStrip_2 : decode cX3_bestStrip 2 = .ok (.istore_n 1, 1) := by decide +kernel
theorem dX3_bestStrip_3 : decode cX3_bestStrip 3 = .ok (.bipush 24, 2) := by decide +kernel
theorem dX3_bestStrip_5 : decode cX3_bestStrip 5 = .ok (.istore_n 2, 1) := by decide +kernel
theorem dX3_bestStrip_6 : decode cX3_bestStrip 6 = .ok (.iconst 0, 1) := by decide +kernel
theorem dX3_bestStrip_7 : decode cX3_bestStrip 7 = .ok (.istore_n 3, 1) := by decide +kernel
theorem dX3_bestStrip_8 : decode cX3_bestStrip 8 = .ok (.iload_n 3, 1) := by decide +kernel
theorem dX3_bestStrip_9 : decode cX3_bestStrip 9 = .ok (.bipush 10, 2) := by decide +kernel
theorem dX3_bestStrip_11 : decode cX3_bestStrip 11 = .ok (.if_icmp .ge 34, 3) := by decide +kernel
theorem dX3_bestStrip_14 : decode cX3_bestStrip 14 = .ok (.aload_n 0, 1) := by decide +kernel
theorem dX3_bestStrip_15 : decode cX3_bestStrip 15 = .ok (.iload_n 3, 1) := by decide +kernel
theorem dX3_bestStrip_16 : decode cX3_bestStrip 16 = .ok (.invokevirtual 167, 3) := by decide +kernel
theorem dX3_bestStrip_19 : decode cX3_bestStrip 19 = .ok (.istore 4, 2) := by decide +kernel
theorem dX3_bestStrip_21 : decode cX3_bestStrip 21 = .ok (.iload 4, 2) := by decide +kernel
theorem dX3_bestStrip_23 : decode cX3_bestStrip 23 = .ok (.bipush (-9), 2) := by decide +kernel
theorem dX3_bestStrip_25 : decode cX3_bestStrip 25 = .ok (.if_icmp .eq 14, 3) := by decide +kernel
theorem dX3_bestStrip_28 : decode cX3_bestStrip 28 = .ok (.iload 4, 2) := by decide +kernel
theorem dX3_bestStrip_30 : decode cX3_bestStrip 30 = .ok (.iload_n 2, 1) := by decide +kernel
theorem dX3_bestStrip_31 : decode cX3_bestStrip 31 = .ok (.if_icmp .ge 8, 3) := by decide +kernel
theorem dX3_bestStrip_34 : decode cX3_bestStrip 34 = .ok (.iload 4, 2) := by decide +kernel
theorem dX3_bestStrip_36 : decode cX3_bestStrip 36 = .ok (.istore_n 2, 1) := by decide +kernel
theorem dX3_bestStrip_37 : decode cX3_bestStrip 37 = .ok (.iload_n 3, 1) := by decide +kernel
theorem dX3_bestStrip_38 : decode cX3_bestStrip 38 = .ok (.istore_n 1, 1) := by decide +kernel
theorem dX3_bestStrip_39 : decode cX3_bestStrip 39 = .ok (.iinc 3 1, 3) := by decide +kernel
theorem dX3_bestStrip_42 : decode cX3_bestStrip 42 = .ok (.goto (-34), 3) := by decide +kernel
theorem dX3_bestStrip_45 : decode cX3_bestStrip 45 = .ok (.iload_n 1, 1) := by decide +kernel
theorem dX3_bestStrip_46 : decode cX3_bestStrip 46 = .ok (.ireturn, 1) := by decide +kernel
theorem dX3_fewest_0 : decode cX3_fewest 0 = .ok (.iload_n 1, 1) := by decide +kernel
theorem dX3_fewest_1 : decode cX3_fewest 1 = .ok (.iconst 2, 1) := by decide +kernel
theorem dX3_fewest_2 : decode cX3_fewest 2 = .ok (.invokestatic 75, 3) := by decide +kernel
theorem dX3_fewest_5 : decode cX3_fewest 5 = .ok (.ifCond .eq 10, 3) := by decide +kernel
theorem dX3_fewest_8 : decode cX3_fewest 8 = .ok (.aload_n 0, 1) := by decide +kernel
theorem dX3_fewest_9 : decode cX3_fewest 9 = .ok (.bipush (-2), 2) := by decide +kernel
theorem dX3_fewest_11 : decode cX3_fewest 11 = .ok (.invokevirtual 57, 3) := by decide +kernel
theorem dX3_fewest_14 : decode cX3_fewest 14 = .ok (.ireturn, 1) := by decide +kernel
theorem dX3_fewest_15 : decode cX3_fewest 15 = .ok (.aload_n 0, 1) := by decide +kernel
theorem dX3_fewest_16 : decode cX3_fewest 16 = .ok (.getfield 10, 3) := by decide +kernel
theorem dX3_fewest_19 : decode cX3_fewest 19 = .ok (.getfield 82, 3) := by decide +kernel
theorem dX3_fewest_22 : decode cX3_fewest 22 = .ok (.bipush 24, 2) := by decide +kernel
theorem dX3_fewest_24 : decode cX3_fewest 24 = .ok (.if_icmp .ne 14, 3) := by decide +kernel
theorem dX3_fewest_27 : decode cX3_fewest 27 = .ok (.iload_n 1, 1) := by decide +kernel
theorem dX3_fewest_28 : decode cX3_fewest 28 = .ok (.ifCond .ne 7, 3) := by decide +kernel
theorem dX3_fewest_31 : decode cX3_fewest 31 = .ok (.iconst 0, 1) := by decide +kernel
theorem dX3_fewest_32 : decode cX3_fewest 32 = .ok (.goto 5, 3) := by decide +kernel
theorem dX3_fewest_35 : decode cX3_fewest 35 = .ok (.bipush (-9), 2) := by decide +kernel
theorem dX3_fewest_37 : decode cX3_fewest 37 = .ok (.ireturn, 1) := by decide +kernel
theorem dX3_fewest_38 : decode cX3_fewest 38 = .ok (.iconst 1, 1) := by decide +kernel
theorem dX3_fewest_39 : decode cX3_fewest 39 = .ok (.istore_n 2, 1) := by decide +kernel
theorem dX3_fewest_40 : decode cX3_fewest 40 = .ok (.iload_n 2, 1) := by decide +kernel
theorem dX3_fewest_41 : decode cX3_fewest 41 = .ok (.iconst 3, 1) := by decide +kernel
theorem dX3_fewest_42 : decode cX3_fewest 42 = .ok (.if_icmp .gt 31, 3) := by decide +kernel
theorem dX3_fewest_45 : decode cX3_fewest 45 = .ok (.aload_n 0, 1) := by decide +kernel
theorem dX3_fewest_46 : decode cX3_fewest 46 = .ok (.iload_n 2, 1) := by decide +kernel
theorem dX3_fewest_47 : decode cX3_fewest 47 = .ok (.invokevirtual 170, 3) := by decide +kernel
theorem dX3_fewest_50 : decode cX3_fewest 50 = .ok (.istore_n 3, 1) := by decide +kernel
theorem dX3_fewest_51 : decode cX3_fewest 51 = .ok (.iload_n 3, 1) := by decide +kernel
theorem dX3_fewest_52 : decode cX3_fewest 52 = .ok (.bipush (-9), 2) := by decide +kernel
theorem dX3_fewest_54 : decode cX3_fewest 54 = .ok (.if_icmp .eq 13, 3) := by decide +kernel
theorem dX3_fewest_57 : decode cX3_fewest 57 = .ok (.iload_n 1, 1) := by decide +kernel
theorem dX3_fewest_58 : decode cX3_fewest 58 = .ok (.ifCond .ne 7, 3) := by decide +kernel
theorem dX3_fewest_61 : decode cX3_fewest 61 = .ok (.iload_n 2, 1) := by decide +kernel
theorem dX3_fewest_62 : decode cX3_fewest 62 = .ok (.goto 4, 3) := by decide +kernel
theorem dX3_fewest_65 : decode cX3_fewest 65 = .ok (.iload_n 3, 1) := by decide +kernel
theorem dX3_fewest_66 : decode cX3_fewest 66 = .ok (.ireturn, 1) := by decide +kernel
theorem dX3_fewest_67 : decode cX3_fewest 67 = .ok (.iinc 2 1, 3) := by decide +kernel
theorem dX3_fewest_70 : decode cX3_fewest 70 = .ok (.goto (-30), 3) := by decide +kernel
theorem dX3_fewest_73 : decode cX3_fewest 73 = .ok (.bipush (-9), 2) := by decide +kernel
theorem dX3_fewest_75 : decode cX3_fewest 75 = .ok (.ireturn, 1) := by decide +kernel
theorem dX3_bears_0 : decode cX3_bears 0 = .ok (.iload_n 1, 1) := by decide +kernel
theorem dX3_bears_1 : decode cX3_bears 1 = .ok (.invokestatic 85, 3) := by decide +kernel
theorem dX3_bears_4 : decode cX3_bears 4 = .ok (.ifCond .ne 15, 3) := by decide +kernel
theorem dX3_bears_7 : decode cX3_bears 7 = .ok (.iload_n 2, 1) := by decide +kernel
theorem dX3_bears_8 : decode cX3_bears 8 = .ok (.invokestatic 85, 3) := by decide +kernel
theorem dX3_bears_11 : decode cX3_bears 11 = .ok (.ifCond .ne 8, 3) := by decide +kernel
theorem dX3_bears_14 : decode cX3_bears 14 = .ok (.iload_n 1, 1) := by decide +kernel
theorem dX3_bears_15 : decode cX3_bears 15 = .ok (.iload_n 2, 1) := by decide +kernel
theorem dX3_bears_16 : decode cX3_bears 16 = .ok (.if_icmp .ne 9, 3) := by decide +kernel
theorem dX3_bears_19 : decode cX3_bears 19 = .ok (.aload_n 0, 1) := by decide +kernel
theorem dX3_bears_20 : decode cX3_bears 20 = .ok (.iconst (-1), 1) := by decide +kernel
theorem dX3_bears_21 : decode cX3_bears 21 = .ok (.invokevirtual 57, 3) := by decide +kernel
theorem dX3_bears_24 : decode cX3_bears 24 = .ok (.ireturn, 1) := by decide +kernel
theorem dX3_bears_25 : decode cX3_bears 25 = .ok (.aload_n 0, 1) := by decide +kernel
theorem dX3_bears_26 : decode cX3_bears 26 = .ok (.getfield 10, 3) := by decide +kernel
theorem dX3_bears_29 : decode cX3_bears 29 = .ok (.iload_n 1, 1) := by decide +kernel
theorem dX3_bears_30 : decode cX3_bears 30 = .ok (.invokevirtual 89, 3) := by decide +kernel
theorem dX3_bears_33 : decode cX3_bears 33 = .ok (.aload_n 0, 1) := by decide +kernel
theorem dX3_bears_34 : decode cX3_bears 34 = .ok (.getfield 10, 3) := by decide +kernel
theorem dX3_bears_37 : decode cX3_bears 37 = .ok (.iload_n 2, 1) := by decide +kernel
theorem dX3_bears_38 : decode cX3_bears 38 = .ok (.invokevirtual 89, 3) := by decide +kernel
theorem dX3_bears_41 : decode cX3_bears 41 = .ok (.isub, 1) := by decide +kernel
theorem dX3_bears_42 : decode cX3_bears 42 = .ok (.istore_n 3, 1) := by decide +kernel
theorem dX3_bears_43 : decode cX3_bears 43 = .ok (.iload_n 3, 1) := by decide +kernel
theorem dX3_bears_44 : decode cX3_bears 44 = .ok (.ifCond .ne 21, 3) := by decide +kernel
theorem dX3_bears_47 : decode cX3_bears 47 = .ok (.aload_n 0, 1) := by decide +kernel
theorem dX3_bears_48 : decode cX3_bears 48 = .ok (.getfield 10, 3) := by decide +kernel
theorem dX3_bears_51 : decode cX3_bears 51 = .ok (.iload_n 1, 1) := by decide +kernel
theorem dX3_bears_52 : decode cX3_bears 52 = .ok (.invokevirtual 173, 3) := by decide +kernel
theorem dX3_bears_55 : decode cX3_bears 55 = .ok (.aload_n 0, 1) := by decide +kernel
theorem dX3_bears_56 : decode cX3_bears 56 = .ok (.getfield 10, 3) := by decide +kernel
theorem dX3_bears_59 : decode cX3_bears 59 = .ok (.iload_n 2, 1) := by decide +kernel
theorem dX3_bears_60 : decode cX3_bears 60 = .ok (.invokevirtual 173, 3) := by decide +kernel
theorem dX3_bears_63 : decode cX3_bears 63 = .ok (.isub, 1) := by decide +kernel
theorem dX3_bears_64 : decode cX3_bears 64 = .ok (.istore_n 3, 1) := by decide +kernel
theorem dX3_bears_65 : decode cX3_bears 65 = .ok (.iload_n 3, 1) := by decide +kernel
theorem dX3_bears_66 : decode cX3_bears 66 = .ok (.ifCond .ne 7, 3) := by decide +kernel
theorem dX3_bears_69 : decode cX3_bears 69 = .ok (.iload_n 1, 1) := by decide +kernel
theorem dX3_bears_70 : decode cX3_bears 70 = .ok (.iload_n 2, 1) := by decide +kernel
theorem dX3_bears_71 : decode cX3_bears 71 = .ok (.isub, 1) := by decide +kernel
theorem dX3_bears_72 : decode cX3_bears 72 = .ok (.istore_n 3, 1) := by decide +kernel
theorem dX3_bears_73 : decode cX3_bears 73 = .ok (.iload_n 3, 1) := by decide +kernel
theorem dX3_bears_74 : decode cX3_bears 74 = .ok (.ifCond .ge 7, 3) := by decide +kernel
theorem dX3_bears_77 : decode cX3_bears 77 = .ok (.iload_n 1, 1) := by decide +kernel
theorem dX3_bears_78 : decode cX3_bears 78 = .ok (.goto 4, 3) := by decide +kernel
theorem dX3_bears_81 : decode cX3_bears 81 = .ok (.iload_n 2, 1) := by decide +kernel
theorem dX3_bears_82 : decode cX3_bears 82 = .ok (.ireturn, 1) := by decide +kernel
theorem dX3_grid_0 : decode cX3_grid 0 = .ok (.iload_n 1, 1) := by decide +kernel
theorem dX3_grid_1 : decode cX3_grid 1 = .ok (.iconst 1, 1) := by decide +kernel
theorem dX3_grid_2 : decode cX3_grid 2 = .ok (.if_icmp .lt 8, 3) := by decide +kernel
theorem dX3_grid_5 : decode cX3_grid 5 = .ok (.iload_n 2, 1) := by decide +kernel
theorem dX3_grid_6 : decode cX3_grid 6 = .ok (.iconst 1, 1) := by decide +kernel
theorem dX3_grid_7 : decode cX3_grid 7 = .ok (.if_icmp .ge 10, 3) := by decide +kernel
theorem dX3_grid_10 : decode cX3_grid 10 = .ok (.aload_n 0, 1) := by decide +kernel
theorem dX3_grid_11 : decode cX3_grid 11 = .ok (.bipush (-4), 2) := by decide +kernel
theorem dX3_grid_13 : decode cX3_grid 13 = .ok (.invokevirtual 57, 3) := by decide +kernel
theorem dX3_grid_16 : decode cX3_grid 16 = .ok (.ireturn, 1) := by decide +kernel
theorem dX3_grid_17 : decode cX3_grid 17 = .ok (.iload_n 1, 1) := by decide +kernel
theorem dX3_grid_18 : decode cX3_grid 18 = .ok (.iconst 4, 1) := by decide +kernel
theorem dX3_grid_19 : decode cX3_grid 19 = .ok (.if_icmp .gt 9, 3) := by decide +kernel
theorem dX3_grid_22 : decode cX3_grid 22 = .ok (.iload_n 2, 1) := by decide +kernel
theorem dX3_grid_23 : decode cX3_grid 23 = .ok (.bipush 6, 2) := by decide +kernel
theorem dX3_grid_25 : decode cX3_grid 25 = .ok (.if_icmp .le 10, 3) := by decide +kernel
theorem dX3_grid_28 : decode cX3_grid 28 = .ok (.aload_n 0, 1) := by decide +kernel
theorem dX3_grid_29 : decode cX3_grid 29 = .ok (.bipush (-6), 2) := by decide +kernel
theorem dX3_grid_31 : decode cX3_grid 31 = .ok (.invokevirtual 57, 3) := by decide +kernel
theorem dX3_grid_34 : decode cX3_grid 34 = .ok (.ireturn, 1) := by decide +kernel
theorem dX3_grid_35 : decode cX3_grid 35 = .ok (.iload_n 3, 1) := by decide +kernel
theorem dX3_grid_36 : decode cX3_grid 36 = .ok (.invokestatic 85, 3) := by decide +kernel
theorem dX3_grid_39 : decode cX3_grid 39 = .ok (.ifCond .eq 9, 3) := by decide +kernel
theorem dX3_grid_42 : decode cX3_grid 42 = .ok (.aload_n 0, 1) := by decide +kernel
theorem dX3_grid_43 : decode cX3_grid 43 = .ok (.iconst (-1), 1) := by decide +kernel
theorem dX3_grid_44 : decode cX3_grid 44 = .ok (.invokevirtual 57, 3) := by decide +kernel
theorem dX3_grid_47 : decode cX3_grid 47 = .ok (.ireturn, 1) := by decide +kernel
theorem dX3_grid_48 : decode cX3_grid 48 = .ok (.iload 4, 2) := by decide +kernel
theorem dX3_grid_50 : decode cX3_grid 50 = .ok (.iconst 2, 1) := by decide +kernel
theorem dX3_grid_51 : decode cX3_grid 51 = .ok (.invokestatic 75, 3) := by decide +kernel
theorem dX3_grid_54 : decode cX3_grid 54 = .ok (.ifCond .eq 10, 3) := by decide +kernel
theorem dX3_grid_57 : decode cX3_grid 57 = .ok (.aload_n 0, 1) := by decide +kernel
theorem dX3_grid_58 : decode cX3_grid 58 = .ok (.bipush (-2), 2) := by decide +kernel
theorem dX3_grid_60 : decode cX3_grid 60 = .ok (.invokevirtual 57, 3) := by decide +kernel
theorem dX3_grid_63 : decode cX3_grid 63 = .ok (.ireturn, 1) := by decide +kernel
theorem dX3_grid_64 : decode cX3_grid 64 = .ok (.iload_n 1, 1) := by decide +kernel
theorem dX3_grid_65 : decode cX3_grid 65 = .ok (.iload_n 2, 1) := by decide +kernel
theorem dX3_grid_66 : decode cX3_grid 66 = .ok (.iload_n 3, 1) := by decide +kernel
theorem dX3_grid_67 : decode cX3_grid 67 = .ok (.invokestatic 176, 3) := by decide +kernel
theorem dX3_grid_70 : decode cX3_grid 70 = .ok (.istore 5, 2) := by decide +kernel
theorem dX3_grid_72 : decode cX3_grid 72 = .ok (.iload 4, 2) := by decide +kernel
theorem dX3_grid_74 : decode cX3_grid 74 = .ok (.ifCond .ne 6, 3) := by decide +kernel
theorem dX3_grid_77 : decode cX3_grid 77 = .ok (.iload 5, 2) := by decide +kernel
theorem dX3_grid_79 : decode cX3_grid 79 = .ok (.ireturn, 1) := by decide +kernel
theorem dX3_grid_80 : decode cX3_grid 80 = .ok (.iconst 0, 1) := by decide +kernel
theorem dX3_grid_81 : decode cX3_grid 81 = .ok (.istore 6, 2) := by decide +kernel
theorem dX3_grid_83 : decode cX3_grid 83 = .ok (.iconst 0, 1) := by decide +kernel
theorem dX3_grid_84 : decode cX3_grid 84 = .ok (.istore 7, 2) := by decide +kernel
theorem dX3_grid_86 : decode cX3_grid 86 = .ok (.iload 7, 2) := by decide +kernel
theorem dX3_grid_88 : decode cX3_grid 88 = .ok (.bipush 24, 2) := by decide +kernel
theorem dX3_grid_90 : decode cX3_grid 90 = .ok (.if_icmp .ge 24, 3) := by decide +kernel
theorem dX3_grid_93 : decode cX3_grid 93 = .ok (.iload_n 1, 1) := by decide +kernel
theorem dX3_grid_94 : decode cX3_grid 94 = .ok (.iload_n 2, 1) := by decide +kernel
theorem dX3_grid_95 : decode cX3_grid 95 = .ok (.iload 7, 2) := by decide +kernel
theorem dX3_grid_97 : decode cX3_grid 97 = .ok (.invokestatic 176, 3) := by decide +kernel
theorem dX3_grid_100 : decode cX3_grid 100 = .ok (.iload 5, 2) := by decide +kernel
theorem dX3_grid_102 : decode cX3_grid 102 = .ok (.if_icmp .ne 6, 3) := by decide +kernel
theorem dX3_grid_105 : decode cX3_grid 105 = .ok (.iinc 6 1, 3) := by decide +kernel
theorem dX3_grid_108 : decode cX3_grid 108 = .ok (.iinc 7 1, 3) := by decide +kernel
theorem dX3_grid_111 : decode cX3_grid 111 = .ok (.goto (-25), 3) := by decide +kernel
theorem dX3_grid_114 : decode cX3_grid 114 = .ok (.iload 6, 2) := by decide +kernel
theorem dX3_grid_116 : decode cX3_grid 116 = .ok (.ireturn, 1) := by decide +kernel
theorem dX3_taught_0 : decode cX3_taught 0 = .ok (.aload_n 0, 1) := by decide +kernel
theorem dX3_taught_1 : decode cX3_taught 1 = .ok (.getfield 10, 3) := by decide +kernel
theorem dX3_taught_4 : decode cX3_taught 4 = .ok (.getfield 82, 3) := by decide +kernel
theorem dX3_taught_7 : decode cX3_taught 7 = .ok (.bipush 24, 2) := by decide +kernel
theorem dX3_taught_9 : decode cX3_taught 9 = .ok (.if_icmp .ne 10, 3) := by decide +kernel
theorem dX3_taught_12 : decode cX3_taught 12 = .ok (.aload_n 0, 1) := by decide +kernel
theorem dX3_taught_13 : decode cX3_taught 13 = .ok (.bipush (-3), 2) := by decide +kernel
theorem dX3_taught_15 : decode cX3_taught 15 = .ok (.invokevirtual 57, 3) := by decide +kernel
theorem dX3_taught_18 : decode cX3_taught 18 = .ok (.ireturn, 1) := by decide +kernel
theorem dX3_taught_19 : decode cX3_taught 19 = .ok (.iconst 0, 1) := by decide +kernel
theorem dX3_taught_20 : decode cX3_taught 20 = .ok (.istore_n 1, 1) := by decide +kernel
theorem dX3_taught_21 : decode cX3_taught 21 = .ok (.iconst (-1), 1) := by decide +kernel
theorem dX3_taught_22 : decode cX3_taught 22 = .ok (.istore_n 2, 1) := by decide +kernel
theorem dX3_taught_23 : decode cX3_taught 23 = .ok (.iconst 0, 1) := by decide +kernel
theorem dX3_taught_24 : decode cX3_taught 24 = .ok (.istore_n 3, 1) := by decide +kernel
theorem dX3_taught_25 : decode cX3_taught 25 = .ok (.iload_n 3, 1) := by decide +kernel
theorem dX3_taught_26 : decode cX3_taught 26 = .ok (.iconst 1, 1) := by decide +kernel
theorem dX3_taught_27 : decode cX3_taught 27 = .ok (.if_icmp .gt 60, 3) := by decide +kernel
theorem dX3_taught_30 : decode cX3_taught 30 = .ok (.iconst 2, 1) := by decide +kernel
theorem dX3_taught_31 : decode cX3_taught 31 = .ok (.istore 4, 2) := by decide +kernel
theorem dX3_taught_33 : decode cX3_taught 33 = .ok (.iload 4, 2) := by decide +kernel
theorem dX3_taught_35 : decode cX3_taught 35 = .ok (.iconst 5, 1) := by decide +kernel
theorem dX3_taught_36 : decode cX3_taught 36 = .ok (.if_icmp .gt 45, 3) := by decide +kernel
theorem dX3_taught_39 : decode cX3_taught 39 = .ok (.aload_n 0, 1) := by decide +kernel
theorem dX3_taught_40 : decode cX3_taught 40 = .ok (.getfield 35, 3) := by decide +kernel
theorem dX3_taught_43 : decode cX3_taught 43 = .ok (.aload_n 0, 1) := by decide +kernel
theorem dX3_taught_44 : decode cX3_taught 44 = .ok (.getfield 10, 3) := by decide +kernel
theorem dX3_taught_47 : decode cX3_taught 47 = .ok (.getfield 82, 3) := by decide +kernel
theorem dX3_taught_50 : decode cX3_taught 50 = .ok (.iload_n 3, 1) := by decide +kernel
theorem dX3_taught_51 : decode cX3_taught 51 = .ok (.iload 4, 2) := by decide +kernel
theorem dX3_taught_53 : decode cX3_taught 53 = .ok (.invokevirtual 179, 3) := by decide +kernel
theorem dX3_taught_56 : decode cX3_taught 56 = .ok (.istore 5, 2) := by decide +kernel
theorem dX3_taught_58 : decode cX3_taught 58 = .ok (.iload 5, 2) := by decide +kernel
theorem dX3_taught_60 : decode cX3_taught 60 = .ok (.iload_n 2, 1) := by decide +kernel
theorem dX3_taught_61 : decode cX3_taught 61 = .ok (.if_icmp .le 14, 3) := by decide +kernel
theorem dX3_taught_64 : decode cX3_taught 64 = .ok (.iload 5, 2) := by decide +kernel
theorem dX3_taught_66 : decode cX3_taught 66 = .ok (.istore_n 2, 1) := by decide +kernel
theorem dX3_taught_67 : decode cX3_taught 67 = .ok (.bipush 10, 2) := by decide +kernel
theorem dX3_taught_69 : decode cX3_taught 69 = .ok (.iload_n 3, 1) := by decide +kernel
theorem dX3_taught_70 : decode cX3_taught 70 = .ok (.imul, 1) := by decide +kernel
theorem dX3_taught_71 : decode cX3_taught 71 = .ok (.iload 4, 2) := by decide +kernel
theorem dX3_taught_73 : decode cX3_taught 73 = .ok (.iadd, 1) := by decide +kernel
theorem dX3_taught_74 : decode cX3_taught 74 = .ok (.istore_n 1, 1) := by decide +kernel
theorem dX3_taught_75 : decode cX3_taught 75 = .ok (.iinc 4 1, 3) := by decide +kernel
theorem dX3_taught_78 : decode cX3_taught 78 = .ok (.goto (-45), 3) := by decide +kernel
theorem dX3_taught_81 : decode cX3_taught 81 = .ok (.iinc 3 1, 3) := by decide +kernel
theorem dX3_taught_84 : decode cX3_taught 84 = .ok (.goto (-59), 3) := by decide +kernel
theorem dX3_taught_87 : decode cX3_taught 87 = .ok (.iload_n 1, 1) := by decide +kernel
theorem dX3_taught_88 : decode cX3_taught 88 = .ok (.ireturn, 1) := by decide +kernel
theorem dX3_row_0 : decode cX3_row 0 = .ok (.iload_n 1, 1) := by decide +kernel
theorem dX3_row_1 : decode cX3_row 1 = .ok (.ifCond .ge 10, 3) := by decide +kernel
theorem dX3_row_4 : decode cX3_row 4 = .ok (.aload_n 0, 1) := by decide +kernel
theorem dX3_row_5 : decode cX3_row 5 = .ok (.bipush (-4), 2) := by decide +kernel
theorem dX3_row_7 : decode cX3_row 7 = .ok (.invokevirtual 57, 3) := by decide +kernel
theorem dX3_row_10 : decode cX3_row 10 = .ok (.ireturn, 1) := by decide +kernel
theorem dX3_row_11 : decode cX3_row 11 = .ok (.iload_n 1, 1) := by decide +kernel
theorem dX3_row_12 : decode cX3_row 12 = .ok (.bipush 24, 2) := by decide +kernel
theorem dX3_row_14 : decode cX3_row 14 = .ok (.if_icmp .gt 15, 3) := by decide +kernel
theorem dX3_row_17 : decode cX3_row 17 = .ok (.aload_n 0, 1) := by decide +kernel
theorem dX3_row_18 : decode cX3_row 18 = .ok (.getfield 49, 3) := by decide +kernel
theorem dX3_row_21 : decode cX3_row 21 = .ok (.bipush 20, 2) := by decide +kernel
theorem dX3_row_23 : decode cX3_row 23 = .ok (.invokestatic 75, 3) := by decide +kernel
theorem dX3_row_26 : decode cX3_row 26 = .ok (.ifCond .eq 10, 3) := by decide +kernel
theorem dX3_row_29 : decode cX3_row 29 = .ok (.aload_n 0, 1) := by decide +kernel
theorem dX3_row_30 : decode cX3_row 30 = .ok (.bipush (-6), 2) := by decide +kernel
theorem dX3_row_32 : decode cX3_row 32 = .ok (.invokevirtual 57, 3) := by decide +kernel
theorem dX3_row_35 : decode cX3_row 35 = .ok (.ireturn, 1) := by decide +kernel
theorem dX3_row_36 : decode cX3_row 36 = .ok (.aload_n 0, 1) := by decide +kernel
theorem dX3_row_37 : decode cX3_row 37 = .ok (.getfield 39, 3) := by decide +kernel
theorem dX3_row_40 : decode cX3_row 40 = .ok (.aload_n 0, 1) := by decide +kernel
theorem dX3_row_41 : decode cX3_row 41 = .ok (.getfield 49, 3) := by decide +kernel
theorem dX3_row_44 : decode cX3_row 44 = .ok (.iload_n 1, 1) := by decide +kernel
theorem dX3_row_45 : decode cX3_row 45 = .ok (.iastore, 1) := by decide +kernel
theorem dX3_row_46 : decode cX3_row 46 = .ok (.aload_n 0, 1) := by decide +kernel
theorem dX3_row_47 : decode cX3_row 47 = .ok (.dup, 1) := by decide +kernel
theorem dX3_row_48 : decode cX3_row 48 = .ok (.getfield 49, 3) := by decide +kernel
theorem dX3_row_51 : decode cX3_row 51 = .ok (.iconst 1, 1) := by decide +kernel
theorem dX3_row_52 : decode cX3_row 52 = .ok (.iadd, 1) := by decide +kernel
theorem dX3_row_53 : decode cX3_row 53 = .ok (.putfield 49, 3) := by decide +kernel
theorem dX3_row_56 : decode cX3_row 56 = .ok (.aload_n 0, 1) := by decide +kernel
theorem dX3_row_57 : decode cX3_row 57 = .ok (.getfield 49, 3) := by decide +kernel
theorem dX3_row_60 : decode cX3_row 60 = .ok (.ireturn, 1) := by decide +kernel
theorem dX3_kinds_0 : decode cX3_kinds 0 = .ok (.iconst 0, 1) := by decide +kernel
theorem dX3_kinds_1 : decode cX3_kinds 1 = .ok (.istore_n 1, 1) := by decide +kernel
theorem dX3_kinds_2 : decode cX3_kinds 2 = .ok (.iconst 0, 1) := by decide +kernel
theorem dX3_kinds_3 : decode cX3_kinds 3 = .ok (.istore_n 2, 1) := by decide +kernel
theorem dX3_kinds_4 : decode cX3_kinds 4 = .ok (.iload_n 2, 1) := by decide +kernel
theorem dX3_kinds_5 : decode cX3_kinds 5 = .ok (.bipush 6, 2) := by decide +kernel
theorem dX3_kinds_7 : decode cX3_kinds 7 = .ok (.if_icmp .ge 25, 3) := by decide +kernel
theorem dX3_kinds_10 : decode cX3_kinds 10 = .ok (.aload_n 0, 1) := by decide +kernel
theorem dX3_kinds_11 : decode cX3_kinds 11 = .ok (.iload_n 2, 1) := by decide +kernel
theorem dX3_kinds_12 : decode cX3_kinds 12 = .ok (.invokevirtual 182, 3) := by decide +kernel
theorem dX3_kinds_15 : decode cX3_kinds 15 = .ok (.bipush (-9), 2) := by decide +kernel
theorem dX3_kinds_17 : decode cX3_kinds 17 = .ok (.if_icmp .ne 9, 3) := by decide +kernel
theorem dX3_kinds_20 : decode cX3_kinds 20 = .ok (.iload_n 1, 1) := by decide +kernel
theorem dX3_kinds_21 : decode cX3_kinds 21 = .ok (.iconst 1, 1) := by decide +kernel
theorem dX3_kinds_22 : decode cX3_kinds 22 = .ok (.iload_n 2, 1) := by decide +kernel
theorem dX3_kinds_23 : decode cX3_kinds 23 = .ok (.ishl, 1) := by decide +kernel
theorem dX3_kinds_24 : decode cX3_kinds 24 = .ok (.ior, 1) := by decide +kernel
theorem dX3_kinds_25 : decode cX3_kinds 25 = .ok (.istore_n 1, 1) := by decide +kernel
theorem dX3_kinds_26 : decode cX3_kinds 26 = .ok (.iinc 2 1, 3) := by decide +kernel
theorem dX3_kinds_29 : decode cX3_kinds 29 = .ok (.goto (-25), 3) := by decide +kernel
theorem dX3_kinds_32 : decode cX3_kinds 32 = .ok (.iload_n 1, 1) := by decide +kernel
theorem dX3_kinds_33 : decode cX3_kinds 33 = .ok (.ireturn, 1) := by decide +kernel
theorem dX3_judge_0 : decode cX3_judge 0 = .ok (.aload_n 0, 1) := by decide +kernel
theorem dX3_judge_1 : decode cX3_judge 1 = .ok (.aload_n 0, 1) := by decide +kernel
theorem dX3_judge_2 : decode cX3_judge 2 = .ok (.getfield 10, 3) := by decide +kernel
theorem dX3_judge_5 : decode cX3_judge 5 = .ok (.getfield 79, 3) := by decide +kernel
theorem dX3_judge_8 : decode cX3_judge 8 = .ok (.invokevirtual 182, 3) := by decide +kernel
theorem dX3_judge_11 : decode cX3_judge 11 = .ok (.istore_n 1, 1) := by decide +kernel
theorem dX3_judge_12 : decode cX3_judge 12 = .ok (.aload_n 0, 1) := by decide +kernel
theorem dX3_judge_13 : decode cX3_judge 13 = .ok (.iconst 0, 1) := by decide +kernel
theorem dX3_judge_14 : decode cX3_judge 14 = .ok (.putfield 49, 3) := by decide +kernel
theorem dX3_judge_17 : decode cX3_judge 17 = .ok (.iload_n 1, 1) := by decide +kernel
theorem dX3_judge_18 : decode cX3_judge 18 = .ok (.ireturn, 1) := by decide +kernel
theorem dX3_evenings_0 : decode cX3_evenings 0 = .ok (.iload_n 1, 1) := by decide +kernel
theorem dX3_evenings_1 : decode cX3_evenings 1 = .ok (.bipush 6, 2) := by decide +kernel
theorem dX3_evenings_3 : decode cX3_evenings 3 = .ok (.invokestatic 75, 3) := by decide +kernel
theorem dX3_evenings_6 : decode cX3_evenings 6 = .ok (.ifCond .eq 10, 3) := by decide +kernel
theorem dX3_evenings_9 : decode cX3_evenings 9 = .ok (.aload_n 0, 1) := by decide +kernel
theorem dX3_evenings_10 : decode cX3_evenings 10 = .ok (.bipush (-2), 2) := by decide +kernel
theorem dX3_evenings_12 : decode cX3_evenings 12 = .ok (.invokevirtual 57, 3) := by decide +kernel
theorem dX3_evenings_15 : decode cX3_evenings 15 = .ok (.ireturn, 1) := by decide +kernel
theorem dX3_evenings_16 : decode cX3_evenings 16 = .ok (.iload_n 2, 1) := by decide +kernel
theorem dX3_evenings_17 : decode cX3_evenings 17 = .ok (.iconst 1, 1) := by decide +kernel
theorem dX3_evenings_18 : decode cX3_evenings 18 = .ok (.if_icmp .ge 10, 3) := by decide +kernel
theorem dX3_evenings_21 : decode cX3_evenings 21 = .ok (.aload_n 0, 1) := by decide +kernel
theorem dX3_evenings_22 : decode cX3_evenings 22 = .ok (.bipush (-4), 2) := by decide +kernel
theorem dX3_evenings_24 : decode cX3_evenings 24 = .ok (.invokevirtual 57, 3) := by decide +kernel
theorem dX3_evenings_27 : decode cX3_evenings 27 = .ok (.ireturn, 1) := by decide +kernel
theorem dX3_evenings_28 : decode cX3_evenings 28 = .ok (.iload_n 2, 1) := by decide +kernel
theorem dX3_evenings_29 : decode cX3_evenings 29 = .ok (.bipush 20, 2) := by decide +kernel
theorem dX3_evenings_31 : decode cX3_evenings 31 = .ok (.if_icmp .le 10, 3) := by decide +kernel
theorem dX3_evenings_34 : decode cX3_evenings 34 = .ok (.aload_n 0, 1) := by decide +kernel
theorem dX3_evenings_35 : decode cX3_evenings 35 = .ok (.bipush (-6), 2) := by decide +kernel
theorem dX3_evenings_37 : decode cX3_evenings 37 = .ok (.invokevirtual 57, 3) := by decide +kernel
theorem dX3_evenings_40 : decode cX3_evenings 40 = .ok (.ireturn, 1) := by decide +kernel
theorem dX3_evenings_41 : decode cX3_evenings 41 = .ok (.iload_n 3, 1) := by decide +kernel
theorem dX3_evenings_42 : decode cX3_evenings 42 = .ok (.istore 4, 2) := by decide +kernel
theorem dX3_evenings_44 : decode cX3_evenings 44 = .ok (.iconst 0, 1) := by decide +kernel
theorem dX3_evenings_45 : decode cX3_evenings 45 = .ok (.istore 5, 2) := by decide +kernel
theorem dX3_evenings_47 : decode cX3_evenings 47 = .ok (.iconst 0, 1) := by decide +kernel
theorem dX3_evenings_48 : decode cX3_evenings 48 = .ok (.istore 6, 2) := by decide +kernel
theorem dX3_evenings_50 : decode cX3_evenings 50 = .ok (.iload 6, 2) := by decide +kernel
theorem dX3_evenings_52 : decode cX3_evenings 52 = .ok (.iload_n 2, 1) := by decide +kernel
theorem dX3_evenings_53 : decode cX3_evenings 53 = .ok (.if_icmp .ge 75, 3) := by decide +kernel
theorem dX3_evenings_56 : decode cX3_evenings 56 = .ok (.iload 4, 2) := by decide +kernel
theorem dX3_evenings_58 : decode cX3_evenings 58 = .ok (.ldc 185, 2) := by decide +kernel
theorem dX3_evenings_60 : decode cX3_evenings 60 = .ok (.imul, 1) := by decide +kernel
theorem dX3_evenings_61 : decode cX3_evenings 61 = .ok (.ldc 186, 2) := by decide +kernel
theorem dX3_evenings_63 : decode cX3_evenings 63 = .ok (.iadd, 1) := by decide +kernel
theorem dX3_evenings_64 : decode cX3_evenings 64 = .ok (.istore 4, 2) := by decide +kernel
theorem dX3_evenings_66 : decode cX3_evenings 66 = .ok (.aload_n 0, 1) := by decide +kernel
theorem dX3_evenings_67 : decode cX3_evenings 67 = .ok (.getfield 19, 3) := by decide +kernel
theorem dX3_evenings_70 : decode cX3_evenings 70 = .ok (.aload_n 0, 1) := by decide +kernel
theorem dX3_evenings_71 : decode cX3_evenings 71 = .ok (.getfield 10, 3) := by decide +kernel
theorem dX3_evenings_74 : decode cX3_evenings 74 = .ok (.invokevirtual 67, 3) := by decide +kernel
theorem dX3_evenings_77 : decode cX3_evenings 77 = .ok (.aload_n 0, 1) := by decide +kernel
theorem dX3_evenings_78 : decode cX3_evenings 78 = .ok (.getfield 19, 3) := by decide +kernel
theorem dX3_evenings_81 : decode cX3_evenings 81 = .ok (.iconst 0, 1) := by decide +kernel
theorem dX3_evenings_82 : decode cX3_evenings 82 = .ok (.putfield 187, 3) := by decide +kernel
theorem dX3_evenings_85 : decode cX3_evenings 85 = .ok (.aload_n 0, 1) := by decide +kernel
theorem dX3_evenings_86 : decode cX3_evenings 86 = .ok (.getfield 19, 3) := by decide +kernel
theorem dX3_evenings_89 : decode cX3_evenings 89 = .ok (.iload 4, 2) := by decide +kernel
theorem dX3_evenings_91 : decode cX3_evenings 91 = .ok (.ldc 192, 2) := by decide +kernel
theorem dX3_evenings_93 : decode cX3_evenings 93 = .ok (.iand, 1) := by decide +kernel
theorem dX3_evenings_94 : decode cX3_evenings 94 = .ok (.sipush 256, 3) := by decide +kernel
theorem dX3_evenings_97 : decode cX3_evenings 97 = .ok (.idiv, 1) := by decide +kernel
theorem dX3_evenings_98 : decode cX3_evenings 98 = .ok (.bipush 24, 2) := by decide +kernel
theorem dX3_evenings_100 : decode cX3_evenings 100 = .ok (.irem, 1) := by decide +kernel
theorem dX3_evenings_101 : decode cX3_evenings 101 = .ok (.putfield 82, 3) := by decide +kernel
theorem dX3_evenings_104 : decode cX3_evenings 104 = .ok (.iload 5, 2) := by decide +kernel
theorem dX3_evenings_106 : decode cX3_evenings 106 = .ok (.bipush 40, 2) := by decide +kernel
theorem dX3_evenings_108 : decode cX3_evenings 108 = .ok (.aload_n 0, 1) := by decide +kernel
theorem dX3_evenings_109 : decode cX3_evenings 109 = .ok (.getfield 19, 3) := by decide +kernel
theorem dX3_evenings_112 : decode cX3_evenings 112 = .ok (.iload_n 1, 1) := by decide +kernel
theorem dX3_evenings_113 : decode cX3_evenings 113 = .ok (.invokevirtual 134, 3) := by decide +kernel
theorem dX3_evenings_116 : decode cX3_evenings 116 = .ok (.invokestatic 141, 3) := by decide +kernel
theorem dX3_evenings_119 : decode cX3_evenings 119 = .ok (.iadd, 1) := by decide +kernel
theorem dX3_evenings_120 : decode cX3_evenings 120 = .ok (.istore 5, 2) := by decide +kernel
theorem dX3_evenings_122 : decode cX3_evenings 122 = .ok (.iinc 6 1, 3) := by decide +kernel
theorem dX3_evenings_125 : decode cX3_evenings 125 = .ok (.goto (-75), 3) := by decide +kernel
theorem dX3_evenings_128 : decode cX3_evenings 128 = .ok (.iload 5, 2) := by decide +kernel
theorem dX3_evenings_130 : decode cX3_evenings 130 = .ok (.ireturn, 1) := by decide +kernel
theorem dX3_image_0 : decode cX3_image 0 = .ok (.aload_n 0, 1) := by decide +kernel
theorem dX3_image_1 : decode cX3_image 1 = .ok (.getfield 16, 3) := by decide +kernel
theorem dX3_image_4 : decode cX3_image 4 = .ok (.aload_n 0, 1) := by decide +kernel
theorem dX3_image_5 : decode cX3_image 5 = .ok (.getfield 10, 3) := by decide +kernel
theorem dX3_image_8 : decode cX3_image 8 = .ok (.invokevirtual 67, 3) := by decide +kernel
theorem dX3_image_11 : decode cX3_image 11 = .ok (.aload_n 0, 1) := by decide +kernel
theorem dX3_image_12 : decode cX3_image 12 = .ok (.iconst 1, 1) := by decide +kernel
theorem dX3_image_13 : decode cX3_image 13 = .ok (.putfield 53, 3) := by decide +kernel
theorem dX3_image_16 : decode cX3_image 16 = .ok (.aload_n 0, 1) := by decide +kernel
theorem dX3_image_17 : decode cX3_image 17 = .ok (.getfield 10, 3) := by decide +kernel
theorem dX3_image_20 : decode cX3_image 20 = .ok (.getfield 106, 3) := by decide +kernel
theorem dX3_image_23 : decode cX3_image 23 = .ok (.ireturn, 1) := by decide +kernel
theorem dX3_on_0 : decode cX3_on 0 = .ok (.aload_n 0, 1) := by decide +kernel
theorem dX3_on_1 : decode cX3_on 1 = .ok (.getfield 53, 3) := by decide +kernel
theorem dX3_on_4 : decode cX3_on 4 = .ok (.ifCond .ne 10, 3) := by decide +kernel
theorem dX3_on_7 : decode cX3_on 7 = .ok (.aload_n 0, 1) := by decide +kernel
theorem dX3_on_8 : decode cX3_on 8 = .ok (.bipush (-3), 2) := by decide +kernel
theorem dX3_on_10 : decode cX3_on 10 = .ok (.invokevirtual 57, 3) := by decide +kernel
theorem dX3_on_13 : decode cX3_on 13 = .ok (.ireturn, 1) := by decide +kernel
theorem dX3_on_14 : decode cX3_on 14 = .ok (.aload_n 0, 1) := by decide +kernel
theorem dX3_on_15 : decode cX3_on 15 = .ok (.getfield 10, 3) := by decide +kernel
theorem dX3_on_18 : decode cX3_on 18 = .ok (.aload_n 0, 1) := by decide +kernel
theorem dX3_on_19 : decode cX3_on 19 = .ok (.getfield 16, 3) := by decide +kernel
theorem dX3_on_22 : decode cX3_on 22 = .ok (.invokevirtual 67, 3) := by decide +kernel
theorem dX3_on_25 : decode cX3_on 25 = .ok (.aload_n 0, 1) := by decide +kernel
theorem dX3_on_26 : decode cX3_on 26 = .ok (.getfield 10, 3) := by decide +kernel
theorem dX3_on_29 : decode cX3_on 29 = .ok (.getfield 106, 3) := by decide +kernel
theorem dX3_on_32 : decode cX3_on 32 = .ok (.ireturn, 1) := by decide +kernel
theorem dX3_count_0 : decode cX3_count 0 = .ok (.iload_n 1, 1) := by decide +kernel
theorem dX3_count_1 : decode cX3_count 1 = .ok (.tableswitch 132 0 9 #[55, 63, 71, 79, 87, 95, 103, 111, 119, 124], 55) := by decide +kernel
theorem dX3_count_56 : decode cX3_count 56 = .ok (.aload_n 0, 1) := by decide +kernel
theorem dX3_count_57 : decode cX3_count 57 = .ok (.getfield 10, 3) := by decide +kernel
theorem dX3_count_60 : decode cX3_count 60 = .ok (.getfield 106, 3) := by decide +kernel
theorem dX3_count_63 : decode cX3_count 63 = .ok (.ireturn, 1) := by decide +kernel
theorem dX3_count_64 : decode cX3_count 64 = .ok (.aload_n 0, 1) := by decide +kernel
theorem dX3_count_65 : decode cX3_count 65 = .ok (.getfield 10, 3) := by decide +kernel
theorem dX3_count_68 : decode cX3_count 68 = .ok (.getfield 187, 3) := by decide +kernel
theorem dX3_count_71 : decode cX3_count 71 = .ok (.ireturn, 1) := by decide +kernel
theorem dX3_count_72 : decode cX3_count 72 = .ok (.aload_n 0, 1) := by decide +kernel
theorem dX3_count_73 : decode cX3_count 73 = .ok (.getfield 10, 3) := by decide +kernel
theorem dX3_count_76 : decode cX3_count 76 = .ok (.invokevirtual 193, 3) := by decide +kernel
theorem dX3_count_79 : decode cX3_count 79 = .ok (.ireturn, 1) := by decide +kernel
theorem dX3_count_80 : decode cX3_count 80 = .ok (.aload_n 0, 1) := by decide +kernel
theorem dX3_count_81 : decode cX3_count 81 = .ok (.getfield 10, 3) := by decide +kernel
theorem dX3_count_84 : decode cX3_count 84 = .ok (.getfield 120, 3) := by decide +kernel
theorem dX3_count_87 : decode cX3_count 87 = .ok (.ireturn, 1) := by decide +kernel
theorem dX3_count_88 : decode cX3_count 88 = .ok (.aload_n 0, 1) := by decide +kernel
theorem dX3_count_89 : decode cX3_count 89 = .ok (.getfield 10, 3) := by decide +kernel
theorem dX3_count_92 : decode cX3_count 92 = .ok (.getfield 152, 3) := by decide +kernel
theorem dX3_count_95 : decode cX3_count 95 = .ok (.ireturn, 1) := by decide +kernel
theorem dX3_count_96 : decode cX3_count 96 = .ok (.aload_n 0, 1) := by decide +kernel
theorem dX3_count_97 : decode cX3_count 97 = .ok (.getfield 10, 3) := by decide +kernel
theorem dX3_count_100 : decode cX3_count 100 = .ok (.getfield 123, 3) := by decide +kernel
theorem dX3_count_103 : decode cX3_count 103 = .ok (.ireturn, 1) := by decide +kernel
theorem dX3_count_104 : decode cX3_count 104 = .ok (.aload_n 0, 1) := by decide +kernel
theorem dX3_count_105 : decode cX3_count 105 = .ok (.getfield 10, 3) := by decide +kernel
theorem dX3_count_108 : decode cX3_count 108 = .ok (.getfield 196, 3) := by decide +kernel
theorem dX3_count_111 : decode cX3_count 111 = .ok (.ireturn, 1) := by decide +kernel
theorem dX3_count_112 : decode cX3_count 112 = .ok (.aload_n 0, 1) := by decide +kernel
theorem dX3_count_113 : decode cX3_count 113 = .ok (.getfield 35, 3) := by decide +kernel
theorem dX3_count_116 : decode cX3_count 116 = .ok (.getfield 155, 3) := by decide +kernel
theorem dX3_count_119 : decode cX3_count 119 = .ok (.ireturn, 1) := by decide +kernel
theorem dX3_count_120 : decode cX3_count 120 = .ok (.aload_n 0, 1) := by decide +kernel
theorem dX3_count_121 : decode cX3_count 121 = .ok (.getfield 49, 3) := by decide +kernel
theorem dX3_count_124 : decode cX3_count 124 = .ok (.ireturn, 1) := by decide +kernel
theorem dX3_count_125 : decode cX3_count 125 = .ok (.aload_n 0, 1) := by decide +kernel
theorem dX3_count_126 : decode cX3_count 126 = .ok (.getfield 28, 3) := by decide +kernel
theorem dX3_count_129 : decode cX3_count 129 = .ok (.getfield 61, 3) := by decide +kernel
theorem dX3_count_132 : decode cX3_count 132 = .ok (.ireturn, 1) := by decide +kernel
theorem dX3_count_133 : decode cX3_count 133 = .ok (.iload_n 1, 1) := by decide +kernel
theorem dX3_count_134 : decode cX3_count 134 = .ok (.bipush 11, 2) := by decide +kernel
theorem dX3_count_136 : decode cX3_count 136 = .ok (.bipush 16, 2) := by decide +kernel
theorem dX3_count_138 : decode cX3_count 138 = .ok (.invokestatic 199, 3) := by decide +kernel
theorem dX3_count_141 : decode cX3_count 141 = .ok (.ifCond .eq 15, 3) := by decide +kernel
theorem dX3_count_144 : decode cX3_count 144 = .ok (.aload_n 0, 1) := by decide +kernel
theorem dX3_count_145 : decode cX3_count 145 = .ok (.getfield 46, 3) := by decide +kernel
theorem dX3_count_148 : decode cX3_count 148 = .ok (.iload_n 1, 1) := by decide +kernel
theorem dX3_count_149 : decode cX3_count 149 = .ok (.bipush 10, 2) := by decide +kernel
theorem dX3_count_151 : decode cX3_count 151 = .ok (.isub, 1) := by decide +kernel
theorem dX3_count_152 : decode cX3_count 152 = .ok (.iaload, 1) := by decide +kernel
theorem dX3_count_153 : decode cX3_count 153 = .ok (.goto 5, 3) := by decide +kernel
theorem dX3_count_156 : decode cX3_count 156 = .ok (.bipush (-9), 2) := by decide +kernel
theorem dX3_count_158 : decode cX3_count 158 = .ok (.ireturn, 1) := by decide +kernel
theorem dX3_refuse_0 : decode cX3_refuse 0 = .ok (.iload_n 1, 1) := by decide +kernel
theorem dX3_refuse_1 : decode cX3_refuse 1 = .ok (.ineg, 1) := by decide +kernel
theorem dX3_refuse_2 : decode cX3_refuse 2 = .ok (.istore_n 2, 1) := by decide +kernel
theorem dX3_refuse_3 : decode cX3_refuse 3 = .ok (.iload_n 2, 1) := by decide +kernel
theorem dX3_refuse_4 : decode cX3_refuse 4 = .ok (.iconst 1, 1) := by decide +kernel
theorem dX3_refuse_5 : decode cX3_refuse 5 = .ok (.if_icmp .lt 19, 3) := by decide +kernel
theorem dX3_refuse_8 : decode cX3_refuse 8 = .ok (.iload_n 2, 1) := by decide +kernel
theorem dX3_refuse_9 : decode cX3_refuse 9 = .ok (.bipush 6, 2) := by decide +kernel
theorem dX3_refuse_11 : decode cX3_refuse 11 = .ok (.if_icmp .gt 13, 3) := by decide +kernel
theorem dX3_refuse_14 : decode cX3_refuse 14 = .ok (.aload_n 0, 1) := by decide +kernel
theorem dX3_refuse_15 : decode cX3_refuse 15 = .ok (.getfield 46, 3) := by decide +kernel
theorem dX3_refuse_18 : decode cX3_refuse 18 = .ok (.iload_n 2, 1) := by decide +kernel
theorem dX3_refuse_19 : decode cX3_refuse 19 = .ok (.dup2, 1) := by decide +kernel
theorem dX3_refuse_20 : decode cX3_refuse 20 = .ok (.iaload, 1) := by decide +kernel
theorem dX3_refuse_21 : decode cX3_refuse 21 = .ok (.iconst 1, 1) := by decide +kernel
theorem dX3_refuse_22 : decode cX3_refuse 22 = .ok (.iadd, 1) := by decide +kernel
theorem dX3_refuse_23 : decode cX3_refuse 23 = .ok (.iastore, 1) := by decide +kernel
theorem dX3_refuse_24 : decode cX3_refuse 24 = .ok (.iload_n 1, 1) := by decide +kernel
theorem dX3_refuse_25 : decode cX3_refuse 25 = .ok (.ireturn, 1) := by decide +kernel
theorem dX3_refuseLong_0 : decode cX3_refuseLong 0 = .ok (.ldc2_w 203, 3) := by decide +kernel
theorem dX3_refuseLong_3 : decode cX3_refuseLong 3 = .ok (.aload_n 0, 1) := by decide +kernel
theorem dX3_refuseLong_4 : decode cX3_refuseLong 4 = .ok (.iload_n 1, 1) := by decide +kernel
theorem dX3_refuseLong_5 : decode cX3_refuseLong 5 = .ok (.invokevirtual 57, 3) := by decide +kernel
theorem dX3_refuseLong_8 : decode cX3_refuseLong 8 = .ok (.i2l, 1) := by decide +kernel
theorem dX3_refuseLong_9 : decode cX3_refuseLong 9 = .ok (.lsub, 1) := by decide +kernel
theorem dX3_refuseLong_10 : decode cX3_refuseLong 10 = .ok (.lreturn, 1) := by decide +kernel
theorem dX3_weightOf_0 : decode cX3_weightOf 0 = .ok (.aload_n 0, 1) := by decide +kernel
theorem dX3_weightOf_1 : decode cX3_weightOf 1 = .ok (.getfield 35, 3) := by decide +kernel
theorem dX3_weightOf_4 : decode cX3_weightOf 4 = .ok (.iload_n 1, 1) := by decide +kernel
theorem dX3_weightOf_5 : decode cX3_weightOf 5 = .ok (.aload_n 0, 1) := by decide +kernel
theorem dX3_weightOf_6 : decode cX3_weightOf 6 = .ok (.getfield 10, 3) := by decide +kernel
theorem dX3_weightOf_9 : decode cX3_weightOf 9 = .ok (.getfield 120, 3) := by decide +kernel
theorem dX3_weightOf_12 : decode cX3_weightOf 12 = .ok (.aload_n 0, 1) := by decide +kernel
theorem dX3_weightOf_13 : decode cX3_weightOf 13 = .ok (.getfield 10, 3) := by decide +kernel
theorem dX3_weightOf_16 : decode cX3_weightOf 16 = .ok (.getfield 123, 3) := by decide +kernel
theorem dX3_weightOf_19 : decode cX3_weightOf 19 = .ok (.invokevirtual 179, 3) := by decide +kernel
theorem dX3_weightOf_22 : decode cX3_weightOf 22 = .ok (.istore_n 2, 1) := by decide +kernel
theorem dX3_weightOf_23 : decode cX3_weightOf 23 = .ok (.lconst 1, 1) := by decide +kernel
theorem dX3_weightOf_24 : decode cX3_weightOf 24 = .ok (.lstore_n 3, 1) := by decide +kernel
theorem dX3_weightOf_25 : decode cX3_weightOf 25 = .ok (.iconst 0, 1) := by decide +kernel
theorem dX3_weightOf_26 : decode cX3_weightOf 26 = .ok (.istore 5, 2) := by decide +kernel
theorem dX3_weightOf_28 : decode cX3_weightOf 28 = .ok (.iload 5, 2) := by decide +kernel
theorem dX3_weightOf_30 : decode cX3_weightOf 30 = .ok (.iload_n 2, 1) := by decide +kernel
theorem dX3_weightOf_31 : decode cX3_weightOf 31 = .ok (.if_icmp .ge 15, 3) := by decide +kernel
theorem dX3_weightOf_34 : decode cX3_weightOf 34 = .ok (.lload_n 3, 1) := by decide +kernel
theorem dX3_weightOf_35 : decode cX3_weightOf 35 = .ok (.ldc2_w 205, 3) := by decide +kernel
theorem dX3_weightOf_38 : decode cX3_weightOf 38 = .ok (.lmul, 1) := by decide +kernel
theorem dX3_weightOf_39 : decode cX3_weightOf 39 = .ok (.lstore_n 3, 1) := by decide +kernel
theorem dX3_weightOf_40 : decode cX3_weightOf 40 = .ok (.iinc 5 1, 3) := by decide +kernel
theorem dX3_weightOf_43 : decode cX3_weightOf 43 = .ok (.goto (-15), 3) := by decide +kernel
theorem dX3_weightOf_46 : decode cX3_weightOf 46 = .ok (.lload_n 3, 1) := by decide +kernel
theorem dX3_weightOf_47 : decode cX3_weightOf 47 = .ok (.lreturn, 1) := by decide +kernel
theorem dX3_leftAtWorst_0 : decode cX3_leftAtWorst 0 = .ok (.iconst 0, 1) := by decide +kernel
theorem dX3_leftAtWorst_1 : decode cX3_leftAtWorst 1 = .ok (.istore_n 3, 1) := by decide +kernel
theorem dX3_leftAtWorst_2 : decode cX3_leftAtWorst 2 = .ok (.iload_n 3, 1) := by decide +kernel
theorem dX3_leftAtWorst_3 : decode cX3_leftAtWorst 3 = .ok (.bipush 9, 2) := by decide +kernel
theorem dX3_leftAtWorst_5 : decode cX3_leftAtWorst 5 = .ok (.if_icmp .ge 16, 3) := by decide +kernel
theorem dX3_leftAtWorst_8 : decode cX3_leftAtWorst 8 = .ok (.aload_n 0, 1) := by decide +kernel
theorem dX3_leftAtWorst_9 : decode cX3_leftAtWorst 9 = .ok (.getfield 43, 3) := by decide +kernel
theorem dX3_leftAtWorst_12 : decode cX3_leftAtWorst 12 = .ok (.iload_n 3, 1) := by decide +kernel
theorem dX3_leftAtWorst_13 : decode cX3_leftAtWorst 13 = .ok (.iconst 0, 1) := by decide +kernel
theorem dX3_leftAtWorst_14 : decode cX3_leftAtWorst 14 = .ok (.iastore, 1) := by decide +kernel
theorem dX3_leftAtWorst_15 : decode cX3_leftAtWorst 15 = .ok (.iinc 3 1, 3) := by decide +kernel
theorem dX3_leftAtWorst_18 : decode cX3_leftAtWorst 18 = .ok (.goto (-16), 3) := by decide +kernel
theorem dX3_leftAtWorst_21 : decode cX3_leftAtWorst 21 = .ok (.iconst 0, 1) := by decide +kernel
theorem dX3_leftAtWorst_22 : decode cX3_leftAtWorst 22 = .ok (.istore_n 3, 1) := by decide +kernel
theorem dX3_leftAtWorst_23 : decode cX3_leftAtWorst 23 = .ok (.iconst 0, 1) := by decide +kernel
theorem dX3_leftAtWorst_24 : decode cX3_leftAtWorst 24 = .ok (.istore 4, 2) := by decide +kernel
theorem dX3_leftAtWorst_26 : decode cX3_leftAtWorst 26 = .ok (.iload 4, 2) := by decide +kernel
theorem dX3_leftAtWorst_28 : decode cX3_leftAtWorst 28 = .ok (.bipush 24, 2) := by decide +kernel
theorem dX3_leftAtWorst_30 : decode cX3_leftAtWorst 30 = .ok (.if_icmp .ge 76, 3) := by decide +kernel
theorem dX3_leftAtWorst_33 : decode cX3_leftAtWorst 33 = .ok (.iload_n 1, 1) := by decide +kernel
theorem dX3_leftAtWorst_34 : decode cX3_leftAtWorst 34 = .ok (.iload 4, 2) := by decide +kernel
theorem dX3_leftAtWorst_36 : decode cX3_leftAtWorst 36 = .ok (.aload_n 0, 1) := by decide +kernel
theorem dX3_leftAtWorst_37 : decode cX3_leftAtWorst 37 = .ok (.getfield 10, 3) := by decide +kernel
theorem dX3_leftAtWorst_40 : decode cX3_leftAtWorst 40 = .ok (.getfield 120, 3) := by decide +kernel
theorem dX3_leftAtWorst_43 : decode cX3_leftAtWorst 43 = .ok (.aload_n 0, 1) := by decide +kernel
theorem dX3_leftAtWorst_44 : decode cX3_leftAtWorst 44 = .ok (.getfield 10, 3) := by decide +kernel
theorem dX3_leftAtWorst_47 : decode cX3_leftAtWorst 47 = .ok (.getfield 123, 3) := by decide +kernel
theorem dX3_leftAtWorst_50 : decode cX3_leftAtWorst 50 = .ok (.invokestatic 126, 3) := by decide +kernel
theorem dX3_leftAtWorst_53 : decode cX3_leftAtWorst 53 = .ok (.istore 5, 2) := by decide +kernel
theorem dX3_leftAtWorst_55 : decode cX3_leftAtWorst 55 = .ok (.iload_n 2, 1) := by decide +kernel
theorem dX3_leftAtWorst_56 : decode cX3_leftAtWorst 56 = .ok (.iload 4, 2) := by decide +kernel
theorem dX3_leftAtWorst_58 : decode cX3_leftAtWorst 58 = .ok (.ishr, 1) := by decide +kernel
theorem dX3_leftAtWorst_59 : decode cX3_leftAtWorst 59 = .ok (.iconst 1, 1) := by decide +kernel
theorem dX3_leftAtWorst_60 : decode cX3_leftAtWorst 60 = .ok (.iand, 1) := by decide +kernel
theorem dX3_leftAtWorst_61 : decode cX3_leftAtWorst 61 = .ok (.iconst 1, 1) := by decide +kernel
theorem dX3_leftAtWorst_62 : decode cX3_leftAtWorst 62 = .ok (.if_icmp .ne 38, 3) := by decide +kernel
theorem dX3_leftAtWorst_65 : decode cX3_leftAtWorst 65 = .ok (.iload 5, 2) := by decide +kernel
theorem dX3_leftAtWorst_67 : decode cX3_leftAtWorst 67 = .ok (.ifCond .lt 33, 3) := by decide +kernel
theorem dX3_leftAtWorst_70 : decode cX3_leftAtWorst 70 = .ok (.iload 5, 2) := by decide +kernel
theorem dX3_leftAtWorst_72 : decode cX3_leftAtWorst 72 = .ok (.bipush 9, 2) := by decide +kernel
theorem dX3_leftAtWorst_74 : decode cX3_leftAtWorst 74 = .ok (.if_icmp .ge 26, 3) := by decide +kernel
theorem dX3_leftAtWorst_77 : decode cX3_leftAtWorst 77 = .ok (.aload_n 0, 1) := by decide +kernel
theorem dX3_leftAtWorst_78 : decode cX3_leftAtWorst 78 = .ok (.getfield 43, 3) := by decide +kernel
theorem dX3_leftAtWorst_81 : decode cX3_leftAtWorst 81 = .ok (.iload 5, 2) := by decide +kernel
theorem dX3_leftAtWorst_83 : decode cX3_leftAtWorst 83 = .ok (.dup2, 1) := by decide +kernel
theorem dX3_leftAtWorst_84 : decode cX3_leftAtWorst 84 = .ok (.iaload, 1) := by decide +kernel
theorem dX3_leftAtWorst_85 : decode cX3_leftAtWorst 85 = .ok (.iconst 1, 1) := by decide +kernel
theorem dX3_leftAtWorst_86 : decode cX3_leftAtWorst 86 = .ok (.iadd, 1) := by decide +kernel
theorem dX3_leftAtWorst_87 : decode cX3_leftAtWorst 87 = .ok (.iastore, 1) := by decide +kernel
theorem dX3_leftAtWorst_88 : decode cX3_leftAtWorst 88 = .ok (.iload_n 3, 1) := by decide +kernel
theorem dX3_leftAtWorst_89 : decode cX3_leftAtWorst 89 = .ok (.aload_n 0, 1) := by decide +kernel
theorem dX3_leftAtWorst_90 : decode cX3_leftAtWorst 90 = .ok (.getfield 43, 3) := by decide +kernel
theorem dX3_leftAtWorst_93 : decode cX3_leftAtWorst 93 = .ok (.iload 5, 2) := by decide +kernel
theorem dX3_leftAtWorst_95 : decode cX3_leftAtWorst 95 = .ok (.iaload, 1) := by decide +kernel
theorem dX3_leftAtWorst_96 : decode cX3_leftAtWorst 96 = .ok (.invokestatic 207, 3) := by decide +kernel
theorem dX3_leftAtWorst_99 : decode cX3_leftAtWorst 99 = .ok (.istore_n 3, 1) := by decide +kernel
theorem dX3_leftAtWorst_100 : decode cX3_leftAtWorst 100 = .ok (.iinc 4 1, 3) := by decide +kernel
theorem dX3_leftAtWorst_103 : decode cX3_leftAtWorst 103 = .ok (.goto (-77), 3) := by decide +kernel
theorem dX3_leftAtWorst_106 : decode cX3_leftAtWorst 106 = .ok (.iload_n 3, 1) := by decide +kernel
theorem dX3_leftAtWorst_107 : decode cX3_leftAtWorst 107 = .ok (.ireturn, 1) := by decide +kernel
theorem dX3_strokesOfStrip_0 : decode cX3_strokesOfStrip 0 = .ok (.iload_n 1, 1) := by decide +kernel
theorem dX3_strokesOfStrip_1 : decode cX3_strokesOfStrip 1 = .ok (.iconst 4, 1) := by decide +kernel
theorem dX3_strokesOfStrip_2 : decode cX3_strokesOfStrip 2 = .ok (.if_icmp .ge 7, 3) := by decide +kernel
theorem dX3_strokesOfStrip_5 : decode cX3_strokesOfStrip 5 = .ok (.iconst 1, 1) := by decide +kernel
theorem dX3_strokesOfStrip_6 : decode cX3_strokesOfStrip 6 = .ok (.goto 4, 3) := by decide +kernel
theorem dX3_strokesOfStrip_9 : decode cX3_strokesOfStrip 9 = .ok (.iconst 0, 1) := by decide +kernel
theorem dX3_strokesOfStrip_10 : decode cX3_strokesOfStrip 10 = .ok (.istore_n 2, 1) := by decide +kernel
theorem dX3_strokesOfStrip_11 : decode cX3_strokesOfStrip 11 = .ok (.iload_n 2, 1) := by decide +kernel
theorem dX3_strokesOfStrip_12 : decode cX3_strokesOfStrip 12 = .ok (.ifCond .eq 10, 3) := by decide +kernel
theorem dX3_strokesOfStrip_15 : decode cX3_strokesOfStrip 15 = .ok (.bipush 6, 2) := by decide +kernel
theorem dX3_strokesOfStrip_17 : decode cX3_strokesOfStrip 17 = .ok (.iload_n 1, 1) := by decide +kernel
theorem dX3_strokesOfStrip_18 : decode cX3_strokesOfStrip 18 = .ok (.imul, 1) := by decide +kernel
theorem dX3_strokesOfStrip_19 : decode cX3_strokesOfStrip 19 = .ok (.goto 6, 3) := by decide +kernel
theorem dX3_strokesOfStrip_22 : decode cX3_strokesOfStrip 22 = .ok (.iload_n 1, 1) := by decide +kernel
theorem dX3_strokesOfStrip_23 : decode cX3_strokesOfStrip 23 = .ok (.iconst 4, 1) := by decide +kernel
theorem dX3_strokesOfStrip_24 : decode cX3_strokesOfStrip 24 = .ok (.isub, 1) := by decide +kernel
theorem dX3_strokesOfStrip_25 : decode cX3_strokesOfStrip 25 = .ok (.istore_n 3, 1) := by decide +kernel
theorem dX3_strokesOfStrip_26 : decode cX3_strokesOfStrip 26 = .ok (.iload_n 2, 1) := by decide +kernel
theorem dX3_strokesOfStrip_27 : decode cX3_strokesOfStrip 27 = .ok (.ifCond .eq 8, 3) := by decide +kernel
theorem dX3_strokesOfStrip_30 : decode cX3_strokesOfStrip 30 = .ok (.bipush 6, 2) := by decide +kernel
theorem dX3_strokesOfStrip_32 : decode cX3_strokesOfStrip 32 = .ok (.goto 4, 3) := by decide +kernel
theorem dX3_strokesOfStrip_35 : decode cX3_strokesOfStrip 35 = .ok (.iconst 4, 1) := by decide +kernel
theorem dX3_strokesOfStrip_36 : decode cX3_strokesOfStrip 36 = .ok (.istore 4, 2) := by decide +kernel
theorem dX3_strokesOfStrip_38 : decode cX3_strokesOfStrip 38 = .ok (.iload_n 2, 1) := by decide +kernel
theorem dX3_strokesOfStrip_39 : decode cX3_strokesOfStrip 39 = .ok (.ifCond .eq 7, 3) := by decide +kernel
theorem dX3_strokesOfStrip_42 : decode cX3_strokesOfStrip 42 = .ok (.iconst 1, 1) := by decide +kernel
theorem dX3_strokesOfStrip_43 : decode cX3_strokesOfStrip 43 = .ok (.goto 5, 3) := by decide +kernel
theorem dX3_strokesOfStrip_46 : decode cX3_strokesOfStrip 46 = .ok (.bipush 6, 2) := by decide +kernel
theorem dX3_strokesOfStrip_48 : decode cX3_strokesOfStrip 48 = .ok (.istore 5, 2) := by decide +kernel
theorem dX3_strokesOfStrip_50 : decode cX3_strokesOfStrip 50 = .ok (.aload_n 0, 1) := by decide +kernel
theorem dX3_strokesOfStrip_51 : decode cX3_strokesOfStrip 51 = .ok (.getfield 19, 3) := by decide +kernel
theorem dX3_strokesOfStrip_54 : decode cX3_strokesOfStrip 54 = .ok (.aload_n 0, 1) := by decide +kernel
theorem dX3_strokesOfStrip_55 : decode cX3_strokesOfStrip 55 = .ok (.getfield 10, 3) := by decide +kernel
theorem dX3_strokesOfStrip_58 : decode cX3_strokesOfStrip 58 = .ok (.invokevirtual 67, 3) := by decide +kernel
theorem dX3_strokesOfStrip_61 : decode cX3_strokesOfStrip 61 = .ok (.iconst 0, 1) := by decide +kernel
theorem dX3_strokesOfStrip_62 : decode cX3_strokesOfStrip 62 = .ok (.istore 6, 2) := by decide +kernel
theorem dX3_strokesOfStrip_64 : decode cX3_strokesOfStrip 64 = .ok (.iload 6, 2) := by decide +kernel
theorem dX3_strokesOfStrip_66 : decode cX3_strokesOfStrip 66 = .ok (.iload 4, 2) := by decide +kernel
theorem dX3_strokesOfStrip_68 : decode cX3_strokesOfStrip 68 = .ok (.if_icmp .ge 38, 3) := by decide +kernel
theorem dX3_strokesOfStrip_71 : decode cX3_strokesOfStrip 71 = .ok (.aload_n 0, 1) := by decide +kernel
theorem dX3_strokesOfStrip_72 : decode cX3_strokesOfStrip 72 = .ok (.getfield 19, 3) := by decide +kernel
theorem dX3_strokesOfStrip_75 : decode cX3_strokesOfStrip 75 = .ok (.getfield 82, 3) := by decide +kernel
theorem dX3_strokesOfStrip_78 : decode cX3_strokesOfStrip 78 = .ok (.bipush 24, 2) := by decide +kernel
theorem dX3_strokesOfStrip_80 : decode cX3_strokesOfStrip 80 = .ok (.if_icmp .ne 6, 3) := by decide +kernel
theorem dX3_strokesOfStrip_83 : decode cX3_strokesOfStrip 83 = .ok (.iload 6, 2) := by decide +kernel
theorem dX3_strokesOfStrip_85 : decode cX3_strokesOfStrip 85 = .ok (.ireturn, 1) := by decide +kernel
theorem dX3_strokesOfStrip_86 : decode cX3_strokesOfStrip 86 = .ok (.aload_n 0, 1) := by decide +kernel
theorem dX3_strokesOfStrip_87 : decode cX3_strokesOfStrip 87 = .ok (.getfield 19, 3) := by decide +kernel
theorem dX3_strokesOfStrip_90 : decode cX3_strokesOfStrip 90 = .ok (.iload_n 3, 1) := by decide +kernel
theorem dX3_strokesOfStrip_91 : decode cX3_strokesOfStrip 91 = .ok (.iload 5, 2) := by decide +kernel
theorem dX3_strokesOfStrip_93 : decode cX3_strokesOfStrip 93 = .ok (.iload 6, 2) := by decide +kernel
theorem dX3_strokesOfStrip_95 : decode cX3_strokesOfStrip 95 = .ok (.imul, 1) := by decide +kernel
theorem dX3_strokesOfStrip_96 : decode cX3_strokesOfStrip 96 = .ok (.iadd, 1) := by decide +kernel
theorem dX3_strokesOfStrip_97 : decode cX3_strokesOfStrip 97 = .ok (.invokevirtual 109, 3) := by decide +kernel
theorem dX3_strokesOfStrip_100 : decode cX3_strokesOfStrip 100 = .ok (.iinc 6 1, 3) := by decide +kernel
theorem dX3_strokesOfStrip_103 : decode cX3_strokesOfStrip 103 = .ok (.goto (-39), 3) := by decide +kernel
theorem dX3_strokesOfStrip_106 : decode cX3_strokesOfStrip 106 = .ok (.aload_n 0, 1) := by decide +kernel
theorem dX3_strokesOfStrip_107 : decode cX3_strokesOfStrip 107 = .ok (.getfield 19, 3) := by decide +kernel
theorem dX3_strokesOfStrip_110 : decode cX3_strokesOfStrip 110 = .ok (.getfield 82, 3) := by decide +kernel
theorem dX3_strokesOfStrip_113 : decode cX3_strokesOfStrip 113 = .ok (.bipush 24, 2) := by decide +kernel
theorem dX3_strokesOfStrip_115 : decode cX3_strokesOfStrip 115 = .ok (.if_icmp .ne 8, 3) := by decide +kernel
theorem dX3_strokesOfStrip_118 : decode cX3_strokesOfStrip 118 = .ok (.iload 4, 2) := by decide +kernel
theorem dX3_strokesOfStrip_120 : decode cX3_strokesOfStrip 120 = .ok (.goto 5, 3) := by decide +kernel
theorem dX3_strokesOfStrip_123 : decode cX3_strokesOfStrip 123 = .ok (.bipush (-9), 2) := by decide +kernel
theorem dX3_strokesOfStrip_125 : decode cX3_strokesOfStrip 125 = .ok (.ireturn, 1) := by decide +kernel
theorem dX3_firstOf_0 : decode cX3_firstOf 0 = .ok (.iconst 0, 1) := by decide +kernel
theorem dX3_firstOf_1 : decode cX3_firstOf 1 = .ok (.istore_n 2, 1) := by decide +kernel
theorem dX3_firstOf_2 : decode cX3_firstOf 2 = .ok (.iload_n 2, 1) := by decide +kernel
theorem dX3_firstOf_3 : decode cX3_firstOf 3 = .ok (.bipush 24, 2) := by decide +kernel
theorem dX3_firstOf_5 : decode cX3_firstOf 5 = .ok (.if_icmp .ge 40, 3) := by decide +kernel
theorem dX3_firstOf_8 : decode cX3_firstOf 8 = .ok (.aload_n 0, 1) := by decide +kernel
theorem dX3_firstOf_9 : decode cX3_firstOf 9 = .ok (.getfield 19, 3) := by decide +kernel
theorem dX3_firstOf_12 : decode cX3_firstOf 12 = .ok (.aload_n 0, 1) := by decide +kernel
theorem dX3_firstOf_13 : decode cX3_firstOf 13 = .ok (.getfield 10, 3) := by decide +kernel
theorem dX3_firstOf_16 : decode cX3_firstOf 16 = .ok (.invokevirtual 67, 3) := by decide +kernel
theorem dX3_firstOf_19 : decode cX3_firstOf 19 = .ok (.aload_n 0, 1) := by decide +kernel
theorem dX3_firstOf_20 : decode cX3_firstOf 20 = .ok (.getfield 19, 3) := by decide +kernel
theorem dX3_firstOf_23 : decode cX3_firstOf 23 = .ok (.iload_n 2, 1) := by decide +kernel
theorem dX3_firstOf_24 : decode cX3_firstOf 24 = .ok (.invokevirtual 109, 3) := by decide +kernel
theorem dX3_firstOf_27 : decode cX3_firstOf 27 = .ok (.aload_n 0, 1) := by decide +kernel
theorem dX3_firstOf_28 : decode cX3_firstOf 28 = .ok (.iload_n 1, 1) := by decide +kernel
theorem dX3_firstOf_29 : decode cX3_firstOf 29 = .ok (.iconst 1, 1) := by decide +kernel
theorem dX3_firstOf_30 : decode cX3_firstOf 30 = .ok (.isub, 1) := by decide +kernel
theorem dX3_firstOf_31 : decode cX3_firstOf 31 = .ok (.invokevirtual 210, 3) := by decide +kernel
theorem dX3_firstOf_34 : decode cX3_firstOf 34 = .ok (.ifCond .eq 5, 3) := by decide +kernel
theorem dX3_firstOf_37 : decode cX3_firstOf 37 = .ok (.iload_n 2, 1) := by decide +kernel
theorem dX3_firstOf_38 : decode cX3_firstOf 38 = .ok (.ireturn, 1) := by decide +kernel
theorem dX3_firstOf_39 : decode cX3_firstOf 39 = .ok (.iinc 2 1, 3) := by decide +kernel
theorem dX3_firstOf_42 : decode cX3_firstOf 42 = .ok (.goto (-40), 3) := by decide +kernel
theorem dX3_firstOf_45 : decode cX3_firstOf 45 = .ok (.bipush (-9), 2) := by decide +kernel
theorem dX3_firstOf_47 : decode cX3_firstOf 47 = .ok (.ireturn, 1) := by decide +kernel
theorem dX3_canBeGone_0 : decode cX3_canBeGone 0 = .ok (.iload_n 1, 1) := by decide +kernel
theorem dX3_canBeGone_1 : decode cX3_canBeGone 1 = .ok (.ifCond .gt 21, 3) := by decide +kernel
theorem dX3_canBeGone_4 : decode cX3_canBeGone 4 = .ok (.aload_n 0, 1) := by decide +kernel
theorem dX3_canBeGone_5 : decode cX3_canBeGone 5 = .ok (.getfield 19, 3) := by decide +kernel
theorem dX3_canBeGone_8 : decode cX3_canBeGone 8 = .ok (.getfield 82, 3) := by decide +kernel
theorem dX3_canBeGone_11 : decode cX3_canBeGone 11 = .ok (.bipush 24, 2) := by decide +kernel
theorem dX3_canBeGone_13 : decode cX3_canBeGone 13 = .ok (.if_icmp .ne 7, 3) := by decide +kernel
theorem dX3_canBeGone_16 : decode cX3_canBeGone 16 = .ok (.iconst 1, 1) := by decide +kernel
theorem dX3_canBeGone_17 : decode cX3_canBeGone 17 = .ok (.goto 4, 3) := by decide +kernel
theorem dX3_canBeGone_20 : decode cX3_canBeGone 20 = .ok (.iconst 0, 1) := by decide +kernel
theorem dX3_canBeGone_21 : decode cX3_canBeGone 21 = .ok (.ireturn, 1) := by decide +kernel
theorem dX3_canBeGone_22 : decode cX3_canBeGone 22 = .ok (.iload_n 1, 1) := by decide +kernel
theorem dX3_canBeGone_23 : decode cX3_canBeGone 23 = .ok (.iconst 1, 1) := by decide +kernel
theorem dX3_canBeGone_24 : decode cX3_canBeGone 24 = .ok (.if_icmp .ne 35, 3) := by decide +kernel
theorem dX3_canBeGone_27 : decode cX3_canBeGone 27 = .ok (.aload_n 0, 1) := by decide +kernel
theorem dX3_canBeGone_28 : decode cX3_canBeGone 28 = .ok (.getfield 19, 3) := by decide +kernel
theorem dX3_canBeGone_31 : decode cX3_canBeGone 31 = .ok (.aload_n 0, 1) := by decide +kernel
theorem dX3_canBeGone_32 : decode cX3_canBeGone 32 = .ok (.getfield 19, 3) := by decide +kernel
theorem dX3_canBeGone_35 : decode cX3_canBeGone 35 = .ok (.getfield 82, 3) := by decide +kernel
theorem dX3_canBeGone_38 : decode cX3_canBeGone 38 = .ok (.invokevirtual 109, 3) := by decide +kernel
theorem dX3_canBeGone_41 : decode cX3_canBeGone 41 = .ok (.aload_n 0, 1) := by decide +kernel
theorem dX3_canBeGone_42 : decode cX3_canBeGone 42 = .ok (.getfield 19, 3) := by decide +kernel
theorem dX3_canBeGone_45 : decode cX3_canBeGone 45 = .ok (.getfield 82, 3) := by decide +kernel
theorem dX3_canBeGone_48 : decode cX3_canBeGone 48 = .ok (.bipush 24, 2) := by decide +kernel
theorem dX3_canBeGone_50 : decode cX3_canBeGone 50 = .ok (.if_icmp .ne 7, 3) := by decide +kernel
theorem dX3_canBeGone_53 : decode cX3_canBeGone 53 = .ok (.iconst 1, 1) := by decide +kernel
theorem dX3_canBeGone_54 : decode cX3_canBeGone 54 = .ok (.goto 4, 3) := by decide +kernel
theorem dX3_canBeGone_57 : decode cX3_canBeGone 57 = .ok (.iconst 0, 1) := by decide +kernel
theorem dX3_canBeGone_58 : decode cX3_canBeGone 58 = .ok (.ireturn, 1) := by decide +kernel
theorem dX3_canBeGone_59 : decode cX3_canBeGone 59 = .ok (.iconst 0, 1) := by decide +kernel
theorem dX3_canBeGone_60 : decode cX3_canBeGone 60 = .ok (.istore_n 2, 1) := by decide +kernel
theorem dX3_canBeGone_61 : decode cX3_canBeGone 61 = .ok (.iload_n 2, 1) := by decide +kernel
theorem dX3_canBeGone_62 : decode cX3_canBeGone 62 = .ok (.bipush 24, 2) := by decide +kernel
theorem dX3_canBeGone_64 : decode cX3_canBeGone 64 = .ok (.if_icmp .ge 56, 3) := by decide +kernel
theorem dX3_canBeGone_67 : decode cX3_canBeGone 67 = .ok (.aload_n 0, 1) := by decide +kernel
theorem dX3_canBeGone_68 : decode cX3_canBeGone 68 = .ok (.getfield 22, 3) := by decide +kernel
theorem dX3_canBeGone_71 : decode cX3_canBeGone 71 = .ok (.aload_n 0, 1) := by decide +kernel
theorem dX3_canBeGone_72 : decode cX3_canBeGone 72 = .ok (.getfield 19, 3) := by decide +kernel
theorem dX3_canBeGone_75 : decode cX3_canBeGone 75 = .ok (.invokevirtual 67, 3) := by decide +kernel
theorem dX3_canBeGone_78 : decode cX3_canBeGone 78 = .ok (.aload_n 0, 1) := by decide +kernel
theorem dX3_canBeGone_79 : decode cX3_canBeGone 79 = .ok (.getfield 22, 3) := by decide +kernel
theorem dX3_canBeGone_82 : decode cX3_canBeGone 82 = .ok (.iload_n 2, 1) := by decide +kernel
theorem dX3_canBeGone_83 : decode cX3_canBeGone 83 = .ok (.invokevirtual 109, 3) := by decide +kernel
theorem dX3_canBeGone_86 : decode cX3_canBeGone 86 = .ok (.aload_n 0, 1) := by decide +kernel
theorem dX3_canBeGone_87 : decode cX3_canBeGone 87 = .ok (.getfield 22, 3) := by decide +kernel
theorem dX3_canBeGone_90 : decode cX3_canBeGone 90 = .ok (.aload_n 0, 1) := by decide +kernel
theorem dX3_canBeGone_91 : decode cX3_canBeGone 91 = .ok (.getfield 22, 3) := by decide +kernel
theorem dX3_canBeGone_94 : decode cX3_canBeGone 94 = .ok (.getfield 82, 3) := by decide +kernel
theorem dX3_canBeGone_97 : decode cX3_canBeGone 97 = .ok (.invokevirtual 109, 3) := by decide +kernel
theorem dX3_canBeGone_100 : decode cX3_canBeGone 100 = .ok (.aload_n 0, 1) := by decide +kernel
theorem dX3_canBeGone_101 : decode cX3_canBeGone 101 = .ok (.getfield 22, 3) := by decide +kernel
theorem dX3_canBeGone_104 : decode cX3_canBeGone 104 = .ok (.getfield 82, 3) := by decide +kernel
theorem dX3_canBeGone_107 : decode cX3_canBeGone 107 = .ok (.bipush 24, 2) := by decide +kernel
theorem dX3_canBeGone_109 : decode cX3_canBeGone 109 = .ok (.if_icmp .ne 5, 3) := by decide +kernel
theorem dX3_canBeGone_112 : decode cX3_canBeGone 112 = .ok (.iconst 1, 1) := by decide +kernel
theorem dX3_canBeGone_113 : decode cX3_canBeGone 113 = .ok (.ireturn, 1) := by decide +kernel
theorem dX3_canBeGone_114 : decode cX3_canBeGone 114 = .ok (.iinc 2 1, 3) := by decide +kernel
theorem dX3_canBeGone_117 : decode cX3_canBeGone 117 = .ok (.goto (-56), 3) := by decide +kernel
theorem dX3_canBeGone_120 : decode cX3_canBeGone 120 = .ok (.iconst 0, 1) := by decide +kernel
theorem dX3_canBeGone_121 : decode cX3_canBeGone 121 = .ok (.ireturn, 1) := by decide +kernel
theorem dX3_firstUntrue_0 : decode cX3_firstUntrue 0 = .ok (.aload_n 0, 1) := by decide +kernel
theorem dX3_firstUntrue_1 : decode cX3_firstUntrue 1 = .ok (.getfield 19, 3) := by decide +kernel
theorem dX3_firstUntrue_4 : decode cX3_firstUntrue 4 = .ok (.aload_n 0, 1) := by decide +kernel
theorem dX3_firstUntrue_5 : decode cX3_firstUntrue 5 = .ok (.getfield 10, 3) := by decide +kernel
theorem dX3_firstUntrue_8 : decode cX3_firstUntrue 8 = .ok (.invokevirtual 67, 3) := by decide +kernel
theorem dX3_firstUntrue_11 : decode cX3_firstUntrue 11 = .ok (.aload_n 0, 1) := by decide +kernel
theorem dX3_firstUntrue_12 : decode cX3_firstUntrue 12 = .ok (.getfield 19, 3) := by decide +kernel
theorem dX3_firstUntrue_15 : decode cX3_firstUntrue 15 = .ok (.iload_n 1, 1) := by decide +kernel
theorem dX3_firstUntrue_16 : decode cX3_firstUntrue 16 = .ok (.putfield 79, 3) := by decide +kernel
theorem dX3_firstUntrue_19 : decode cX3_firstUntrue 19 = .ok (.iconst 0, 1) := by decide +kernel
theorem dX3_firstUntrue_20 : decode cX3_firstUntrue 20 = .ok (.istore_n 2, 1) := by decide +kernel
theorem dX3_firstUntrue_21 : decode cX3_firstUntrue 21 = .ok (.iload_n 2, 1) := by decide +kernel
theorem dX3_firstUntrue_22 : decode cX3_firstUntrue 22 = .ok (.aload_n 0, 1) := by decide +kernel
theorem dX3_firstUntrue_23 : decode cX3_firstUntrue 23 = .ok (.getfield 49, 3) := by decide +kernel
theorem dX3_firstUntrue_26 : decode cX3_firstUntrue 26 = .ok (.if_icmp .ge 47, 3) := by decide +kernel
theorem dX3_firstUntrue_29 : decode cX3_firstUntrue 29 = .ok (.iload_n 2, 1) := by decide +kernel
theorem dX3_firstUntrue_30 : decode cX3_firstUntrue 30 = .ok (.bipush 20, 2) := by decide +kernel
theorem dX3_firstUntrue_32 : decode cX3_firstUntrue 32 = .ok (.if_icmp .ge 41, 3) := by decide +kernel
theorem dX3_firstUntrue_35 : decode cX3_firstUntrue 35 = .ok (.aload_n 0, 1) := by decide +kernel
theorem dX3_firstUntrue_36 : decode cX3_firstUntrue 36 = .ok (.getfield 19, 3) := by decide +kernel
theorem dX3_firstUntrue_39 : decode cX3_firstUntrue 39 = .ok (.aload_n 0, 1) := by decide +kernel
theorem dX3_firstUntrue_40 : decode cX3_firstUntrue 40 = .ok (.getfield 19, 3) := by decide +kernel
theorem dX3_firstUntrue_43 : decode cX3_firstUntrue 43 = .ok (.getfield 187, 3) := by decide +kernel
theorem dX3_firstUntrue_46 : decode cX3_firstUntrue 46 = .ok (.invokevirtual 109, 3) := by decide +kernel
theorem dX3_firstUntrue_49 : decode cX3_firstUntrue 49 = .ok (.aload_n 0, 1) := by decide +kernel
theorem dX3_firstUntrue_50 : decode cX3_firstUntrue 50 = .ok (.getfield 19, 3) := by decide +kernel
theorem dX3_firstUntrue_53 : decode cX3_firstUntrue 53 = .ok (.getfield 82, 3) := by decide +kernel
theorem dX3_firstUntrue_56 : decode cX3_firstUntrue 56 = .ok (.aload_n 0, 1) := by decide +kernel
theorem dX3_firstUntrue_57 : decode cX3_firstUntrue 57 = .ok (.getfield 39, 3) := by decide +kernel
theorem dX3_firstUntrue_60 : decode cX3_firstUntrue 60 = .ok (.iload_n 2, 1) := by decide +kernel
theorem dX3_firstUntrue_61 : decode cX3_firstUntrue 61 = .ok (.iaload, 1) := by decide +kernel
theorem dX3_firstUntrue_62 : decode cX3_firstUntrue 62 = .ok (.if_icmp .eq 5, 3) := by decide +kernel
theorem dX3_firstUntrue_65 : decode cX3_firstUntrue 65 = .ok (.iload_n 2, 1) := by decide +kernel
theorem dX3_firstUntrue_66 : decode cX3_firstUntrue 66 = .ok (.ireturn, 1) := by decide +kernel
theorem dX3_firstUntrue_67 : decode cX3_firstUntrue 67 = .ok (.iinc 2 1, 3) := by decide +kernel
theorem dX3_firstUntrue_70 : decode cX3_firstUntrue 70 = .ok (.goto (-49), 3) := by decide +kernel
theorem dX3_firstUntrue_73 : decode cX3_firstUntrue 73 = .ok (.bipush (-9), 2) := by decide +kernel
theorem dX3_firstUntrue_75 : decode cX3_firstUntrue 75 = .ok (.ireturn, 1) := by decide +kernel
theorem dX3_isNot_0 : decode cX3_isNot 0 = .ok (.iload_n 0, 1) := by decide +kernel
theorem dX3_isNot_1 : decode cX3_isNot 1 = .ok (.ifCond .lt 8, 3) := by decide +kernel
theorem dX3_isNot_4 : decode cX3_isNot 4 = .ok (.iload_n 0, 1) := by decide +kernel
theorem dX3_isNot_5 : decode cX3_isNot 5 = .ok (.iload_n 1, 1) := by decide +kernel
theorem dX3_isNot_6 : decode cX3_isNot 6 = .ok (.if_icmp .lt 7, 3) := by decide +kernel
theorem dX3_isNot_9 : decode cX3_isNot 9 = .ok (.iconst 1, 1) := by decide +kernel
theorem dX3_isNot_10 : decode cX3_isNot 10 = .ok (.goto 4, 3) := by decide +kernel
theorem dX3_isNot_13 : decode cX3_isNot 13 = .ok (.iconst 0, 1) := by decide +kernel
theorem dX3_isNot_14 : decode cX3_isNot 14 = .ok (.ireturn, 1) := by decide +kernel
theorem dX3_isNoCell_0 : decode cX3_isNoCell 0 = .ok (.iload_n 0, 1) := by decide +kernel
theorem dX3_isNoCell_1 : decode cX3_isNoCell 1 = .ok (.ifCond .lt 9, 3) := by decide +kernel
theorem dX3_isNoCell_4 : decode cX3_isNoCell 4 = .ok (.iload_n 0, 1) := by decide +kernel
theorem dX3_isNoCell_5 : decode cX3_isNoCell 5 = .ok (.bipush 24, 2) := by decide +kernel
theorem dX3_isNoCell_7 : decode cX3_isNoCell 7 = .ok (.if_icmp .lt 7, 3) := by decide +kernel
theorem dX3_isNoCell_10 : decode cX3_isNoCell 10 = .ok (.iconst 1, 1) := by decide +kernel
theorem dX3_isNoCell_11 : decode cX3_isNoCell 11 = .ok (.goto 4, 3) := by decide +kernel
theorem dX3_isNoCell_14 : decode cX3_isNoCell 14 = .ok (.iconst 0, 1) := by decide +kernel
theorem dX3_isNoCell_15 : decode cX3_isNoCell 15 = .ok (.ireturn, 1) := by decide +kernel
theorem dX3_within_0 : decode cX3_within 0 = .ok (.iload_n 0, 1) := by decide +kernel
theorem dX3_within_1 : decode cX3_within 1 = .ok (.iload_n 1, 1) := by decide +kernel
theorem dX3_within_2 : decode cX3_within 2 = .ok (.if_icmp .lt 12, 3) := by decide +kernel
theorem dX3_within_5 : decode cX3_within 5 = .ok (.iload_n 0, 1) := by decide +kernel
theorem dX3_within_6 : decode cX3_within 6 = .ok (.iload_n 2, 1) := by decide +kernel
theorem dX3_within_7 : decode cX3_within 7 = .ok (.if_icmp .gt 7, 3) := by decide +kernel
theorem dX3_within_10 : decode cX3_within 10 = .ok (.iconst 1, 1) := by decide +kernel
theorem dX3_within_11 : decode cX3_within 11 = .ok (.goto 4, 3) := by decide +kernel
theorem dX3_within_14 : decode cX3_within 14 = .ok (.iconst 0, 1) := by decide +kernel
theorem dX3_within_15 : decode cX3_within 15 = .ok (.ireturn, 1) := by decide +kernel
theorem dX3_farApart_0 : decode cX3_farApart 0 = .ok (.iload_n 0, 1) := by decide +kernel
theorem dX3_farApart_1 : decode cX3_farApart 1 = .ok (.bipush 6, 2) := by decide +kernel
theorem dX3_farApart_3 : decode cX3_farApart 3 = .ok (.idiv, 1) := by decide +kernel
theorem dX3_farApart_4 : decode cX3_farApart 4 = .ok (.iload_n 1, 1) := by decide +kernel
theorem dX3_farApart_5 : decode cX3_farApart 5 = .ok (.bipush 6, 2) := by decide +kernel
theorem dX3_farApart_7 : decode cX3_farApart 7 = .ok (.idiv, 1) := by decide +kernel
theorem dX3_farApart_8 : decode cX3_farApart 8 = .ok (.isub, 1) := by decide +kernel
theorem dX3_farApart_9 : decode cX3_farApart 9 = .ok (.invokestatic 213, 3) := by decide +kernel
theorem dX3_farApart_12 : decode cX3_farApart 12 = .ok (.iload_n 0, 1) := by decide +kernel
theorem dX3_farApart_13 : decode cX3_farApart 13 = .ok (.bipush 6, 2) := by decide +kernel
theorem dX3_farApart_15 : decode cX3_farApart 15 = .ok (.irem, 1) := by decide +kernel
theorem dX3_farApart_16 : decode cX3_farApart 16 = .ok (.iload_n 1, 1) := by decide +kernel
theorem dX3_farApart_17 : decode cX3_farApart 17 = .ok (.bipush 6, 2) := by decide +kernel
theorem dX3_farApart_19 : decode cX3_farApart 19 = .ok (.irem, 1) := by decide +kernel
theorem dX3_farApart_20 : decode cX3_farApart 20 = .ok (.isub, 1) := by decide +kernel
theorem dX3_farApart_21 : decode cX3_farApart 21 = .ok (.invokestatic 213, 3) := by decide +kernel
theorem dX3_farApart_24 : decode cX3_farApart 24 = .ok (.iadd, 1) := by decide +kernel
theorem dX3_farApart_25 : decode cX3_farApart 25 = .ok (.ireturn, 1) := by decide +kernel
theorem dX3_boxOf_0 : decode cX3_boxOf 0 = .ok (.iload_n 1, 1) := by decide +kernel
theorem dX3_boxOf_1 : decode cX3_boxOf 1 = .ok (.iload_n 2, 1) := by decide +kernel
theorem dX3_boxOf_2 : decode cX3_boxOf 2 = .ok (.bipush 6, 2) := by decide +kernel
theorem dX3_boxOf_4 : decode cX3_boxOf 4 = .ok (.idiv, 1) := by decide +kernel
theorem dX3_boxOf_5 : decode cX3_boxOf 5 = .ok (.iload_n 0, 1) := by decide +kernel
theorem dX3_boxOf_6 : decode cX3_boxOf 6 = .ok (.imul, 1) := by decide +kernel
theorem dX3_boxOf_7 : decode cX3_boxOf 7 = .ok (.iconst 4, 1) := by decide +kernel
theorem dX3_boxOf_8 : decode cX3_boxOf 8 = .ok (.idiv, 1) := by decide +kernel
theorem dX3_boxOf_9 : decode cX3_boxOf 9 = .ok (.imul, 1) := by decide +kernel
theorem dX3_boxOf_10 : decode cX3_boxOf 10 = .ok (.iload_n 2, 1) := by decide +kernel
theorem dX3_boxOf_11 : decode cX3_boxOf 11 = .ok (.bipush 6, 2) := by decide +kernel
theorem dX3_boxOf_13 : decode cX3_boxOf 13 = .ok (.irem, 1) := by decide +kernel
theorem dX3_boxOf_14 : decode cX3_boxOf 14 = .ok (.iload_n 1, 1) := by decide +kernel
theorem dX3_boxOf_15 : decode cX3_boxOf 15 = .ok (.imul, 1) := by decide +kernel
theorem dX3_boxOf_16 : decode cX3_boxOf 16 = .ok (.bipush 6, 2) := by decide +kernel
theorem dX3_boxOf_18 : decode cX3_boxOf 18 = .ok (.idiv, 1) := by decide +kernel
theorem dX3_boxOf_19 : decode cX3_boxOf 19 = .ok (.iadd, 1) := by decide +kernel
theorem dX3_boxOf_20 : decode cX3_boxOf 20 = .ok (.ireturn, 1) := by decide +kernel
theorem dX3_wordSaid_0 : decode cX3_wordSaid 0 = .ok (.iload_n 1, 1) := by decide +kernel
theorem dX3_wordSaid_1 : decode cX3_wordSaid 1 = .ok (.bipush 24, 2) := by decide +kernel
theorem dX3_wordSaid_3 : decode cX3_wordSaid 3 = .ok (.if_icmp .ne 6, 3) := by decide +kernel
theorem dX3_wordSaid_6 : decode cX3_wordSaid 6 = .ok (.bipush 9, 2) := by decide +kernel
theorem dX3_wordSaid_8 : decode cX3_wordSaid 8 = .ok (.ireturn, 1) := by decide +kernel
theorem dX3_wordSaid_9 : decode cX3_wordSaid 9 = .ok (.iload_n 1, 1) := by decide +kernel
theorem dX3_wordSaid_10 : decode cX3_wordSaid 10 = .ok (.bipush 6, 2) := by decide +kernel
theorem dX3_wordSaid_12 : decode cX3_wordSaid 12 = .ok (.idiv, 1) := by decide +kernel
theorem dX3_wordSaid_13 : decode cX3_wordSaid 13 = .ok (.iload_n 0, 1) := by decide +kernel
theorem dX3_wordSaid_14 : decode cX3_wordSaid 14 = .ok (.bipush 6, 2) := by decide +kernel
theorem dX3_wordSaid_16 : decode cX3_wordSaid 16 = .ok (.idiv, 1) := by decide +kernel
theorem dX3_wordSaid_17 : decode cX3_wordSaid 17 = .ok (.isub, 1) := by decide +kernel
theorem dX3_wordSaid_18 : decode cX3_wordSaid 18 = .ok (.istore 4, 2) := by decide +kernel
theorem dX3_wordSaid_20 : decode cX3_wordSaid 20 = .ok (.iload 4, 2) := by decide +kernel
theorem dX3_wordSaid_22 : decode cX3_wordSaid 22 = .ok (.ifCond .eq 29, 3) := by decide +kernel
theorem dX3_wordSaid_25 : decode cX3_wordSaid 25 = .ok (.iload 4, 2) := by decide +kernel
theorem dX3_wordSaid_27 : decode cX3_wordSaid 27 = .ok (.ifCond .ge 7, 3) := by decide +kernel
theorem dX3_wordSaid_30 : decode cX3_wordSaid 30 = .ok (.iconst 0, 1) := by decide +kernel
theorem dX3_wordSaid_31 : decode cX3_wordSaid 31 = .ok (.goto 4, 3) := by decide +kernel
theorem dX3_wordSaid_34 : decode cX3_wordSaid 34 = .ok (.iconst 1, 1) := by decide +kernel
theorem dX3_wordSaid_35 : decode cX3_wordSaid 35 = .ok (.iload 4, 2) := by decide +kernel
theorem dX3_wordSaid_37 : decode cX3_wordSaid 37 = .ok (.invokestatic 213, 3) := by decide +kernel
theorem dX3_wordSaid_40 : decode cX3_wordSaid 40 = .ok (.iload_n 3, 1) := by decide +kernel
theorem dX3_wordSaid_41 : decode cX3_wordSaid 41 = .ok (.if_icmp .lt 7, 3) := by decide +kernel
theorem dX3_wordSaid_44 : decode cX3_wordSaid 44 = .ok (.iconst 4, 1) := by decide +kernel
theorem dX3_wordSaid_45 : decode cX3_wordSaid 45 = .ok (.goto 4, 3) := by decide +kernel
theorem dX3_wordSaid_48 : decode cX3_wordSaid 48 = .ok (.iconst 0, 1) := by decide +kernel
theorem dX3_wordSaid_49 : decode cX3_wordSaid 49 = .ok (.iadd, 1) := by decide +kernel
theorem dX3_wordSaid_50 : decode cX3_wordSaid 50 = .ok (.ireturn, 1) := by decide +kernel
theorem dX3_wordSaid_51 : decode cX3_wordSaid 51 = .ok (.iload_n 1, 1) := by decide +kernel
theorem dX3_wordSaid_52 : decode cX3_wordSaid 52 = .ok (.bipush 6, 2) := by decide +kernel
theorem dX3_wordSaid_54 : decode cX3_wordSaid 54 = .ok (.irem, 1) := by decide +kernel
theorem dX3_wordSaid_55 : decode cX3_wordSaid 55 = .ok (.iload_n 0, 1) := by decide +kernel
theorem dX3_wordSaid_56 : decode cX3_wordSaid 56 = .ok (.bipush 6, 2) := by decide +kernel
theorem dX3_wordSaid_58 : decode cX3_wordSaid 58 = .ok (.irem, 1) := by decide +kernel
theorem dX3_wordSaid_59 : decode cX3_wordSaid 59 = .ok (.isub, 1) := by decide +kernel
theorem dX3_wordSaid_60 : decode cX3_wordSaid 60 = .ok (.istore 5, 2) := by decide +kernel
theorem dX3_wordSaid_62 : decode cX3_wordSaid 62 = .ok (.iload 5, 2) := by decide +kernel
theorem dX3_wordSaid_64 : decode cX3_wordSaid 64 = .ok (.ifCond .eq 58, 3) := by decide +kernel
theorem dX3_wordSaid_67 : decode cX3_wordSaid 67 = .ok (.iload 5, 2) := by decide +kernel
theorem dX3_wordSaid_69 : decode cX3_wordSaid 69 = .ok (.ifCond .ge 7, 3) := by decide +kernel
theorem dX3_wordSaid_72 : decode cX3_wordSaid 72 = .ok (.iconst 1, 1) := by decide +kernel
theorem dX3_wordSaid_73 : decode cX3_wordSaid 73 = .ok (.goto 4, 3) := by decide +kernel
theorem dX3_wordSaid_76 : decode cX3_wordSaid 76 = .ok (.iconst 0, 1) := by decide +kernel
theorem dX3_wordSaid_77 : decode cX3_wordSaid 77 = .ok (.iload_n 2, 1) := by decide +kernel
theorem dX3_wordSaid_78 : decode cX3_wordSaid 78 = .ok (.ifCond .ne 7, 3) := by decide +kernel
theorem dX3_wordSaid_81 : decode cX3_wordSaid 81 = .ok (.iconst 1, 1) := by decide +kernel
theorem dX3_wordSaid_82 : decode cX3_wordSaid 82 = .ok (.goto 4, 3) := by decide +kernel
theorem dX3_wordSaid_85 : decode cX3_wordSaid 85 = .ok (.iconst 0, 1) := by decide +kernel
theorem dX3_wordSaid_86 : decode cX3_wordSaid 86 = .ok (.if_icmp .ne 7, 3) := by decide +kernel
theorem dX3_wordSaid_89 : decode cX3_wordSaid 89 = .ok (.iconst 1, 1) := by decide +kernel
theorem dX3_wordSaid_90 : decode cX3_wordSaid 90 = .ok (.goto 4, 3) := by decide +kernel
theorem dX3_wordSaid_93 : decode cX3_wordSaid 93 = .ok (.iconst 0, 1) := by decide +kernel
theorem dX3_wordSaid_94 : decode cX3_wordSaid 94 = .ok (.istore 6, 2) := by decide +kernel
theorem dX3_wordSaid_96 : decode cX3_wordSaid 96 = .ok (.iload 6, 2) := by decide +kernel
theorem dX3_wordSaid_98 : decode cX3_wordSaid 98 = .ok (.ifCond .eq 7, 3) := by decide +kernel
theorem dX3_wordSaid_101 : decode cX3_wordSaid 101 = .ok (.iconst 2, 1) := by decide +kernel
theorem dX3_wordSaid_102 : decode cX3_wordSaid 102 = .ok (.goto 4, 3) := by decide +kernel
theorem dX3_wordSaid_105 : decode cX3_wordSaid 105 = .ok (.iconst 3, 1) := by decide +kernel
theorem dX3_wordSaid_106 : decode cX3_wordSaid 106 = .ok (.iload 5, 2) := by decide +kernel
theorem dX3_wordSaid_108 : decode cX3_wordSaid 108 = .ok (.invokestatic 213, 3) := by decide +kernel
theorem dX3_wordSaid_111 : decode cX3_wordSaid 111 = .ok (.iload_n 3, 1) := by decide +kernel
theorem dX3_wordSaid_112 : decode cX3_wordSaid 112 = .ok (.if_icmp .lt 7, 3) := by decide +kernel
theorem dX3_wordSaid_115 : decode cX3_wordSaid 115 = .ok (.iconst 4, 1) := by decide +kernel
theorem dX3_wordSaid_116 : decode cX3_wordSaid 116 = .ok (.goto 4, 3) := by decide +kernel
theorem dX3_wordSaid_119 : decode cX3_wordSaid 119 = .ok (.iconst 0, 1) := by decide +kernel
theorem dX3_wordSaid_120 : decode cX3_wordSaid 120 = .ok (.iadd, 1) := by decide +kernel
theorem dX3_wordSaid_121 : decode cX3_wordSaid 121 = .ok (.ireturn, 1) := by decide +kernel
theorem dX3_wordSaid_122 : decode cX3_wordSaid 122 = .ok (.bipush 8, 2) := by decide +kernel
theorem dX3_wordSaid_124 : decode cX3_wordSaid 124 = .ok (.ireturn, 1) := by decide +kernel
theorem dX3_partOfFraction_0 : decode cX3_partOfFraction 0 = .ok (.lload_n 0, 1) := by decide +kernel
theorem dX3_partOfFraction_1 : decode cX3_partOfFraction 1 = .ok (.lload_n 2, 1) := by decide +kernel
theorem dX3_partOfFraction_2 : decode cX3_partOfFraction 2 = .ok (.invokestatic 216, 3) := by decide +kernel
theorem dX3_partOfFraction_5 : decode cX3_partOfFraction 5 = .ok (.lstore 5, 2) := by decide +kernel
theorem dX3_partOfFraction_7 : decode cX3_partOfFraction 7 = .ok (.iload 4, 2) := by decide +kernel
theorem dX3_partOfFraction_9 : decode cX3_partOfFraction 9 = .ok (.ifCond .ne 7, 3) := by decide +kernel
theorem dX3_partOfFraction_12 : decode cX3_partOfFraction 12 = .ok (.lload_n 0, 1) := by decide +kernel
theorem dX3_partOfFraction_13 : decode cX3_partOfFraction 13 = .ok (.goto 4, 3) := by decide +kernel
theorem dX3_partOfFraction_16 : decode cX3_partOfFraction 16 = .ok (.lload_n 2, 1) := by decide +kernel
theorem dX3_partOfFraction_17 : decode cX3_partOfFraction 17 = .ok (.lstore 7, 2) := by decide +kernel
theorem dX3_partOfFraction_19 : decode cX3_partOfFraction 19 = .ok (.lload 5, 2) := by decide +kernel
theorem dX3_partOfFraction_21 : decode cX3_partOfFraction 21 = .ok (.lconst 0, 1) := by decide +kernel
theorem dX3_partOfFraction_22 : decode cX3_partOfFraction 22 = .ok (.lcmp, 1) := by decide +kernel
theorem dX3_partOfFraction_23 : decode cX3_partOfFraction 23 = .ok (.ifCond .ne 8, 3) := by decide +kernel
theorem dX3_partOfFraction_26 : decode cX3_partOfFraction 26 = .ok (.lload 7, 2) := by decide +kernel
theorem dX3_partOfFraction_28 : decode cX3_partOfFraction 28 = .ok (.goto 8, 3) := by decide +kernel
theorem dX3_partOfFraction_31 : decode cX3_partOfFraction 31 = .ok (.lload 7, 2) := by decide +kernel
theorem dX3_partOfFraction_33 : decode cX3_partOfFraction 33 = .ok (.lload 5, 2) := by decide +kernel
theorem dX3_partOfFraction_35 : decode cX3_partOfFraction 35 = .ok (.ldiv, 1) := by decide +kernel
theorem dX3_partOfFraction_36 : decode cX3_partOfFraction 36 = .ok (.lreturn, 1) := by decide +kernel
theorem dX3_commonDivisor_0 : decode cX3_commonDivisor 0 = .ok (.lload_n 0, 1) := by decide +kernel
theorem dX3_commonDivisor_1 : decode cX3_commonDivisor 1 = .ok (.lstore 4, 2) := by decide +kernel
theorem dX3_commonDivisor_3 : decode cX3_commonDivisor 3 = .ok (.lload_n 2, 1) := by decide +kernel
theorem dX3_commonDivisor_4 : decode cX3_commonDivisor 4 = .ok (.lstore 6, 2) := by decide +kernel
theorem dX3_commonDivisor_6 : decode cX3_commonDivisor 6 = .ok (.iconst 0, 1) := by decide +kernel
theorem dX3_commonDivisor_7 : decode cX3_commonDivisor 7 = .ok (.istore 8, 2) := by decide +kernel
theorem dX3_commonDivisor_9 : decode cX3_commonDivisor 9 = .ok (.iload 8, 2) := by decide +kernel
theorem dX3_commonDivisor_11 : decode cX3_commonDivisor 11 = .ok (.sipush 200, 3) := by decide +kernel
theorem dX3_commonDivisor_14 : decode cX3_commonDivisor 14 = .ok (.if_icmp .ge 31, 3) := by decide +kernel
theorem dX3_commonDivisor_17 : decode cX3_commonDivisor 17 = .ok (.lload 6, 2) := by decide +kernel
theorem dX3_commonDivisor_19 : decode cX3_commonDivisor 19 = .ok (.lconst 0, 1) := by decide +kernel
theorem dX3_commonDivisor_20 : decode cX3_commonDivisor 20 = .ok (.lcmp, 1) := by decide +kernel
theorem dX3_commonDivisor_21 : decode cX3_commonDivisor 21 = .ok (.ifCond .eq 24, 3) := by decide +kernel
theorem dX3_commonDivisor_24 : decode cX3_commonDivisor 24 = .ok (.lload 4, 2) := by decide +kernel
theorem dX3_commonDivisor_26 : decode cX3_commonDivisor 26 = .ok (.lload 6, 2) := by decide +kernel
theorem dX3_commonDivisor_28 : decode cX3_commonDivisor 28 = .ok (.lrem, 1) := by decide +kernel
theorem dX3_commonDivisor_29 : decode cX3_commonDivisor 29 = .ok (.lstore 9, 2) := by decide +kernel
theorem dX3_commonDivisor_31 : decode cX3_commonDivisor 31 = .ok (.lload 6, 2) := by decide +kernel
theorem dX3_commonDivisor_33 : decode cX3_commonDivisor 33 = .ok (.lstore 4, 2) := by decide +kernel
theorem dX3_commonDivisor_35 : decode cX3_commonDivisor 35 = .ok (.lload 9, 2) := by decide +kernel
theorem dX3_commonDivisor_37 : decode cX3_commonDivisor 37 = .ok (.lstore 6, 2) := by decide +kernel
theorem dX3_commonDivisor_39 : decode cX3_commonDivisor 39 = .ok (.iinc 8 1, 3) := by decide +kernel
theorem dX3_commonDivisor_42 : decode cX3_commonDivisor 42 = .ok (.goto (-33), 3) := by decide +kernel
theorem dX3_commonDivisor_45 : decode cX3_commonDivisor 45 = .ok (.lload 4, 2) := by decide +kernel
theorem dX3_commonDivisor_47 : decode cX3_commonDivisor 47 = .ok (.lreturn, 1) := by decide +kernel
theorem dX4_init_0 : decode cX4_init 0 = .ok (.aload_n 0, 1) := by decide +kernel
theorem dX4_init_1 : decode cX4_init 1 = .ok (.invokespecial 1, 3) := by decide +kernel
theorem dX4_init_4 : decode cX4_init 4 = .ok (.aload_n 0, 1) := by decide +kernel
theorem dX4_init_5 : decode cX4_init 5 = .ok (.bipush 7, 2) := by decide +kernel
theorem dX4_init_7 : decode cX4_init 7 = .ok (.newarray .int, 2) := by decide +kernel
theorem dX4_init_9 : decode cX4_init 9 = .ok (.putfield 7, 3) := by decide +kernel
theorem dX4_init_12 : decode cX4_init 12 = .ok (.aload_n 0, 1) := by decide +kernel
theorem dX4_init_13 : decode cX4_init 13 = .ok (.bipush 24, 2) := by decide +kernel
theorem dX4_init_15 : decode cX4_init 15 = .ok (.newarray .int, 2) := by decide +kernel
theorem dX4_init_17 : decode cX4_init 17 = .ok (.putfield 13, 3) := by decide +kernel
theorem dX4_init_20 : decode cX4_init 20 = .ok (.aload_n 0, 1) := by decide +kernel
theorem dX4_init_21 : decode cX4_init 21 = .ok (.iconst 4, 1) := by decide +kernel
theorem dX4_init_22 : decode cX4_init 22 = .ok (.newarray .int, 2) := by decide +kernel
theorem dX4_init_24 : decode cX4_init 24 = .ok (.putfield 16, 3) := by decide +kernel
theorem dX4_init_27 : decode cX4_init 27 = .ok (.aload_n 0, 1) := by decide +kernel
theorem dX4_init_28 : decode cX4_init 28 = .ok (.bipush 80, 2) := by decide +kernel
theorem dX4_init_30 : decode cX4_init 30 = .ok (.newarray .int, 2) := by decide +kernel
theorem dX4_init_32 : decode cX4_init 32 = .ok (.putfield 19, 3) := by decide +kernel
theorem dX4_init_35 : decode cX4_init 35 = .ok (.aload_n 0, 1) := by decide +kernel
theorem dX4_init_36 : decode cX4_init 36 = .ok (.bipush 40, 2) := by decide +kernel
theorem dX4_init_38 : decode cX4_init 38 = .ok (.newarray .int, 2) := by decide +kernel
theorem dX4_init_40 : decode cX4_init 40 = .ok (.putfield 22, 3) := by decide +kernel
theorem dX4_init_43 : decode cX4_init 43 = .ok (.aload_n 0, 1) := by decide +kernel
theorem dX4_init_44 : decode cX4_init 44 = .ok (.bipush 40, 2) := by decide +kernel
theorem dX4_init_46 : decode cX4_init 46 = .ok (.newarray .int, 2) := by decide +kernel
theorem dX4_init_48 : decode cX4_init 48 = .ok (.putfield 25, 3) := by decide +kernel
theorem dX4_init_51 : decode cX4_init 51 = .ok (.aload_n 0, 1) := by decide +kernel
theorem dX4_init_52 : decode cX4_init 52 = .ok (.bipush 120, 2) := by decide +kernel
theorem dX4_init_54 : decode cX4_init 54 = .ok (.newarray .int, 2) := by decide +kernel
theorem dX4_init_56 : decode cX4_init 56 = .ok (.putfield 28, 3) := by decide +kernel
theorem dX4_init_59 : decode cX4_init 59 = .ok (.aload_n 0, 1) := by decide +kernel
theorem dX4_init_60 : decode cX4_init 60 = .ok (.bipush 105, 2) := by decide +kernel
theorem dX4_init_62 : decode cX4_init 62 = .ok (.newarray .int, 2) := by decide +kernel
theorem dX4_init_64 : decode cX4_init 64 = .ok (.putfield 31, 3) := by decide +kernel
theorem dX4_init_67 : decode cX4_init 67 = .ok (.aload_n 0, 1) := by decide +kernel
theorem dX4_init_68 : decode cX4_init 68 = .ok (.bipush 8, 2) := by decide +kernel
theorem dX4_init_70 : decode cX4_init 70 = .ok (.newarray .int, 2) := by decide +kernel
theorem dX4_init_72 : decode cX4_init 72 = .ok (.putfield 34, 3) := by decide +kernel
theorem dX4_init_75 : decode cX4_init 75 = .ok (.aload_n 0, 1) := by decide +kernel
theorem dX4_init_76 : decode cX4_init 76 = .ok (.bipush 8, 2) := by decide +kernel
theorem dX4_init_78 : decode cX4_init 78 = .ok (.newarray .int, 2) := by decide +kernel
theorem dX4_init_80 : decode cX4_init 80 = .ok (.putfield 37, 3) := by decide +kernel
theorem dX4_init_83 : decode cX4_init 83 = .ok (.aload_n 0, 1) := by decide +kernel
theorem dX4_init_84 : decode cX4_init 84 = .ok (.bipush 10, 2) := by decide +kernel
theorem dX4_init_86 : decode cX4_init 86 = .ok (.newarray .int, 2) := by decide +kernel
theorem dX4_init_88 : decode cX4_init 88 = .ok (.putfield 40, 3) := by decide +kernel
theorem dX4_init_91 : decode cX4_init 91 = .ok (.aload_n 0, 1) := by decide +kernel
theorem dX4_init_92 : decode cX4_init 92 = .ok (.bipush 20, 2) := by decide +kernel
theorem dX4_init_94 : decode cX4_init 94 = .ok (.newarray .int, 2) := by decide +kernel
theorem dX4_init_96 : decode cX4_init 96 = .ok (.putfield 43, 3) := by decide +kernel
theorem dX4_init_99 : decode cX4_init 99 = .ok (.aload_n 0, 1) := by decide +kernel
theorem dX4_init_100 : decode cX4_init 100 = .ok (.getfield 16, 3) := by decide +kernel
theorem dX4_init_103 : decode cX4_init 103 = .ok (.iconst 1, 1) := by decide +kernel
theorem dX4_init_104 : decode cX4_init 104 = .ok (.iconst 1, 1) := by decide +kernel
theorem dX4_init_105 : decode cX4_init 105 = .ok (.iastore, 1) := by decide +kernel
theorem dX4_init_106 : decode cX4_init 106 = .ok (.aload_n 0, 1) := by decide +kernel
theorem dX4_init_107 : decode cX4_init 107 = .ok (.getfield 16, 3) := by decide +kernel
theorem dX4_init_110 : decode cX4_init 110 = .ok (.iconst 2, 1) := by decide +kernel
theorem dX4_init_111 : decode cX4_init 111 = .ok (.iconst 3, 1) := by decide +kernel
theorem dX4_init_112 : decode cX4_init 112 = .ok (.iastore, 1) := by decide +kernel
theorem dX4_init_113 : decode cX4_init 113 = .ok (.return_, 1) := by decide +kernel
theorem dX4_no_0 : decode cX4_no 0 = .ok (.aload_n 0, 1) := by decide +kernel
theorem dX4_no_1 : decode cX4_no 1 = .ok (.getfield 7, 3) := by decide +kernel
theorem dX4_no_4 : decode cX4_no 4 = .ok (.iload_n 1, 1) := by decide +kernel
theorem dX4_no_5 : decode cX4_no 5 = .ok (.ineg, 1) := by decide +kernel
theorem dX4_no_6 : decode cX4_no 6 = .ok (.dup2, 1) := by decide +kernel
theorem dX4_no_7 : decode cX4_no 7 = .ok (.iaload, 1) := by decide +kernel
theorem dX4_no_8 : decode cX4_no 8 = .ok (.iconst 1, 1) := by decide +kernel
theorem dX4_no_9 : decode cX4_no 9 = .ok (.iadd, 1) := by decide +kernel
theorem dX4_no_10 : decode cX4_no 10 = .ok (.iastore, 1) := by decide +kernel
theorem dX4_no_11 : decode cX4_no 11 = .ok (.iload_n 1, 1) := by decide +kernel
theorem dX4_no_12 : decode cX4_no 12 = .ok (.ireturn, 1) := by decide +kernel
theorem dX4_lowest_0 : decode cX4_lowest 0 = .ok (.aload_n 0, 1) := by decide +kernel
theorem dX4_lowest_1 : decode cX4_lowest 1 = .ok (.getfield 7, 3) := by decide +kernel
theorem dX4_lowest_4 : decode cX4_lowest 4 = .ok (.iload_n 1, 1) := by decide +kernel
theorem dX4_lowest_5 : decode cX4_lowest 5 = .ok (.ineg, 1) := by decide +kernel
theorem dX4_lowest_6 : decode cX4_lowest 6 = .ok (.dup2, 1) := by decide +kernel
theorem dX4_lowest_7 : decode cX4_lowest 7 = .ok (.iaload, 1) := by decide +kernel
theorem dX4_lowest_8 : decode cX4_lowest 8 = .ok (.iconst 1, 1) := by decide +kernel
theorem dX4_lowest_9 : decode cX4_lowest 9 = .ok (.iadd, 1) := by decide +kernel
theorem dX4_lowest_10 : decode cX4_lowest 10 = .ok (.iastore, 1) := by decide +kernel
theorem dX4_lowest_11 : decode cX4_lowest 11 = .ok (.ldc2_w 46, 3) := by decide +kernel
theorem dX4_lowest_14 : decode cX4_lowest 14 = .ok (.iload_n 1, 1) := by decide +kernel
theorem dX4_lowest_15 : decode cX4_lowest 15 = .ok (.i2l, 1) := by decide +kernel
theorem dX4_lowest_16 : decode cX4_lowest 16 = .ok (.lsub, 1) := by decide +kernel
theorem dX4_lowest_17 : decode cX4_lowest 17 = .ok (.lreturn, 1) := by decide +kernel
theorem dX4_isIn_0 : decode cX4_isIn 0 = .ok (.iload_n 0, 1) := by decide +kernel
theorem dX4_isIn_1 : decode cX4_isIn 1 = .ok (.iload_n 1, 1) := by decide +kernel
theorem dX4_isIn_2 : decode cX4_isIn 2 = .ok (.if_icmp .lt 12, 3) := by decide +kernel
theorem dX4_isIn_5 : decode cX4_isIn 5 = .ok (.iload_n 0, 1) := by decide +kernel
theorem dX4_isIn_6 : decode cX4_isIn 6 = .ok (.iload_n 2, 1) := by decide +kernel
theorem dX4_isIn_7 : decode cX4_isIn 7 = .ok (.if_icmp .gt 7, 3) := by decide +kernel
theorem dX4_isIn_10 : decode cX4_isIn 10 = .ok (.iconst 1, 1) := by decide +kernel
theorem dX4_isIn_11 : decode cX4_isIn 11 = .ok (.goto 4, 3) := by decide +kernel
theorem dX4_isIn_14 : decode cX4_isIn 14 = .ok (.iconst 0, 1) := by decide +kernel
theorem dX4_isIn_15 : decode cX4_isIn 15 = .ok (.ireturn, 1) := by decide +kernel
theorem dX4_bound_0 : decode cX4_bound 0 = .ok (.iload_n 0, 1) := by decide +kernel
theorem dX4_bound_1 : decode cX4_bound 1 = .ok (.iload_n 1, 1) := by decide +kernel
theorem dX4_bound_2 : decode cX4_bound 2 = .ok (.if_icmp .ge 8, 3) := by decide +kernel
theorem dX4_bound_5 : decode cX4_bound 5 = .ok (.bipush (-4), 2) := by decide +kernel
theorem dX4_bound_7 : decode cX4_bound 7 = .ok (.goto 14, 3) := by decide +kernel
theorem dX4_bound_10 : decode cX4_bound 10 = .ok (.iload_n 0, 1) := by decide +kernel
theorem dX4_bound_11 : decode cX4_bound 11 = .ok (.iload_n 2, 1) := by decide +kernel
theorem dX4_bound_12 : decode cX4_bound 12 = .ok (.if_icmp .le 8, 3) := by decide +kernel
theorem dX4_bound_15 : decode cX4_bound 15 = .ok (.bipush (-6), 2) := by decide +kernel
theorem dX4_bound_17 : decode cX4_bound 17 = .ok (.goto 4, 3) := by decide +kernel
theorem dX4_bound_20 : decode cX4_bound 20 = .ok (.iconst 0, 1) := by decide +kernel
theorem dX4_bound_21 : decode cX4_bound 21 = .ok (.ireturn, 1) := by decide +kernel
theorem dX4_held_0 : decode cX4_held 0 = .ok (.iload_n 0, 1) := by decide +kernel
theorem dX4_held_1 : decode cX4_held 1 = .ok (.iload_n 1, 1) := by decide +kernel
theorem dX4_held_2 : decode cX4_held 2 = .ok (.if_icmp .ge 7, 3) := by decide +kernel
theorem dX4_held_5 : decode cX4_held 5 = .ok (.iload_n 1, 1) := by decide +kernel
theorem dX4_held_6 : decode cX4_held 6 = .ok (.goto 13, 3) := by decide +kernel
theorem dX4_held_9 : decode cX4_held 9 = .ok (.iload_n 0, 1) := by decide +kernel
theorem dX4_held_10 : decode cX4_held 10 = .ok (.iload_n 2, 1) := by decide +kernel
theorem dX4_held_11 : decode cX4_held 11 = .ok (.if_icmp .le 7, 3) := by decide +kernel
theorem dX4_held_14 : decode cX4_held 14 = .ok (.iload_n 2, 1) := by decide +kernel
theorem dX4_held_15 : decode cX4_held 15 = .ok (.goto 4, 3) := by decide +kernel
theorem dX4_held_18 : decode cX4_held 18 = .ok (.iload_n 0, 1) := by decide +kernel
theorem dX4_held_19 : decode cX4_held 19 = .ok (.ireturn, 1) := by decide +kernel
theorem dX4_apart_0 : decode cX4_apart 0 = .ok (.iload_n 0, 1) := by decide +kernel
theorem dX4_apart_1 : decode cX4_apart 1 = .ok (.iload_n 1, 1) := by decide +kernel
theorem dX4_apart_2 : decode cX4_apart 2 = .ok (.if_icmp .ge 9, 3) := by decide +kernel
theorem dX4_apart_5 : decode cX4_apart 5 = .ok (.iload_n 1, 1) := by decide +kernel
theorem dX4_apart_6 : decode cX4_apart 6 = .ok (.iload_n 0, 1) := by decide +kernel
theorem dX4_apart_7 : decode cX4_apart 7 = .ok (.isub, 1) := by decide +kernel
theorem dX4_apart_8 : decode cX4_apart 8 = .ok (.goto 6, 3) := by decide +kernel
theorem dX4_apart_11 : decode cX4_apart 11 = .ok (.iload_n 0, 1) := by decide +kernel
theorem dX4_apart_12 : decode cX4_apart 12 = .ok (.iload_n 1, 1) := by decide +kernel
theorem dX4_apart_13 : decode cX4_apart 13 = .ok (.isub, 1) := by decide +kernel
theorem dX4_apart_14 : decode cX4_apart 14 = .ok (.ireturn, 1) := by decide +kernel
theorem dX4_isCell_0 : decode cX4_isCell 0 = .ok (.iload_n 0, 1) := by decide +kernel
theorem dX4_isCell_1 : decode cX4_isCell 1 = .ok (.ifCond .lt 13, 3) := by decide +kernel
theorem dX4_isCell_4 : decode cX4_isCell 4 = .ok (.iload_n 0, 1) := by decide +kernel
theorem dX4_isCell_5 : decode cX4_isCell 5 = .ok (.bipush 24, 2) := by decide +kernel
theorem dX4_isCell_7 : decode cX4_isCell 7 = .ok (.if_icmp .ge 7, 3) := by decide +kernel
theorem dX4_isCell_10 : decode cX4_isCell 10 = .ok (.iconst 1, 1) := by decide +kernel
theorem dX4_isCell_11 : decode cX4_isCell 11 = .ok (.goto 4, 3) := by decide +kernel
theorem dX4_isCell_14 : decode cX4_isCell 14 = .ok (.iconst 0, 1) := by decide +kernel
theorem dX4_isCell_15 : decode cX4_isCell 15 = .ok (.ireturn, 1) := by decide +kernel
theorem dX4_farOf_0 : decode cX4_farOf 0 = .ok (.iload_n 0, 1) := by decide +kernel
theorem dX4_farOf_1 : decode cX4_farOf 1 = .ok (.bipush 6, 2) := by decide +kernel
theorem dX4_farOf_3 : decode cX4_farOf 3 = .ok (.idiv, 1) := by decide +kernel
theorem dX4_farOf_4 : decode cX4_farOf 4 = .ok (.iload_n 1, 1) := by decide +kernel
theorem dX4_farOf_5 : decode cX4_farOf 5 = .ok (.bipush 6, 2) := by decide +kernel
theorem dX4_farOf_7 : decode cX4_farOf 7 = .ok (.idiv, 1) := by decide +kernel
theorem dX4_farOf_8 : decode cX4_farOf 8 = .ok (.invokestatic 48, 3) := by decide +kernel
theorem dX4_farOf_11 : decode cX4_farOf 11 = .ok (.iload_n 0, 1) := by decide +kernel
theorem dX4_farOf_12 : decode cX4_farOf 12 = .ok (.bipush 6, 2) := by decide +kernel
theorem dX4_farOf_14 : decode cX4_farOf 14 = .ok (.irem, 1) := by decide +kernel
theorem dX4_farOf_15 : decode cX4_farOf 15 = .ok (.iload_n 1, 1) := by decide +kernel
theorem dX4_farOf_16 : decode cX4_farOf 16 = .ok (.bipush 6, 2) := by decide +kernel
theorem dX4_farOf_18 : decode cX4_farOf 18 = .ok (.irem, 1) := by decide +kernel
theorem dX4_farOf_19 : decode cX4_farOf 19 = .ok (.invokestatic 48, 3) := by decide +kernel
theorem dX4_farOf_22 : decode cX4_farOf 22 = .ok (.iadd, 1) := by decide +kernel
theorem dX4_farOf_23 : decode cX4_farOf 23 = .ok (.ireturn, 1) := by decide +kernel
theorem dX4_letter_0 : decode cX4_letter 0 = .ok (.iload_n 1, 1) := by decide +kernel
theorem dX4_letter_1 : decode cX4_letter 1 = .ok (.iconst 0, 1) := by decide +kernel
theorem dX4_letter_2 : decode cX4_letter 2 = .ok (.sipush 255, 3) := by decide +kernel
theorem dX4_letter_5 : decode cX4_letter 5 = .ok (.invokestatic 52, 3) := by decide +kernel
theorem dX4_letter_8 : decode cX4_letter 8 = .ok (.istore_n 2, 1) := by decide +kernel
theorem dX4_letter_9 : decode cX4_letter 9 = .ok (.iload_n 2, 1) := by decide +kernel
theorem dX4_letter_10 : decode cX4_letter 10 = .ok (.ifCond .ne 15, 3) := by decide +kernel
theorem dX4_letter_13 : decode cX4_letter 13 = .ok (.aload_n 0, 1) := by decide +kernel
theorem dX4_letter_14 : decode cX4_letter 14 = .ok (.getfield 56, 3) := by decide +kernel
theorem dX4_letter_17 : decode cX4_letter 17 = .ok (.bipush 80, 2) := by decide +kernel
theorem dX4_letter_19 : decode cX4_letter 19 = .ok (.if_icmp .ne 6, 3) := by decide +kernel
theorem dX4_letter_22 : decode cX4_letter 22 = .ok (.bipush (-6), 2) := by decide +kernel
theorem dX4_letter_24 : decode cX4_letter 24 = .ok (.istore_n 2, 1) := by decide +kernel
theorem dX4_letter_25 : decode cX4_letter 25 = .ok (.iload_n 2, 1) := by decide +kernel
theorem dX4_letter_26 : decode cX4_letter 26 = .ok (.ifCond .eq 9, 3) := by decide +kernel
theorem dX4_letter_29 : decode cX4_letter 29 = .ok (.aload_n 0, 1) := by decide +kernel
theorem dX4_letter_30 : decode cX4_letter 30 = .ok (.iload_n 2, 1) := by decide +kernel
theorem dX4_letter_31 : decode cX4_letter 31 = .ok (.invokevirtual 60, 3) := by decide +kernel
theorem dX4_letter_34 : decode cX4_letter 34 = .ok (.ireturn, 1) := by decide +kernel
theorem dX4_letter_35 : decode cX4_letter 35 = .ok (.aload_n 0, 1) := by decide +kernel
theorem dX4_letter_36 : decode cX4_letter 36 = .ok (.getfield 19, 3) := by decide +kernel
theorem dX4_letter_39 : decode cX4_letter 39 = .ok (.aload_n 0, 1) := by decide +kernel
theorem dX4_letter_40 : decode cX4_letter 40 = .ok (.getfield 56, 3) := by decide +kernel
theorem dX4_letter_43 : decode cX4_letter 43 = .ok (.iload_n 1, 1) := by decide +kernel
theorem dX4_letter_44 : decode cX4_letter 44 = .ok (.iastore, 1) := by decide +kernel
theorem dX4_letter_45 : decode cX4_letter 45 = .ok (.aload_n 0, 1) := by decide +kernel
theorem dX4_letter_46 : decode cX4_letter 46 = .ok (.dup, 1) := by decide +kernel
theorem dX4_letter_47 : decode cX4_letter 47 = .ok (.getfield 56, 3) := by decide +kernel
theorem dX4_letter_50 : decode cX4_letter 50 = .ok (.iconst 1, 1) := by decide +kernel
theorem dX4_letter_51 : decode cX4_letter 51 = .ok (.iadd, 1) := by decide +kernel
theorem dX4_letter_52 : decode cX4_letter 52 = .ok (.putfield 56, 3) := by decide +kernel
theorem dX4_letter_55 : decode cX4_letter 55 = .ok (.aload_n 0, 1) := by decide +kernel
theorem dX4_letter_56 : decode cX4_letter 56 = .ok (.getfield 56, 3) := by decide +kernel
theorem dX4_letter_59 : decode cX4_letter 59 = .ok (.ireturn, 1) := by decide +kernel
theorem dX4_next_0 : decode cX4_next 0 = .ok (.aload_n 0, 1) := by decide +kernel
theorem dX4_next_1 : decode cX4_next 1 = .ok (.getfield 64, 3) := by decide +kernel
theorem dX4_next_4 : decode cX4_next 4 = .ok (.aload_n 0, 1) := by decide +kernel
theorem dX4_next_5 : decode cX4_next 5 = .ok (.getfield 56, 3) := by decide +kernel
theorem dX4_next_8 : decode cX4_next 8 = .ok (.if_icmp .ge 15, 3) := by decide +kernel
theorem dX4_next_11 : decode cX4_next 11 = .ok (.aload_n 0, 1) := by decide +kernel
theorem dX4_next_12 : decode cX4_next 12 = .ok (.getfield 19, 3) := by decide +kernel
theorem dX4_next_15 : decode cX4_next 15 = .ok (.aload_n 0, 1) := by decide +kernel
theorem dX4_next_16 : decode cX4_next 16 = .ok (.getfield 64, 3) := by decide +kernel
theorem dX4_next_19 : decode cX4_next 19 = .ok (.iaload, 1) := by decide +kernel
theorem dX4_next_20 : decode cX4_next 20 = .ok (.goto 4, 3) := by decide +kernel
theorem dX4_next_23 : decode cX4_next 23 = .ok (.iconst (-1), 1) := by decide +kernel
theorem dX4_next_24 : decode cX4_next 24 = .ok (.ireturn, 1) := by decide +kernel
theorem dX4_readsDigits_0 : decode cX4_readsDigits 0 = .ok (.iconst 0, 1) := by decide +kernel
theorem dX4_readsDigits_1 : decode cX4_readsDigits 1 = .ok (.istore_n 3, 1) := by decide +kernel
theorem dX4_readsDigits_2 : decode cX4_readsDigits 2 = .ok (.iconst 0, 1) := by decide +kernel
theorem dX4_readsDigits_3 : decode cX4_readsDigits 3 = .ok (.istore 4, 2) := by decide +kernel
theorem dX4_readsDigits_5 : decode cX4_readsDigits 5 = .ok (.iload 4, 2) := by decide +kernel
theorem dX4_readsDigits_7 : decode cX4_readsDigits 7 = .ok (.iload_n 2, 1) := by decide +kernel
theorem dX4_readsDigits_8 : decode cX4_readsDigits 8 = .ok (.if_icmp .ge 48, 3) := by decide +kernel
theorem dX4_readsDigits_11 : decode cX4_readsDigits 11 = .ok (.aload_n 0, 1) := by decide +kernel
theorem dX4_readsDigits_12 : decode cX4_readsDigits 12 = .ok (.invokevirtual 67, 3) := by decide +kernel
theorem dX4_readsDigits_15 : decode cX4_readsDigits 15 = .ok (.bipush 48, 2) := by decide +kernel
theorem dX4_readsDigits_17 : decode cX4_readsDigits 17 = .ok (.bipush 57, 2) := by decide +kernel
theorem dX4_readsDigits_19 : decode cX4_readsDigits 19 = .ok (.invokestatic 71, 3) := by decide +kernel
theorem dX4_readsDigits_22 : decode cX4_readsDigits 22 = .ok (.ifCond .ne 5, 3) := by decide +kernel
theorem dX4_readsDigits_25 : decode cX4_readsDigits 25 = .ok (.iconst 0, 1) := by decide +kernel
theorem dX4_readsDigits_26 : decode cX4_readsDigits 26 = .ok (.ireturn, 1) := by decide +kernel
theorem dX4_readsDigits_27 : decode cX4_readsDigits 27 = .ok (.bipush 10, 2) := by decide +kernel
theorem dX4_readsDigits_29 : decode cX4_readsDigits 29 = .ok (.iload_n 3, 1) := by decide +kernel
theorem dX4_readsDigits_30 : decode cX4_readsDigits 30 = .ok (.imul, 1) := by decide +kernel
theorem dX4_readsDigits_31 : decode cX4_readsDigits 31 = .ok (.aload_n 0, 1) := by decide +kernel
theorem dX4_readsDigits_32 : decode cX4_readsDigits 32 = .ok (.invokevirtual 67, 3) := by decide +kernel
theorem dX4_readsDigits_35 : decode cX4_readsDigits 35 = .ok (.iadd, 1) := by decide +kernel
theorem dX4_readsDigits_36 : decode cX4_readsDigits 36 = .ok (.bipush 48, 2) := by decide +kernel
theorem dX4_readsDigits_38 : decode cX4_readsDigits 38 = .ok (.isub, 1) := by decide +kernel
theorem dX4_readsDigits_39 : decode cX4_readsDigits 39 = .ok (.istore_n 3, 1) := by decide +kernel
theorem dX4_readsDigits_40 : decode cX4_readsDigits 40 = .ok (.aload_n 0, 1) := by decide +kernel
theorem dX4_readsDigits_41 : decode cX4_readsDigits 41 = .ok (.dup, 1) := by decide +kernel
theorem dX4_readsDigits_42 : decode cX4_readsDigits 42 = .ok (.getfield 64, 3) := by decide +kernel
theorem dX4_readsDigits_45 : decode cX4_readsDigits 45 = .ok (.iconst 1, 1) := by decide +kernel
theorem dX4_readsDigits_46 : decode cX4_readsDigits 46 = .ok (.iadd, 1) := by decide +kernel
theorem dX4_readsDigits_47 : decode cX4_readsDigits 47 = .ok (.putfield 64, 3) := by decide +kernel
theorem dX4_readsDigits_50 : decode cX4_readsDigits 50 = .ok (.iinc 4 1, 3) := by decide +kernel
theorem dX4_readsDigits_53 : decode cX4_readsDigits 53 = .ok (.goto (-48), 3) := by decide +kernel
theorem dX4_readsDigits_56 : decode cX4_readsDigits 56 = .ok (.aload_n 0, 1) := by decide +kernel
theorem dX4_readsDigits_57 : decode cX4_readsDigits 57 = .ok (.getfield 28, 3) := by decide +kernel
theorem dX4_readsDigits_60 : decode cX4_readsDigits 60 = .ok (.iload_n 1, 1) := by decide +kernel
theorem dX4_readsDigits_61 : decode cX4_readsDigits 61 = .ok (.iload_n 3, 1) := by decide +kernel
theorem dX4_readsDigits_62 : decode cX4_readsDigits 62 = .ok (.iastore, 1) := by decide +kernel
theorem dX4_readsDigits_63 : decode cX4_readsDigits 63 = .ok (.iconst 1, 1) := by decide +kernel
theorem dX4_readsDigits_64 : decode cX4_readsDigits 64 = .ok (.ireturn, 1) := by decide +kernel
theorem dX4_kindOf_0 : decode cX4_kindOf 0 = .ok (.iload_n 0, 1) := by decide +kernel
theorem dX4_kindOf_1 : decode cX4_kindOf 1 = .ok (.tableswitch 95 99 115 #[85, 95, 95, 89, 95, 87, 83, 95, 95, 95, 95, 93, 95, 95, 95, 95, 91], 83) := by decide +kernel
theorem dX4_kindOf_84 : decode cX4_kindOf 84 = .ok (.iconst 0, 1) := by decide +kernel
theorem dX4_kindOf_85 : decode cX4_kindOf 85 = .ok (.ireturn, 1) := by decide +kernel
theorem dX4_kindOf_86 : decode cX4_kindOf 86 = .ok (.iconst 1, 1) := by decide +kernel
theorem dX4_kindOf_87 : decode cX4_kindOf 87 = .ok (.ireturn, 1) := by decide +kernel
theorem dX4_kindOf_88 : decode cX4_kindOf 88 = .ok (.iconst 2, 1) := by decide +kernel
theorem dX4_kindOf_89 : decode cX4_kindOf 89 = .ok (.ireturn, 1) := by decide +kernel
theorem dX4_kindOf_90 : decode cX4_kindOf 90 = .ok (.iconst 3, 1) := by decide +kernel
theorem dX4_kindOf_91 : decode cX4_kindOf 91 = .ok (.ireturn, 1) := by decide +kernel
theorem dX4_kindOf_92 : decode cX4_kindOf 92 = .ok (.iconst 4, 1) := by decide +kernel
theorem dX4_kindOf_93 : decode cX4_kindOf 93 = .ok (.ireturn, 1) := by decide +kernel
theorem dX4_kindOf_94 : decode cX4_kindOf 94 = .ok (.iconst 5, 1) := by decide +kernel
theorem dX4_kindOf_95 : decode cX4_kindOf 95 = .ok (.ireturn, 1) := by decide +kernel
theorem dX4_kindOf_96 : decode cX4_kindOf 96 = .ok (.iconst (-1), 1) := by decide +kernel
theorem dX4_kindOf_97 : decode cX4_kindOf 97 = .ok (.ireturn, 1) := by decide +kernel
theorem dX4_readsItch_0 : decode cX4_readsItch 0 = .ok (.aload_n 0, 1) := by decide +kernel
theorem dX4_readsItch_1 : decode cX4_readsItch 1 = .ok (.getfield 28, 3) := by decide +kernel
theorem dX4_readsItch_4 : decode cX4_readsItch 4 = .ok (.iload_n 1, 1) := by decide +kernel
theorem dX4_readsItch_5 : decode cX4_readsItch 5 = .ok (.aload_n 0, 1) := by decide +kernel
theorem dX4_readsItch_6 : decode cX4_readsItch 6 = .ok (.invokevirtual 67, 3) := by decide +kernel
theorem dX4_readsItch_9 : decode cX4_readsItch 9 = .ok (.invokestatic 75, 3) := by decide +kernel
theorem dX4_readsItch_12 : decode cX4_readsItch 12 = .ok (.iastore, 1) := by decide +kernel
theorem dX4_readsItch_13 : decode cX4_readsItch 13 = .ok (.aload_n 0, 1) := by decide +kernel
theorem dX4_readsItch_14 : decode cX4_readsItch 14 = .ok (.getfield 28, 3) := by decide +kernel
theorem dX4_readsItch_17 : decode cX4_readsItch 17 = .ok (.iload_n 1, 1) := by decide +kernel
theorem dX4_readsItch_18 : decode cX4_readsItch 18 = .ok (.iaload, 1) := by decide +kernel
theorem dX4_readsItch_19 : decode cX4_readsItch 19 = .ok (.ifCond .ge 5, 3) := by decide +kernel
theorem dX4_readsItch_22 : decode cX4_readsItch 22 = .ok (.iconst 0, 1) := by decide +kernel
theorem dX4_readsItch_23 : decode cX4_readsItch 23 = .ok (.ireturn, 1) := by decide +kernel
theorem dX4_readsItch_24 : decode cX4_readsItch 24 = .ok (.aload_n 0, 1) := by decide +kernel
theorem dX4_readsItch_25 : decode cX4_readsItch 25 = .ok (.dup, 1) := by decide +kernel
theorem dX4_readsItch_26 : decode cX4_readsItch 26 = .ok (.getfield 64, 3) := by decide +kernel
theorem dX4_readsItch_29 : decode cX4_readsItch 29 = .ok (.iconst 1, 1) := by decide +kernel
theorem dX4_readsItch_30 : decode cX4_readsItch 30 = .ok (.iadd, 1) := by decide +kernel
theorem dX4_readsItch_31 : decode cX4_readsItch 31 = .ok (.putfield 64, 3) := by decide +kernel
theorem dX4_readsItch_34 : decode cX4_readsItch 34 = .ok (.aload_n 0, 1) := by decide +kernel
theorem dX4_readsItch_35 : decode cX4_readsItch 35 = .ok (.iload_n 1, 1) := by decide +kernel
theorem dX4_readsItch_36 : decode cX4_readsItch 36 = .ok (.iconst 1, 1) := by decide +kernel
theorem dX4_readsItch_37 : decode cX4_readsItch 37 = .ok (.iadd, 1) := by decide +kernel
theorem dX4_readsItch_38 : decode cX4_readsItch 38 = .ok (.iconst 2, 1) := by decide +kernel
theorem dX4_readsItch_39 : decode cX4_readsItch 39 = .ok (.invokevirtual 78, 3) := by decide +kernel
theorem dX4_readsItch_42 : decode cX4_readsItch 42 = .ok (.ireturn, 1) := by decide +kernel
theorem dX4_readsAll_0 : decode cX4_readsAll 0 = .ok (.iload_n 1, 1) := by decide +kernel
theorem dX4_readsAll_1 : decode cX4_readsAll 1 = .ok (.lookupswitch 100 #[(104, 49), (105, 43), (109, 86), (115, 93)], 43) := by decide +kernel
theorem dX4_readsAll_44 : decode cX4_readsAll 44 = .ok (.aload_n 0, 1) := by decide +kernel
theorem dX4_readsAll_45 : decode cX4_readsAll 45 = .ok (.iload_n 2, 1) := by decide +kernel
theorem dX4_readsAll_46 : decode cX4_readsAll 46 = .ok (.invokevirtual 82, 3) := by decide +kernel
theorem dX4_readsAll_49 : decode cX4_readsAll 49 = .ok (.ireturn, 1) := by decide +kernel
theorem dX4_readsAll_50 : decode cX4_readsAll 50 = .ok (.aload_n 0, 1) := by decide +kernel
theorem dX4_readsAll_51 : decode cX4_readsAll 51 = .ok (.iload_n 2, 1) := by decide +kernel
theorem dX4_readsAll_52 : decode cX4_readsAll 52 = .ok (.iconst 1, 1) := by decide +kernel
theorem dX4_readsAll_53 : decode cX4_readsAll 53 = .ok (.invokevirtual 78, 3) := by decide +kernel
theorem dX4_readsAll_56 : decode cX4_readsAll 56 = .ok (.ifCond .eq 29, 3) := by decide +kernel
theorem dX4_readsAll_59 : decode cX4_readsAll 59 = .ok (.aload_n 0, 1) := by decide +kernel
theorem dX4_readsAll_60 : decode cX4_readsAll 60 = .ok (.iload_n 2, 1) := by decide +kernel
theorem dX4_readsAll_61 : decode cX4_readsAll 61 = .ok (.iconst 1, 1) := by decide +kernel
theorem dX4_readsAll_62 : decode cX4_readsAll 62 = .ok (.iadd, 1) := by decide +kernel
theorem dX4_readsAll_63 : decode cX4_readsAll 63 = .ok (.iconst 1, 1) := by decide +kernel
theorem dX4_readsAll_64 : decode cX4_readsAll 64 = .ok (.invokevirtual 78, 3) := by decide +kernel
theorem dX4_readsAll_67 : decode cX4_readsAll 67 = .ok (.ifCond .eq 18, 3) := by decide +kernel
theorem dX4_readsAll_70 : decode cX4_readsAll 70 = .ok (.aload_n 0, 1) := by decide +kernel
theorem dX4_readsAll_71 : decode cX4_readsAll 71 = .ok (.iload_n 2, 1) := by decide +kernel
theorem dX4_readsAll_72 : decode cX4_readsAll 72 = .ok (.iconst 2, 1) := by decide +kernel
theorem dX4_readsAll_73 : decode cX4_readsAll 73 = .ok (.iadd, 1) := by decide +kernel
theorem dX4_readsAll_74 : decode cX4_readsAll 74 = .ok (.iconst 1, 1) := by decide +kernel
theorem dX4_readsAll_75 : decode cX4_readsAll 75 = .ok (.invokevirtual 78, 3) := by decide +kernel
theorem dX4_readsAll_78 : decode cX4_readsAll 78 = .ok (.ifCond .eq 7, 3) := by decide +kernel
theorem dX4_readsAll_81 : decode cX4_readsAll 81 = .ok (.iconst 1, 1) := by decide +kernel
theorem dX4_readsAll_82 : decode cX4_readsAll 82 = .ok (.goto 4, 3) := by decide +kernel
theorem dX4_readsAll_85 : decode cX4_readsAll 85 = .ok (.iconst 0, 1) := by decide +kernel
theorem dX4_readsAll_86 : decode cX4_readsAll 86 = .ok (.ireturn, 1) := by decide +kernel
theorem dX4_readsAll_87 : decode cX4_readsAll 87 = .ok (.aload_n 0, 1) := by decide +kernel
theorem dX4_readsAll_88 : decode cX4_readsAll 88 = .ok (.iload_n 2, 1) := by decide +kernel
theorem dX4_readsAll_89 : decode cX4_readsAll 89 = .ok (.iconst 1, 1) := by decide +kernel
theorem dX4_readsAll_90 : decode cX4_readsAll 90 = .ok (.invokevirtual 78, 3) := by decide +kernel
theorem dX4_readsAll_93 : decode cX4_readsAll 93 = .ok (.ireturn, 1) := by decide +kernel
theorem dX4_readsAll_94 : decode cX4_readsAll 94 = .ok (.aload_n 0, 1) := by decide +kernel
theorem dX4_readsAll_95 : decode cX4_readsAll 95 = .ok (.iload_n 2, 1) := by decide +kernel
theorem dX4_readsAll_96 : decode cX4_readsAll 96 = .ok (.iconst 2, 1) := by decide +kernel
theorem dX4_readsAll_97 : decode cX4_readsAll 97 = .ok (.invokevirtual 78, 3) := by decide +kernel
theorem dX4_readsAll_100 : decode cX4_readsAll 100 = .ok (.ireturn, 1) := by decide +kernel
theorem dX4_readsAll_101 : decode cX4_readsAll 101 = .ok (.aload_n 0, 1) := by decide +kernel
theorem dX4_readsAll_102 : decode cX4_readsAll 102 = .ok (.iload_n 2, 1) := by decide +kernel
theorem dX4_readsAll_103 : decode cX4_readsAll 103 = .ok (.iconst 2, 1) := by decide +kernel
theorem dX4_readsAll_104 : decode cX4_readsAll 104 = .ok (.invokevirtual 78, 3) := by decide +kernel
theorem dX4_readsAll_107 : decode cX4_readsAll 107 = .ok (.ifCond .eq 18, 3) := by decide +kernel
theorem dX4_readsAll_110 : decode cX4_readsAll 110 = .ok (.aload_n 0, 1) := by decide +kernel
theorem dX4_readsAll_111 : decode cX4_readsAll 111 = .ok (.iload_n 2, 1) := by decide +kernel
theorem dX4_readsAll_112 : decode cX4_readsAll 112 = .ok (.iconst 1, 1) := by decide +kernel
theorem dX4_readsAll_113 : decode cX4_readsAll 113 = .ok (.iadd, 1) := by decide +kernel
theorem dX4_readsAll_114 : decode cX4_readsAll 114 = .ok (.iconst 1, 1) := by decide +kernel
theorem dX4_readsAll_115 : decode cX4_readsAll 115 = .ok (.invokevirtual 78, 3) := by decide +kernel
theorem dX4_readsAll_118 : decode cX4_readsAll 118 = .ok (.ifCond .eq 7, 3) := by decide +kernel
theorem dX4_readsAll_121 : decode cX4_readsAll 121 = .ok (.iconst 1, 1) := by decide +kernel
theorem dX4_readsAll_122 : decode cX4_readsAll 122 = .ok (.goto 4, 3) := by decide +kernel
theorem dX4_readsAll_125 : decode cX4_readsAll 125 = .ok (.iconst 0, 1) := by decide +kernel
theorem dX4_readsAll_126 : decode cX4_readsAll 126 = .ok (.ireturn, 1) := by decide +kernel
theorem dX4_statement_0 : decode cX4_statement 0 = .ok (.aload_n 0, 1) := by decide +kernel
theorem dX4_statement_1 : decode cX4_statement 1 = .ok (.invokevirtual 67, 3) := by decide +kernel
theorem dX4_statement_4 : decode cX4_statement 4 = .ok (.istore_n 1, 1) := by decide +kernel
theorem dX4_statement_5 : decode cX4_statement 5 = .ok (.iload_n 1, 1) := by decide +kernel
theorem dX4_statement_6 : decode cX4_statement 6 = .ok (.bipush 105, 2) := by decide +kernel
theorem dX4_statement_8 : decode cX4_statement 8 = .ok (.if_icmp .eq 29, 3) := by decide +kernel
theorem dX4_statement_11 : decode cX4_statement 11 = .ok (.iload_n 1, 1) := by decide +kernel
theorem dX4_statement_12 : decode cX4_statement 12 = .ok (.bipush 104, 2) := by decide +kernel
theorem dX4_statement_14 : decode cX4_statement 14 = .ok (.if_icmp .eq 23, 3) := by decide +kernel
theorem dX4_statement_17 : decode cX4_statement 17 = .ok (.iload_n 1, 1) := by decide +kernel
theorem dX4_statement_18 : decode cX4_statement 18 = .ok (.bipush 109, 2) := by decide +kernel
theorem dX4_statement_20 : decode cX4_statement 20 = .ok (.if_icmp .eq 17, 3) := by decide +kernel
theorem dX4_statement_23 : decode cX4_statement 23 = .ok (.iload_n 1, 1) := by decide +kernel
theorem dX4_statement_24 : decode cX4_statement 24 = .ok (.bipush 115, 2) := by decide +kernel
theorem dX4_statement_26 : decode cX4_statement 26 = .ok (.if_icmp .eq 11, 3) := by decide +kernel
theorem dX4_statement_29 : decode cX4_statement 29 = .ok (.iload_n 1, 1) := by decide +kernel
theorem dX4_statement_30 : decode cX4_statement 30 = .ok (.bipush 111, 2) := by decide +kernel
theorem dX4_statement_32 : decode cX4_statement 32 = .ok (.if_icmp .eq 5, 3) := by decide +kernel
theorem dX4_statement_35 : decode cX4_statement 35 = .ok (.iconst 0, 1) := by decide +kernel
theorem dX4_statement_36 : decode cX4_statement 36 = .ok (.ireturn, 1) := by decide +kernel
theorem dX4_statement_37 : decode cX4_statement 37 = .ok (.aload_n 0, 1) := by decide +kernel
theorem dX4_statement_38 : decode cX4_statement 38 = .ok (.getfield 22, 3) := by decide +kernel
theorem dX4_statement_41 : decode cX4_statement 41 = .ok (.aload_n 0, 1) := by decide +kernel
theorem dX4_statement_42 : decode cX4_statement 42 = .ok (.getfield 86, 3) := by decide +kernel
theorem dX4_statement_45 : decode cX4_statement 45 = .ok (.iload_n 1, 1) := by decide +kernel
theorem dX4_statement_46 : decode cX4_statement 46 = .ok (.iastore, 1) := by decide +kernel
theorem dX4_statement_47 : decode cX4_statement 47 = .ok (.aload_n 0, 1) := by decide +kernel
theorem dX4_statement_48 : decode cX4_statement 48 = .ok (.getfield 25, 3) := by decide +kernel
theorem dX4_statement_51 : decode cX4_statement 51 = .ok (.aload_n 0, 1) := by decide +kernel
theorem dX4_statement_52 : decode cX4_statement 52 = .ok (.getfield 86, 3) := by decide +kernel
theorem dX4_statement_55 : decode cX4_statement 55 = .ok (.aload_n 0, 1) := by decide +kernel
theorem dX4_statement_56 : decode cX4_statement 56 = .ok (.getfield 64, 3) := by decide +kernel
theorem dX4_statement_59 : decode cX4_statement 59 = .ok (.iastore, 1) := by decide +kernel
theorem dX4_statement_60 : decode cX4_statement 60 = .ok (.aload_n 0, 1) := by decide +kernel
theorem dX4_statement_61 : decode cX4_statement 61 = .ok (.dup, 1) := by decide +kernel
theorem dX4_statement_62 : decode cX4_statement 62 = .ok (.getfield 64, 3) := by decide +kernel
theorem dX4_statement_65 : decode cX4_statement 65 = .ok (.iconst 1, 1) := by decide +kernel
theorem dX4_statement_66 : decode cX4_statement 66 = .ok (.iadd, 1) := by decide +kernel
theorem dX4_statement_67 : decode cX4_statement 67 = .ok (.putfield 64, 3) := by decide +kernel
theorem dX4_statement_70 : decode cX4_statement 70 = .ok (.aload_n 0, 1) := by decide +kernel
theorem dX4_statement_71 : decode cX4_statement 71 = .ok (.iload_n 1, 1) := by decide +kernel
theorem dX4_statement_72 : decode cX4_statement 72 = .ok (.iconst 3, 1) := by decide +kernel
theorem dX4_statement_73 : decode cX4_statement 73 = .ok (.aload_n 0, 1) := by decide +kernel
theorem dX4_statement_74 : decode cX4_statement 74 = .ok (.getfield 86, 3) := by decide +kernel
theorem dX4_statement_77 : decode cX4_statement 77 = .ok (.imul, 1) := by decide +kernel
theorem dX4_statement_78 : decode cX4_statement 78 = .ok (.invokevirtual 89, 3) := by decide +kernel
theorem dX4_statement_81 : decode cX4_statement 81 = .ok (.ifCond .eq 12, 3) := by decide +kernel
theorem dX4_statement_84 : decode cX4_statement 84 = .ok (.aload_n 0, 1) := by decide +kernel
theorem dX4_statement_85 : decode cX4_statement 85 = .ok (.invokevirtual 67, 3) := by decide +kernel
theorem dX4_statement_88 : decode cX4_statement 88 = .ok (.bipush 59, 2) := by decide +kernel
theorem dX4_statement_90 : decode cX4_statement 90 = .ok (.if_icmp .eq 5, 3) := by decide +kernel
theorem dX4_statement_93 : decode cX4_statement 93 = .ok (.iconst 0, 1) := by decide +kernel
theorem dX4_statement_94 : decode cX4_statement 94 = .ok (.ireturn, 1) := by decide +kernel
theorem dX4_statement_95 : decode cX4_statement 95 = .ok (.aload_n 0, 1) := by decide +kernel
theorem dX4_statement_96 : decode cX4_statement 96 = .ok (.dup, 1) := by decide +kernel
theorem dX4_statement_97 : decode cX4_statement 97 = .ok (.getfield 64, 3) := by decide +kernel
theorem dX4_statement_100 : decode cX4_statement 100 = .ok (.iconst 1, 1) := by decide +kernel
theorem dX4_statement_101 : decode cX4_statement 101 = .ok (.iadd, 1) := by decide +kernel
theorem dX4_statement_102 : decode cX4_statement 102 = .ok (.putfield 64, 3) := by decide +kernel
theorem dX4_statement_105 : decode cX4_statement 105 = .ok (.iconst 1, 1) := by decide +kernel
theorem dX4_statement_106 : decode cX4_statement 106 = .ok (.ireturn, 1) := by decide +kernel
theorem dX4_leastOf_0 : decode cX4_leastOf 0 = .ok (.iload_n 0, 1) := by decide +kernel
theorem dX4_leastOf_1 : decode cX4_leastOf 1 = .ok (.iconst 1, 1) := by decide +kernel
theorem dX4_leastOf_2 : decode cX4_leastOf 2 = .ok (.if_icmp .ne 7, 3) := by decide +kernel
theorem dX4_leastOf_5 : decode cX4_leastOf 5 = .ok (.iconst 1, 1) := by decide +kernel
theorem dX4_leastOf_6 : decode cX4_leastOf 6 = .ok (.goto 13, 3) := by decide +kernel
theorem dX4_leastOf_9 : decode cX4_leastOf 9 = .ok (.iload_n 0, 1) := by decide +kernel
theorem dX4_leastOf_10 : decode cX4_leastOf 10 = .ok (.iconst 2, 1) := by decide +kernel
theorem dX4_leastOf_11 : decode cX4_leastOf 11 = .ok (.if_icmp .ne 7, 3) := by decide +kernel
theorem dX4_leastOf_14 : decode cX4_leastOf 14 = .ok (.iconst 2, 1) := by decide +kernel
theorem dX4_leastOf_15 : decode cX4_leastOf 15 = .ok (.goto 4, 3) := by decide +kernel
theorem dX4_leastOf_18 : decode cX4_leastOf 18 = .ok (.iconst 0, 1) := by decide +kernel
theorem dX4_leastOf_19 : decode cX4_leastOf 19 = .ok (.ireturn, 1) := by decide +kernel
theorem dX4_mostOf_0 : decode cX4_mostOf 0 = .ok (.iload_n 0, 1) := by decide +kernel
theorem dX4_mostOf_1 : decode cX4_mostOf 1 = .ok (.ifCond .ne 7, 3) := by decide +kernel
theorem dX4_mostOf_4 : decode cX4_mostOf 4 = .ok (.iconst 1, 1) := by decide +kernel
theorem dX4_mostOf_5 : decode cX4_mostOf 5 = .ok (.goto 13, 3) := by decide +kernel
theorem dX4_mostOf_8 : decode cX4_mostOf 8 = .ok (.iload_n 0, 1) := by decide +kernel
theorem dX4_mostOf_9 : decode cX4_mostOf 9 = .ok (.iconst 1, 1) := by decide +kernel
theorem dX4_mostOf_10 : decode cX4_mostOf 10 = .ok (.if_icmp .ne 7, 3) := by decide +kernel
theorem dX4_mostOf_13 : decode cX4_mostOf 13 = .ok (.iconst 3, 1) := by decide +kernel
theorem dX4_mostOf_14 : decode cX4_mostOf 14 = .ok (.goto 4, 3) := by decide +kernel
theorem dX4_mostOf_17 : decode cX4_mostOf 17 = .ok (.iconst 5, 1) := by decide +kernel
theorem dX4_mostOf_18 : decode cX4_mostOf 18 = .ok (.ireturn, 1) := by decide +kernel
theorem dX4_comesHe_0 : decode cX4_comesHe 0 = .ok (.iconst 0, 1) := by decide +kernel
theorem dX4_comesHe_1 : decode cX4_comesHe 1 = .ok (.istore_n 2, 1) := by decide +kernel
theorem dX4_comesHe_2 : decode cX4_comesHe 2 = .ok (.iload_n 2, 1) := by decide +kernel
theorem dX4_comesHe_3 : decode cX4_comesHe 3 = .ok (.iconst 3, 1) := by decide +kernel
theorem dX4_comesHe_4 : decode cX4_comesHe 4 = .ok (.if_icmp .ge 47, 3) := by decide +kernel
theorem dX4_comesHe_7 : decode cX4_comesHe 7 = .ok (.aload_n 0, 1) := by decide +kernel
theorem dX4_comesHe_8 : decode cX4_comesHe 8 = .ok (.getfield 28, 3) := by decide +kernel
theorem dX4_comesHe_11 : decode cX4_comesHe 11 = .ok (.iload_n 1, 1) := by decide +kernel
theorem dX4_comesHe_12 : decode cX4_comesHe 12 = .ok (.iload_n 2, 1) := by decide +kernel
theorem dX4_comesHe_13 : decode cX4_comesHe 13 = .ok (.iadd, 1) := by decide +kernel
theorem dX4_comesHe_14 : decode cX4_comesHe 14 = .ok (.iaload, 1) := by decide +kernel
theorem dX4_comesHe_15 : decode cX4_comesHe 15 = .ok (.iload_n 2, 1) := by decide +kernel
theorem dX4_comesHe_16 : decode cX4_comesHe 16 = .ok (.invokestatic 92, 3) := by decide +kernel
theorem dX4_comesHe_19 : decode cX4_comesHe 19 = .ok (.iload_n 2, 1) := by decide +kernel
theorem dX4_comesHe_20 : decode cX4_comesHe 20 = .ok (.invokestatic 95, 3) := by decide +kernel
theorem dX4_comesHe_23 : decode cX4_comesHe 23 = .ok (.invokestatic 52, 3) := by decide +kernel
theorem dX4_comesHe_26 : decode cX4_comesHe 26 = .ok (.ifCond .eq 5, 3) := by decide +kernel
theorem dX4_comesHe_29 : decode cX4_comesHe 29 = .ok (.iconst 0, 1) := by decide +kernel
theorem dX4_comesHe_30 : decode cX4_comesHe 30 = .ok (.ireturn, 1) := by decide +kernel
theorem dX4_comesHe_31 : decode cX4_comesHe 31 = .ok (.aload_n 0, 1) := by decide +kernel
theorem dX4_comesHe_32 : decode cX4_comesHe 32 = .ok (.getfield 16, 3) := by decide +kernel
theorem dX4_comesHe_35 : decode cX4_comesHe 35 = .ok (.iload_n 2, 1) := by decide +kernel
theorem dX4_comesHe_36 : decode cX4_comesHe 36 = .ok (.aload_n 0, 1) := by decide +kernel
theorem dX4_comesHe_37 : decode cX4_comesHe 37 = .ok (.getfield 28, 3) := by decide +kernel
theorem dX4_comesHe_40 : decode cX4_comesHe 40 = .ok (.iload_n 1, 1) := by decide +kernel
theorem dX4_comesHe_41 : decode cX4_comesHe 41 = .ok (.iload_n 2, 1) := by decide +kernel
theorem dX4_comesHe_42 : decode cX4_comesHe 42 = .ok (.iadd, 1) := by decide +kernel
theorem dX4_comesHe_43 : decode cX4_comesHe 43 = .ok (.iaload, 1) := by decide +kernel
theorem dX4_comesHe_44 : decode cX4_comesHe 44 = .ok (.iastore, 1) := by decide +kernel
theorem dX4_comesHe_45 : decode cX4_comesHe 45 = .ok (.iinc 2 1, 3) := by decide +kernel
theorem dX4_comesHe_48 : decode cX4_comesHe 48 = .ok (.goto (-46), 3) := by decide +kernel
theorem dX4_comesHe_51 : decode cX4_comesHe 51 = .ok (.iconst 1, 1) := by decide +kernel
theorem dX4_comesHe_52 : decode cX4_comesHe 52 = .ok (.ireturn, 1) := by decide +kernel
theorem dX4_comes_0 : decode cX4_comes 0 = .ok (.iconst 3, 1) := by decide +kernel
theorem dX4_comes_1 : decode cX4_comes 1 = .ok (.iload_n 1, 1) := by decide +kernel
theorem dX4_comes_2 : decode cX4_comes 2 = .ok (.imul, 1) := by decide +kernel
theorem dX4_comes_3 : decode cX4_comes 3 = .ok (.istore_n 2, 1) := by decide +kernel
theorem dX4_comes_4 : decode cX4_comes 4 = .ok (.aload_n 0, 1) := by decide +kernel
theorem dX4_comes_5 : decode cX4_comes 5 = .ok (.getfield 22, 3) := by decide +kernel
theorem dX4_comes_8 : decode cX4_comes 8 = .ok (.iload_n 1, 1) := by decide +kernel
theorem dX4_comes_9 : decode cX4_comes 9 = .ok (.iaload, 1) := by decide +kernel
theorem dX4_comes_10 : decode cX4_comes 10 = .ok (.lookupswitch 143 #[(104, 72), (105, 42), (109, 78), (115, 107)], 42) := by decide +kernel
theorem dX4_comes_52 : decode cX4_comes 52 = .ok (.aload_n 0, 1) := by decide +kernel
theorem dX4_comes_53 : decode cX4_comes 53 = .ok (.aload_n 0, 1) := by decide +kernel
theorem dX4_comes_54 : decode cX4_comes 54 = .ok (.getfield 28, 3) := by decide +kernel
theorem dX4_comes_57 : decode cX4_comes 57 = .ok (.iload_n 2, 1) := by decide +kernel
theorem dX4_comes_58 : decode cX4_comes 58 = .ok (.iaload, 1) := by decide +kernel
theorem dX4_comes_59 : decode cX4_comes 59 = .ok (.putfield 98, 3) := by decide +kernel
theorem dX4_comes_62 : decode cX4_comes 62 = .ok (.aload_n 0, 1) := by decide +kernel
theorem dX4_comes_63 : decode cX4_comes 63 = .ok (.aload_n 0, 1) := by decide +kernel
theorem dX4_comes_64 : decode cX4_comes 64 = .ok (.getfield 28, 3) := by decide +kernel
theorem dX4_comes_67 : decode cX4_comes 67 = .ok (.iload_n 2, 1) := by decide +kernel
theorem dX4_comes_68 : decode cX4_comes 68 = .ok (.iconst 1, 1) := by decide +kernel
theorem dX4_comes_69 : decode cX4_comes 69 = .ok (.iadd, 1) := by decide +kernel
theorem dX4_comes_70 : decode cX4_comes 70 = .ok (.iaload, 1) := by decide +kernel
theorem dX4_comes_71 : decode cX4_comes 71 = .ok (.putfield 101, 3) := by decide +kernel
theorem dX4_comes_74 : decode cX4_comes 74 = .ok (.aload_n 0, 1) := by decide +kernel
theorem dX4_comes_75 : decode cX4_comes 75 = .ok (.getfield 101, 3) := by decide +kernel
theorem dX4_comes_78 : decode cX4_comes 78 = .ok (.invokestatic 104, 3) := by decide +kernel
theorem dX4_comes_81 : decode cX4_comes 81 = .ok (.ireturn, 1) := by decide +kernel
theorem dX4_comes_82 : decode cX4_comes 82 = .ok (.aload_n 0, 1) := by decide +kernel
theorem dX4_comes_83 : decode cX4_comes 83 = .ok (.iload_n 2, 1) := by decide +kernel
theorem dX4_comes_84 : decode cX4_comes 84 = .ok (.invokevirtual 107, 3) := by decide +kernel
theorem dX4_comes_87 : decode cX4_comes 87 = .ok (.ireturn, 1) := by decide +kernel
theorem dX4_comes_88 : decode cX4_comes 88 = .ok (.aload_n 0, 1) := by decide +kernel
theorem dX4_comes_89 : decode cX4_comes 89 = .ok (.getfield 16, 3) := by decide +kernel
theorem dX4_comes_92 : decode cX4_comes 92 = .ok (.iconst 3, 1) := by decide +kernel
theorem dX4_comes_93 : decode cX4_comes 93 = .ok (.aload_n 0, 1) := by decide +kernel
theorem dX4_comes_94 : decode cX4_comes 94 = .ok (.getfield 28, 3) := by decide +kernel
theorem dX4_comes_97 : decode cX4_comes 97 = .ok (.iload_n 2, 1) := by decide +kernel
theorem dX4_comes_98 : decode cX4_comes 98 = .ok (.iaload, 1) := by decide +kernel
theorem dX4_comes_99 : decode cX4_comes 99 = .ok (.iastore, 1) := by decide +kernel
theorem dX4_comes_100 : decode cX4_comes 100 = .ok (.aload_n 0, 1) := by decide +kernel
theorem dX4_comes_101 : decode cX4_comes 101 = .ok (.getfield 28, 3) := by decide +kernel
theorem dX4_comes_104 : decode cX4_comes 104 = .ok (.iload_n 2, 1) := by decide +kernel
theorem dX4_comes_105 : decode cX4_comes 105 = .ok (.iaload, 1) := by decide +kernel
theorem dX4_comes_106 : decode cX4_comes 106 = .ok (.bipush 6, 2) := by decide +kernel
theorem dX4_comes_108 : decode cX4_comes 108 = .ok (.if_icmp .ge 7, 3) := by decide +kernel
theorem dX4_comes_111 : decode cX4_comes 111 = .ok (.iconst 1, 1) := by decide +kernel
theorem dX4_comes_112 : decode cX4_comes 112 = .ok (.goto 4, 3) := by decide +kernel
theorem dX4_comes_115 : decode cX4_comes 115 = .ok (.iconst 0, 1) := by decide +kernel
theorem dX4_comes_116 : decode cX4_comes 116 = .ok (.ireturn, 1) := by decide +kernel
theorem dX4_comes_117 : decode cX4_comes 117 = .ok (.aload_n 0, 1) := by decide +kernel
theorem dX4_comes_118 : decode cX4_comes 118 = .ok (.getfield 28, 3) := by decide +kernel
theorem dX4_comes_121 : decode cX4_comes 121 = .ok (.iload_n 2, 1) := by decide +kernel
theorem dX4_comes_122 : decode cX4_comes 122 = .ok (.iaload, 1) := by decide +kernel
theorem dX4_comes_123 : decode cX4_comes 123 = .ok (.invokestatic 104, 3) := by decide +kernel
theorem dX4_comes_126 : decode cX4_comes 126 = .ok (.ifCond .eq 13, 3) := by decide +kernel
theorem dX4_comes_129 : decode cX4_comes 129 = .ok (.aload_n 0, 1) := by decide +kernel
theorem dX4_comes_130 : decode cX4_comes 130 = .ok (.getfield 110, 3) := by decide +kernel
theorem dX4_comes_133 : decode cX4_comes 133 = .ok (.sipush 999, 3) := by decide +kernel
theorem dX4_comes_136 : decode cX4_comes 136 = .ok (.if_icmp .ne 5, 3) := by decide +kernel
theorem dX4_comes_139 : decode cX4_comes 139 = .ok (.iconst 0, 1) := by decide +kernel
theorem dX4_comes_140 : decode cX4_comes 140 = .ok (.ireturn, 1) := by decide +kernel
theorem dX4_comes_141 : decode cX4_comes 141 = .ok (.aload_n 0, 1) := by decide +kernel
theorem dX4_comes_142 : decode cX4_comes 142 = .ok (.aload_n 0, 1) := by decide +kernel
theorem dX4_comes_143 : decode cX4_comes 143 = .ok (.getfield 28, 3) := by decide +kernel
theorem dX4_comes_146 : decode cX4_comes 146 = .ok (.iload_n 2, 1) := by decide +kernel
theorem dX4_comes_147 : decode cX4_comes 147 = .ok (.iaload, 1) := by decide +kernel
theorem dX4_comes_148 : decode cX4_comes 148 = .ok (.invokevirtual 113, 3) := by decide +kernel
theorem dX4_comes_151 : decode cX4_comes 151 = .ok (.iconst 1, 1) := by decide +kernel
theorem dX4_comes_152 : decode cX4_comes 152 = .ok (.ireturn, 1) := by decide +kernel
theorem dX4_comes_153 : decode cX4_comes 153 = .ok (.aload_n 0, 1) := by decide +kernel
theorem dX4_comes_154 : decode cX4_comes 154 = .ok (.getfield 28, 3) := by decide +kernel
theorem dX4_comes_157 : decode cX4_comes 157 = .ok (.iload_n 2, 1) := by decide +kernel
theorem dX4_comes_158 : decode cX4_comes 158 = .ok (.iaload, 1) := by decide +kernel
theorem dX4_comes_159 : decode cX4_comes 159 = .ok (.invokestatic 104, 3) := by decide +kernel
theorem dX4_comes_162 : decode cX4_comes 162 = .ok (.ifCond .ne 5, 3) := by decide +kernel
theorem dX4_comes_165 : decode cX4_comes 165 = .ok (.iconst 0, 1) := by decide +kernel
theorem dX4_comes_166 : decode cX4_comes 166 = .ok (.ireturn, 1) := by decide +kernel
theorem dX4_comes_167 : decode cX4_comes 167 = .ok (.aload_n 0, 1) := by decide +kernel
theorem dX4_comes_168 : decode cX4_comes 168 = .ok (.getfield 13, 3) := by decide +kernel
theorem dX4_comes_171 : decode cX4_comes 171 = .ok (.aload_n 0, 1) := by decide +kernel
theorem dX4_comes_172 : decode cX4_comes 172 = .ok (.getfield 28, 3) := by decide +kernel
theorem dX4_comes_175 : decode cX4_comes 175 = .ok (.iload_n 2, 1) := by decide +kernel
theorem dX4_comes_176 : decode cX4_comes 176 = .ok (.iaload, 1) := by decide +kernel
theorem dX4_comes_177 : decode cX4_comes 177 = .ok (.aload_n 0, 1) := by decide +kernel
theorem dX4_comes_178 : decode cX4_comes 178 = .ok (.getfield 28, 3) := by decide +kernel
theorem dX4_comes_181 : decode cX4_comes 181 = .ok (.iload_n 2, 1) := by decide +kernel
theorem dX4_comes_182 : decode cX4_comes 182 = .ok (.iconst 1, 1) := by decide +kernel
theorem dX4_comes_183 : decode cX4_comes 183 = .ok (.iadd, 1) := by decide +kernel
theorem dX4_comes_184 : decode cX4_comes 184 = .ok (.iaload, 1) := by decide +kernel
theorem dX4_comes_185 : decode cX4_comes 185 = .ok (.iastore, 1) := by decide +kernel
theorem dX4_comes_186 : decode cX4_comes 186 = .ok (.iconst 1, 1) := by decide +kernel
theorem dX4_comes_187 : decode cX4_comes 187 = .ok (.ireturn, 1) := by decide +kernel
theorem dX4_back_0 : decode cX4_back 0 = .ok (.aload_n 0, 1) := by decide +kernel
end
section
theorem dX4_back_1 : decode cX4_back 1 = .ok (.iconst 0, 1) := by decide +kernel
theorem dX4_back_2 : decode cX4_back 2 = .ok (.putfield 64, 3) := by decide +kernel
theorem dX4_back_5 : decode cX4_back 5 = .ok (.aload_n 0, 1) := by decide +kernel
theorem dX4_back_6 : decode cX4_back 6 = .ok (.iconst 0, 1) := by decide +kernel
theorem dX4_back_7 : decode cX4_back 7 = .ok (.putfield 86, 3) := by decide +kernel
theorem dX4_back_10 : decode cX4_back 10 = .ok (.iconst 1, 1) := by decide +kernel
theorem dX4_back_11 : decode cX4_back 11 = .ok (.istore_n 1, 1) := by decide +kernel
theorem dX4_back_12 : decode cX4_back 12 = .ok (.iload_n 1, 1) := by decide +kernel
theorem dX4_back_13 : decode cX4_back 13 = .ok (.ifCond .eq 47, 3) := by decide +kernel
theorem dX4_back_16 : decode cX4_back 16 = .ok (.aload_n 0, 1) := by decide +kernel
theorem dX4_back_17 : decode cX4_back 17 = .ok (.getfield 64, 3) := by decide +kernel
theorem dX4_back_20 : decode cX4_back 20 = .ok (.aload_n 0, 1) := by decide +kernel
theorem dX4_back_21 : decode cX4_back 21 = .ok (.getfield 56, 3) := by decide +kernel
theorem dX4_back_24 : decode cX4_back 24 = .ok (.if_icmp .lt 10, 3) := by decide +kernel
theorem dX4_back_27 : decode cX4_back 27 = .ok (.aload_n 0, 1) := by decide +kernel
theorem dX4_back_28 : decode cX4_back 28 = .ok (.getfield 86, 3) := by decide +kernel
theorem dX4_back_31 : decode cX4_back 31 = .ok (.ifCond .ne 29, 3) := by decide +kernel
theorem dX4_back_34 : decode cX4_back 34 = .ok (.aload_n 0, 1) := by decide +kernel
theorem dX4_back_35 : decode cX4_back 35 = .ok (.invokevirtual 117, 3) := by decide +kernel
theorem dX4_back_38 : decode cX4_back 38 = .ok (.istore_n 1, 1) := by decide +kernel
theorem dX4_back_39 : decode cX4_back 39 = .ok (.aload_n 0, 1) := by decide +kernel
theorem dX4_back_40 : decode cX4_back 40 = .ok (.dup, 1) := by decide +kernel
theorem dX4_back_41 : decode cX4_back 41 = .ok (.getfield 86, 3) := by decide +kernel
theorem dX4_back_44 : decode cX4_back 44 = .ok (.iload_n 1, 1) := by decide +kernel
theorem dX4_back_45 : decode cX4_back 45 = .ok (.ifCond .eq 7, 3) := by decide +kernel
theorem dX4_back_48 : decode cX4_back 48 = .ok (.iconst 1, 1) := by decide +kernel
theorem dX4_back_49 : decode cX4_back 49 = .ok (.goto 4, 3) := by decide +kernel
theorem dX4_back_52 : decode cX4_back 52 = .ok (.iconst 0, 1) := by decide +kernel
theorem dX4_back_53 : decode cX4_back 53 = .ok (.iadd, 1) := by decide +kernel
theorem dX4_back_54 : decode cX4_back 54 = .ok (.putfield 86, 3) := by decide +kernel
theorem dX4_back_57 : decode cX4_back 57 = .ok (.goto (-45), 3) := by decide +kernel
theorem dX4_back_60 : decode cX4_back 60 = .ok (.aload_n 0, 1) := by decide +kernel
theorem dX4_back_61 : decode cX4_back 61 = .ok (.iconst 0, 1) := by decide +kernel
theorem dX4_back_62 : decode cX4_back 62 = .ok (.putfield 56, 3) := by decide +kernel
theorem dX4_back_65 : decode cX4_back 65 = .ok (.iload_n 1, 1) := by decide +kernel
theorem dX4_back_66 : decode cX4_back 66 = .ok (.ifCond .ne 12, 3) := by decide +kernel
theorem dX4_back_69 : decode cX4_back 69 = .ok (.sipush (-1000), 3) := by decide +kernel
theorem dX4_back_72 : decode cX4_back 72 = .ok (.aload_n 0, 1) := by decide +kernel
theorem dX4_back_73 : decode cX4_back 73 = .ok (.getfield 64, 3) := by decide +kernel
theorem dX4_back_76 : decode cX4_back 76 = .ok (.isub, 1) := by decide +kernel
theorem dX4_back_77 : decode cX4_back 77 = .ok (.ireturn, 1) := by decide +kernel
theorem dX4_back_78 : decode cX4_back 78 = .ok (.aload_n 0, 1) := by decide +kernel
theorem dX4_back_79 : decode cX4_back 79 = .ok (.iconst 1, 1) := by decide +kernel
theorem dX4_back_80 : decode cX4_back 80 = .ok (.iconst 1, 1) := by decide +kernel
theorem dX4_back_81 : decode cX4_back 81 = .ok (.invokevirtual 121, 3) := by decide +kernel
theorem dX4_back_84 : decode cX4_back 84 = .ok (.iconst 0, 1) := by decide +kernel
theorem dX4_back_85 : decode cX4_back 85 = .ok (.istore_n 2, 1) := by decide +kernel
theorem dX4_back_86 : decode cX4_back 86 = .ok (.iload_n 2, 1) := by decide +kernel
theorem dX4_back_87 : decode cX4_back 87 = .ok (.aload_n 0, 1) := by decide +kernel
theorem dX4_back_88 : decode cX4_back 88 = .ok (.getfield 86, 3) := by decide +kernel
theorem dX4_back_91 : decode cX4_back 91 = .ok (.if_icmp .ge 37, 3) := by decide +kernel
theorem dX4_back_94 : decode cX4_back 94 = .ok (.aload_n 0, 1) := by decide +kernel
theorem dX4_back_95 : decode cX4_back 95 = .ok (.iload_n 2, 1) := by decide +kernel
theorem dX4_back_96 : decode cX4_back 96 = .ok (.invokevirtual 125, 3) := by decide +kernel
theorem dX4_back_99 : decode cX4_back 99 = .ok (.ifCond .eq 6, 3) := by decide +kernel
theorem dX4_back_102 : decode cX4_back 102 = .ok (.goto 20, 3) := by decide +kernel
theorem dX4_back_105 : decode cX4_back 105 = .ok (.aload_n 0, 1) := by decide +kernel
theorem dX4_back_106 : decode cX4_back 106 = .ok (.iconst 1, 1) := by decide +kernel
theorem dX4_back_107 : decode cX4_back 107 = .ok (.iconst 0, 1) := by decide +kernel
theorem dX4_back_108 : decode cX4_back 108 = .ok (.invokevirtual 121, 3) := by decide +kernel
theorem dX4_back_111 : decode cX4_back 111 = .ok (.sipush (-2000), 3) := by decide +kernel
theorem dX4_back_114 : decode cX4_back 114 = .ok (.aload_n 0, 1) := by decide +kernel
theorem dX4_back_115 : decode cX4_back 115 = .ok (.getfield 25, 3) := by decide +kernel
theorem dX4_back_118 : decode cX4_back 118 = .ok (.iload_n 2, 1) := by decide +kernel
theorem dX4_back_119 : decode cX4_back 119 = .ok (.iaload, 1) := by decide +kernel
theorem dX4_back_120 : decode cX4_back 120 = .ok (.isub, 1) := by decide +kernel
theorem dX4_back_121 : decode cX4_back 121 = .ok (.ireturn, 1) := by decide +kernel
theorem dX4_back_122 : decode cX4_back 122 = .ok (.iinc 2 1, 3) := by decide +kernel
theorem dX4_back_125 : decode cX4_back 125 = .ok (.goto (-39), 3) := by decide +kernel
theorem dX4_back_128 : decode cX4_back 128 = .ok (.aload_n 0, 1) := by decide +kernel
theorem dX4_back_129 : decode cX4_back 129 = .ok (.getfield 86, 3) := by decide +kernel
theorem dX4_back_132 : decode cX4_back 132 = .ok (.ireturn, 1) := by decide +kernel
theorem dX4_passes_0 : decode cX4_passes 0 = .ok (.iconst 0, 1) := by decide +kernel
theorem dX4_passes_1 : decode cX4_passes 1 = .ok (.istore_n 2, 1) := by decide +kernel
theorem dX4_passes_2 : decode cX4_passes 2 = .ok (.iload_n 2, 1) := by decide +kernel
theorem dX4_passes_3 : decode cX4_passes 3 = .ok (.aload_n 1, 1) := by decide +kernel
theorem dX4_passes_4 : decode cX4_passes 4 = .ok (.arraylength, 1) := by decide +kernel
theorem dX4_passes_5 : decode cX4_passes 5 = .ok (.if_icmp .ge 53, 3) := by decide +kernel
theorem dX4_passes_8 : decode cX4_passes 8 = .ok (.aload_n 0, 1) := by decide +kernel
theorem dX4_passes_9 : decode cX4_passes 9 = .ok (.getfield 128, 3) := by decide +kernel
theorem dX4_passes_12 : decode cX4_passes 12 = .ok (.ifCond .eq 18, 3) := by decide +kernel
theorem dX4_passes_15 : decode cX4_passes 15 = .ok (.aload_n 0, 1) := by decide +kernel
theorem dX4_passes_16 : decode cX4_passes 16 = .ok (.getfield 31, 3) := by decide +kernel
theorem dX4_passes_19 : decode cX4_passes 19 = .ok (.aload_n 0, 1) := by decide +kernel
theorem dX4_passes_20 : decode cX4_passes 20 = .ok (.getfield 132, 3) := by decide +kernel
theorem dX4_passes_23 : decode cX4_passes 23 = .ok (.aload_n 1, 1) := by decide +kernel
theorem dX4_passes_24 : decode cX4_passes 24 = .ok (.iload_n 2, 1) := by decide +kernel
theorem dX4_passes_25 : decode cX4_passes 25 = .ok (.iaload, 1) := by decide +kernel
theorem dX4_passes_26 : decode cX4_passes 26 = .ok (.iastore, 1) := by decide +kernel
theorem dX4_passes_27 : decode cX4_passes 27 = .ok (.goto 15, 3) := by decide +kernel
theorem dX4_passes_30 : decode cX4_passes 30 = .ok (.aload_n 1, 1) := by decide +kernel
theorem dX4_passes_31 : decode cX4_passes 31 = .ok (.iload_n 2, 1) := by decide +kernel
theorem dX4_passes_32 : decode cX4_passes 32 = .ok (.aload_n 0, 1) := by decide +kernel
theorem dX4_passes_33 : decode cX4_passes 33 = .ok (.getfield 31, 3) := by decide +kernel
theorem dX4_passes_36 : decode cX4_passes 36 = .ok (.aload_n 0, 1) := by decide +kernel
theorem dX4_passes_37 : decode cX4_passes 37 = .ok (.getfield 132, 3) := by decide +kernel
theorem dX4_passes_40 : decode cX4_passes 40 = .ok (.iaload, 1) := by decide +kernel
theorem dX4_passes_41 : decode cX4_passes 41 = .ok (.iastore, 1) := by decide +kernel
theorem dX4_passes_42 : decode cX4_passes 42 = .ok (.aload_n 0, 1) := by decide +kernel
theorem dX4_passes_43 : decode cX4_passes 43 = .ok (.dup, 1) := by decide +kernel
theorem dX4_passes_44 : decode cX4_passes 44 = .ok (.getfield 132, 3) := by decide +kernel
theorem dX4_passes_47 : decode cX4_passes 47 = .ok (.iconst 1, 1) := by decide +kernel
theorem dX4_passes_48 : decode cX4_passes 48 = .ok (.iadd, 1) := by decide +kernel
theorem dX4_passes_49 : decode cX4_passes 49 = .ok (.putfield 132, 3) := by decide +kernel
theorem dX4_passes_52 : decode cX4_passes 52 = .ok (.iinc 2 1, 3) := by decide +kernel
theorem dX4_passes_55 : decode cX4_passes 55 = .ok (.goto (-53), 3) := by decide +kernel
theorem dX4_passes_58 : decode cX4_passes 58 = .ok (.return_, 1) := by decide +kernel
theorem dX4_passOne_0 : decode cX4_passOne 0 = .ok (.aload_n 0, 1) := by decide +kernel
theorem dX4_passOne_1 : decode cX4_passOne 1 = .ok (.getfield 128, 3) := by decide +kernel
theorem dX4_passOne_4 : decode cX4_passOne 4 = .ok (.ifCond .eq 7, 3) := by decide +kernel
theorem dX4_passOne_7 : decode cX4_passOne 7 = .ok (.iload_n 1, 1) := by decide +kernel
theorem dX4_passOne_8 : decode cX4_passOne 8 = .ok (.goto 12, 3) := by decide +kernel
theorem dX4_passOne_11 : decode cX4_passOne 11 = .ok (.aload_n 0, 1) := by decide +kernel
theorem dX4_passOne_12 : decode cX4_passOne 12 = .ok (.getfield 31, 3) := by decide +kernel
theorem dX4_passOne_15 : decode cX4_passOne 15 = .ok (.aload_n 0, 1) := by decide +kernel
theorem dX4_passOne_16 : decode cX4_passOne 16 = .ok (.getfield 132, 3) := by decide +kernel
theorem dX4_passOne_19 : decode cX4_passOne 19 = .ok (.iaload, 1) := by decide +kernel
theorem dX4_passOne_20 : decode cX4_passOne 20 = .ok (.istore_n 2, 1) := by decide +kernel
theorem dX4_passOne_21 : decode cX4_passOne 21 = .ok (.aload_n 0, 1) := by decide +kernel
theorem dX4_passOne_22 : decode cX4_passOne 22 = .ok (.getfield 128, 3) := by decide +kernel
theorem dX4_passOne_25 : decode cX4_passOne 25 = .ok (.ifCond .eq 13, 3) := by decide +kernel
theorem dX4_passOne_28 : decode cX4_passOne 28 = .ok (.aload_n 0, 1) := by decide +kernel
theorem dX4_passOne_29 : decode cX4_passOne 29 = .ok (.getfield 31, 3) := by decide +kernel
theorem dX4_passOne_32 : decode cX4_passOne 32 = .ok (.aload_n 0, 1) := by decide +kernel
theorem dX4_passOne_33 : decode cX4_passOne 33 = .ok (.getfield 132, 3) := by decide +kernel
theorem dX4_passOne_36 : decode cX4_passOne 36 = .ok (.iload_n 1, 1) := by decide +kernel
theorem dX4_passOne_37 : decode cX4_passOne 37 = .ok (.iastore, 1) := by decide +kernel
theorem dX4_passOne_38 : decode cX4_passOne 38 = .ok (.aload_n 0, 1) := by decide +kernel
theorem dX4_passOne_39 : decode cX4_passOne 39 = .ok (.dup, 1) := by decide +kernel
theorem dX4_passOne_40 : decode cX4_passOne 40 = .ok (.getfield 132, 3) := by decide +kernel
theorem dX4_passOne_43 : decode cX4_passOne 43 = .ok (.iconst 1, 1) := by decide +kernel
theorem dX4_passOne_44 : decode cX4_passOne 44 = .ok (.iadd, 1) := by decide +kernel
theorem dX4_passOne_45 : decode cX4_passOne 45 = .ok (.putfield 132, 3) := by decide +kernel
theorem dX4_passOne_48 : decode cX4_passOne 48 = .ok (.iload_n 2, 1) := by decide +kernel
theorem dX4_passOne_49 : decode cX4_passOne 49 = .ok (.ireturn, 1) := by decide +kernel
theorem dX4_passesAll_0 : decode cX4_passesAll 0 = .ok (.aload_n 0, 1) := by decide +kernel
theorem dX4_passesAll_1 : decode cX4_passesAll 1 = .ok (.bipush 35, 2) := by decide +kernel
theorem dX4_passesAll_3 : decode cX4_passesAll 3 = .ok (.iload_n 1, 1) := by decide +kernel
theorem dX4_passesAll_4 : decode cX4_passesAll 4 = .ok (.imul, 1) := by decide +kernel
theorem dX4_passesAll_5 : decode cX4_passesAll 5 = .ok (.putfield 132, 3) := by decide +kernel
theorem dX4_passesAll_8 : decode cX4_passesAll 8 = .ok (.aload_n 0, 1) := by decide +kernel
theorem dX4_passesAll_9 : decode cX4_passesAll 9 = .ok (.iload_n 2, 1) := by decide +kernel
theorem dX4_passesAll_10 : decode cX4_passesAll 10 = .ok (.putfield 128, 3) := by decide +kernel
theorem dX4_passesAll_13 : decode cX4_passesAll 13 = .ok (.aload_n 0, 1) := by decide +kernel
theorem dX4_passesAll_14 : decode cX4_passesAll 14 = .ok (.aload_n 0, 1) := by decide +kernel
theorem dX4_passesAll_15 : decode cX4_passesAll 15 = .ok (.getfield 13, 3) := by decide +kernel
theorem dX4_passesAll_18 : decode cX4_passesAll 18 = .ok (.invokevirtual 135, 3) := by decide +kernel
theorem dX4_passesAll_21 : decode cX4_passesAll 21 = .ok (.aload_n 0, 1) := by decide +kernel
theorem dX4_passesAll_22 : decode cX4_passesAll 22 = .ok (.aload_n 0, 1) := by decide +kernel
theorem dX4_passesAll_23 : decode cX4_passesAll 23 = .ok (.getfield 16, 3) := by decide +kernel
theorem dX4_passesAll_26 : decode cX4_passesAll 26 = .ok (.invokevirtual 135, 3) := by decide +kernel
theorem dX4_passesAll_29 : decode cX4_passesAll 29 = .ok (.aload_n 0, 1) := by decide +kernel
theorem dX4_passesAll_30 : decode cX4_passesAll 30 = .ok (.aload_n 0, 1) := by decide +kernel
theorem dX4_passesAll_31 : decode cX4_passesAll 31 = .ok (.aload_n 0, 1) := by decide +kernel
theorem dX4_passesAll_32 : decode cX4_passesAll 32 = .ok (.getfield 98, 3) := by decide +kernel
theorem dX4_passesAll_35 : decode cX4_passesAll 35 = .ok (.invokevirtual 139, 3) := by decide +kernel
theorem dX4_passesAll_38 : decode cX4_passesAll 38 = .ok (.putfield 98, 3) := by decide +kernel
theorem dX4_passesAll_41 : decode cX4_passesAll 41 = .ok (.aload_n 0, 1) := by decide +kernel
theorem dX4_passesAll_42 : decode cX4_passesAll 42 = .ok (.aload_n 0, 1) := by decide +kernel
theorem dX4_passesAll_43 : decode cX4_passesAll 43 = .ok (.aload_n 0, 1) := by decide +kernel
theorem dX4_passesAll_44 : decode cX4_passesAll 44 = .ok (.getfield 101, 3) := by decide +kernel
theorem dX4_passesAll_47 : decode cX4_passesAll 47 = .ok (.invokevirtual 139, 3) := by decide +kernel
theorem dX4_passesAll_50 : decode cX4_passesAll 50 = .ok (.putfield 101, 3) := by decide +kernel
theorem dX4_passesAll_53 : decode cX4_passesAll 53 = .ok (.aload_n 0, 1) := by decide +kernel
theorem dX4_passesAll_54 : decode cX4_passesAll 54 = .ok (.aload_n 0, 1) := by decide +kernel
theorem dX4_passesAll_55 : decode cX4_passesAll 55 = .ok (.aload_n 0, 1) := by decide +kernel
theorem dX4_passesAll_56 : decode cX4_passesAll 56 = .ok (.getfield 142, 3) := by decide +kernel
theorem dX4_passesAll_59 : decode cX4_passesAll 59 = .ok (.invokevirtual 139, 3) := by decide +kernel
theorem dX4_passesAll_62 : decode cX4_passesAll 62 = .ok (.putfield 142, 3) := by decide +kernel
theorem dX4_passesAll_65 : decode cX4_passesAll 65 = .ok (.aload_n 0, 1) := by decide +kernel
theorem dX4_passesAll_66 : decode cX4_passesAll 66 = .ok (.aload_n 0, 1) := by decide +kernel
theorem dX4_passesAll_67 : decode cX4_passesAll 67 = .ok (.aload_n 0, 1) := by decide +kernel
theorem dX4_passesAll_68 : decode cX4_passesAll 68 = .ok (.getfield 110, 3) := by decide +kernel
theorem dX4_passesAll_71 : decode cX4_passesAll 71 = .ok (.invokevirtual 139, 3) := by decide +kernel
theorem dX4_passesAll_74 : decode cX4_passesAll 74 = .ok (.putfield 110, 3) := by decide +kernel
theorem dX4_passesAll_77 : decode cX4_passesAll 77 = .ok (.return_, 1) := by decide +kernel
theorem dX4_image_0 : decode cX4_image 0 = .ok (.aload_n 0, 1) := by decide +kernel
theorem dX4_image_1 : decode cX4_image 1 = .ok (.iconst 1, 1) := by decide +kernel
theorem dX4_image_2 : decode cX4_image 2 = .ok (.putfield 145, 3) := by decide +kernel
theorem dX4_image_5 : decode cX4_image 5 = .ok (.aload_n 0, 1) := by decide +kernel
theorem dX4_image_6 : decode cX4_image 6 = .ok (.iconst 0, 1) := by decide +kernel
theorem dX4_image_7 : decode cX4_image 7 = .ok (.iconst 1, 1) := by decide +kernel
theorem dX4_image_8 : decode cX4_image 8 = .ok (.invokevirtual 121, 3) := by decide +kernel
theorem dX4_image_11 : decode cX4_image 11 = .ok (.aload_n 0, 1) := by decide +kernel
theorem dX4_image_12 : decode cX4_image 12 = .ok (.getfield 110, 3) := by decide +kernel
theorem dX4_image_15 : decode cX4_image 15 = .ok (.ireturn, 1) := by decide +kernel
theorem dX4_on_0 : decode cX4_on 0 = .ok (.aload_n 0, 1) := by decide +kernel
theorem dX4_on_1 : decode cX4_on 1 = .ok (.getfield 145, 3) := by decide +kernel
theorem dX4_on_4 : decode cX4_on 4 = .ok (.ifCond .ne 10, 3) := by decide +kernel
theorem dX4_on_7 : decode cX4_on 7 = .ok (.aload_n 0, 1) := by decide +kernel
theorem dX4_on_8 : decode cX4_on 8 = .ok (.bipush (-3), 2) := by decide +kernel
theorem dX4_on_10 : decode cX4_on 10 = .ok (.invokevirtual 60, 3) := by decide +kernel
theorem dX4_on_13 : decode cX4_on 13 = .ok (.ireturn, 1) := by decide +kernel
theorem dX4_on_14 : decode cX4_on 14 = .ok (.aload_n 0, 1) := by decide +kernel
theorem dX4_on_15 : decode cX4_on 15 = .ok (.iconst 0, 1) := by decide +kernel
theorem dX4_on_16 : decode cX4_on 16 = .ok (.iconst 0, 1) := by decide +kernel
theorem dX4_on_17 : decode cX4_on 17 = .ok (.invokevirtual 121, 3) := by decide +kernel
theorem dX4_on_20 : decode cX4_on 20 = .ok (.aload_n 0, 1) := by decide +kernel
theorem dX4_on_21 : decode cX4_on 21 = .ok (.getfield 110, 3) := by decide +kernel
theorem dX4_on_24 : decode cX4_on 24 = .ok (.ireturn, 1) := by decide +kernel
theorem dX4_plainBeside_0 : decode cX4_plainBeside 0 = .ok (.aload_n 0, 1) := by decide +kernel
theorem dX4_plainBeside_1 : decode cX4_plainBeside 1 = .ok (.getfield 101, 3) := by decide +kernel
theorem dX4_plainBeside_4 : decode cX4_plainBeside 4 = .ok (.bipush 6, 2) := by decide +kernel
theorem dX4_plainBeside_6 : decode cX4_plainBeside 6 = .ok (.idiv, 1) := by decide +kernel
theorem dX4_plainBeside_7 : decode cX4_plainBeside 7 = .ok (.aload_n 0, 1) := by decide +kernel
theorem dX4_plainBeside_8 : decode cX4_plainBeside 8 = .ok (.getfield 142, 3) := by decide +kernel
theorem dX4_plainBeside_11 : decode cX4_plainBeside 11 = .ok (.bipush 6, 2) := by decide +kernel
theorem dX4_plainBeside_13 : decode cX4_plainBeside 13 = .ok (.idiv, 1) := by decide +kernel
theorem dX4_plainBeside_14 : decode cX4_plainBeside 14 = .ok (.if_icmp .ne 18, 3) := by decide +kernel
theorem dX4_plainBeside_17 : decode cX4_plainBeside 17 = .ok (.aload_n 0, 1) := by decide +kernel
theorem dX4_plainBeside_18 : decode cX4_plainBeside 18 = .ok (.getfield 101, 3) := by decide +kernel
theorem dX4_plainBeside_21 : decode cX4_plainBeside 21 = .ok (.aload_n 0, 1) := by decide +kernel
theorem dX4_plainBeside_22 : decode cX4_plainBeside 22 = .ok (.getfield 142, 3) := by decide +kernel
theorem dX4_plainBeside_25 : decode cX4_plainBeside 25 = .ok (.invokestatic 48, 3) := by decide +kernel
theorem dX4_plainBeside_28 : decode cX4_plainBeside 28 = .ok (.iconst 1, 1) := by decide +kernel
theorem dX4_plainBeside_29 : decode cX4_plainBeside 29 = .ok (.if_icmp .eq 8, 3) := by decide +kernel
theorem dX4_plainBeside_32 : decode cX4_plainBeside 32 = .ok (.aload_n 0, 1) := by decide +kernel
theorem dX4_plainBeside_33 : decode cX4_plainBeside 33 = .ok (.getfield 101, 3) := by decide +kernel
theorem dX4_plainBeside_36 : decode cX4_plainBeside 36 = .ok (.ireturn, 1) := by decide +kernel
theorem dX4_plainBeside_37 : decode cX4_plainBeside 37 = .ok (.aload_n 0, 1) := by decide +kernel
theorem dX4_plainBeside_38 : decode cX4_plainBeside 38 = .ok (.getfield 101, 3) := by decide +kernel
theorem dX4_plainBeside_41 : decode cX4_plainBeside 41 = .ok (.aload_n 0, 1) := by decide +kernel
theorem dX4_plainBeside_42 : decode cX4_plainBeside 42 = .ok (.getfield 142, 3) := by decide +kernel
theorem dX4_plainBeside_45 : decode cX4_plainBeside 45 = .ok (.if_icmp .le 7, 3) := by decide +kernel
theorem dX4_plainBeside_48 : decode cX4_plainBeside 48 = .ok (.iconst 1, 1) := by decide +kernel
theorem dX4_plainBeside_49 : decode cX4_plainBeside 49 = .ok (.goto 4, 3) := by decide +kernel
theorem dX4_plainBeside_52 : decode cX4_plainBeside 52 = .ok (.iconst (-1), 1) := by decide +kernel
theorem dX4_plainBeside_53 : decode cX4_plainBeside 53 = .ok (.istore_n 1, 1) := by decide +kernel
theorem dX4_plainBeside_54 : decode cX4_plainBeside 54 = .ok (.aload_n 0, 1) := by decide +kernel
theorem dX4_plainBeside_55 : decode cX4_plainBeside 55 = .ok (.getfield 101, 3) := by decide +kernel
theorem dX4_plainBeside_58 : decode cX4_plainBeside 58 = .ok (.bipush 6, 2) := by decide +kernel
theorem dX4_plainBeside_60 : decode cX4_plainBeside 60 = .ok (.irem, 1) := by decide +kernel
theorem dX4_plainBeside_61 : decode cX4_plainBeside 61 = .ok (.iload_n 1, 1) := by decide +kernel
theorem dX4_plainBeside_62 : decode cX4_plainBeside 62 = .ok (.iadd, 1) := by decide +kernel
theorem dX4_plainBeside_63 : decode cX4_plainBeside 63 = .ok (.iconst 0, 1) := by decide +kernel
theorem dX4_plainBeside_64 : decode cX4_plainBeside 64 = .ok (.iconst 5, 1) := by decide +kernel
theorem dX4_plainBeside_65 : decode cX4_plainBeside 65 = .ok (.invokestatic 71, 3) := by decide +kernel
theorem dX4_plainBeside_68 : decode cX4_plainBeside 68 = .ok (.ifCond .eq 12, 3) := by decide +kernel
theorem dX4_plainBeside_71 : decode cX4_plainBeside 71 = .ok (.aload_n 0, 1) := by decide +kernel
theorem dX4_plainBeside_72 : decode cX4_plainBeside 72 = .ok (.getfield 101, 3) := by decide +kernel
theorem dX4_plainBeside_75 : decode cX4_plainBeside 75 = .ok (.iload_n 1, 1) := by decide +kernel
theorem dX4_plainBeside_76 : decode cX4_plainBeside 76 = .ok (.iadd, 1) := by decide +kernel
theorem dX4_plainBeside_77 : decode cX4_plainBeside 77 = .ok (.goto 7, 3) := by decide +kernel
theorem dX4_plainBeside_80 : decode cX4_plainBeside 80 = .ok (.aload_n 0, 1) := by decide +kernel
theorem dX4_plainBeside_81 : decode cX4_plainBeside 81 = .ok (.getfield 101, 3) := by decide +kernel
theorem dX4_plainBeside_84 : decode cX4_plainBeside 84 = .ok (.ireturn, 1) := by decide +kernel
theorem dX4_creepsBeside_0 : decode cX4_creepsBeside 0 = .ok (.aload_n 0, 1) := by decide +kernel
theorem dX4_creepsBeside_1 : decode cX4_creepsBeside 1 = .ok (.getfield 110, 3) := by decide +kernel
theorem dX4_creepsBeside_4 : decode cX4_creepsBeside 4 = .ok (.iconst 3, 1) := by decide +kernel
theorem dX4_creepsBeside_5 : decode cX4_creepsBeside 5 = .ok (.irem, 1) := by decide +kernel
theorem dX4_creepsBeside_6 : decode cX4_creepsBeside 6 = .ok (.ifCond .ne 25, 3) := by decide +kernel
theorem dX4_creepsBeside_9 : decode cX4_creepsBeside 9 = .ok (.aload_n 0, 1) := by decide +kernel
theorem dX4_creepsBeside_10 : decode cX4_creepsBeside 10 = .ok (.getfield 101, 3) := by decide +kernel
theorem dX4_creepsBeside_13 : decode cX4_creepsBeside 13 = .ok (.bipush 6, 2) := by decide +kernel
theorem dX4_creepsBeside_15 : decode cX4_creepsBeside 15 = .ok (.iadd, 1) := by decide +kernel
theorem dX4_creepsBeside_16 : decode cX4_creepsBeside 16 = .ok (.bipush 24, 2) := by decide +kernel
theorem dX4_creepsBeside_18 : decode cX4_creepsBeside 18 = .ok (.if_icmp .ge 13, 3) := by decide +kernel
theorem dX4_creepsBeside_21 : decode cX4_creepsBeside 21 = .ok (.aload_n 0, 1) := by decide +kernel
theorem dX4_creepsBeside_22 : decode cX4_creepsBeside 22 = .ok (.getfield 101, 3) := by decide +kernel
theorem dX4_creepsBeside_25 : decode cX4_creepsBeside 25 = .ok (.bipush 6, 2) := by decide +kernel
theorem dX4_creepsBeside_27 : decode cX4_creepsBeside 27 = .ok (.iadd, 1) := by decide +kernel
theorem dX4_creepsBeside_28 : decode cX4_creepsBeside 28 = .ok (.goto 7, 3) := by decide +kernel
theorem dX4_creepsBeside_31 : decode cX4_creepsBeside 31 = .ok (.aload_n 0, 1) := by decide +kernel
theorem dX4_creepsBeside_32 : decode cX4_creepsBeside 32 = .ok (.invokevirtual 148, 3) := by decide +kernel
theorem dX4_creepsBeside_35 : decode cX4_creepsBeside 35 = .ok (.ireturn, 1) := by decide +kernel
theorem dX4_leapsBeside_0 : decode cX4_leapsBeside 0 = .ok (.aload_n 0, 1) := by decide +kernel
theorem dX4_leapsBeside_1 : decode cX4_leapsBeside 1 = .ok (.invokevirtual 151, 3) := by decide +kernel
theorem dX4_leapsBeside_4 : decode cX4_leapsBeside 4 = .ok (.istore_n 1, 1) := by decide +kernel
theorem dX4_leapsBeside_5 : decode cX4_leapsBeside 5 = .ok (.iload_n 1, 1) := by decide +kernel
theorem dX4_leapsBeside_6 : decode cX4_leapsBeside 6 = .ok (.aload_n 0, 1) := by decide +kernel
theorem dX4_leapsBeside_7 : decode cX4_leapsBeside 7 = .ok (.getfield 101, 3) := by decide +kernel
theorem dX4_leapsBeside_10 : decode cX4_leapsBeside 10 = .ok (.if_icmp .eq 5, 3) := by decide +kernel
theorem dX4_leapsBeside_13 : decode cX4_leapsBeside 13 = .ok (.iload_n 1, 1) := by decide +kernel
theorem dX4_leapsBeside_14 : decode cX4_leapsBeside 14 = .ok (.ireturn, 1) := by decide +kernel
theorem dX4_leapsBeside_15 : decode cX4_leapsBeside 15 = .ok (.aload_n 0, 1) := by decide +kernel
theorem dX4_leapsBeside_16 : decode cX4_leapsBeside 16 = .ok (.getfield 101, 3) := by decide +kernel
theorem dX4_leapsBeside_19 : decode cX4_leapsBeside 19 = .ok (.bipush 6, 2) := by decide +kernel
theorem dX4_leapsBeside_21 : decode cX4_leapsBeside 21 = .ok (.idiv, 1) := by decide +kernel
theorem dX4_leapsBeside_22 : decode cX4_leapsBeside 22 = .ok (.bipush 6, 2) := by decide +kernel
theorem dX4_leapsBeside_24 : decode cX4_leapsBeside 24 = .ok (.imul, 1) := by decide +kernel
theorem dX4_leapsBeside_25 : decode cX4_leapsBeside 25 = .ok (.bipush 6, 2) := by decide +kernel
theorem dX4_leapsBeside_27 : decode cX4_leapsBeside 27 = .ok (.iadd, 1) := by decide +kernel
theorem dX4_leapsBeside_28 : decode cX4_leapsBeside 28 = .ok (.iconst 1, 1) := by decide +kernel
theorem dX4_leapsBeside_29 : decode cX4_leapsBeside 29 = .ok (.isub, 1) := by decide +kernel
theorem dX4_leapsBeside_30 : decode cX4_leapsBeside 30 = .ok (.aload_n 0, 1) := by decide +kernel
theorem dX4_leapsBeside_31 : decode cX4_leapsBeside 31 = .ok (.getfield 101, 3) := by decide +kernel
theorem dX4_leapsBeside_34 : decode cX4_leapsBeside 34 = .ok (.bipush 6, 2) := by decide +kernel
theorem dX4_leapsBeside_36 : decode cX4_leapsBeside 36 = .ok (.irem, 1) := by decide +kernel
theorem dX4_leapsBeside_37 : decode cX4_leapsBeside 37 = .ok (.isub, 1) := by decide +kernel
theorem dX4_leapsBeside_38 : decode cX4_leapsBeside 38 = .ok (.istore_n 2, 1) := by decide +kernel
theorem dX4_leapsBeside_39 : decode cX4_leapsBeside 39 = .ok (.aload_n 0, 1) := by decide +kernel
theorem dX4_leapsBeside_40 : decode cX4_leapsBeside 40 = .ok (.getfield 13, 3) := by decide +kernel
theorem dX4_leapsBeside_43 : decode cX4_leapsBeside 43 = .ok (.iload_n 2, 1) := by decide +kernel
theorem dX4_leapsBeside_44 : decode cX4_leapsBeside 44 = .ok (.iaload, 1) := by decide +kernel
theorem dX4_leapsBeside_45 : decode cX4_leapsBeside 45 = .ok (.ifCond .ne 7, 3) := by decide +kernel
theorem dX4_leapsBeside_48 : decode cX4_leapsBeside 48 = .ok (.iload_n 2, 1) := by decide +kernel
theorem dX4_leapsBeside_49 : decode cX4_leapsBeside 49 = .ok (.goto 7, 3) := by decide +kernel
theorem dX4_leapsBeside_52 : decode cX4_leapsBeside 52 = .ok (.aload_n 0, 1) := by decide +kernel
theorem dX4_leapsBeside_53 : decode cX4_leapsBeside 53 = .ok (.getfield 101, 3) := by decide +kernel
theorem dX4_leapsBeside_56 : decode cX4_leapsBeside 56 = .ok (.ireturn, 1) := by decide +kernel
theorem dX4_besideBy_0 : decode cX4_besideBy 0 = .ok (.aload_n 0, 1) := by decide +kernel
theorem dX4_besideBy_1 : decode cX4_besideBy 1 = .ok (.getfield 98, 3) := by decide +kernel
theorem dX4_besideBy_4 : decode cX4_besideBy 4 = .ok (.tableswitch 109 1 5 #[36, 41, 46, 51, 106], 36) := by decide +kernel
theorem dX4_besideBy_40 : decode cX4_besideBy 40 = .ok (.aload_n 0, 1) := by decide +kernel
theorem dX4_besideBy_41 : decode cX4_besideBy 41 = .ok (.invokevirtual 151, 3) := by decide +kernel
theorem dX4_besideBy_44 : decode cX4_besideBy 44 = .ok (.ireturn, 1) := by decide +kernel
theorem dX4_besideBy_45 : decode cX4_besideBy 45 = .ok (.aload_n 0, 1) := by decide +kernel
theorem dX4_besideBy_46 : decode cX4_besideBy 46 = .ok (.getfield 101, 3) := by decide +kernel
theorem dX4_besideBy_49 : decode cX4_besideBy 49 = .ok (.ireturn, 1) := by decide +kernel
theorem dX4_besideBy_50 : decode cX4_besideBy 50 = .ok (.aload_n 0, 1) := by decide +kernel
theorem dX4_besideBy_51 : decode cX4_besideBy 51 = .ok (.invokevirtual 154, 3) := by decide +kernel
theorem dX4_besideBy_54 : decode cX4_besideBy 54 = .ok (.ireturn, 1) := by decide +kernel
theorem dX4_besideBy_55 : decode cX4_besideBy 55 = .ok (.aload_n 0, 1) := by decide +kernel
theorem dX4_besideBy_56 : decode cX4_besideBy 56 = .ok (.getfield 101, 3) := by decide +kernel
theorem dX4_besideBy_59 : decode cX4_besideBy 59 = .ok (.bipush 6, 2) := by decide +kernel
theorem dX4_besideBy_61 : decode cX4_besideBy 61 = .ok (.irem, 1) := by decide +kernel
theorem dX4_besideBy_62 : decode cX4_besideBy 62 = .ok (.aload_n 0, 1) := by decide +kernel
theorem dX4_besideBy_63 : decode cX4_besideBy 63 = .ok (.getfield 16, 3) := by decide +kernel
theorem dX4_besideBy_66 : decode cX4_besideBy 66 = .ok (.iconst 3, 1) := by decide +kernel
theorem dX4_besideBy_67 : decode cX4_besideBy 67 = .ok (.iaload, 1) := by decide +kernel
theorem dX4_besideBy_68 : decode cX4_besideBy 68 = .ok (.if_icmp .ge 12, 3) := by decide +kernel
theorem dX4_besideBy_71 : decode cX4_besideBy 71 = .ok (.aload_n 0, 1) := by decide +kernel
theorem dX4_besideBy_72 : decode cX4_besideBy 72 = .ok (.getfield 101, 3) := by decide +kernel
theorem dX4_besideBy_75 : decode cX4_besideBy 75 = .ok (.iconst 1, 1) := by decide +kernel
theorem dX4_besideBy_76 : decode cX4_besideBy 76 = .ok (.iadd, 1) := by decide +kernel
theorem dX4_besideBy_77 : decode cX4_besideBy 77 = .ok (.goto 32, 3) := by decide +kernel
theorem dX4_besideBy_80 : decode cX4_besideBy 80 = .ok (.aload_n 0, 1) := by decide +kernel
theorem dX4_besideBy_81 : decode cX4_besideBy 81 = .ok (.getfield 101, 3) := by decide +kernel
theorem dX4_besideBy_84 : decode cX4_besideBy 84 = .ok (.bipush 6, 2) := by decide +kernel
theorem dX4_besideBy_86 : decode cX4_besideBy 86 = .ok (.irem, 1) := by decide +kernel
theorem dX4_besideBy_87 : decode cX4_besideBy 87 = .ok (.aload_n 0, 1) := by decide +kernel
theorem dX4_besideBy_88 : decode cX4_besideBy 88 = .ok (.getfield 16, 3) := by decide +kernel
theorem dX4_besideBy_91 : decode cX4_besideBy 91 = .ok (.iconst 3, 1) := by decide +kernel
theorem dX4_besideBy_92 : decode cX4_besideBy 92 = .ok (.iaload, 1) := by decide +kernel
theorem dX4_besideBy_93 : decode cX4_besideBy 93 = .ok (.if_icmp .le 12, 3) := by decide +kernel
theorem dX4_besideBy_96 : decode cX4_besideBy 96 = .ok (.aload_n 0, 1) := by decide +kernel
theorem dX4_besideBy_97 : decode cX4_besideBy 97 = .ok (.getfield 101, 3) := by decide +kernel
theorem dX4_besideBy_100 : decode cX4_besideBy 100 = .ok (.iconst 1, 1) := by decide +kernel
theorem dX4_besideBy_101 : decode cX4_besideBy 101 = .ok (.isub, 1) := by decide +kernel
theorem dX4_besideBy_102 : decode cX4_besideBy 102 = .ok (.goto 7, 3) := by decide +kernel
theorem dX4_besideBy_105 : decode cX4_besideBy 105 = .ok (.aload_n 0, 1) := by decide +kernel
theorem dX4_besideBy_106 : decode cX4_besideBy 106 = .ok (.getfield 101, 3) := by decide +kernel
theorem dX4_besideBy_109 : decode cX4_besideBy 109 = .ok (.ireturn, 1) := by decide +kernel
theorem dX4_besideBy_110 : decode cX4_besideBy 110 = .ok (.bipush 24, 2) := by decide +kernel
theorem dX4_besideBy_112 : decode cX4_besideBy 112 = .ok (.ireturn, 1) := by decide +kernel
theorem dX4_besideBy_113 : decode cX4_besideBy 113 = .ok (.aload_n 0, 1) := by decide +kernel
theorem dX4_besideBy_114 : decode cX4_besideBy 114 = .ok (.invokevirtual 148, 3) := by decide +kernel
theorem dX4_besideBy_117 : decode cX4_besideBy 117 = .ok (.ireturn, 1) := by decide +kernel
theorem dX4_struckBy_0 : decode cX4_struckBy 0 = .ok (.aload_n 0, 1) := by decide +kernel
theorem dX4_struckBy_1 : decode cX4_struckBy 1 = .ok (.getfield 98, 3) := by decide +kernel
theorem dX4_struckBy_4 : decode cX4_struckBy 4 = .ok (.iconst 3, 1) := by decide +kernel
theorem dX4_struckBy_5 : decode cX4_struckBy 5 = .ok (.if_icmp .ne 16, 3) := by decide +kernel
theorem dX4_struckBy_8 : decode cX4_struckBy 8 = .ok (.aload_n 0, 1) := by decide +kernel
theorem dX4_struckBy_9 : decode cX4_struckBy 9 = .ok (.getfield 101, 3) := by decide +kernel
theorem dX4_struckBy_12 : decode cX4_struckBy 12 = .ok (.bipush 7, 2) := by decide +kernel
theorem dX4_struckBy_14 : decode cX4_struckBy 14 = .ok (.iadd, 1) := by decide +kernel
theorem dX4_struckBy_15 : decode cX4_struckBy 15 = .ok (.bipush 24, 2) := by decide +kernel
theorem dX4_struckBy_17 : decode cX4_struckBy 17 = .ok (.irem, 1) := by decide +kernel
theorem dX4_struckBy_18 : decode cX4_struckBy 18 = .ok (.goto 33, 3) := by decide +kernel
theorem dX4_struckBy_21 : decode cX4_struckBy 21 = .ok (.aload_n 0, 1) := by decide +kernel
theorem dX4_struckBy_22 : decode cX4_struckBy 22 = .ok (.getfield 98, 3) := by decide +kernel
theorem dX4_struckBy_25 : decode cX4_struckBy 25 = .ok (.iconst 4, 1) := by decide +kernel
theorem dX4_struckBy_26 : decode cX4_struckBy 26 = .ok (.if_icmp .ne 23, 3) := by decide +kernel
theorem dX4_struckBy_29 : decode cX4_struckBy 29 = .ok (.aload_n 0, 1) := by decide +kernel
theorem dX4_struckBy_30 : decode cX4_struckBy 30 = .ok (.getfield 13, 3) := by decide +kernel
theorem dX4_struckBy_33 : decode cX4_struckBy 33 = .ok (.aload_n 0, 1) := by decide +kernel
theorem dX4_struckBy_34 : decode cX4_struckBy 34 = .ok (.getfield 101, 3) := by decide +kernel
theorem dX4_struckBy_37 : decode cX4_struckBy 37 = .ok (.iaload, 1) := by decide +kernel
theorem dX4_struckBy_38 : decode cX4_struckBy 38 = .ok (.iconst 3, 1) := by decide +kernel
theorem dX4_struckBy_39 : decode cX4_struckBy 39 = .ok (.if_icmp .ge 10, 3) := by decide +kernel
theorem dX4_struckBy_42 : decode cX4_struckBy 42 = .ok (.aload_n 0, 1) := by decide +kernel
theorem dX4_struckBy_43 : decode cX4_struckBy 43 = .ok (.getfield 101, 3) := by decide +kernel
theorem dX4_struckBy_46 : decode cX4_struckBy 46 = .ok (.goto 5, 3) := by decide +kernel
theorem dX4_struckBy_49 : decode cX4_struckBy 49 = .ok (.bipush 24, 2) := by decide +kernel
theorem dX4_struckBy_51 : decode cX4_struckBy 51 = .ok (.ireturn, 1) := by decide +kernel
theorem dX4_strokes_0 : decode cX4_strokes 0 = .ok (.aload_n 0, 1) := by decide +kernel
theorem dX4_strokes_1 : decode cX4_strokes 1 = .ok (.getfield 13, 3) := by decide +kernel
theorem dX4_strokes_4 : decode cX4_strokes 4 = .ok (.iload_n 1, 1) := by decide +kernel
theorem dX4_strokes_5 : decode cX4_strokes 5 = .ok (.aload_n 0, 1) := by decide +kernel
theorem dX4_strokes_6 : decode cX4_strokes 6 = .ok (.getfield 13, 3) := by decide +kernel
theorem dX4_strokes_9 : decode cX4_strokes 9 = .ok (.iload_n 1, 1) := by decide +kernel
theorem dX4_strokes_10 : decode cX4_strokes 10 = .ok (.iaload, 1) := by decide +kernel
theorem dX4_strokes_11 : decode cX4_strokes 11 = .ok (.bipush 9, 2) := by decide +kernel
theorem dX4_strokes_13 : decode cX4_strokes 13 = .ok (.if_icmp .ge 14, 3) := by decide +kernel
theorem dX4_strokes_16 : decode cX4_strokes 16 = .ok (.aload_n 0, 1) := by decide +kernel
theorem dX4_strokes_17 : decode cX4_strokes 17 = .ok (.getfield 13, 3) := by decide +kernel
theorem dX4_strokes_20 : decode cX4_strokes 20 = .ok (.iload_n 1, 1) := by decide +kernel
theorem dX4_strokes_21 : decode cX4_strokes 21 = .ok (.iaload, 1) := by decide +kernel
theorem dX4_strokes_22 : decode cX4_strokes 22 = .ok (.iconst 1, 1) := by decide +kernel
theorem dX4_strokes_23 : decode cX4_strokes 23 = .ok (.iadd, 1) := by decide +kernel
theorem dX4_strokes_24 : decode cX4_strokes 24 = .ok (.goto 5, 3) := by decide +kernel
theorem dX4_strokes_27 : decode cX4_strokes 27 = .ok (.bipush 9, 2) := by decide +kernel
theorem dX4_strokes_29 : decode cX4_strokes 29 = .ok (.iastore, 1) := by decide +kernel
theorem dX4_strokes_30 : decode cX4_strokes 30 = .ok (.aload_n 0, 1) := by decide +kernel
theorem dX4_strokes_31 : decode cX4_strokes 31 = .ok (.iload_n 1, 1) := by decide +kernel
theorem dX4_strokes_32 : decode cX4_strokes 32 = .ok (.putfield 142, 3) := by decide +kernel
theorem dX4_strokes_35 : decode cX4_strokes 35 = .ok (.aload_n 0, 1) := by decide +kernel
theorem dX4_strokes_36 : decode cX4_strokes 36 = .ok (.getfield 101, 3) := by decide +kernel
theorem dX4_strokes_39 : decode cX4_strokes 39 = .ok (.bipush 24, 2) := by decide +kernel
theorem dX4_strokes_41 : decode cX4_strokes 41 = .ok (.if_icmp .eq 29, 3) := by decide +kernel
theorem dX4_strokes_44 : decode cX4_strokes 44 = .ok (.aload_n 0, 1) := by decide +kernel
theorem dX4_strokes_45 : decode cX4_strokes 45 = .ok (.aload_n 0, 1) := by decide +kernel
theorem dX4_strokes_46 : decode cX4_strokes 46 = .ok (.getfield 101, 3) := by decide +kernel
theorem dX4_strokes_49 : decode cX4_strokes 49 = .ok (.aload_n 0, 1) := by decide +kernel
theorem dX4_strokes_50 : decode cX4_strokes 50 = .ok (.getfield 142, 3) := by decide +kernel
theorem dX4_strokes_53 : decode cX4_strokes 53 = .ok (.if_icmp .ne 10, 3) := by decide +kernel
theorem dX4_strokes_56 : decode cX4_strokes 56 = .ok (.aload_n 0, 1) := by decide +kernel
theorem dX4_strokes_57 : decode cX4_strokes 57 = .ok (.invokevirtual 157, 3) := by decide +kernel
theorem dX4_strokes_60 : decode cX4_strokes 60 = .ok (.goto 7, 3) := by decide +kernel
theorem dX4_strokes_63 : decode cX4_strokes 63 = .ok (.aload_n 0, 1) := by decide +kernel
theorem dX4_strokes_64 : decode cX4_strokes 64 = .ok (.invokevirtual 160, 3) := by decide +kernel
theorem dX4_strokes_67 : decode cX4_strokes 67 = .ok (.putfield 101, 3) := by decide +kernel
theorem dX4_strokes_70 : decode cX4_strokes 70 = .ok (.aload_n 0, 1) := by decide +kernel
theorem dX4_strokes_71 : decode cX4_strokes 71 = .ok (.dup, 1) := by decide +kernel
theorem dX4_strokes_72 : decode cX4_strokes 72 = .ok (.getfield 110, 3) := by decide +kernel
theorem dX4_strokes_75 : decode cX4_strokes 75 = .ok (.iconst 1, 1) := by decide +kernel
theorem dX4_strokes_76 : decode cX4_strokes 76 = .ok (.iadd, 1) := by decide +kernel
theorem dX4_strokes_77 : decode cX4_strokes 77 = .ok (.putfield 110, 3) := by decide +kernel
theorem dX4_strokes_80 : decode cX4_strokes 80 = .ok (.return_, 1) := by decide +kernel
theorem dX4_wordBy_0 : decode cX4_wordBy 0 = .ok (.iload_n 2, 1) := by decide +kernel
theorem dX4_wordBy_1 : decode cX4_wordBy 1 = .ok (.bipush 24, 2) := by decide +kernel
theorem dX4_wordBy_3 : decode cX4_wordBy 3 = .ok (.if_icmp .ne 6, 3) := by decide +kernel
theorem dX4_wordBy_6 : decode cX4_wordBy 6 = .ok (.bipush 9, 2) := by decide +kernel
theorem dX4_wordBy_8 : decode cX4_wordBy 8 = .ok (.ireturn, 1) := by decide +kernel
theorem dX4_wordBy_9 : decode cX4_wordBy 9 = .ok (.iload_n 2, 1) := by decide +kernel
theorem dX4_wordBy_10 : decode cX4_wordBy 10 = .ok (.bipush 6, 2) := by decide +kernel
theorem dX4_wordBy_12 : decode cX4_wordBy 12 = .ok (.idiv, 1) := by decide +kernel
theorem dX4_wordBy_13 : decode cX4_wordBy 13 = .ok (.iload_n 1, 1) := by decide +kernel
theorem dX4_wordBy_14 : decode cX4_wordBy 14 = .ok (.bipush 6, 2) := by decide +kernel
theorem dX4_wordBy_16 : decode cX4_wordBy 16 = .ok (.idiv, 1) := by decide +kernel
theorem dX4_wordBy_17 : decode cX4_wordBy 17 = .ok (.isub, 1) := by decide +kernel
theorem dX4_wordBy_18 : decode cX4_wordBy 18 = .ok (.istore 5, 2) := by decide +kernel
theorem dX4_wordBy_20 : decode cX4_wordBy 20 = .ok (.iload_n 2, 1) := by decide +kernel
theorem dX4_wordBy_21 : decode cX4_wordBy 21 = .ok (.bipush 6, 2) := by decide +kernel
theorem dX4_wordBy_23 : decode cX4_wordBy 23 = .ok (.irem, 1) := by decide +kernel
theorem dX4_wordBy_24 : decode cX4_wordBy 24 = .ok (.iload_n 1, 1) := by decide +kernel
theorem dX4_wordBy_25 : decode cX4_wordBy 25 = .ok (.bipush 6, 2) := by decide +kernel
theorem dX4_wordBy_27 : decode cX4_wordBy 27 = .ok (.irem, 1) := by decide +kernel
theorem dX4_wordBy_28 : decode cX4_wordBy 28 = .ok (.isub, 1) := by decide +kernel
theorem dX4_wordBy_29 : decode cX4_wordBy 29 = .ok (.istore 6, 2) := by decide +kernel
theorem dX4_wordBy_31 : decode cX4_wordBy 31 = .ok (.iload 5, 2) := by decide +kernel
theorem dX4_wordBy_33 : decode cX4_wordBy 33 = .ok (.ifCond .eq 31, 3) := by decide +kernel
theorem dX4_wordBy_36 : decode cX4_wordBy 36 = .ok (.iload 5, 2) := by decide +kernel
theorem dX4_wordBy_38 : decode cX4_wordBy 38 = .ok (.iconst 0, 1) := by decide +kernel
theorem dX4_wordBy_39 : decode cX4_wordBy 39 = .ok (.invokestatic 48, 3) := by decide +kernel
theorem dX4_wordBy_42 : decode cX4_wordBy 42 = .ok (.iload 4, 2) := by decide +kernel
theorem dX4_wordBy_44 : decode cX4_wordBy 44 = .ok (.if_icmp .lt 7, 3) := by decide +kernel
theorem dX4_wordBy_47 : decode cX4_wordBy 47 = .ok (.iconst 4, 1) := by decide +kernel
theorem dX4_wordBy_48 : decode cX4_wordBy 48 = .ok (.goto 4, 3) := by decide +kernel
theorem dX4_wordBy_51 : decode cX4_wordBy 51 = .ok (.iconst 0, 1) := by decide +kernel
theorem dX4_wordBy_52 : decode cX4_wordBy 52 = .ok (.iload 5, 2) := by decide +kernel
theorem dX4_wordBy_54 : decode cX4_wordBy 54 = .ok (.ifCond .ge 7, 3) := by decide +kernel
theorem dX4_wordBy_57 : decode cX4_wordBy 57 = .ok (.iconst 0, 1) := by decide +kernel
theorem dX4_wordBy_58 : decode cX4_wordBy 58 = .ok (.goto 4, 3) := by decide +kernel
theorem dX4_wordBy_61 : decode cX4_wordBy 61 = .ok (.iconst 1, 1) := by decide +kernel
theorem dX4_wordBy_62 : decode cX4_wordBy 62 = .ok (.iadd, 1) := by decide +kernel
theorem dX4_wordBy_63 : decode cX4_wordBy 63 = .ok (.ireturn, 1) := by decide +kernel
theorem dX4_wordBy_64 : decode cX4_wordBy 64 = .ok (.iload 6, 2) := by decide +kernel
theorem dX4_wordBy_66 : decode cX4_wordBy 66 = .ok (.ifCond .ne 6, 3) := by decide +kernel
theorem dX4_wordBy_69 : decode cX4_wordBy 69 = .ok (.bipush 8, 2) := by decide +kernel
theorem dX4_wordBy_71 : decode cX4_wordBy 71 = .ok (.ireturn, 1) := by decide +kernel
theorem dX4_wordBy_72 : decode cX4_wordBy 72 = .ok (.iload 6, 2) := by decide +kernel
theorem dX4_wordBy_74 : decode cX4_wordBy 74 = .ok (.ifCond .ge 7, 3) := by decide +kernel
theorem dX4_wordBy_77 : decode cX4_wordBy 77 = .ok (.iconst 1, 1) := by decide +kernel
theorem dX4_wordBy_78 : decode cX4_wordBy 78 = .ok (.goto 4, 3) := by decide +kernel
theorem dX4_wordBy_81 : decode cX4_wordBy 81 = .ok (.iconst 0, 1) := by decide +kernel
theorem dX4_wordBy_82 : decode cX4_wordBy 82 = .ok (.iload_n 3, 1) := by decide +kernel
theorem dX4_wordBy_83 : decode cX4_wordBy 83 = .ok (.ifCond .ne 7, 3) := by decide +kernel
theorem dX4_wordBy_86 : decode cX4_wordBy 86 = .ok (.iconst 1, 1) := by decide +kernel
theorem dX4_wordBy_87 : decode cX4_wordBy 87 = .ok (.goto 4, 3) := by decide +kernel
theorem dX4_wordBy_90 : decode cX4_wordBy 90 = .ok (.iconst 0, 1) := by decide +kernel
theorem dX4_wordBy_91 : decode cX4_wordBy 91 = .ok (.if_icmp .ne 7, 3) := by decide +kernel
theorem dX4_wordBy_94 : decode cX4_wordBy 94 = .ok (.iconst 1, 1) := by decide +kernel
theorem dX4_wordBy_95 : decode cX4_wordBy 95 = .ok (.goto 4, 3) := by decide +kernel
theorem dX4_wordBy_98 : decode cX4_wordBy 98 = .ok (.iconst 0, 1) := by decide +kernel
theorem dX4_wordBy_99 : decode cX4_wordBy 99 = .ok (.istore 7, 2) := by decide +kernel
theorem dX4_wordBy_101 : decode cX4_wordBy 101 = .ok (.iload 6, 2) := by decide +kernel
theorem dX4_wordBy_103 : decode cX4_wordBy 103 = .ok (.iconst 0, 1) := by decide +kernel
theorem dX4_wordBy_104 : decode cX4_wordBy 104 = .ok (.invokestatic 48, 3) := by decide +kernel
theorem dX4_wordBy_107 : decode cX4_wordBy 107 = .ok (.iload 4, 2) := by decide +kernel
theorem dX4_wordBy_109 : decode cX4_wordBy 109 = .ok (.if_icmp .lt 8, 3) := by decide +kernel
theorem dX4_wordBy_112 : decode cX4_wordBy 112 = .ok (.bipush 6, 2) := by decide +kernel
theorem dX4_wordBy_114 : decode cX4_wordBy 114 = .ok (.goto 4, 3) := by decide +kernel
theorem dX4_wordBy_117 : decode cX4_wordBy 117 = .ok (.iconst 2, 1) := by decide +kernel
theorem dX4_wordBy_118 : decode cX4_wordBy 118 = .ok (.iload 7, 2) := by decide +kernel
theorem dX4_wordBy_120 : decode cX4_wordBy 120 = .ok (.ifCond .eq 7, 3) := by decide +kernel
theorem dX4_wordBy_123 : decode cX4_wordBy 123 = .ok (.iconst 0, 1) := by decide +kernel
theorem dX4_wordBy_124 : decode cX4_wordBy 124 = .ok (.goto 4, 3) := by decide +kernel
theorem dX4_wordBy_127 : decode cX4_wordBy 127 = .ok (.iconst 1, 1) := by decide +kernel
theorem dX4_wordBy_128 : decode cX4_wordBy 128 = .ok (.iadd, 1) := by decide +kernel
theorem dX4_wordBy_129 : decode cX4_wordBy 129 = .ok (.ireturn, 1) := by decide +kernel
theorem dX4_wordFrom_0 : decode cX4_wordFrom 0 = .ok (.aload_n 0, 1) := by decide +kernel
theorem dX4_wordFrom_1 : decode cX4_wordFrom 1 = .ok (.iload_n 1, 1) := by decide +kernel
theorem dX4_wordFrom_2 : decode cX4_wordFrom 2 = .ok (.iload_n 2, 1) := by decide +kernel
theorem dX4_wordFrom_3 : decode cX4_wordFrom 3 = .ok (.aload_n 0, 1) := by decide +kernel
theorem dX4_wordFrom_4 : decode cX4_wordFrom 4 = .ok (.getfield 16, 3) := by decide +kernel
theorem dX4_wordFrom_7 : decode cX4_wordFrom 7 = .ok (.iconst 0, 1) := by decide +kernel
theorem dX4_wordFrom_8 : decode cX4_wordFrom 8 = .ok (.iaload, 1) := by decide +kernel
theorem dX4_wordFrom_9 : decode cX4_wordFrom 9 = .ok (.aload_n 0, 1) := by decide +kernel
theorem dX4_wordFrom_10 : decode cX4_wordFrom 10 = .ok (.getfield 16, 3) := by decide +kernel
theorem dX4_wordFrom_13 : decode cX4_wordFrom 13 = .ok (.iconst 2, 1) := by decide +kernel
theorem dX4_wordFrom_14 : decode cX4_wordFrom 14 = .ok (.iaload, 1) := by decide +kernel
theorem dX4_wordFrom_15 : decode cX4_wordFrom 15 = .ok (.invokevirtual 163, 3) := by decide +kernel
theorem dX4_wordFrom_18 : decode cX4_wordFrom 18 = .ok (.ireturn, 1) := by decide +kernel
theorem dX4_itch_0 : decode cX4_itch 0 = .ok (.iload_n 1, 1) := by decide +kernel
theorem dX4_itch_1 : decode cX4_itch 1 = .ok (.iconst 0, 1) := by decide +kernel
theorem dX4_itch_2 : decode cX4_itch 2 = .ok (.iconst 1, 1) := by decide +kernel
theorem dX4_itch_3 : decode cX4_itch 3 = .ok (.invokestatic 71, 3) := by decide +kernel
theorem dX4_itch_6 : decode cX4_itch 6 = .ok (.ifCond .ne 10, 3) := by decide +kernel
theorem dX4_itch_9 : decode cX4_itch 9 = .ok (.aload_n 0, 1) := by decide +kernel
theorem dX4_itch_10 : decode cX4_itch 10 = .ok (.bipush (-2), 2) := by decide +kernel
theorem dX4_itch_12 : decode cX4_itch 12 = .ok (.invokevirtual 60, 3) := by decide +kernel
theorem dX4_itch_15 : decode cX4_itch 15 = .ok (.ireturn, 1) := by decide +kernel
theorem dX4_itch_16 : decode cX4_itch 16 = .ok (.iload_n 1, 1) := by decide +kernel
theorem dX4_itch_17 : decode cX4_itch 17 = .ok (.ifCond .ne 10, 3) := by decide +kernel
theorem dX4_itch_20 : decode cX4_itch 20 = .ok (.aload_n 0, 1) := by decide +kernel
theorem dX4_itch_21 : decode cX4_itch 21 = .ok (.getfield 98, 3) := by decide +kernel
theorem dX4_itch_24 : decode cX4_itch 24 = .ok (.goto 7, 3) := by decide +kernel
theorem dX4_itch_27 : decode cX4_itch 27 = .ok (.aload_n 0, 1) := by decide +kernel
theorem dX4_itch_28 : decode cX4_itch 28 = .ok (.getfield 101, 3) := by decide +kernel
theorem dX4_itch_31 : decode cX4_itch 31 = .ok (.ireturn, 1) := by decide +kernel
theorem dX4_sore_0 : decode cX4_sore 0 = .ok (.iload_n 1, 1) := by decide +kernel
theorem dX4_sore_1 : decode cX4_sore 1 = .ok (.invokestatic 104, 3) := by decide +kernel
theorem dX4_sore_4 : decode cX4_sore 4 = .ok (.ifCond .eq 12, 3) := by decide +kernel
theorem dX4_sore_7 : decode cX4_sore 7 = .ok (.aload_n 0, 1) := by decide +kernel
theorem dX4_sore_8 : decode cX4_sore 8 = .ok (.getfield 13, 3) := by decide +kernel
theorem dX4_sore_11 : decode cX4_sore 11 = .ok (.iload_n 1, 1) := by decide +kernel
theorem dX4_sore_12 : decode cX4_sore 12 = .ok (.iaload, 1) := by decide +kernel
theorem dX4_sore_13 : decode cX4_sore 13 = .ok (.goto 8, 3) := by decide +kernel
theorem dX4_sore_16 : decode cX4_sore 16 = .ok (.aload_n 0, 1) := by decide +kernel
theorem dX4_sore_17 : decode cX4_sore 17 = .ok (.iconst (-1), 1) := by decide +kernel
theorem dX4_sore_18 : decode cX4_sore 18 = .ok (.invokevirtual 60, 3) := by decide +kernel
theorem dX4_sore_21 : decode cX4_sore 21 = .ok (.ireturn, 1) := by decide +kernel
theorem dX4_heal_0 : decode cX4_heal 0 = .ok (.iload_n 1, 1) := by decide +kernel
theorem dX4_heal_1 : decode cX4_heal 1 = .ok (.invokestatic 104, 3) := by decide +kernel
theorem dX4_heal_4 : decode cX4_heal 4 = .ok (.ifCond .ne 9, 3) := by decide +kernel
theorem dX4_heal_7 : decode cX4_heal 7 = .ok (.aload_n 0, 1) := by decide +kernel
theorem dX4_heal_8 : decode cX4_heal 8 = .ok (.iconst (-1), 1) := by decide +kernel
theorem dX4_heal_9 : decode cX4_heal 9 = .ok (.invokevirtual 60, 3) := by decide +kernel
theorem dX4_heal_12 : decode cX4_heal 12 = .ok (.ireturn, 1) := by decide +kernel
theorem dX4_heal_13 : decode cX4_heal 13 = .ok (.aload_n 0, 1) := by decide +kernel
theorem dX4_heal_14 : decode cX4_heal 14 = .ok (.getfield 13, 3) := by decide +kernel
theorem dX4_heal_17 : decode cX4_heal 17 = .ok (.iload_n 1, 1) := by decide +kernel
theorem dX4_heal_18 : decode cX4_heal 18 = .ok (.iaload, 1) := by decide +kernel
theorem dX4_heal_19 : decode cX4_heal 19 = .ok (.istore_n 2, 1) := by decide +kernel
theorem dX4_heal_20 : decode cX4_heal 20 = .ok (.aload_n 0, 1) := by decide +kernel
theorem dX4_heal_21 : decode cX4_heal 21 = .ok (.getfield 13, 3) := by decide +kernel
theorem dX4_heal_24 : decode cX4_heal 24 = .ok (.iload_n 1, 1) := by decide +kernel
theorem dX4_heal_25 : decode cX4_heal 25 = .ok (.iconst 0, 1) := by decide +kernel
theorem dX4_heal_26 : decode cX4_heal 26 = .ok (.iastore, 1) := by decide +kernel
theorem dX4_heal_27 : decode cX4_heal 27 = .ok (.iload_n 2, 1) := by decide +kernel
theorem dX4_heal_28 : decode cX4_heal 28 = .ok (.ireturn, 1) := by decide +kernel
theorem dX4_he_0 : decode cX4_he 0 = .ok (.iload_n 1, 1) := by decide +kernel
theorem dX4_he_1 : decode cX4_he 1 = .ok (.iconst 0, 1) := by decide +kernel
theorem dX4_he_2 : decode cX4_he 2 = .ok (.iconst 3, 1) := by decide +kernel
theorem dX4_he_3 : decode cX4_he 3 = .ok (.invokestatic 71, 3) := by decide +kernel
theorem dX4_he_6 : decode cX4_he 6 = .ok (.ifCond .ne 8, 3) := by decide +kernel
theorem dX4_he_9 : decode cX4_he 9 = .ok (.bipush (-2), 2) := by decide +kernel
theorem dX4_he_11 : decode cX4_he 11 = .ok (.goto 15, 3) := by decide +kernel
theorem dX4_he_14 : decode cX4_he 14 = .ok (.iload_n 2, 1) := by decide +kernel
theorem dX4_he_15 : decode cX4_he 15 = .ok (.iload_n 1, 1) := by decide +kernel
theorem dX4_he_16 : decode cX4_he 16 = .ok (.invokestatic 92, 3) := by decide +kernel
theorem dX4_he_19 : decode cX4_he 19 = .ok (.iload_n 1, 1) := by decide +kernel
theorem dX4_he_20 : decode cX4_he 20 = .ok (.invokestatic 95, 3) := by decide +kernel
theorem dX4_he_23 : decode cX4_he 23 = .ok (.invokestatic 52, 3) := by decide +kernel
theorem dX4_he_26 : decode cX4_he 26 = .ok (.istore_n 3, 1) := by decide +kernel
theorem dX4_he_27 : decode cX4_he 27 = .ok (.iload_n 3, 1) := by decide +kernel
theorem dX4_he_28 : decode cX4_he 28 = .ok (.ifCond .eq 9, 3) := by decide +kernel
theorem dX4_he_31 : decode cX4_he 31 = .ok (.aload_n 0, 1) := by decide +kernel
theorem dX4_he_32 : decode cX4_he 32 = .ok (.iload_n 3, 1) := by decide +kernel
theorem dX4_he_33 : decode cX4_he 33 = .ok (.invokevirtual 60, 3) := by decide +kernel
theorem dX4_he_36 : decode cX4_he 36 = .ok (.ireturn, 1) := by decide +kernel
theorem dX4_he_37 : decode cX4_he 37 = .ok (.aload_n 0, 1) := by decide +kernel
theorem dX4_he_38 : decode cX4_he 38 = .ok (.getfield 16, 3) := by decide +kernel
theorem dX4_he_41 : decode cX4_he 41 = .ok (.iload_n 1, 1) := by decide +kernel
theorem dX4_he_42 : decode cX4_he 42 = .ok (.iaload, 1) := by decide +kernel
theorem dX4_he_43 : decode cX4_he 43 = .ok (.istore 4, 2) := by decide +kernel
theorem dX4_he_45 : decode cX4_he 45 = .ok (.aload_n 0, 1) := by decide +kernel
theorem dX4_he_46 : decode cX4_he 46 = .ok (.getfield 16, 3) := by decide +kernel
theorem dX4_he_49 : decode cX4_he 49 = .ok (.iload_n 1, 1) := by decide +kernel
theorem dX4_he_50 : decode cX4_he 50 = .ok (.iload_n 2, 1) := by decide +kernel
theorem dX4_he_51 : decode cX4_he 51 = .ok (.iastore, 1) := by decide +kernel
theorem dX4_he_52 : decode cX4_he 52 = .ok (.iload 4, 2) := by decide +kernel
theorem dX4_he_54 : decode cX4_he 54 = .ok (.ireturn, 1) := by decide +kernel
theorem dX4_stroke_0 : decode cX4_stroke 0 = .ok (.iload_n 1, 1) := by decide +kernel
theorem dX4_stroke_1 : decode cX4_stroke 1 = .ok (.invokestatic 104, 3) := by decide +kernel
theorem dX4_stroke_4 : decode cX4_stroke 4 = .ok (.ifCond .ne 7, 3) := by decide +kernel
theorem dX4_stroke_7 : decode cX4_stroke 7 = .ok (.iconst (-1), 1) := by decide +kernel
theorem dX4_stroke_8 : decode cX4_stroke 8 = .ok (.goto 19, 3) := by decide +kernel
theorem dX4_stroke_11 : decode cX4_stroke 11 = .ok (.aload_n 0, 1) := by decide +kernel
theorem dX4_stroke_12 : decode cX4_stroke 12 = .ok (.getfield 110, 3) := by decide +kernel
theorem dX4_stroke_15 : decode cX4_stroke 15 = .ok (.sipush 999, 3) := by decide +kernel
theorem dX4_stroke_18 : decode cX4_stroke 18 = .ok (.if_icmp .ne 8, 3) := by decide +kernel
theorem dX4_stroke_21 : decode cX4_stroke 21 = .ok (.bipush (-6), 2) := by decide +kernel
theorem dX4_stroke_23 : decode cX4_stroke 23 = .ok (.goto 4, 3) := by decide +kernel
theorem dX4_stroke_26 : decode cX4_stroke 26 = .ok (.iconst 0, 1) := by decide +kernel
theorem dX4_stroke_27 : decode cX4_stroke 27 = .ok (.istore_n 2, 1) := by decide +kernel
theorem dX4_stroke_28 : decode cX4_stroke 28 = .ok (.iload_n 2, 1) := by decide +kernel
theorem dX4_stroke_29 : decode cX4_stroke 29 = .ok (.ifCond .eq 9, 3) := by decide +kernel
theorem dX4_stroke_32 : decode cX4_stroke 32 = .ok (.aload_n 0, 1) := by decide +kernel
theorem dX4_stroke_33 : decode cX4_stroke 33 = .ok (.iload_n 2, 1) := by decide +kernel
theorem dX4_stroke_34 : decode cX4_stroke 34 = .ok (.invokevirtual 60, 3) := by decide +kernel
theorem dX4_stroke_37 : decode cX4_stroke 37 = .ok (.ireturn, 1) := by decide +kernel
theorem dX4_stroke_38 : decode cX4_stroke 38 = .ok (.aload_n 0, 1) := by decide +kernel
theorem dX4_stroke_39 : decode cX4_stroke 39 = .ok (.iload_n 1, 1) := by decide +kernel
theorem dX4_stroke_40 : decode cX4_stroke 40 = .ok (.invokevirtual 113, 3) := by decide +kernel
theorem dX4_stroke_43 : decode cX4_stroke 43 = .ok (.aload_n 0, 1) := by decide +kernel
theorem dX4_stroke_44 : decode cX4_stroke 44 = .ok (.getfield 101, 3) := by decide +kernel
theorem dX4_stroke_47 : decode cX4_stroke 47 = .ok (.ireturn, 1) := by decide +kernel
theorem dX4_far_0 : decode cX4_far 0 = .ok (.iload_n 1, 1) := by decide +kernel
theorem dX4_far_1 : decode cX4_far 1 = .ok (.invokestatic 104, 3) := by decide +kernel
theorem dX4_far_4 : decode cX4_far 4 = .ok (.ifCond .eq 18, 3) := by decide +kernel
theorem dX4_far_7 : decode cX4_far 7 = .ok (.iload_n 2, 1) := by decide +kernel
theorem dX4_far_8 : decode cX4_far 8 = .ok (.invokestatic 104, 3) := by decide +kernel
theorem dX4_far_11 : decode cX4_far 11 = .ok (.ifCond .eq 11, 3) := by decide +kernel
theorem dX4_far_14 : decode cX4_far 14 = .ok (.iload_n 1, 1) := by decide +kernel
theorem dX4_far_15 : decode cX4_far 15 = .ok (.iload_n 2, 1) := by decide +kernel
theorem dX4_far_16 : decode cX4_far 16 = .ok (.invokestatic 167, 3) := by decide +kernel
theorem dX4_far_19 : decode cX4_far 19 = .ok (.goto 8, 3) := by decide +kernel
theorem dX4_far_22 : decode cX4_far 22 = .ok (.aload_n 0, 1) := by decide +kernel
theorem dX4_far_23 : decode cX4_far 23 = .ok (.iconst (-1), 1) := by decide +kernel
theorem dX4_far_24 : decode cX4_far 24 = .ok (.invokevirtual 60, 3) := by decide +kernel
theorem dX4_far_27 : decode cX4_far 27 = .ok (.ireturn, 1) := by decide +kernel
theorem dX4_say_0 : decode cX4_say 0 = .ok (.aload_n 0, 1) := by decide +kernel
theorem dX4_say_1 : decode cX4_say 1 = .ok (.aload_n 0, 1) := by decide +kernel
theorem dX4_say_2 : decode cX4_say 2 = .ok (.getfield 142, 3) := by decide +kernel
theorem dX4_say_5 : decode cX4_say 5 = .ok (.aload_n 0, 1) := by decide +kernel
theorem dX4_say_6 : decode cX4_say 6 = .ok (.getfield 101, 3) := by decide +kernel
theorem dX4_say_9 : decode cX4_say 9 = .ok (.invokevirtual 170, 3) := by decide +kernel
theorem dX4_say_12 : decode cX4_say 12 = .ok (.ireturn, 1) := by decide +kernel
theorem dX4_word_0 : decode cX4_word 0 = .ok (.iload_n 1, 1) := by decide +kernel
theorem dX4_word_1 : decode cX4_word 1 = .ok (.invokestatic 104, 3) := by decide +kernel
theorem dX4_word_4 : decode cX4_word 4 = .ok (.ifCond .eq 19, 3) := by decide +kernel
theorem dX4_word_7 : decode cX4_word 7 = .ok (.iload_n 2, 1) := by decide +kernel
theorem dX4_word_8 : decode cX4_word 8 = .ok (.invokestatic 104, 3) := by decide +kernel
theorem dX4_word_11 : decode cX4_word 11 = .ok (.ifCond .eq 12, 3) := by decide +kernel
theorem dX4_word_14 : decode cX4_word 14 = .ok (.aload_n 0, 1) := by decide +kernel
theorem dX4_word_15 : decode cX4_word 15 = .ok (.iload_n 1, 1) := by decide +kernel
theorem dX4_word_16 : decode cX4_word 16 = .ok (.iload_n 2, 1) := by decide +kernel
theorem dX4_word_17 : decode cX4_word 17 = .ok (.invokevirtual 170, 3) := by decide +kernel
theorem dX4_word_20 : decode cX4_word 20 = .ok (.goto 8, 3) := by decide +kernel
theorem dX4_word_23 : decode cX4_word 23 = .ok (.aload_n 0, 1) := by decide +kernel
theorem dX4_word_24 : decode cX4_word 24 = .ok (.iconst (-1), 1) := by decide +kernel
theorem dX4_word_25 : decode cX4_word 25 = .ok (.invokevirtual 60, 3) := by decide +kernel
theorem dX4_word_28 : decode cX4_word 28 = .ok (.ireturn, 1) := by decide +kernel
theorem dX4_behind_0 : decode cX4_behind 0 = .ok (.iload_n 1, 1) := by decide +kernel
theorem dX4_behind_1 : decode cX4_behind 1 = .ok (.invokestatic 104, 3) := by decide +kernel
theorem dX4_behind_4 : decode cX4_behind 4 = .ok (.ifCond .ne 7, 3) := by decide +kernel
theorem dX4_behind_7 : decode cX4_behind 7 = .ok (.iconst (-1), 1) := by decide +kernel
theorem dX4_behind_8 : decode cX4_behind 8 = .ok (.goto 10, 3) := by decide +kernel
theorem dX4_behind_11 : decode cX4_behind 11 = .ok (.iload_n 2, 1) := by decide +kernel
theorem dX4_behind_12 : decode cX4_behind 12 = .ok (.iconst 0, 1) := by decide +kernel
theorem dX4_behind_13 : decode cX4_behind 13 = .ok (.bipush 20, 2) := by decide +kernel
theorem dX4_behind_15 : decode cX4_behind 15 = .ok (.invokestatic 52, 3) := by decide +kernel
theorem dX4_behind_18 : decode cX4_behind 18 = .ok (.istore_n 3, 1) := by decide +kernel
theorem dX4_behind_19 : decode cX4_behind 19 = .ok (.iload_n 3, 1) := by decide +kernel
theorem dX4_behind_20 : decode cX4_behind 20 = .ok (.ifCond .eq 9, 3) := by decide +kernel
theorem dX4_behind_23 : decode cX4_behind 23 = .ok (.aload_n 0, 1) := by decide +kernel
theorem dX4_behind_24 : decode cX4_behind 24 = .ok (.iload_n 3, 1) := by decide +kernel
theorem dX4_behind_25 : decode cX4_behind 25 = .ok (.invokevirtual 60, 3) := by decide +kernel
theorem dX4_behind_28 : decode cX4_behind 28 = .ok (.ireturn, 1) := by decide +kernel
theorem dX4_behind_29 : decode cX4_behind 29 = .ok (.aload_n 0, 1) := by decide +kernel
theorem dX4_behind_30 : decode cX4_behind 30 = .ok (.iconst 1, 1) := by decide +kernel
theorem dX4_behind_31 : decode cX4_behind 31 = .ok (.iconst 1, 1) := by decide +kernel
theorem dX4_behind_32 : decode cX4_behind 32 = .ok (.invokevirtual 121, 3) := by decide +kernel
theorem dX4_behind_35 : decode cX4_behind 35 = .ok (.iconst 0, 1) := by decide +kernel
theorem dX4_behind_36 : decode cX4_behind 36 = .ok (.istore 4, 2) := by decide +kernel
theorem dX4_behind_38 : decode cX4_behind 38 = .ok (.iload 4, 2) := by decide +kernel
theorem dX4_behind_40 : decode cX4_behind 40 = .ok (.iload_n 2, 1) := by decide +kernel
theorem dX4_behind_41 : decode cX4_behind 41 = .ok (.if_icmp .ge 14, 3) := by decide +kernel
theorem dX4_behind_44 : decode cX4_behind 44 = .ok (.aload_n 0, 1) := by decide +kernel
theorem dX4_behind_45 : decode cX4_behind 45 = .ok (.iload_n 1, 1) := by decide +kernel
theorem dX4_behind_46 : decode cX4_behind 46 = .ok (.invokevirtual 113, 3) := by decide +kernel
theorem dX4_behind_49 : decode cX4_behind 49 = .ok (.iinc 4 1, 3) := by decide +kernel
theorem dX4_behind_52 : decode cX4_behind 52 = .ok (.goto (-14), 3) := by decide +kernel
theorem dX4_behind_55 : decode cX4_behind 55 = .ok (.aload_n 0, 1) := by decide +kernel
theorem dX4_behind_56 : decode cX4_behind 56 = .ok (.getfield 101, 3) := by decide +kernel
theorem dX4_behind_59 : decode cX4_behind 59 = .ok (.istore 4, 2) := by decide +kernel
theorem dX4_behind_61 : decode cX4_behind 61 = .ok (.aload_n 0, 1) := by decide +kernel
theorem dX4_behind_62 : decode cX4_behind 62 = .ok (.iconst 1, 1) := by decide +kernel
theorem dX4_behind_63 : decode cX4_behind 63 = .ok (.iconst 0, 1) := by decide +kernel
theorem dX4_behind_64 : decode cX4_behind 64 = .ok (.invokevirtual 121, 3) := by decide +kernel
theorem dX4_behind_67 : decode cX4_behind 67 = .ok (.iload 4, 2) := by decide +kernel
theorem dX4_behind_69 : decode cX4_behind 69 = .ok (.ireturn, 1) := by decide +kernel
theorem dX4_readBy_0 : decode cX4_readBy 0 = .ok (.iload_n 1, 1) := by decide +kernel
theorem dX4_readBy_1 : decode cX4_readBy 1 = .ok (.iconst 5, 1) := by decide +kernel
theorem dX4_readBy_2 : decode cX4_readBy 2 = .ok (.if_icmp .ne 8, 3) := by decide +kernel
theorem dX4_readBy_5 : decode cX4_readBy 5 = .ok (.iload_n 3, 1) := by decide +kernel
theorem dX4_readBy_6 : decode cX4_readBy 6 = .ok (.bipush 24, 2) := by decide +kernel
theorem dX4_readBy_8 : decode cX4_readBy 8 = .ok (.irem, 1) := by decide +kernel
theorem dX4_readBy_9 : decode cX4_readBy 9 = .ok (.ireturn, 1) := by decide +kernel
theorem dX4_readBy_10 : decode cX4_readBy 10 = .ok (.iload_n 2, 1) := by decide +kernel
theorem dX4_readBy_11 : decode cX4_readBy 11 = .ok (.bipush 8, 2) := by decide +kernel
theorem dX4_readBy_13 : decode cX4_readBy 13 = .ok (.if_icmp .ne 8, 3) := by decide +kernel
theorem dX4_readBy_16 : decode cX4_readBy 16 = .ok (.aload_n 0, 1) := by decide +kernel
theorem dX4_readBy_17 : decode cX4_readBy 17 = .ok (.getfield 142, 3) := by decide +kernel
theorem dX4_readBy_20 : decode cX4_readBy 20 = .ok (.ireturn, 1) := by decide +kernel
theorem dX4_readBy_21 : decode cX4_readBy 21 = .ok (.iload_n 2, 1) := by decide +kernel
theorem dX4_readBy_22 : decode cX4_readBy 22 = .ok (.iconst 3, 1) := by decide +kernel
theorem dX4_readBy_23 : decode cX4_readBy 23 = .ok (.if_icmp .le 12, 3) := by decide +kernel
theorem dX4_readBy_26 : decode cX4_readBy 26 = .ok (.aload_n 0, 1) := by decide +kernel
theorem dX4_readBy_27 : decode cX4_readBy 27 = .ok (.getfield 16, 3) := by decide +kernel
theorem dX4_readBy_30 : decode cX4_readBy 30 = .ok (.iconst 2, 1) := by decide +kernel
theorem dX4_readBy_31 : decode cX4_readBy 31 = .ok (.iaload, 1) := by decide +kernel
theorem dX4_readBy_32 : decode cX4_readBy 32 = .ok (.goto 9, 3) := by decide +kernel
theorem dX4_readBy_35 : decode cX4_readBy 35 = .ok (.aload_n 0, 1) := by decide +kernel
theorem dX4_readBy_36 : decode cX4_readBy 36 = .ok (.getfield 16, 3) := by decide +kernel
theorem dX4_readBy_39 : decode cX4_readBy 39 = .ok (.iconst 1, 1) := by decide +kernel
theorem dX4_readBy_40 : decode cX4_readBy 40 = .ok (.iaload, 1) := by decide +kernel
theorem dX4_readBy_41 : decode cX4_readBy 41 = .ok (.istore 4, 2) := by decide +kernel
theorem dX4_readBy_43 : decode cX4_readBy 43 = .ok (.iload_n 1, 1) := by decide +kernel
theorem dX4_readBy_44 : decode cX4_readBy 44 = .ok (.iconst 1, 1) := by decide +kernel
theorem dX4_readBy_45 : decode cX4_readBy 45 = .ok (.if_icmp .eq 13, 3) := by decide +kernel
theorem dX4_readBy_48 : decode cX4_readBy 48 = .ok (.iload_n 1, 1) := by decide +kernel
theorem dX4_readBy_49 : decode cX4_readBy 49 = .ok (.iconst 4, 1) := by decide +kernel
theorem dX4_readBy_50 : decode cX4_readBy 50 = .ok (.if_icmp .ne 11, 3) := by decide +kernel
theorem dX4_readBy_53 : decode cX4_readBy 53 = .ok (.iload_n 2, 1) := by decide +kernel
theorem dX4_readBy_54 : decode cX4_readBy 54 = .ok (.iconst 4, 1) := by decide +kernel
theorem dX4_readBy_55 : decode cX4_readBy 55 = .ok (.if_icmp .ge 6, 3) := by decide +kernel
theorem dX4_readBy_58 : decode cX4_readBy 58 = .ok (.iconst 1, 1) := by decide +kernel
theorem dX4_readBy_59 : decode cX4_readBy 59 = .ok (.istore 4, 2) := by decide +kernel
theorem dX4_readBy_61 : decode cX4_readBy 61 = .ok (.iload_n 1, 1) := by decide +kernel
theorem dX4_readBy_62 : decode cX4_readBy 62 = .ok (.iconst 2, 1) := by decide +kernel
theorem dX4_readBy_63 : decode cX4_readBy 63 = .ok (.if_icmp .ne 9, 3) := by decide +kernel
theorem dX4_readBy_66 : decode cX4_readBy 66 = .ok (.iload 4, 2) := by decide +kernel
theorem dX4_readBy_68 : decode cX4_readBy 68 = .ok (.iconst 2, 1) := by decide +kernel
theorem dX4_readBy_69 : decode cX4_readBy 69 = .ok (.imul, 1) := by decide +kernel
theorem dX4_readBy_70 : decode cX4_readBy 70 = .ok (.istore 4, 2) := by decide +kernel
theorem dX4_readBy_72 : decode cX4_readBy 72 = .ok (.aload_n 0, 1) := by decide +kernel
theorem dX4_readBy_73 : decode cX4_readBy 73 = .ok (.getfield 142, 3) := by decide +kernel
theorem dX4_readBy_76 : decode cX4_readBy 76 = .ok (.bipush 6, 2) := by decide +kernel
theorem dX4_readBy_78 : decode cX4_readBy 78 = .ok (.idiv, 1) := by decide +kernel
theorem dX4_readBy_79 : decode cX4_readBy 79 = .ok (.istore 5, 2) := by decide +kernel
theorem dX4_readBy_81 : decode cX4_readBy 81 = .ok (.aload_n 0, 1) := by decide +kernel
theorem dX4_readBy_82 : decode cX4_readBy 82 = .ok (.getfield 142, 3) := by decide +kernel
theorem dX4_readBy_85 : decode cX4_readBy 85 = .ok (.bipush 6, 2) := by decide +kernel
theorem dX4_readBy_87 : decode cX4_readBy 87 = .ok (.irem, 1) := by decide +kernel
theorem dX4_readBy_88 : decode cX4_readBy 88 = .ok (.istore 6, 2) := by decide +kernel
theorem dX4_readBy_90 : decode cX4_readBy 90 = .ok (.iload_n 2, 1) := by decide +kernel
theorem dX4_readBy_91 : decode cX4_readBy 91 = .ok (.iconst 2, 1) := by decide +kernel
theorem dX4_readBy_92 : decode cX4_readBy 92 = .ok (.irem, 1) := by decide +kernel
theorem dX4_readBy_93 : decode cX4_readBy 93 = .ok (.ifCond .ne 7, 3) := by decide +kernel
theorem dX4_readBy_96 : decode cX4_readBy 96 = .ok (.iconst 1, 1) := by decide +kernel
theorem dX4_readBy_97 : decode cX4_readBy 97 = .ok (.goto 4, 3) := by decide +kernel
theorem dX4_readBy_100 : decode cX4_readBy 100 = .ok (.iconst 0, 1) := by decide +kernel
theorem dX4_readBy_101 : decode cX4_readBy 101 = .ok (.istore 7, 2) := by decide +kernel
theorem dX4_readBy_103 : decode cX4_readBy 103 = .ok (.iload_n 2, 1) := by decide +kernel
theorem dX4_readBy_104 : decode cX4_readBy 104 = .ok (.iconst 2, 1) := by decide +kernel
theorem dX4_readBy_105 : decode cX4_readBy 105 = .ok (.idiv, 1) := by decide +kernel
theorem dX4_readBy_106 : decode cX4_readBy 106 = .ok (.iconst 2, 1) := by decide +kernel
theorem dX4_readBy_107 : decode cX4_readBy 107 = .ok (.irem, 1) := by decide +kernel
theorem dX4_readBy_108 : decode cX4_readBy 108 = .ok (.ifCond .ne 33, 3) := by decide +kernel
theorem dX4_readBy_111 : decode cX4_readBy 111 = .ok (.bipush 6, 2) := by decide +kernel
theorem dX4_readBy_113 : decode cX4_readBy 113 = .ok (.iload 7, 2) := by decide +kernel
theorem dX4_readBy_115 : decode cX4_readBy 115 = .ok (.ifCond .eq 11, 3) := by decide +kernel
theorem dX4_readBy_118 : decode cX4_readBy 118 = .ok (.iload 5, 2) := by decide +kernel
theorem dX4_readBy_120 : decode cX4_readBy 120 = .ok (.iload 4, 2) := by decide +kernel
theorem dX4_readBy_122 : decode cX4_readBy 122 = .ok (.isub, 1) := by decide +kernel
theorem dX4_readBy_123 : decode cX4_readBy 123 = .ok (.goto 8, 3) := by decide +kernel
theorem dX4_readBy_126 : decode cX4_readBy 126 = .ok (.iload 5, 2) := by decide +kernel
theorem dX4_readBy_128 : decode cX4_readBy 128 = .ok (.iload 4, 2) := by decide +kernel
theorem dX4_readBy_130 : decode cX4_readBy 130 = .ok (.iadd, 1) := by decide +kernel
theorem dX4_readBy_131 : decode cX4_readBy 131 = .ok (.iconst 0, 1) := by decide +kernel
theorem dX4_readBy_132 : decode cX4_readBy 132 = .ok (.iconst 3, 1) := by decide +kernel
theorem dX4_readBy_133 : decode cX4_readBy 133 = .ok (.invokestatic 173, 3) := by decide +kernel
theorem dX4_readBy_136 : decode cX4_readBy 136 = .ok (.imul, 1) := by decide +kernel
theorem dX4_readBy_137 : decode cX4_readBy 137 = .ok (.iload 6, 2) := by decide +kernel
theorem dX4_readBy_139 : decode cX4_readBy 139 = .ok (.iadd, 1) := by decide +kernel
theorem dX4_readBy_140 : decode cX4_readBy 140 = .ok (.ireturn, 1) := by decide +kernel
theorem dX4_readBy_141 : decode cX4_readBy 141 = .ok (.bipush 6, 2) := by decide +kernel
theorem dX4_readBy_143 : decode cX4_readBy 143 = .ok (.iload 5, 2) := by decide +kernel
theorem dX4_readBy_145 : decode cX4_readBy 145 = .ok (.imul, 1) := by decide +kernel
theorem dX4_readBy_146 : decode cX4_readBy 146 = .ok (.iload 7, 2) := by decide +kernel
theorem dX4_readBy_148 : decode cX4_readBy 148 = .ok (.iload_n 1, 1) := by decide +kernel
theorem dX4_readBy_149 : decode cX4_readBy 149 = .ok (.iconst 3, 1) := by decide +kernel
theorem dX4_readBy_150 : decode cX4_readBy 150 = .ok (.if_icmp .eq 7, 3) := by decide +kernel
theorem dX4_readBy_153 : decode cX4_readBy 153 = .ok (.iconst 1, 1) := by decide +kernel
theorem dX4_readBy_154 : decode cX4_readBy 154 = .ok (.goto 4, 3) := by decide +kernel
theorem dX4_readBy_157 : decode cX4_readBy 157 = .ok (.iconst 0, 1) := by decide +kernel
theorem dX4_readBy_158 : decode cX4_readBy 158 = .ok (.if_icmp .ne 11, 3) := by decide +kernel
theorem dX4_readBy_161 : decode cX4_readBy 161 = .ok (.iload 6, 2) := by decide +kernel
theorem dX4_readBy_163 : decode cX4_readBy 163 = .ok (.iload 4, 2) := by decide +kernel
theorem dX4_readBy_165 : decode cX4_readBy 165 = .ok (.isub, 1) := by decide +kernel
theorem dX4_readBy_166 : decode cX4_readBy 166 = .ok (.goto 8, 3) := by decide +kernel
theorem dX4_readBy_169 : decode cX4_readBy 169 = .ok (.iload 6, 2) := by decide +kernel
theorem dX4_readBy_171 : decode cX4_readBy 171 = .ok (.iload 4, 2) := by decide +kernel
theorem dX4_readBy_173 : decode cX4_readBy 173 = .ok (.iadd, 1) := by decide +kernel
theorem dX4_readBy_174 : decode cX4_readBy 174 = .ok (.iconst 0, 1) := by decide +kernel
theorem dX4_readBy_175 : decode cX4_readBy 175 = .ok (.iconst 5, 1) := by decide +kernel
theorem dX4_readBy_176 : decode cX4_readBy 176 = .ok (.invokestatic 173, 3) := by decide +kernel
theorem dX4_readBy_179 : decode cX4_readBy 179 = .ok (.iadd, 1) := by decide +kernel
theorem dX4_readBy_180 : decode cX4_readBy 180 = .ok (.ireturn, 1) := by decide +kernel
theorem dX4_reads_0 : decode cX4_reads 0 = .ok (.iload_n 1, 1) := by decide +kernel
theorem dX4_reads_1 : decode cX4_reads 1 = .ok (.iconst 0, 1) := by decide +kernel
theorem dX4_reads_2 : decode cX4_reads 2 = .ok (.iconst 5, 1) := by decide +kernel
theorem dX4_reads_3 : decode cX4_reads 3 = .ok (.invokestatic 71, 3) := by decide +kernel
theorem dX4_reads_6 : decode cX4_reads 6 = .ok (.ifCond .eq 13, 3) := by decide +kernel
theorem dX4_reads_9 : decode cX4_reads 9 = .ok (.iload_n 2, 1) := by decide +kernel
theorem dX4_reads_10 : decode cX4_reads 10 = .ok (.iconst 0, 1) := by decide +kernel
theorem dX4_reads_11 : decode cX4_reads 11 = .ok (.bipush 8, 2) := by decide +kernel
theorem dX4_reads_13 : decode cX4_reads 13 = .ok (.invokestatic 71, 3) := by decide +kernel
theorem dX4_reads_16 : decode cX4_reads 16 = .ok (.ifCond .ne 8, 3) := by decide +kernel
theorem dX4_reads_19 : decode cX4_reads 19 = .ok (.bipush (-2), 2) := by decide +kernel
theorem dX4_reads_21 : decode cX4_reads 21 = .ok (.goto 13, 3) := by decide +kernel
theorem dX4_reads_24 : decode cX4_reads 24 = .ok (.iload_n 3, 1) := by decide +kernel
theorem dX4_reads_25 : decode cX4_reads 25 = .ok (.ifCond .ge 8, 3) := by decide +kernel
theorem dX4_reads_28 : decode cX4_reads 28 = .ok (.bipush (-4), 2) := by decide +kernel
theorem dX4_reads_30 : decode cX4_reads 30 = .ok (.goto 4, 3) := by decide +kernel
theorem dX4_reads_33 : decode cX4_reads 33 = .ok (.iconst 0, 1) := by decide +kernel
theorem dX4_reads_34 : decode cX4_reads 34 = .ok (.istore 4, 2) := by decide +kernel
theorem dX4_reads_36 : decode cX4_reads 36 = .ok (.iload 4, 2) := by decide +kernel
theorem dX4_reads_38 : decode cX4_reads 38 = .ok (.ifCond .eq 12, 3) := by decide +kernel
theorem dX4_reads_41 : decode cX4_reads 41 = .ok (.aload_n 0, 1) := by decide +kernel
theorem dX4_reads_42 : decode cX4_reads 42 = .ok (.iload 4, 2) := by decide +kernel
theorem dX4_reads_44 : decode cX4_reads 44 = .ok (.invokevirtual 60, 3) := by decide +kernel
theorem dX4_reads_47 : decode cX4_reads 47 = .ok (.goto 10, 3) := by decide +kernel
theorem dX4_reads_50 : decode cX4_reads 50 = .ok (.aload_n 0, 1) := by decide +kernel
theorem dX4_reads_51 : decode cX4_reads 51 = .ok (.iload_n 1, 1) := by decide +kernel
theorem dX4_reads_52 : decode cX4_reads 52 = .ok (.iload_n 2, 1) := by decide +kernel
theorem dX4_reads_53 : decode cX4_reads 53 = .ok (.iload_n 3, 1) := by decide +kernel
theorem dX4_reads_54 : decode cX4_reads 54 = .ok (.invokevirtual 176, 3) := by decide +kernel
theorem dX4_reads_57 : decode cX4_reads 57 = .ok (.ireturn, 1) := by decide +kernel
theorem dX4_followBy_0 : decode cX4_followBy 0 = .ok (.aload_n 0, 1) := by decide +kernel
theorem dX4_followBy_1 : decode cX4_followBy 1 = .ok (.iconst 1, 1) := by decide +kernel
theorem dX4_followBy_2 : decode cX4_followBy 2 = .ok (.iconst 1, 1) := by decide +kernel
theorem dX4_followBy_3 : decode cX4_followBy 3 = .ok (.invokevirtual 121, 3) := by decide +kernel
theorem dX4_followBy_6 : decode cX4_followBy 6 = .ok (.iconst 0, 1) := by decide +kernel
theorem dX4_followBy_7 : decode cX4_followBy 7 = .ok (.istore_n 2, 1) := by decide +kernel
theorem dX4_followBy_8 : decode cX4_followBy 8 = .ok (.aload_n 0, 1) := by decide +kernel
theorem dX4_followBy_9 : decode cX4_followBy 9 = .ok (.getfield 101, 3) := by decide +kernel
theorem dX4_followBy_12 : decode cX4_followBy 12 = .ok (.bipush 24, 2) := by decide +kernel
theorem dX4_followBy_14 : decode cX4_followBy 14 = .ok (.if_icmp .eq 37, 3) := by decide +kernel
theorem dX4_followBy_17 : decode cX4_followBy 17 = .ok (.iload_n 2, 1) := by decide +kernel
theorem dX4_followBy_18 : decode cX4_followBy 18 = .ok (.bipush 40, 2) := by decide +kernel
theorem dX4_followBy_20 : decode cX4_followBy 20 = .ok (.if_icmp .ge 31, 3) := by decide +kernel
theorem dX4_followBy_23 : decode cX4_followBy 23 = .ok (.aload_n 0, 1) := by decide +kernel
theorem dX4_followBy_24 : decode cX4_followBy 24 = .ok (.aload_n 0, 1) := by decide +kernel
theorem dX4_followBy_25 : decode cX4_followBy 25 = .ok (.iload_n 1, 1) := by decide +kernel
theorem dX4_followBy_26 : decode cX4_followBy 26 = .ok (.aload_n 0, 1) := by decide +kernel
theorem dX4_followBy_27 : decode cX4_followBy 27 = .ok (.aload_n 0, 1) := by decide +kernel
theorem dX4_followBy_28 : decode cX4_followBy 28 = .ok (.getfield 142, 3) := by decide +kernel
theorem dX4_followBy_31 : decode cX4_followBy 31 = .ok (.aload_n 0, 1) := by decide +kernel
theorem dX4_followBy_32 : decode cX4_followBy 32 = .ok (.getfield 101, 3) := by decide +kernel
theorem dX4_followBy_35 : decode cX4_followBy 35 = .ok (.invokevirtual 170, 3) := by decide +kernel
theorem dX4_followBy_38 : decode cX4_followBy 38 = .ok (.iload_n 2, 1) := by decide +kernel
theorem dX4_followBy_39 : decode cX4_followBy 39 = .ok (.invokevirtual 176, 3) := by decide +kernel
theorem dX4_followBy_42 : decode cX4_followBy 42 = .ok (.invokevirtual 113, 3) := by decide +kernel
theorem dX4_followBy_45 : decode cX4_followBy 45 = .ok (.iinc 2 1, 3) := by decide +kernel
theorem dX4_followBy_48 : decode cX4_followBy 48 = .ok (.goto (-40), 3) := by decide +kernel
theorem dX4_followBy_51 : decode cX4_followBy 51 = .ok (.aload_n 0, 1) := by decide +kernel
theorem dX4_followBy_52 : decode cX4_followBy 52 = .ok (.getfield 101, 3) := by decide +kernel
theorem dX4_followBy_55 : decode cX4_followBy 55 = .ok (.bipush 24, 2) := by decide +kernel
theorem dX4_followBy_57 : decode cX4_followBy 57 = .ok (.if_icmp .ne 7, 3) := by decide +kernel
theorem dX4_followBy_60 : decode cX4_followBy 60 = .ok (.iload_n 2, 1) := by decide +kernel
theorem dX4_followBy_61 : decode cX4_followBy 61 = .ok (.goto 5, 3) := by decide +kernel
theorem dX4_followBy_64 : decode cX4_followBy 64 = .ok (.bipush (-9), 2) := by decide +kernel
theorem dX4_followBy_66 : decode cX4_followBy 66 = .ok (.istore_n 3, 1) := by decide +kernel
theorem dX4_followBy_67 : decode cX4_followBy 67 = .ok (.aload_n 0, 1) := by decide +kernel
theorem dX4_followBy_68 : decode cX4_followBy 68 = .ok (.iconst 1, 1) := by decide +kernel
theorem dX4_followBy_69 : decode cX4_followBy 69 = .ok (.iconst 0, 1) := by decide +kernel
theorem dX4_followBy_70 : decode cX4_followBy 70 = .ok (.invokevirtual 121, 3) := by decide +kernel
theorem dX4_followBy_73 : decode cX4_followBy 73 = .ok (.iload_n 3, 1) := by decide +kernel
theorem dX4_followBy_74 : decode cX4_followBy 74 = .ok (.ireturn, 1) := by decide +kernel
theorem dX4_orElse_0 : decode cX4_orElse 0 = .ok (.iload_n 0, 1) := by decide +kernel
theorem dX4_orElse_1 : decode cX4_orElse 1 = .ok (.ifCond .ge 7, 3) := by decide +kernel
theorem dX4_orElse_4 : decode cX4_orElse 4 = .ok (.iload_n 1, 1) := by decide +kernel
theorem dX4_orElse_5 : decode cX4_orElse 5 = .ok (.goto 4, 3) := by decide +kernel
theorem dX4_orElse_8 : decode cX4_orElse 8 = .ok (.iload_n 0, 1) := by decide +kernel
theorem dX4_orElse_9 : decode cX4_orElse 9 = .ok (.ireturn, 1) := by decide +kernel
theorem dX4_follow_0 : decode cX4_follow 0 = .ok (.iload_n 1, 1) := by decide +kernel
theorem dX4_follow_1 : decode cX4_follow 1 = .ok (.iconst 0, 1) := by decide +kernel
theorem dX4_follow_2 : decode cX4_follow 2 = .ok (.iconst 5, 1) := by decide +kernel
theorem dX4_follow_3 : decode cX4_follow 3 = .ok (.invokestatic 71, 3) := by decide +kernel
theorem dX4_follow_6 : decode cX4_follow 6 = .ok (.ifCond .eq 11, 3) := by decide +kernel
theorem dX4_follow_9 : decode cX4_follow 9 = .ok (.aload_n 0, 1) := by decide +kernel
theorem dX4_follow_10 : decode cX4_follow 10 = .ok (.iload_n 1, 1) := by decide +kernel
theorem dX4_follow_11 : decode cX4_follow 11 = .ok (.invokevirtual 179, 3) := by decide +kernel
theorem dX4_follow_14 : decode cX4_follow 14 = .ok (.goto 9, 3) := by decide +kernel
theorem dX4_follow_17 : decode cX4_follow 17 = .ok (.aload_n 0, 1) := by decide +kernel
theorem dX4_follow_18 : decode cX4_follow 18 = .ok (.bipush (-2), 2) := by decide +kernel
theorem dX4_follow_20 : decode cX4_follow 20 = .ok (.invokevirtual 60, 3) := by decide +kernel
theorem dX4_follow_23 : decode cX4_follow 23 = .ok (.ireturn, 1) := by decide +kernel
theorem dX4_goesAll_0 : decode cX4_goesAll 0 = .ok (.aload_n 0, 1) := by decide +kernel
theorem dX4_goesAll_1 : decode cX4_goesAll 1 = .ok (.getfield 101, 3) := by decide +kernel
theorem dX4_goesAll_4 : decode cX4_goesAll 4 = .ok (.istore_n 2, 1) := by decide +kernel
theorem dX4_goesAll_5 : decode cX4_goesAll 5 = .ok (.aload_n 0, 1) := by decide +kernel
theorem dX4_goesAll_6 : decode cX4_goesAll 6 = .ok (.iconst 0, 1) := by decide +kernel
theorem dX4_goesAll_7 : decode cX4_goesAll 7 = .ok (.putfield 182, 3) := by decide +kernel
theorem dX4_goesAll_10 : decode cX4_goesAll 10 = .ok (.aload_n 0, 1) := by decide +kernel
theorem dX4_goesAll_11 : decode cX4_goesAll 11 = .ok (.bipush (-9), 2) := by decide +kernel
theorem dX4_goesAll_13 : decode cX4_goesAll 13 = .ok (.putfield 185, 3) := by decide +kernel
theorem dX4_goesAll_16 : decode cX4_goesAll 16 = .ok (.bipush (-9), 2) := by decide +kernel
theorem dX4_goesAll_18 : decode cX4_goesAll 18 = .ok (.istore_n 3, 1) := by decide +kernel
theorem dX4_goesAll_19 : decode cX4_goesAll 19 = .ok (.iconst 0, 1) := by decide +kernel
theorem dX4_goesAll_20 : decode cX4_goesAll 20 = .ok (.istore 4, 2) := by decide +kernel
theorem dX4_goesAll_22 : decode cX4_goesAll 22 = .ok (.iload 4, 2) := by decide +kernel
theorem dX4_goesAll_24 : decode cX4_goesAll 24 = .ok (.bipush 24, 2) := by decide +kernel
theorem dX4_goesAll_26 : decode cX4_goesAll 26 = .ok (.if_icmp .ge 56, 3) := by decide +kernel
theorem dX4_goesAll_29 : decode cX4_goesAll 29 = .ok (.aload_n 0, 1) := by decide +kernel
theorem dX4_goesAll_30 : decode cX4_goesAll 30 = .ok (.iload 4, 2) := by decide +kernel
theorem dX4_goesAll_32 : decode cX4_goesAll 32 = .ok (.putfield 101, 3) := by decide +kernel
theorem dX4_goesAll_35 : decode cX4_goesAll 35 = .ok (.aload_n 0, 1) := by decide +kernel
theorem dX4_goesAll_36 : decode cX4_goesAll 36 = .ok (.iload_n 1, 1) := by decide +kernel
theorem dX4_goesAll_37 : decode cX4_goesAll 37 = .ok (.invokevirtual 179, 3) := by decide +kernel
theorem dX4_goesAll_40 : decode cX4_goesAll 40 = .ok (.bipush 40, 2) := by decide +kernel
theorem dX4_goesAll_42 : decode cX4_goesAll 42 = .ok (.invokestatic 188, 3) := by decide +kernel
theorem dX4_goesAll_45 : decode cX4_goesAll 45 = .ok (.istore 5, 2) := by decide +kernel
theorem dX4_goesAll_47 : decode cX4_goesAll 47 = .ok (.aload_n 0, 1) := by decide +kernel
theorem dX4_goesAll_48 : decode cX4_goesAll 48 = .ok (.dup, 1) := by decide +kernel
theorem dX4_goesAll_49 : decode cX4_goesAll 49 = .ok (.getfield 182, 3) := by decide +kernel
theorem dX4_goesAll_52 : decode cX4_goesAll 52 = .ok (.iload 5, 2) := by decide +kernel
theorem dX4_goesAll_54 : decode cX4_goesAll 54 = .ok (.iadd, 1) := by decide +kernel
theorem dX4_goesAll_55 : decode cX4_goesAll 55 = .ok (.putfield 182, 3) := by decide +kernel
theorem dX4_goesAll_58 : decode cX4_goesAll 58 = .ok (.iload 5, 2) := by decide +kernel
theorem dX4_goesAll_60 : decode cX4_goesAll 60 = .ok (.iload_n 3, 1) := by decide +kernel
theorem dX4_goesAll_61 : decode cX4_goesAll 61 = .ok (.if_icmp .gt 6, 3) := by decide +kernel
theorem dX4_goesAll_64 : decode cX4_goesAll 64 = .ok (.goto 12, 3) := by decide +kernel
theorem dX4_goesAll_67 : decode cX4_goesAll 67 = .ok (.iload 5, 2) := by decide +kernel
theorem dX4_goesAll_69 : decode cX4_goesAll 69 = .ok (.istore_n 3, 1) := by decide +kernel
theorem dX4_goesAll_70 : decode cX4_goesAll 70 = .ok (.aload_n 0, 1) := by decide +kernel
theorem dX4_goesAll_71 : decode cX4_goesAll 71 = .ok (.iload 4, 2) := by decide +kernel
theorem dX4_goesAll_73 : decode cX4_goesAll 73 = .ok (.putfield 185, 3) := by decide +kernel
theorem dX4_goesAll_76 : decode cX4_goesAll 76 = .ok (.iinc 4 1, 3) := by decide +kernel
theorem dX4_goesAll_79 : decode cX4_goesAll 79 = .ok (.goto (-57), 3) := by decide +kernel
theorem dX4_goesAll_82 : decode cX4_goesAll 82 = .ok (.aload_n 0, 1) := by decide +kernel
theorem dX4_goesAll_83 : decode cX4_goesAll 83 = .ok (.iload_n 2, 1) := by decide +kernel
theorem dX4_goesAll_84 : decode cX4_goesAll 84 = .ok (.putfield 101, 3) := by decide +kernel
theorem dX4_goesAll_87 : decode cX4_goesAll 87 = .ok (.return_, 1) := by decide +kernel
theorem dX4_divisor_0 : decode cX4_divisor 0 = .ok (.lload_n 0, 1) := by decide +kernel
theorem dX4_divisor_1 : decode cX4_divisor 1 = .ok (.lstore 4, 2) := by decide +kernel
theorem dX4_divisor_3 : decode cX4_divisor 3 = .ok (.lload_n 2, 1) := by decide +kernel
theorem dX4_divisor_4 : decode cX4_divisor 4 = .ok (.lstore 6, 2) := by decide +kernel
theorem dX4_divisor_6 : decode cX4_divisor 6 = .ok (.lload 6, 2) := by decide +kernel
theorem dX4_divisor_8 : decode cX4_divisor 8 = .ok (.lconst 0, 1) := by decide +kernel
theorem dX4_divisor_9 : decode cX4_divisor 9 = .ok (.lcmp, 1) := by decide +kernel
theorem dX4_divisor_10 : decode cX4_divisor 10 = .ok (.ifCond .eq 21, 3) := by decide +kernel
theorem dX4_divisor_13 : decode cX4_divisor 13 = .ok (.lload 4, 2) := by decide +kernel
theorem dX4_divisor_15 : decode cX4_divisor 15 = .ok (.lload 6, 2) := by decide +kernel
theorem dX4_divisor_17 : decode cX4_divisor 17 = .ok (.lrem, 1) := by decide +kernel
theorem dX4_divisor_18 : decode cX4_divisor 18 = .ok (.lstore 8, 2) := by decide +kernel
theorem dX4_divisor_20 : decode cX4_divisor 20 = .ok (.lload 6, 2) := by decide +kernel
theorem dX4_divisor_22 : decode cX4_divisor 22 = .ok (.lstore 4, 2) := by decide +kernel
theorem dX4_divisor_24 : decode cX4_divisor 24 = .ok (.lload 8, 2) := by decide +kernel
theorem dX4_divisor_26 : decode cX4_divisor 26 = .ok (.lstore 6, 2) := by decide +kernel
theorem dX4_divisor_28 : decode cX4_divisor 28 = .ok (.goto (-22), 3) := by decide +kernel
theorem dX4_divisor_31 : decode cX4_divisor 31 = .ok (.lload 4, 2) := by decide +kernel
theorem dX4_divisor_33 : decode cX4_divisor 33 = .ok (.lreturn, 1) := by decide +kernel
theorem dX4_partOf_0 : decode cX4_partOf 0 = .ok (.iload 4, 2) := by decide +kernel
theorem dX4_partOf_2 : decode cX4_partOf 2 = .ok (.ifCond .ne 7, 3) := by decide +kernel
theorem dX4_partOf_5 : decode cX4_partOf 5 = .ok (.lload_n 0, 1) := by decide +kernel
theorem dX4_partOf_6 : decode cX4_partOf 6 = .ok (.goto 4, 3) := by decide +kernel
theorem dX4_partOf_9 : decode cX4_partOf 9 = .ok (.lload_n 2, 1) := by decide +kernel
theorem dX4_partOf_10 : decode cX4_partOf 10 = .ok (.lload_n 0, 1) := by decide +kernel
theorem dX4_partOf_11 : decode cX4_partOf 11 = .ok (.lload_n 2, 1) := by decide +kernel
theorem dX4_partOf_12 : decode cX4_partOf 12 = .ok (.invokestatic 191, 3) := by decide +kernel
theorem dX4_partOf_15 : decode cX4_partOf 15 = .ok (.ldiv, 1) := by decide +kernel
theorem dX4_partOf_16 : decode cX4_partOf 16 = .ok (.lreturn, 1) := by decide +kernel
theorem dX4_mean_0 : decode cX4_mean 0 = .ok (.iload_n 1, 1) := by decide +kernel
theorem dX4_mean_1 : decode cX4_mean 1 = .ok (.iconst 0, 1) := by decide +kernel
theorem dX4_mean_2 : decode cX4_mean 2 = .ok (.iconst 5, 1) := by decide +kernel
theorem dX4_mean_3 : decode cX4_mean 3 = .ok (.invokestatic 71, 3) := by decide +kernel
theorem dX4_mean_6 : decode cX4_mean 6 = .ok (.ifCond .eq 12, 3) := by decide +kernel
theorem dX4_mean_9 : decode cX4_mean 9 = .ok (.iload_n 2, 1) := by decide +kernel
theorem dX4_mean_10 : decode cX4_mean 10 = .ok (.iconst 0, 1) := by decide +kernel
theorem dX4_mean_11 : decode cX4_mean 11 = .ok (.iconst 1, 1) := by decide +kernel
theorem dX4_mean_12 : decode cX4_mean 12 = .ok (.invokestatic 71, 3) := by decide +kernel
theorem dX4_mean_15 : decode cX4_mean 15 = .ok (.ifCond .ne 10, 3) := by decide +kernel
theorem dX4_mean_18 : decode cX4_mean 18 = .ok (.aload_n 0, 1) := by decide +kernel
theorem dX4_mean_19 : decode cX4_mean 19 = .ok (.bipush (-2), 2) := by decide +kernel
theorem dX4_mean_21 : decode cX4_mean 21 = .ok (.invokevirtual 195, 3) := by decide +kernel
theorem dX4_mean_24 : decode cX4_mean 24 = .ok (.lreturn, 1) := by decide +kernel
theorem dX4_mean_25 : decode cX4_mean 25 = .ok (.aload_n 0, 1) := by decide +kernel
theorem dX4_mean_26 : decode cX4_mean 26 = .ok (.iload_n 1, 1) := by decide +kernel
theorem dX4_mean_27 : decode cX4_mean 27 = .ok (.invokevirtual 199, 3) := by decide +kernel
theorem dX4_mean_30 : decode cX4_mean 30 = .ok (.aload_n 0, 1) := by decide +kernel
theorem dX4_mean_31 : decode cX4_mean 31 = .ok (.getfield 182, 3) := by decide +kernel
theorem dX4_mean_34 : decode cX4_mean 34 = .ok (.i2l, 1) := by decide +kernel
theorem dX4_mean_35 : decode cX4_mean 35 = .ok (.ldc2_w 202, 3) := by decide +kernel
theorem dX4_mean_38 : decode cX4_mean 38 = .ok (.iload_n 2, 1) := by decide +kernel
theorem dX4_mean_39 : decode cX4_mean 39 = .ok (.invokestatic 204, 3) := by decide +kernel
theorem dX4_mean_42 : decode cX4_mean 42 = .ok (.lreturn, 1) := by decide +kernel
theorem dX4_hardest_0 : decode cX4_hardest 0 = .ok (.iload_n 1, 1) := by decide +kernel
theorem dX4_hardest_1 : decode cX4_hardest 1 = .ok (.iconst 0, 1) := by decide +kernel
theorem dX4_hardest_2 : decode cX4_hardest 2 = .ok (.iconst 5, 1) := by decide +kernel
theorem dX4_hardest_3 : decode cX4_hardest 3 = .ok (.invokestatic 71, 3) := by decide +kernel
theorem dX4_hardest_6 : decode cX4_hardest 6 = .ok (.ifCond .ne 10, 3) := by decide +kernel
theorem dX4_hardest_9 : decode cX4_hardest 9 = .ok (.aload_n 0, 1) := by decide +kernel
theorem dX4_hardest_10 : decode cX4_hardest 10 = .ok (.bipush (-2), 2) := by decide +kernel
theorem dX4_hardest_12 : decode cX4_hardest 12 = .ok (.invokevirtual 60, 3) := by decide +kernel
theorem dX4_hardest_15 : decode cX4_hardest 15 = .ok (.ireturn, 1) := by decide +kernel
theorem dX4_hardest_16 : decode cX4_hardest 16 = .ok (.aload_n 0, 1) := by decide +kernel
theorem dX4_hardest_17 : decode cX4_hardest 17 = .ok (.iload_n 1, 1) := by decide +kernel
theorem dX4_hardest_18 : decode cX4_hardest 18 = .ok (.invokevirtual 199, 3) := by decide +kernel
theorem dX4_hardest_21 : decode cX4_hardest 21 = .ok (.aload_n 0, 1) := by decide +kernel
theorem dX4_hardest_22 : decode cX4_hardest 22 = .ok (.getfield 185, 3) := by decide +kernel
theorem dX4_hardest_25 : decode cX4_hardest 25 = .ok (.ireturn, 1) := by decide +kernel
theorem dX4_speak_0 : decode cX4_speak 0 = .ok (.iload_n 1, 1) := by decide +kernel
theorem dX4_speak_1 : decode cX4_speak 1 = .ok (.iconst 0, 1) := by decide +kernel
theorem dX4_speak_2 : decode cX4_speak 2 = .ok (.iconst 5, 1) := by decide +kernel
theorem dX4_speak_3 : decode cX4_speak 3 = .ok (.invokestatic 71, 3) := by decide +kernel
theorem dX4_speak_6 : decode cX4_speak 6 = .ok (.ifCond .eq 12, 3) := by decide +kernel
theorem dX4_speak_9 : decode cX4_speak 9 = .ok (.iload_n 2, 1) := by decide +kernel
theorem dX4_speak_10 : decode cX4_speak 10 = .ok (.iconst 0, 1) := by decide +kernel
theorem dX4_speak_11 : decode cX4_speak 11 = .ok (.iconst 1, 1) := by decide +kernel
theorem dX4_speak_12 : decode cX4_speak 12 = .ok (.invokestatic 71, 3) := by decide +kernel
theorem dX4_speak_15 : decode cX4_speak 15 = .ok (.ifCond .ne 10, 3) := by decide +kernel
theorem dX4_speak_18 : decode cX4_speak 18 = .ok (.aload_n 0, 1) := by decide +kernel
theorem dX4_speak_19 : decode cX4_speak 19 = .ok (.bipush (-2), 2) := by decide +kernel
theorem dX4_speak_21 : decode cX4_speak 21 = .ok (.invokevirtual 60, 3) := by decide +kernel
theorem dX4_speak_24 : decode cX4_speak 24 = .ok (.ireturn, 1) := by decide +kernel
theorem dX4_speak_25 : decode cX4_speak 25 = .ok (.aload_n 0, 1) := by decide +kernel
theorem dX4_speak_26 : decode cX4_speak 26 = .ok (.getfield 16, 3) := by decide +kernel
theorem dX4_speak_29 : decode cX4_speak 29 = .ok (.iconst 1, 1) := by decide +kernel
theorem dX4_speak_30 : decode cX4_speak 30 = .ok (.iaload, 1) := by decide +kernel
theorem dX4_speak_31 : decode cX4_speak 31 = .ok (.istore_n 3, 1) := by decide +kernel
theorem dX4_speak_32 : decode cX4_speak 32 = .ok (.aload_n 0, 1) := by decide +kernel
theorem dX4_speak_33 : decode cX4_speak 33 = .ok (.getfield 16, 3) := by decide +kernel
theorem dX4_speak_36 : decode cX4_speak 36 = .ok (.iconst 2, 1) := by decide +kernel
theorem dX4_speak_37 : decode cX4_speak 37 = .ok (.iaload, 1) := by decide +kernel
theorem dX4_speak_38 : decode cX4_speak 38 = .ok (.istore 4, 2) := by decide +kernel
theorem dX4_speak_40 : decode cX4_speak 40 = .ok (.iconst 0, 1) := by decide +kernel
theorem dX4_speak_41 : decode cX4_speak 41 = .ok (.istore 5, 2) := by decide +kernel
theorem dX4_speak_43 : decode cX4_speak 43 = .ok (.bipush 99, 2) := by decide +kernel
theorem dX4_speak_45 : decode cX4_speak 45 = .ok (.istore 6, 2) := by decide +kernel
theorem dX4_speak_47 : decode cX4_speak 47 = .ok (.bipush 12, 2) := by decide +kernel
theorem dX4_speak_49 : decode cX4_speak 49 = .ok (.istore 7, 2) := by decide +kernel
theorem dX4_speak_51 : decode cX4_speak 51 = .ok (.iload 7, 2) := by decide +kernel
theorem dX4_speak_53 : decode cX4_speak 53 = .ok (.bipush 36, 2) := by decide +kernel
theorem dX4_speak_55 : decode cX4_speak 55 = .ok (.if_icmp .ge 77, 3) := by decide +kernel
theorem dX4_speak_58 : decode cX4_speak 58 = .ok (.iload 7, 2) := by decide +kernel
theorem dX4_speak_60 : decode cX4_speak 60 = .ok (.bipush 10, 2) := by decide +kernel
theorem dX4_speak_62 : decode cX4_speak 62 = .ok (.irem, 1) := by decide +kernel
theorem dX4_speak_63 : decode cX4_speak 63 = .ok (.iconst 2, 1) := by decide +kernel
theorem dX4_speak_64 : decode cX4_speak 64 = .ok (.iconst 5, 1) := by decide +kernel
theorem dX4_speak_65 : decode cX4_speak 65 = .ok (.invokestatic 71, 3) := by decide +kernel
theorem dX4_speak_68 : decode cX4_speak 68 = .ok (.ifCond .ne 6, 3) := by decide +kernel
theorem dX4_speak_71 : decode cX4_speak 71 = .ok (.goto 55, 3) := by decide +kernel
theorem dX4_speak_74 : decode cX4_speak 74 = .ok (.aload_n 0, 1) := by decide +kernel
theorem dX4_speak_75 : decode cX4_speak 75 = .ok (.getfield 16, 3) := by decide +kernel
theorem dX4_speak_78 : decode cX4_speak 78 = .ok (.iconst 1, 1) := by decide +kernel
theorem dX4_speak_79 : decode cX4_speak 79 = .ok (.iload 7, 2) := by decide +kernel
theorem dX4_speak_81 : decode cX4_speak 81 = .ok (.bipush 10, 2) := by decide +kernel
theorem dX4_speak_83 : decode cX4_speak 83 = .ok (.idiv, 1) := by decide +kernel
theorem dX4_speak_84 : decode cX4_speak 84 = .ok (.iastore, 1) := by decide +kernel
theorem dX4_speak_85 : decode cX4_speak 85 = .ok (.aload_n 0, 1) := by decide +kernel
theorem dX4_speak_86 : decode cX4_speak 86 = .ok (.getfield 16, 3) := by decide +kernel
theorem dX4_speak_89 : decode cX4_speak 89 = .ok (.iconst 2, 1) := by decide +kernel
theorem dX4_speak_90 : decode cX4_speak 90 = .ok (.iload 7, 2) := by decide +kernel
theorem dX4_speak_92 : decode cX4_speak 92 = .ok (.bipush 10, 2) := by decide +kernel
theorem dX4_speak_94 : decode cX4_speak 94 = .ok (.irem, 1) := by decide +kernel
theorem dX4_speak_95 : decode cX4_speak 95 = .ok (.iastore, 1) := by decide +kernel
theorem dX4_speak_96 : decode cX4_speak 96 = .ok (.aload_n 0, 1) := by decide +kernel
theorem dX4_speak_97 : decode cX4_speak 97 = .ok (.iload_n 1, 1) := by decide +kernel
theorem dX4_speak_98 : decode cX4_speak 98 = .ok (.invokevirtual 179, 3) := by decide +kernel
theorem dX4_speak_101 : decode cX4_speak 101 = .ok (.bipush 41, 2) := by decide +kernel
theorem dX4_speak_103 : decode cX4_speak 103 = .ok (.invokestatic 188, 3) := by decide +kernel
theorem dX4_speak_106 : decode cX4_speak 106 = .ok (.istore 8, 2) := by decide +kernel
theorem dX4_speak_108 : decode cX4_speak 108 = .ok (.iload 8, 2) := by decide +kernel
theorem dX4_speak_110 : decode cX4_speak 110 = .ok (.iload 6, 2) := by decide +kernel
theorem dX4_speak_112 : decode cX4_speak 112 = .ok (.if_icmp .lt 6, 3) := by decide +kernel
theorem dX4_speak_115 : decode cX4_speak 115 = .ok (.goto 11, 3) := by decide +kernel
theorem dX4_speak_118 : decode cX4_speak 118 = .ok (.iload 7, 2) := by decide +kernel
theorem dX4_speak_120 : decode cX4_speak 120 = .ok (.istore 5, 2) := by decide +kernel
theorem dX4_speak_122 : decode cX4_speak 122 = .ok (.iload 8, 2) := by decide +kernel
theorem dX4_speak_124 : decode cX4_speak 124 = .ok (.istore 6, 2) := by decide +kernel
theorem dX4_speak_126 : decode cX4_speak 126 = .ok (.iinc 7 1, 3) := by decide +kernel
theorem dX4_speak_129 : decode cX4_speak 129 = .ok (.goto (-78), 3) := by decide +kernel
theorem dX4_speak_132 : decode cX4_speak 132 = .ok (.aload_n 0, 1) := by decide +kernel
theorem dX4_speak_133 : decode cX4_speak 133 = .ok (.getfield 16, 3) := by decide +kernel
theorem dX4_speak_136 : decode cX4_speak 136 = .ok (.iconst 1, 1) := by decide +kernel
theorem dX4_speak_137 : decode cX4_speak 137 = .ok (.iload_n 3, 1) := by decide +kernel
theorem dX4_speak_138 : decode cX4_speak 138 = .ok (.iastore, 1) := by decide +kernel
theorem dX4_speak_139 : decode cX4_speak 139 = .ok (.aload_n 0, 1) := by decide +kernel
theorem dX4_speak_140 : decode cX4_speak 140 = .ok (.getfield 16, 3) := by decide +kernel
theorem dX4_speak_143 : decode cX4_speak 143 = .ok (.iconst 2, 1) := by decide +kernel
theorem dX4_speak_144 : decode cX4_speak 144 = .ok (.iload 4, 2) := by decide +kernel
theorem dX4_speak_146 : decode cX4_speak 146 = .ok (.iastore, 1) := by decide +kernel
theorem dX4_speak_147 : decode cX4_speak 147 = .ok (.iload_n 2, 1) := by decide +kernel
theorem dX4_speak_148 : decode cX4_speak 148 = .ok (.ifCond .ne 8, 3) := by decide +kernel
theorem dX4_speak_151 : decode cX4_speak 151 = .ok (.iload 5, 2) := by decide +kernel
theorem dX4_speak_153 : decode cX4_speak 153 = .ok (.goto 5, 3) := by decide +kernel
theorem dX4_speak_156 : decode cX4_speak 156 = .ok (.iload 6, 2) := by decide +kernel
theorem dX4_speak_158 : decode cX4_speak 158 = .ok (.ireturn, 1) := by decide +kernel
theorem dX4_saying_0 : decode cX4_saying 0 = .ok (.iload_n 1, 1) := by decide +kernel
theorem dX4_saying_1 : decode cX4_saying 1 = .ok (.invokestatic 104, 3) := by decide +kernel
theorem dX4_saying_4 : decode cX4_saying 4 = .ok (.ifCond .ne 7, 3) := by decide +kernel
theorem dX4_saying_7 : decode cX4_saying 7 = .ok (.iconst (-1), 1) := by decide +kernel
theorem dX4_saying_8 : decode cX4_saying 8 = .ok (.goto 33, 3) := by decide +kernel
theorem dX4_saying_11 : decode cX4_saying 11 = .ok (.iload_n 2, 1) := by decide +kernel
theorem dX4_saying_12 : decode cX4_saying 12 = .ok (.iconst 0, 1) := by decide +kernel
theorem dX4_saying_13 : decode cX4_saying 13 = .ok (.bipush 8, 2) := by decide +kernel
theorem dX4_saying_15 : decode cX4_saying 15 = .ok (.invokestatic 71, 3) := by decide +kernel
theorem dX4_saying_18 : decode cX4_saying 18 = .ok (.ifCond .ne 8, 3) := by decide +kernel
theorem dX4_saying_21 : decode cX4_saying 21 = .ok (.bipush (-2), 2) := by decide +kernel
theorem dX4_saying_23 : decode cX4_saying 23 = .ok (.goto 18, 3) := by decide +kernel
theorem dX4_saying_26 : decode cX4_saying 26 = .ok (.aload_n 0, 1) := by decide +kernel
theorem dX4_saying_27 : decode cX4_saying 27 = .ok (.getfield 208, 3) := by decide +kernel
theorem dX4_saying_30 : decode cX4_saying 30 = .ok (.bipush 8, 2) := by decide +kernel
theorem dX4_saying_32 : decode cX4_saying 32 = .ok (.if_icmp .ne 8, 3) := by decide +kernel
theorem dX4_saying_35 : decode cX4_saying 35 = .ok (.bipush (-6), 2) := by decide +kernel
theorem dX4_saying_37 : decode cX4_saying 37 = .ok (.goto 4, 3) := by decide +kernel
theorem dX4_saying_40 : decode cX4_saying 40 = .ok (.iconst 0, 1) := by decide +kernel
theorem dX4_saying_41 : decode cX4_saying 41 = .ok (.istore_n 3, 1) := by decide +kernel
theorem dX4_saying_42 : decode cX4_saying 42 = .ok (.iload_n 3, 1) := by decide +kernel
theorem dX4_saying_43 : decode cX4_saying 43 = .ok (.ifCond .eq 9, 3) := by decide +kernel
theorem dX4_saying_46 : decode cX4_saying 46 = .ok (.aload_n 0, 1) := by decide +kernel
theorem dX4_saying_47 : decode cX4_saying 47 = .ok (.iload_n 3, 1) := by decide +kernel
theorem dX4_saying_48 : decode cX4_saying 48 = .ok (.invokevirtual 60, 3) := by decide +kernel
theorem dX4_saying_51 : decode cX4_saying 51 = .ok (.ireturn, 1) := by decide +kernel
theorem dX4_saying_52 : decode cX4_saying 52 = .ok (.aload_n 0, 1) := by decide +kernel
theorem dX4_saying_53 : decode cX4_saying 53 = .ok (.getfield 34, 3) := by decide +kernel
theorem dX4_saying_56 : decode cX4_saying 56 = .ok (.aload_n 0, 1) := by decide +kernel
theorem dX4_saying_57 : decode cX4_saying 57 = .ok (.getfield 208, 3) := by decide +kernel
theorem dX4_saying_60 : decode cX4_saying 60 = .ok (.iload_n 1, 1) := by decide +kernel
theorem dX4_saying_61 : decode cX4_saying 61 = .ok (.iastore, 1) := by decide +kernel
theorem dX4_saying_62 : decode cX4_saying 62 = .ok (.aload_n 0, 1) := by decide +kernel
theorem dX4_saying_63 : decode cX4_saying 63 = .ok (.getfield 37, 3) := by decide +kernel
theorem dX4_saying_66 : decode cX4_saying 66 = .ok (.aload_n 0, 1) := by decide +kernel
theorem dX4_saying_67 : decode cX4_saying 67 = .ok (.getfield 208, 3) := by decide +kernel
theorem dX4_saying_70 : decode cX4_saying 70 = .ok (.iload_n 2, 1) := by decide +kernel
theorem dX4_saying_71 : decode cX4_saying 71 = .ok (.iastore, 1) := by decide +kernel
theorem dX4_saying_72 : decode cX4_saying 72 = .ok (.aload_n 0, 1) := by decide +kernel
theorem dX4_saying_73 : decode cX4_saying 73 = .ok (.dup, 1) := by decide +kernel
theorem dX4_saying_74 : decode cX4_saying 74 = .ok (.getfield 208, 3) := by decide +kernel
theorem dX4_saying_77 : decode cX4_saying 77 = .ok (.iconst 1, 1) := by decide +kernel
theorem dX4_saying_78 : decode cX4_saying 78 = .ok (.iadd, 1) := by decide +kernel
theorem dX4_saying_79 : decode cX4_saying 79 = .ok (.putfield 208, 3) := by decide +kernel
theorem dX4_saying_82 : decode cX4_saying 82 = .ok (.aload_n 0, 1) := by decide +kernel
theorem dX4_saying_83 : decode cX4_saying 83 = .ok (.getfield 208, 3) := by decide +kernel
theorem dX4_saying_86 : decode cX4_saying 86 = .ok (.ireturn, 1) := by decide +kernel
theorem dX4_hush_0 : decode cX4_hush 0 = .ok (.aload_n 0, 1) := by decide +kernel
theorem dX4_hush_1 : decode cX4_hush 1 = .ok (.getfield 208, 3) := by decide +kernel
theorem dX4_hush_4 : decode cX4_hush 4 = .ok (.istore_n 1, 1) := by decide +kernel
theorem dX4_hush_5 : decode cX4_hush 5 = .ok (.aload_n 0, 1) := by decide +kernel
theorem dX4_hush_6 : decode cX4_hush 6 = .ok (.iconst 0, 1) := by decide +kernel
theorem dX4_hush_7 : decode cX4_hush 7 = .ok (.putfield 208, 3) := by decide +kernel
theorem dX4_hush_10 : decode cX4_hush 10 = .ok (.iload_n 1, 1) := by decide +kernel
theorem dX4_hush_11 : decode cX4_hush 11 = .ok (.ireturn, 1) := by decide +kernel
theorem dX4_rightBy_0 : decode cX4_rightBy 0 = .ok (.iconst 0, 1) := by decide +kernel
theorem dX4_rightBy_1 : decode cX4_rightBy 1 = .ok (.istore 4, 2) := by decide +kernel
theorem dX4_rightBy_3 : decode cX4_rightBy 3 = .ok (.iconst 0, 1) := by decide +kernel
theorem dX4_rightBy_4 : decode cX4_rightBy 4 = .ok (.istore 5, 2) := by decide +kernel
theorem dX4_rightBy_6 : decode cX4_rightBy 6 = .ok (.iload 5, 2) := by decide +kernel
theorem dX4_rightBy_8 : decode cX4_rightBy 8 = .ok (.aload_n 0, 1) := by decide +kernel
theorem dX4_rightBy_9 : decode cX4_rightBy 9 = .ok (.getfield 208, 3) := by decide +kernel
theorem dX4_rightBy_12 : decode cX4_rightBy 12 = .ok (.if_icmp .ge 43, 3) := by decide +kernel
theorem dX4_rightBy_15 : decode cX4_rightBy 15 = .ok (.iload 4, 2) := by decide +kernel
theorem dX4_rightBy_17 : decode cX4_rightBy 17 = .ok (.aload_n 0, 1) := by decide +kernel
theorem dX4_rightBy_18 : decode cX4_rightBy 18 = .ok (.aload_n 0, 1) := by decide +kernel
theorem dX4_rightBy_19 : decode cX4_rightBy 19 = .ok (.getfield 34, 3) := by decide +kernel
theorem dX4_rightBy_22 : decode cX4_rightBy 22 = .ok (.iload 5, 2) := by decide +kernel
theorem dX4_rightBy_24 : decode cX4_rightBy 24 = .ok (.iaload, 1) := by decide +kernel
theorem dX4_rightBy_25 : decode cX4_rightBy 25 = .ok (.iload_n 1, 1) := by decide +kernel
theorem dX4_rightBy_26 : decode cX4_rightBy 26 = .ok (.iload_n 2, 1) := by decide +kernel
theorem dX4_rightBy_27 : decode cX4_rightBy 27 = .ok (.iload_n 3, 1) := by decide +kernel
theorem dX4_rightBy_28 : decode cX4_rightBy 28 = .ok (.invokevirtual 163, 3) := by decide +kernel
theorem dX4_rightBy_31 : decode cX4_rightBy 31 = .ok (.aload_n 0, 1) := by decide +kernel
theorem dX4_rightBy_32 : decode cX4_rightBy 32 = .ok (.getfield 37, 3) := by decide +kernel
theorem dX4_rightBy_35 : decode cX4_rightBy 35 = .ok (.iload 5, 2) := by decide +kernel
theorem dX4_rightBy_37 : decode cX4_rightBy 37 = .ok (.iaload, 1) := by decide +kernel
theorem dX4_rightBy_38 : decode cX4_rightBy 38 = .ok (.if_icmp .ne 7, 3) := by decide +kernel
theorem dX4_rightBy_41 : decode cX4_rightBy 41 = .ok (.iconst 1, 1) := by decide +kernel
theorem dX4_rightBy_42 : decode cX4_rightBy 42 = .ok (.goto 4, 3) := by decide +kernel
theorem dX4_rightBy_45 : decode cX4_rightBy 45 = .ok (.iconst 0, 1) := by decide +kernel
theorem dX4_rightBy_46 : decode cX4_rightBy 46 = .ok (.iadd, 1) := by decide +kernel
theorem dX4_rightBy_47 : decode cX4_rightBy 47 = .ok (.istore 4, 2) := by decide +kernel
theorem dX4_rightBy_49 : decode cX4_rightBy 49 = .ok (.iinc 5 1, 3) := by decide +kernel
theorem dX4_rightBy_52 : decode cX4_rightBy 52 = .ok (.goto (-46), 3) := by decide +kernel
theorem dX4_rightBy_55 : decode cX4_rightBy 55 = .ok (.iload 4, 2) := by decide +kernel
theorem dX4_rightBy_57 : decode cX4_rightBy 57 = .ok (.ireturn, 1) := by decide +kernel
theorem dX4_mayBy_0 : decode cX4_mayBy 0 = .ok (.iconst 0, 1) := by decide +kernel
theorem dX4_mayBy_1 : decode cX4_mayBy 1 = .ok (.istore_n 3, 1) := by decide +kernel
theorem dX4_mayBy_2 : decode cX4_mayBy 2 = .ok (.iconst 0, 1) := by decide +kernel
theorem dX4_mayBy_3 : decode cX4_mayBy 3 = .ok (.istore 4, 2) := by decide +kernel
theorem dX4_mayBy_5 : decode cX4_mayBy 5 = .ok (.iload 4, 2) := by decide +kernel
theorem dX4_mayBy_7 : decode cX4_mayBy 7 = .ok (.bipush 24, 2) := by decide +kernel
theorem dX4_mayBy_9 : decode cX4_mayBy 9 = .ok (.if_icmp .ge 35, 3) := by decide +kernel
theorem dX4_mayBy_12 : decode cX4_mayBy 12 = .ok (.iload_n 3, 1) := by decide +kernel
theorem dX4_mayBy_13 : decode cX4_mayBy 13 = .ok (.aload_n 0, 1) := by decide +kernel
theorem dX4_mayBy_14 : decode cX4_mayBy 14 = .ok (.iload 4, 2) := by decide +kernel
theorem dX4_mayBy_16 : decode cX4_mayBy 16 = .ok (.iload_n 1, 1) := by decide +kernel
theorem dX4_mayBy_17 : decode cX4_mayBy 17 = .ok (.iload_n 2, 1) := by decide +kernel
theorem dX4_mayBy_18 : decode cX4_mayBy 18 = .ok (.invokevirtual 211, 3) := by decide +kernel
theorem dX4_mayBy_21 : decode cX4_mayBy 21 = .ok (.aload_n 0, 1) := by decide +kernel
theorem dX4_mayBy_22 : decode cX4_mayBy 22 = .ok (.getfield 208, 3) := by decide +kernel
theorem dX4_mayBy_25 : decode cX4_mayBy 25 = .ok (.if_icmp .ne 10, 3) := by decide +kernel
theorem dX4_mayBy_28 : decode cX4_mayBy 28 = .ok (.iconst 1, 1) := by decide +kernel
theorem dX4_mayBy_29 : decode cX4_mayBy 29 = .ok (.iload 4, 2) := by decide +kernel
theorem dX4_mayBy_31 : decode cX4_mayBy 31 = .ok (.ishl, 1) := by decide +kernel
theorem dX4_mayBy_32 : decode cX4_mayBy 32 = .ok (.goto 4, 3) := by decide +kernel
theorem dX4_mayBy_35 : decode cX4_mayBy 35 = .ok (.iconst 0, 1) := by decide +kernel
theorem dX4_mayBy_36 : decode cX4_mayBy 36 = .ok (.ior, 1) := by decide +kernel
theorem dX4_mayBy_37 : decode cX4_mayBy 37 = .ok (.istore_n 3, 1) := by decide +kernel
theorem dX4_mayBy_38 : decode cX4_mayBy 38 = .ok (.iinc 4 1, 3) := by decide +kernel
theorem dX4_mayBy_41 : decode cX4_mayBy 41 = .ok (.goto (-36), 3) := by decide +kernel
theorem dX4_mayBy_44 : decode cX4_mayBy 44 = .ok (.iload_n 3, 1) := by decide +kernel
theorem dX4_mayBy_45 : decode cX4_mayBy 45 = .ok (.ireturn, 1) := by decide +kernel
theorem dX4_may_0 : decode cX4_may 0 = .ok (.iload_n 1, 1) := by decide +kernel
theorem dX4_may_1 : decode cX4_may 1 = .ok (.iconst 0, 1) := by decide +kernel
theorem dX4_may_2 : decode cX4_may 2 = .ok (.iconst 1, 1) := by decide +kernel
theorem dX4_may_3 : decode cX4_may 3 = .ok (.invokestatic 71, 3) := by decide +kernel
theorem dX4_may_6 : decode cX4_may 6 = .ok (.ifCond .ne 10, 3) := by decide +kernel
theorem dX4_may_9 : decode cX4_may 9 = .ok (.aload_n 0, 1) := by decide +kernel
theorem dX4_may_10 : decode cX4_may 10 = .ok (.bipush (-2), 2) := by decide +kernel
theorem dX4_may_12 : decode cX4_may 12 = .ok (.invokevirtual 60, 3) := by decide +kernel
theorem dX4_may_15 : decode cX4_may 15 = .ok (.ireturn, 1) := by decide +kernel
theorem dX4_may_16 : decode cX4_may 16 = .ok (.iload_n 1, 1) := by decide +kernel
theorem dX4_may_17 : decode cX4_may 17 = .ok (.ifCond .ne 20, 3) := by decide +kernel
theorem dX4_may_20 : decode cX4_may 20 = .ok (.aload_n 0, 1) := by decide +kernel
theorem dX4_may_21 : decode cX4_may 21 = .ok (.aload_n 0, 1) := by decide +kernel
theorem dX4_may_22 : decode cX4_may 22 = .ok (.getfield 16, 3) := by decide +kernel
theorem dX4_may_25 : decode cX4_may 25 = .ok (.iconst 0, 1) := by decide +kernel
theorem dX4_may_26 : decode cX4_may 26 = .ok (.iaload, 1) := by decide +kernel
theorem dX4_may_27 : decode cX4_may 27 = .ok (.aload_n 0, 1) := by decide +kernel
theorem dX4_may_28 : decode cX4_may 28 = .ok (.getfield 16, 3) := by decide +kernel
theorem dX4_may_31 : decode cX4_may 31 = .ok (.iconst 2, 1) := by decide +kernel
theorem dX4_may_32 : decode cX4_may 32 = .ok (.iaload, 1) := by decide +kernel
theorem dX4_may_33 : decode cX4_may 33 = .ok (.invokevirtual 214, 3) := by decide +kernel
theorem dX4_may_36 : decode cX4_may 36 = .ok (.ireturn, 1) := by decide +kernel
theorem dX4_may_37 : decode cX4_may 37 = .ok (.iconst 0, 1) := by decide +kernel
theorem dX4_may_38 : decode cX4_may 38 = .ok (.istore_n 2, 1) := by decide +kernel
theorem dX4_may_39 : decode cX4_may 39 = .ok (.iconst 0, 1) := by decide +kernel
theorem dX4_may_40 : decode cX4_may 40 = .ok (.istore_n 3, 1) := by decide +kernel
theorem dX4_may_41 : decode cX4_may 41 = .ok (.iload_n 3, 1) := by decide +kernel
theorem dX4_may_42 : decode cX4_may 42 = .ok (.bipush 8, 2) := by decide +kernel
theorem dX4_may_44 : decode cX4_may 44 = .ok (.if_icmp .ge 24, 3) := by decide +kernel
theorem dX4_may_47 : decode cX4_may 47 = .ok (.iload_n 2, 1) := by decide +kernel
theorem dX4_may_48 : decode cX4_may 48 = .ok (.aload_n 0, 1) := by decide +kernel
theorem dX4_may_49 : decode cX4_may 49 = .ok (.iload_n 3, 1) := by decide +kernel
theorem dX4_may_50 : decode cX4_may 50 = .ok (.iconst 4, 1) := by decide +kernel
theorem dX4_may_51 : decode cX4_may 51 = .ok (.idiv, 1) := by decide +kernel
theorem dX4_may_52 : decode cX4_may 52 = .ok (.iconst 2, 1) := by decide +kernel
theorem dX4_may_53 : decode cX4_may 53 = .ok (.iload_n 3, 1) := by decide +kernel
theorem dX4_may_54 : decode cX4_may 54 = .ok (.iconst 4, 1) := by decide +kernel
theorem dX4_may_55 : decode cX4_may 55 = .ok (.irem, 1) := by decide +kernel
theorem dX4_may_56 : decode cX4_may 56 = .ok (.iadd, 1) := by decide +kernel
theorem dX4_may_57 : decode cX4_may 57 = .ok (.invokevirtual 214, 3) := by decide +kernel
theorem dX4_may_60 : decode cX4_may 60 = .ok (.ior, 1) := by decide +kernel
theorem dX4_may_61 : decode cX4_may 61 = .ok (.istore_n 2, 1) := by decide +kernel
theorem dX4_may_62 : decode cX4_may 62 = .ok (.iinc 3 1, 3) := by decide +kernel
theorem dX4_may_65 : decode cX4_may 65 = .ok (.goto (-24), 3) := by decide +kernel
theorem dX4_may_68 : decode cX4_may 68 = .ok (.iload_n 2, 1) := by decide +kernel
theorem dX4_may_69 : decode cX4_may 69 = .ok (.ireturn, 1) := by decide +kernel
theorem dX4_heMany_0 : decode cX4_heMany 0 = .ok (.iconst 0, 1) := by decide +kernel
theorem dX4_heMany_1 : decode cX4_heMany 1 = .ok (.istore_n 1, 1) := by decide +kernel
theorem dX4_heMany_2 : decode cX4_heMany 2 = .ok (.iconst 0, 1) := by decide +kernel
theorem dX4_heMany_3 : decode cX4_heMany 3 = .ok (.istore_n 2, 1) := by decide +kernel
theorem dX4_heMany_4 : decode cX4_heMany 4 = .ok (.iload_n 2, 1) := by decide +kernel
theorem dX4_heMany_5 : decode cX4_heMany 5 = .ok (.bipush 8, 2) := by decide +kernel
theorem dX4_heMany_7 : decode cX4_heMany 7 = .ok (.if_icmp .ge 32, 3) := by decide +kernel
theorem dX4_heMany_10 : decode cX4_heMany 10 = .ok (.iload_n 1, 1) := by decide +kernel
theorem dX4_heMany_11 : decode cX4_heMany 11 = .ok (.aload_n 0, 1) := by decide +kernel
theorem dX4_heMany_12 : decode cX4_heMany 12 = .ok (.iload_n 2, 1) := by decide +kernel
theorem dX4_heMany_13 : decode cX4_heMany 13 = .ok (.iconst 4, 1) := by decide +kernel
theorem dX4_heMany_14 : decode cX4_heMany 14 = .ok (.idiv, 1) := by decide +kernel
theorem dX4_heMany_15 : decode cX4_heMany 15 = .ok (.iconst 2, 1) := by decide +kernel
theorem dX4_heMany_16 : decode cX4_heMany 16 = .ok (.iload_n 2, 1) := by decide +kernel
theorem dX4_heMany_17 : decode cX4_heMany 17 = .ok (.iconst 4, 1) := by decide +kernel
theorem dX4_heMany_18 : decode cX4_heMany 18 = .ok (.irem, 1) := by decide +kernel
theorem dX4_heMany_19 : decode cX4_heMany 19 = .ok (.iadd, 1) := by decide +kernel
theorem dX4_heMany_20 : decode cX4_heMany 20 = .ok (.invokevirtual 214, 3) := by decide +kernel
theorem dX4_heMany_23 : decode cX4_heMany 23 = .ok (.ifCond .eq 7, 3) := by decide +kernel
theorem dX4_heMany_26 : decode cX4_heMany 26 = .ok (.iconst 1, 1) := by decide +kernel
theorem dX4_heMany_27 : decode cX4_heMany 27 = .ok (.goto 4, 3) := by decide +kernel
theorem dX4_heMany_30 : decode cX4_heMany 30 = .ok (.iconst 0, 1) := by decide +kernel
theorem dX4_heMany_31 : decode cX4_heMany 31 = .ok (.iadd, 1) := by decide +kernel
theorem dX4_heMany_32 : decode cX4_heMany 32 = .ok (.istore_n 1, 1) := by decide +kernel
theorem dX4_heMany_33 : decode cX4_heMany 33 = .ok (.iinc 2 1, 3) := by decide +kernel
theorem dX4_heMany_36 : decode cX4_heMany 36 = .ok (.goto (-32), 3) := by decide +kernel
theorem dX4_heMany_39 : decode cX4_heMany 39 = .ok (.iload_n 1, 1) := by decide +kernel
theorem dX4_heMany_40 : decode cX4_heMany 40 = .ok (.ireturn, 1) := by decide +kernel
theorem dX4_weightOf_0 : decode cX4_weightOf 0 = .ok (.lconst 1, 1) := by decide +kernel
theorem dX4_weightOf_1 : decode cX4_weightOf 1 = .ok (.lstore_n 2, 1) := by decide +kernel
theorem dX4_weightOf_2 : decode cX4_weightOf 2 = .ok (.aload_n 0, 1) := by decide +kernel
theorem dX4_weightOf_3 : decode cX4_weightOf 3 = .ok (.iload_n 1, 1) := by decide +kernel
theorem dX4_weightOf_4 : decode cX4_weightOf 4 = .ok (.aload_n 0, 1) := by decide +kernel
theorem dX4_weightOf_5 : decode cX4_weightOf 5 = .ok (.getfield 16, 3) := by decide +kernel
theorem dX4_weightOf_8 : decode cX4_weightOf 8 = .ok (.iconst 0, 1) := by decide +kernel
theorem dX4_weightOf_9 : decode cX4_weightOf 9 = .ok (.iaload, 1) := by decide +kernel
theorem dX4_weightOf_10 : decode cX4_weightOf 10 = .ok (.aload_n 0, 1) := by decide +kernel
theorem dX4_weightOf_11 : decode cX4_weightOf 11 = .ok (.getfield 16, 3) := by decide +kernel
theorem dX4_weightOf_14 : decode cX4_weightOf 14 = .ok (.iconst 2, 1) := by decide +kernel
theorem dX4_weightOf_15 : decode cX4_weightOf 15 = .ok (.iaload, 1) := by decide +kernel
theorem dX4_weightOf_16 : decode cX4_weightOf 16 = .ok (.invokevirtual 211, 3) := by decide +kernel
theorem dX4_weightOf_19 : decode cX4_weightOf 19 = .ok (.istore 4, 2) := by decide +kernel
theorem dX4_weightOf_21 : decode cX4_weightOf 21 = .ok (.iload 4, 2) := by decide +kernel
theorem dX4_weightOf_23 : decode cX4_weightOf 23 = .ok (.ifCond .le 15, 3) := by decide +kernel
theorem dX4_weightOf_26 : decode cX4_weightOf 26 = .ok (.lload_n 2, 1) := by decide +kernel
theorem dX4_weightOf_27 : decode cX4_weightOf 27 = .ok (.ldc2_w 217, 3) := by decide +kernel
theorem dX4_weightOf_30 : decode cX4_weightOf 30 = .ok (.lmul, 1) := by decide +kernel
theorem dX4_weightOf_31 : decode cX4_weightOf 31 = .ok (.lstore_n 2, 1) := by decide +kernel
theorem dX4_weightOf_32 : decode cX4_weightOf 32 = .ok (.iinc 4 (-1), 3) := by decide +kernel
theorem dX4_weightOf_35 : decode cX4_weightOf 35 = .ok (.goto (-14), 3) := by decide +kernel
theorem dX4_weightOf_38 : decode cX4_weightOf 38 = .ok (.lload_n 2, 1) := by decide +kernel
theorem dX4_weightOf_39 : decode cX4_weightOf 39 = .ok (.lreturn, 1) := by decide +kernel
theorem dX4_odds_0 : decode cX4_odds 0 = .ok (.iload_n 1, 1) := by decide +kernel
theorem dX4_odds_1 : decode cX4_odds 1 = .ok (.invokestatic 104, 3) := by decide +kernel
theorem dX4_odds_4 : decode cX4_odds 4 = .ok (.ifCond .ne 9, 3) := by decide +kernel
theorem dX4_odds_7 : decode cX4_odds 7 = .ok (.aload_n 0, 1) := by decide +kernel
theorem dX4_odds_8 : decode cX4_odds 8 = .ok (.iconst (-1), 1) := by decide +kernel
theorem dX4_odds_9 : decode cX4_odds 9 = .ok (.invokevirtual 195, 3) := by decide +kernel
theorem dX4_odds_12 : decode cX4_odds 12 = .ok (.lreturn, 1) := by decide +kernel
theorem dX4_odds_13 : decode cX4_odds 13 = .ok (.iload_n 2, 1) := by decide +kernel
theorem dX4_odds_14 : decode cX4_odds 14 = .ok (.iconst 0, 1) := by decide +kernel
theorem dX4_odds_15 : decode cX4_odds 15 = .ok (.iconst 1, 1) := by decide +kernel
theorem dX4_odds_16 : decode cX4_odds 16 = .ok (.invokestatic 71, 3) := by decide +kernel
theorem dX4_odds_19 : decode cX4_odds 19 = .ok (.ifCond .ne 10, 3) := by decide +kernel
theorem dX4_odds_22 : decode cX4_odds 22 = .ok (.aload_n 0, 1) := by decide +kernel
theorem dX4_odds_23 : decode cX4_odds 23 = .ok (.bipush (-2), 2) := by decide +kernel
theorem dX4_odds_25 : decode cX4_odds 25 = .ok (.invokevirtual 195, 3) := by decide +kernel
theorem dX4_odds_28 : decode cX4_odds 28 = .ok (.lreturn, 1) := by decide +kernel
theorem dX4_odds_29 : decode cX4_odds 29 = .ok (.lconst 0, 1) := by decide +kernel
theorem dX4_odds_30 : decode cX4_odds 30 = .ok (.lstore_n 3, 1) := by decide +kernel
theorem dX4_odds_31 : decode cX4_odds 31 = .ok (.iconst 0, 1) := by decide +kernel
theorem dX4_odds_32 : decode cX4_odds 32 = .ok (.istore 5, 2) := by decide +kernel
theorem dX4_odds_34 : decode cX4_odds 34 = .ok (.iload 5, 2) := by decide +kernel
theorem dX4_odds_36 : decode cX4_odds 36 = .ok (.bipush 24, 2) := by decide +kernel
theorem dX4_odds_38 : decode cX4_odds 38 = .ok (.if_icmp .ge 18, 3) := by decide +kernel
theorem dX4_odds_41 : decode cX4_odds 41 = .ok (.lload_n 3, 1) := by decide +kernel
theorem dX4_odds_42 : decode cX4_odds 42 = .ok (.aload_n 0, 1) := by decide +kernel
theorem dX4_odds_43 : decode cX4_odds 43 = .ok (.iload 5, 2) := by decide +kernel
theorem dX4_odds_45 : decode cX4_odds 45 = .ok (.invokevirtual 219, 3) := by decide +kernel
theorem dX4_odds_48 : decode cX4_odds 48 = .ok (.ladd, 1) := by decide +kernel
theorem dX4_odds_49 : decode cX4_odds 49 = .ok (.lstore_n 3, 1) := by decide +kernel
theorem dX4_odds_50 : decode cX4_odds 50 = .ok (.iinc 5 1, 3) := by decide +kernel
theorem dX4_odds_53 : decode cX4_odds 53 = .ok (.goto (-19), 3) := by decide +kernel
theorem dX4_odds_56 : decode cX4_odds 56 = .ok (.aload_n 0, 1) := by decide +kernel
theorem dX4_odds_57 : decode cX4_odds 57 = .ok (.iload_n 1, 1) := by decide +kernel
theorem dX4_odds_58 : decode cX4_odds 58 = .ok (.invokevirtual 219, 3) := by decide +kernel
theorem dX4_odds_61 : decode cX4_odds 61 = .ok (.lload_n 3, 1) := by decide +kernel
theorem dX4_odds_62 : decode cX4_odds 62 = .ok (.iload_n 2, 1) := by decide +kernel
theorem dX4_odds_63 : decode cX4_odds 63 = .ok (.invokestatic 204, 3) := by decide +kernel
theorem dX4_odds_66 : decode cX4_odds 66 = .ok (.lreturn, 1) := by decide +kernel
theorem dX4_worstFrom_0 : decode cX4_worstFrom 0 = .ok (.iconst 0, 1) := by decide +kernel
theorem dX4_worstFrom_1 : decode cX4_worstFrom 1 = .ok (.istore_n 3, 1) := by decide +kernel
theorem dX4_worstFrom_2 : decode cX4_worstFrom 2 = .ok (.iload_n 3, 1) := by decide +kernel
theorem dX4_worstFrom_3 : decode cX4_worstFrom 3 = .ok (.bipush 10, 2) := by decide +kernel
theorem dX4_worstFrom_5 : decode cX4_worstFrom 5 = .ok (.if_icmp .ge 16, 3) := by decide +kernel
theorem dX4_worstFrom_8 : decode cX4_worstFrom 8 = .ok (.aload_n 0, 1) := by decide +kernel
theorem dX4_worstFrom_9 : decode cX4_worstFrom 9 = .ok (.getfield 40, 3) := by decide +kernel
theorem dX4_worstFrom_12 : decode cX4_worstFrom 12 = .ok (.iload_n 3, 1) := by decide +kernel
theorem dX4_worstFrom_13 : decode cX4_worstFrom 13 = .ok (.iconst 0, 1) := by decide +kernel
theorem dX4_worstFrom_14 : decode cX4_worstFrom 14 = .ok (.iastore, 1) := by decide +kernel
theorem dX4_worstFrom_15 : decode cX4_worstFrom 15 = .ok (.iinc 3 1, 3) := by decide +kernel
theorem dX4_worstFrom_18 : decode cX4_worstFrom 18 = .ok (.goto (-16), 3) := by decide +kernel
theorem dX4_worstFrom_21 : decode cX4_worstFrom 21 = .ok (.iconst 0, 1) := by decide +kernel
theorem dX4_worstFrom_22 : decode cX4_worstFrom 22 = .ok (.istore_n 3, 1) := by decide +kernel
theorem dX4_worstFrom_23 : decode cX4_worstFrom 23 = .ok (.iconst 0, 1) := by decide +kernel
theorem dX4_worstFrom_24 : decode cX4_worstFrom 24 = .ok (.istore 4, 2) := by decide +kernel
theorem dX4_worstFrom_26 : decode cX4_worstFrom 26 = .ok (.iload 4, 2) := by decide +kernel
theorem dX4_worstFrom_28 : decode cX4_worstFrom 28 = .ok (.bipush 24, 2) := by decide +kernel
theorem dX4_worstFrom_30 : decode cX4_worstFrom 30 = .ok (.if_icmp .ge 64, 3) := by decide +kernel
theorem dX4_worstFrom_33 : decode cX4_worstFrom 33 = .ok (.iload_n 2, 1) := by decide +kernel
theorem dX4_worstFrom_34 : decode cX4_worstFrom 34 = .ok (.iload 4, 2) := by decide +kernel
theorem dX4_worstFrom_36 : decode cX4_worstFrom 36 = .ok (.ishr, 1) := by decide +kernel
theorem dX4_worstFrom_37 : decode cX4_worstFrom 37 = .ok (.iconst 1, 1) := by decide +kernel
theorem dX4_worstFrom_38 : decode cX4_worstFrom 38 = .ok (.iand, 1) := by decide +kernel
theorem dX4_worstFrom_39 : decode cX4_worstFrom 39 = .ok (.ifCond .ne 6, 3) := by decide +kernel
theorem dX4_worstFrom_42 : decode cX4_worstFrom 42 = .ok (.goto 46, 3) := by decide +kernel
theorem dX4_worstFrom_45 : decode cX4_worstFrom 45 = .ok (.aload_n 0, 1) := by decide +kernel
theorem dX4_worstFrom_46 : decode cX4_worstFrom 46 = .ok (.iload_n 1, 1) := by decide +kernel
theorem dX4_worstFrom_47 : decode cX4_worstFrom 47 = .ok (.iload 4, 2) := by decide +kernel
theorem dX4_worstFrom_49 : decode cX4_worstFrom 49 = .ok (.invokevirtual 170, 3) := by decide +kernel
theorem dX4_worstFrom_52 : decode cX4_worstFrom 52 = .ok (.istore 5, 2) := by decide +kernel
theorem dX4_worstFrom_54 : decode cX4_worstFrom 54 = .ok (.aload_n 0, 1) := by decide +kernel
theorem dX4_worstFrom_55 : decode cX4_worstFrom 55 = .ok (.getfield 40, 3) := by decide +kernel
theorem dX4_worstFrom_58 : decode cX4_worstFrom 58 = .ok (.iload 5, 2) := by decide +kernel
theorem dX4_worstFrom_60 : decode cX4_worstFrom 60 = .ok (.dup2, 1) := by decide +kernel
theorem dX4_worstFrom_61 : decode cX4_worstFrom 61 = .ok (.iaload, 1) := by decide +kernel
theorem dX4_worstFrom_62 : decode cX4_worstFrom 62 = .ok (.iconst 1, 1) := by decide +kernel
theorem dX4_worstFrom_63 : decode cX4_worstFrom 63 = .ok (.iadd, 1) := by decide +kernel
theorem dX4_worstFrom_64 : decode cX4_worstFrom 64 = .ok (.iastore, 1) := by decide +kernel
theorem dX4_worstFrom_65 : decode cX4_worstFrom 65 = .ok (.aload_n 0, 1) := by decide +kernel
theorem dX4_worstFrom_66 : decode cX4_worstFrom 66 = .ok (.getfield 40, 3) := by decide +kernel
theorem dX4_worstFrom_69 : decode cX4_worstFrom 69 = .ok (.iload 5, 2) := by decide +kernel
theorem dX4_worstFrom_71 : decode cX4_worstFrom 71 = .ok (.iaload, 1) := by decide +kernel
theorem dX4_worstFrom_72 : decode cX4_worstFrom 72 = .ok (.iload_n 3, 1) := by decide +kernel
theorem dX4_worstFrom_73 : decode cX4_worstFrom 73 = .ok (.if_icmp .le 13, 3) := by decide +kernel
theorem dX4_worstFrom_76 : decode cX4_worstFrom 76 = .ok (.aload_n 0, 1) := by decide +kernel
theorem dX4_worstFrom_77 : decode cX4_worstFrom 77 = .ok (.getfield 40, 3) := by decide +kernel
theorem dX4_worstFrom_80 : decode cX4_worstFrom 80 = .ok (.iload 5, 2) := by decide +kernel
theorem dX4_worstFrom_82 : decode cX4_worstFrom 82 = .ok (.iaload, 1) := by decide +kernel
theorem dX4_worstFrom_83 : decode cX4_worstFrom 83 = .ok (.goto 4, 3) := by decide +kernel
theorem dX4_worstFrom_86 : decode cX4_worstFrom 86 = .ok (.iload_n 3, 1) := by decide +kernel
theorem dX4_worstFrom_87 : decode cX4_worstFrom 87 = .ok (.istore_n 3, 1) := by decide +kernel
theorem dX4_worstFrom_88 : decode cX4_worstFrom 88 = .ok (.iinc 4 1, 3) := by decide +kernel
theorem dX4_worstFrom_91 : decode cX4_worstFrom 91 = .ok (.goto (-65), 3) := by decide +kernel
theorem dX4_worstFrom_94 : decode cX4_worstFrom 94 = .ok (.iload_n 3, 1) := by decide +kernel
theorem dX4_worstFrom_95 : decode cX4_worstFrom 95 = .ok (.ireturn, 1) := by decide +kernel
theorem dX4_next__0 : decode cX4_next_ 0 = .ok (.iload_n 1, 1) := by decide +kernel
theorem dX4_next__1 : decode cX4_next_ 1 = .ok (.iconst 0, 1) := by decide +kernel
theorem dX4_next__2 : decode cX4_next_ 2 = .ok (.iconst 1, 1) := by decide +kernel
theorem dX4_next__3 : decode cX4_next_ 3 = .ok (.invokestatic 71, 3) := by decide +kernel
theorem dX4_next__6 : decode cX4_next_ 6 = .ok (.ifCond .ne 10, 3) := by decide +kernel
theorem dX4_next__9 : decode cX4_next_ 9 = .ok (.aload_n 0, 1) := by decide +kernel
theorem dX4_next__10 : decode cX4_next_ 10 = .ok (.bipush (-2), 2) := by decide +kernel
theorem dX4_next__12 : decode cX4_next_ 12 = .ok (.invokevirtual 60, 3) := by decide +kernel
theorem dX4_next__15 : decode cX4_next_ 15 = .ok (.ireturn, 1) := by decide +kernel
theorem dX4_next__16 : decode cX4_next_ 16 = .ok (.aload_n 0, 1) := by decide +kernel
theorem dX4_next__17 : decode cX4_next_ 17 = .ok (.aload_n 0, 1) := by decide +kernel
theorem dX4_next__18 : decode cX4_next_ 18 = .ok (.getfield 16, 3) := by decide +kernel
theorem dX4_next__21 : decode cX4_next_ 21 = .ok (.iconst 0, 1) := by decide +kernel
theorem dX4_next__22 : decode cX4_next_ 22 = .ok (.iaload, 1) := by decide +kernel
theorem dX4_next__23 : decode cX4_next_ 23 = .ok (.aload_n 0, 1) := by decide +kernel
theorem dX4_next__24 : decode cX4_next_ 24 = .ok (.getfield 16, 3) := by decide +kernel
theorem dX4_next__27 : decode cX4_next_ 27 = .ok (.iconst 2, 1) := by decide +kernel
theorem dX4_next__28 : decode cX4_next_ 28 = .ok (.iaload, 1) := by decide +kernel
theorem dX4_next__29 : decode cX4_next_ 29 = .ok (.invokevirtual 214, 3) := by decide +kernel
theorem dX4_next__32 : decode cX4_next_ 32 = .ok (.istore_n 2, 1) := by decide +kernel
theorem dX4_next__33 : decode cX4_next_ 33 = .ok (.iload_n 2, 1) := by decide +kernel
theorem dX4_next__34 : decode cX4_next_ 34 = .ok (.ifCond .ne 6, 3) := by decide +kernel
theorem dX4_next__37 : decode cX4_next_ 37 = .ok (.bipush (-9), 2) := by decide +kernel
theorem dX4_next__39 : decode cX4_next_ 39 = .ok (.ireturn, 1) := by decide +kernel
theorem dX4_next__40 : decode cX4_next_ 40 = .ok (.bipush (-9), 2) := by decide +kernel
theorem dX4_next__42 : decode cX4_next_ 42 = .ok (.istore_n 3, 1) := by decide +kernel
theorem dX4_next__43 : decode cX4_next_ 43 = .ok (.bipush 99, 2) := by decide +kernel
theorem dX4_next__45 : decode cX4_next_ 45 = .ok (.istore 4, 2) := by decide +kernel
theorem dX4_next__47 : decode cX4_next_ 47 = .ok (.iconst 0, 1) := by decide +kernel
theorem dX4_next__48 : decode cX4_next_ 48 = .ok (.istore 5, 2) := by decide +kernel
theorem dX4_next__50 : decode cX4_next_ 50 = .ok (.iload 5, 2) := by decide +kernel
theorem dX4_next__52 : decode cX4_next_ 52 = .ok (.bipush 24, 2) := by decide +kernel
theorem dX4_next__54 : decode cX4_next_ 54 = .ok (.if_icmp .ge 35, 3) := by decide +kernel
theorem dX4_next__57 : decode cX4_next_ 57 = .ok (.aload_n 0, 1) := by decide +kernel
theorem dX4_next__58 : decode cX4_next_ 58 = .ok (.iload 5, 2) := by decide +kernel
theorem dX4_next__60 : decode cX4_next_ 60 = .ok (.iload_n 2, 1) := by decide +kernel
theorem dX4_next__61 : decode cX4_next_ 61 = .ok (.invokevirtual 222, 3) := by decide +kernel
theorem dX4_next__64 : decode cX4_next_ 64 = .ok (.istore 6, 2) := by decide +kernel
theorem dX4_next__66 : decode cX4_next_ 66 = .ok (.iload 6, 2) := by decide +kernel
theorem dX4_next__68 : decode cX4_next_ 68 = .ok (.iload 4, 2) := by decide +kernel
theorem dX4_next__70 : decode cX4_next_ 70 = .ok (.if_icmp .lt 6, 3) := by decide +kernel
theorem dX4_next__73 : decode cX4_next_ 73 = .ok (.goto 10, 3) := by decide +kernel
theorem dX4_next__76 : decode cX4_next_ 76 = .ok (.iload 5, 2) := by decide +kernel
theorem dX4_next__78 : decode cX4_next_ 78 = .ok (.istore_n 3, 1) := by decide +kernel
theorem dX4_next__79 : decode cX4_next_ 79 = .ok (.iload 6, 2) := by decide +kernel
theorem dX4_next__81 : decode cX4_next_ 81 = .ok (.istore 4, 2) := by decide +kernel
theorem dX4_next__83 : decode cX4_next_ 83 = .ok (.iinc 5 1, 3) := by decide +kernel
theorem dX4_next__86 : decode cX4_next_ 86 = .ok (.goto (-36), 3) := by decide +kernel
theorem dX4_next__89 : decode cX4_next_ 89 = .ok (.iload_n 1, 1) := by decide +kernel
theorem dX4_next__90 : decode cX4_next_ 90 = .ok (.ifCond .ne 7, 3) := by decide +kernel
theorem dX4_next__93 : decode cX4_next_ 93 = .ok (.iload_n 3, 1) := by decide +kernel
theorem dX4_next__94 : decode cX4_next_ 94 = .ok (.goto 5, 3) := by decide +kernel
theorem dX4_next__97 : decode cX4_next_ 97 = .ok (.iload 4, 2) := by decide +kernel
theorem dX4_next__99 : decode cX4_next_ 99 = .ok (.ireturn, 1) := by decide +kernel
theorem dX4_stripBy_0 : decode cX4_stripBy 0 = .ok (.aload_n 0, 1) := by decide +kernel
theorem dX4_stripBy_1 : decode cX4_stripBy 1 = .ok (.iconst 1, 1) := by decide +kernel
theorem dX4_stripBy_2 : decode cX4_stripBy 2 = .ok (.iconst 1, 1) := by decide +kernel
theorem dX4_stripBy_3 : decode cX4_stripBy 3 = .ok (.invokevirtual 121, 3) := by decide +kernel
theorem dX4_stripBy_6 : decode cX4_stripBy 6 = .ok (.iload_n 1, 1) := by decide +kernel
theorem dX4_stripBy_7 : decode cX4_stripBy 7 = .ok (.iconst 4, 1) := by decide +kernel
theorem dX4_stripBy_8 : decode cX4_stripBy 8 = .ok (.if_icmp .ge 8, 3) := by decide +kernel
theorem dX4_stripBy_11 : decode cX4_stripBy 11 = .ok (.bipush 6, 2) := by decide +kernel
theorem dX4_stripBy_13 : decode cX4_stripBy 13 = .ok (.goto 4, 3) := by decide +kernel
theorem dX4_stripBy_16 : decode cX4_stripBy 16 = .ok (.iconst 4, 1) := by decide +kernel
theorem dX4_stripBy_17 : decode cX4_stripBy 17 = .ok (.istore_n 2, 1) := by decide +kernel
theorem dX4_stripBy_18 : decode cX4_stripBy 18 = .ok (.iconst 0, 1) := by decide +kernel
theorem dX4_stripBy_19 : decode cX4_stripBy 19 = .ok (.istore_n 3, 1) := by decide +kernel
theorem dX4_stripBy_20 : decode cX4_stripBy 20 = .ok (.aload_n 0, 1) := by decide +kernel
theorem dX4_stripBy_21 : decode cX4_stripBy 21 = .ok (.getfield 101, 3) := by decide +kernel
theorem dX4_stripBy_24 : decode cX4_stripBy 24 = .ok (.bipush 24, 2) := by decide +kernel
theorem dX4_stripBy_26 : decode cX4_stripBy 26 = .ok (.if_icmp .eq 40, 3) := by decide +kernel
theorem dX4_stripBy_29 : decode cX4_stripBy 29 = .ok (.iload_n 3, 1) := by decide +kernel
theorem dX4_stripBy_30 : decode cX4_stripBy 30 = .ok (.iload_n 2, 1) := by decide +kernel
theorem dX4_stripBy_31 : decode cX4_stripBy 31 = .ok (.if_icmp .ge 35, 3) := by decide +kernel
theorem dX4_stripBy_34 : decode cX4_stripBy 34 = .ok (.aload_n 0, 1) := by decide +kernel
theorem dX4_stripBy_35 : decode cX4_stripBy 35 = .ok (.iload_n 1, 1) := by decide +kernel
theorem dX4_stripBy_36 : decode cX4_stripBy 36 = .ok (.iconst 4, 1) := by decide +kernel
theorem dX4_stripBy_37 : decode cX4_stripBy 37 = .ok (.if_icmp .ge 12, 3) := by decide +kernel
theorem dX4_stripBy_40 : decode cX4_stripBy 40 = .ok (.bipush 6, 2) := by decide +kernel
theorem dX4_stripBy_42 : decode cX4_stripBy 42 = .ok (.iload_n 1, 1) := by decide +kernel
theorem dX4_stripBy_43 : decode cX4_stripBy 43 = .ok (.imul, 1) := by decide +kernel
theorem dX4_stripBy_44 : decode cX4_stripBy 44 = .ok (.iload_n 3, 1) := by decide +kernel
theorem dX4_stripBy_45 : decode cX4_stripBy 45 = .ok (.iadd, 1) := by decide +kernel
theorem dX4_stripBy_46 : decode cX4_stripBy 46 = .ok (.goto 11, 3) := by decide +kernel
theorem dX4_stripBy_49 : decode cX4_stripBy 49 = .ok (.bipush 6, 2) := by decide +kernel
theorem dX4_stripBy_51 : decode cX4_stripBy 51 = .ok (.iload_n 3, 1) := by decide +kernel
theorem dX4_stripBy_52 : decode cX4_stripBy 52 = .ok (.imul, 1) := by decide +kernel
theorem dX4_stripBy_53 : decode cX4_stripBy 53 = .ok (.iload_n 1, 1) := by decide +kernel
theorem dX4_stripBy_54 : decode cX4_stripBy 54 = .ok (.iadd, 1) := by decide +kernel
theorem dX4_stripBy_55 : decode cX4_stripBy 55 = .ok (.iconst 4, 1) := by decide +kernel
theorem dX4_stripBy_56 : decode cX4_stripBy 56 = .ok (.isub, 1) := by decide +kernel
theorem dX4_stripBy_57 : decode cX4_stripBy 57 = .ok (.invokevirtual 113, 3) := by decide +kernel
theorem dX4_stripBy_60 : decode cX4_stripBy 60 = .ok (.iinc 3 1, 3) := by decide +kernel
theorem dX4_stripBy_63 : decode cX4_stripBy 63 = .ok (.goto (-43), 3) := by decide +kernel
theorem dX4_stripBy_66 : decode cX4_stripBy 66 = .ok (.aload_n 0, 1) := by decide +kernel
theorem dX4_stripBy_67 : decode cX4_stripBy 67 = .ok (.getfield 101, 3) := by decide +kernel
theorem dX4_stripBy_70 : decode cX4_stripBy 70 = .ok (.bipush 24, 2) := by decide +kernel
theorem dX4_stripBy_72 : decode cX4_stripBy 72 = .ok (.if_icmp .ne 7, 3) := by decide +kernel
theorem dX4_stripBy_75 : decode cX4_stripBy 75 = .ok (.iload_n 3, 1) := by decide +kernel
theorem dX4_stripBy_76 : decode cX4_stripBy 76 = .ok (.goto 5, 3) := by decide +kernel
theorem dX4_stripBy_79 : decode cX4_stripBy 79 = .ok (.bipush (-9), 2) := by decide +kernel
theorem dX4_stripBy_81 : decode cX4_stripBy 81 = .ok (.istore 4, 2) := by decide +kernel
theorem dX4_stripBy_83 : decode cX4_stripBy 83 = .ok (.aload_n 0, 1) := by decide +kernel
theorem dX4_stripBy_84 : decode cX4_stripBy 84 = .ok (.iconst 1, 1) := by decide +kernel
theorem dX4_stripBy_85 : decode cX4_stripBy 85 = .ok (.iconst 0, 1) := by decide +kernel
theorem dX4_stripBy_86 : decode cX4_stripBy 86 = .ok (.invokevirtual 121, 3) := by decide +kernel
theorem dX4_stripBy_89 : decode cX4_stripBy 89 = .ok (.iload 4, 2) := by decide +kernel
theorem dX4_stripBy_91 : decode cX4_stripBy 91 = .ok (.ireturn, 1) := by decide +kernel
theorem dX4_strip_0 : decode cX4_strip 0 = .ok (.iload_n 1, 1) := by decide +kernel
theorem dX4_strip_1 : decode cX4_strip 1 = .ok (.iconst 0, 1) := by decide +kernel
theorem dX4_strip_2 : decode cX4_strip 2 = .ok (.bipush 9, 2) := by decide +kernel
theorem dX4_strip_4 : decode cX4_strip 4 = .ok (.invokestatic 71, 3) := by decide +kernel
theorem dX4_strip_7 : decode cX4_strip 7 = .ok (.ifCond .eq 11, 3) := by decide +kernel
theorem dX4_strip_10 : decode cX4_strip 10 = .ok (.aload_n 0, 1) := by decide +kernel
theorem dX4_strip_11 : decode cX4_strip 11 = .ok (.iload_n 1, 1) := by decide +kernel
theorem dX4_strip_12 : decode cX4_strip 12 = .ok (.invokevirtual 225, 3) := by decide +kernel
theorem dX4_strip_15 : decode cX4_strip 15 = .ok (.goto 8, 3) := by decide +kernel
theorem dX4_strip_18 : decode cX4_strip 18 = .ok (.aload_n 0, 1) := by decide +kernel
theorem dX4_strip_19 : decode cX4_strip 19 = .ok (.iconst (-1), 1) := by decide +kernel
theorem dX4_strip_20 : decode cX4_strip 20 = .ok (.invokevirtual 60, 3) := by decide +kernel
theorem dX4_strip_23 : decode cX4_strip 23 = .ok (.ireturn, 1) := by decide +kernel
theorem dX4_bestStrip_0 : decode cX4_bestStrip 0 = .ok (.bipush (-9), 2) := by decide +kernel
theorem dX4_bestStrip_2 : decode cX4_bestStrip 2 = .ok (.istore_n 1, 1) := by decide +kernel
theorem dX4_bestStrip_3 : decode cX4_bestStrip 3 = .ok (.bipush 99, 2) := by decide +kernel
theorem dX4_bestStrip_5 : decode cX4_bestStrip 5 = .ok (.istore_n 2, 1) := by decide +kernel
theorem dX4_bestStrip_6 : decode cX4_bestStrip 6 = .ok (.iconst 0, 1) := by decide +kernel
theorem dX4_bestStrip_7 : decode cX4_bestStrip 7 = .ok (.istore_n 3, 1) := by decide +kernel
theorem dX4_bestStrip_8 : decode cX4_bestStrip 8 = .ok (.iload_n 3, 1) := by decide +kernel
theorem dX4_bestStrip_9 : decode cX4_bestStrip 9 = .ok (.bipush 10, 2) := by decide +kernel
theorem dX4_bestStrip_11 : decode cX4_bestStrip 11 = .ok (.if_icmp .ge 35, 3) := by decide +kernel
theorem dX4_bestStrip_14 : decode cX4_bestStrip 14 = .ok (.aload_n 0, 1) := by decide +kernel
theorem dX4_bestStrip_15 : decode cX4_bestStrip 15 = .ok (.iload_n 3, 1) := by decide +kernel
theorem dX4_bestStrip_16 : decode cX4_bestStrip 16 = .ok (.invokevirtual 225, 3) := by decide +kernel
theorem dX4_bestStrip_19 : decode cX4_bestStrip 19 = .ok (.bipush 99, 2) := by decide +kernel
theorem dX4_bestStrip_21 : decode cX4_bestStrip 21 = .ok (.invokestatic 188, 3) := by decide +kernel
theorem dX4_bestStrip_24 : decode cX4_bestStrip 24 = .ok (.istore 4, 2) := by decide +kernel
theorem dX4_bestStrip_26 : decode cX4_bestStrip 26 = .ok (.iload 4, 2) := by decide +kernel
theorem dX4_bestStrip_28 : decode cX4_bestStrip 28 = .ok (.iload_n 2, 1) := by decide +kernel
theorem dX4_bestStrip_29 : decode cX4_bestStrip 29 = .ok (.if_icmp .lt 6, 3) := by decide +kernel
theorem dX4_bestStrip_32 : decode cX4_bestStrip 32 = .ok (.goto 8, 3) := by decide +kernel
theorem dX4_bestStrip_35 : decode cX4_bestStrip 35 = .ok (.iload_n 3, 1) := by decide +kernel
theorem dX4_bestStrip_36 : decode cX4_bestStrip 36 = .ok (.istore_n 1, 1) := by decide +kernel
theorem dX4_bestStrip_37 : decode cX4_bestStrip 37 = .ok (.iload 4, 2) := by decide +kernel
theorem dX4_bestStrip_39 : decode cX4_bestStrip 39 = .ok (.istore_n 2, 1) := by decide +kernel
theorem dX4_bestStrip_40 : decode cX4_bestStrip 40 = .ok (.iinc 3 1, 3) := by decide +kernel
theorem dX4_bestStrip_43 : decode cX4_bestStrip 43 = .ok (.goto (-35), 3) := by decide +kernel
theorem dX4_bestStrip_46 : decode cX4_bestStrip 46 = .ok (.iload_n 1, 1) := by decide +kernel
theorem dX4_bestStrip_47 : decode cX4_bestStrip 47 = .ok (.ireturn, 1) := by decide +kernel
theorem dX4_doesGo_0 : decode cX4_doesGo 0 = .ok (.aload_n 0, 1) := by decide +kernel
theorem dX4_doesGo_1 : decode cX4_doesGo 1 = .ok (.iconst 1, 1) := by decide +kernel
theorem dX4_doesGo_2 : decode cX4_doesGo 2 = .ok (.iconst 1, 1) := by decide +kernel
theorem dX4_doesGo_3 : decode cX4_doesGo 3 = .ok (.invokevirtual 121, 3) := by decide +kernel
theorem dX4_doesGo_6 : decode cX4_doesGo 6 = .ok (.iconst 1, 1) := by decide +kernel
theorem dX4_doesGo_7 : decode cX4_doesGo 7 = .ok (.istore_n 3, 1) := by decide +kernel
theorem dX4_doesGo_8 : decode cX4_doesGo 8 = .ok (.iconst 1, 1) := by decide +kernel
theorem dX4_doesGo_9 : decode cX4_doesGo 9 = .ok (.istore 4, 2) := by decide +kernel
theorem dX4_doesGo_11 : decode cX4_doesGo 11 = .ok (.iload 4, 2) := by decide +kernel
theorem dX4_doesGo_13 : decode cX4_doesGo 13 = .ok (.iload_n 2, 1) := by decide +kernel
theorem dX4_doesGo_14 : decode cX4_doesGo 14 = .ok (.if_icmp .ge 14, 3) := by decide +kernel
theorem dX4_doesGo_17 : decode cX4_doesGo 17 = .ok (.iload_n 3, 1) := by decide +kernel
theorem dX4_doesGo_18 : decode cX4_doesGo 18 = .ok (.bipush 24, 2) := by decide +kernel
theorem dX4_doesGo_20 : decode cX4_doesGo 20 = .ok (.imul, 1) := by decide +kernel
theorem dX4_doesGo_21 : decode cX4_doesGo 21 = .ok (.istore_n 3, 1) := by decide +kernel
theorem dX4_doesGo_22 : decode cX4_doesGo 22 = .ok (.iinc 4 1, 3) := by decide +kernel
theorem dX4_doesGo_25 : decode cX4_doesGo 25 = .ok (.goto (-14), 3) := by decide +kernel
theorem dX4_doesGo_28 : decode cX4_doesGo 28 = .ok (.iconst 0, 1) := by decide +kernel
theorem dX4_doesGo_29 : decode cX4_doesGo 29 = .ok (.istore 4, 2) := by decide +kernel
theorem dX4_doesGo_31 : decode cX4_doesGo 31 = .ok (.iload 4, 2) := by decide +kernel
theorem dX4_doesGo_33 : decode cX4_doesGo 33 = .ok (.iload_n 2, 1) := by decide +kernel
theorem dX4_doesGo_34 : decode cX4_doesGo 34 = .ok (.if_icmp .ge 24, 3) := by decide +kernel
theorem dX4_doesGo_37 : decode cX4_doesGo 37 = .ok (.aload_n 0, 1) := by decide +kernel
theorem dX4_doesGo_38 : decode cX4_doesGo 38 = .ok (.iload_n 1, 1) := by decide +kernel
theorem dX4_doesGo_39 : decode cX4_doesGo 39 = .ok (.iload_n 3, 1) := by decide +kernel
theorem dX4_doesGo_40 : decode cX4_doesGo 40 = .ok (.idiv, 1) := by decide +kernel
theorem dX4_doesGo_41 : decode cX4_doesGo 41 = .ok (.bipush 24, 2) := by decide +kernel
theorem dX4_doesGo_43 : decode cX4_doesGo 43 = .ok (.irem, 1) := by decide +kernel
theorem dX4_doesGo_44 : decode cX4_doesGo 44 = .ok (.invokevirtual 113, 3) := by decide +kernel
theorem dX4_doesGo_47 : decode cX4_doesGo 47 = .ok (.iload_n 3, 1) := by decide +kernel
theorem dX4_doesGo_48 : decode cX4_doesGo 48 = .ok (.bipush 24, 2) := by decide +kernel
theorem dX4_doesGo_50 : decode cX4_doesGo 50 = .ok (.idiv, 1) := by decide +kernel
theorem dX4_doesGo_51 : decode cX4_doesGo 51 = .ok (.istore_n 3, 1) := by decide +kernel
theorem dX4_doesGo_52 : decode cX4_doesGo 52 = .ok (.iinc 4 1, 3) := by decide +kernel
theorem dX4_doesGo_55 : decode cX4_doesGo 55 = .ok (.goto (-24), 3) := by decide +kernel
theorem dX4_doesGo_58 : decode cX4_doesGo 58 = .ok (.aload_n 0, 1) := by decide +kernel
theorem dX4_doesGo_59 : decode cX4_doesGo 59 = .ok (.getfield 101, 3) := by decide +kernel
theorem dX4_doesGo_62 : decode cX4_doesGo 62 = .ok (.bipush 24, 2) := by decide +kernel
theorem dX4_doesGo_64 : decode cX4_doesGo 64 = .ok (.if_icmp .ne 7, 3) := by decide +kernel
theorem dX4_doesGo_67 : decode cX4_doesGo 67 = .ok (.iconst 1, 1) := by decide +kernel
theorem dX4_doesGo_68 : decode cX4_doesGo 68 = .ok (.goto 4, 3) := by decide +kernel
theorem dX4_doesGo_71 : decode cX4_doesGo 71 = .ok (.iconst 0, 1) := by decide +kernel
theorem dX4_doesGo_72 : decode cX4_doesGo 72 = .ok (.istore 4, 2) := by decide +kernel
theorem dX4_doesGo_74 : decode cX4_doesGo 74 = .ok (.aload_n 0, 1) := by decide +kernel
theorem dX4_doesGo_75 : decode cX4_doesGo 75 = .ok (.iconst 1, 1) := by decide +kernel
end
section
theorem dX4_doesGo_76 : decode cX4_doesGo 76 = .ok (.iconst 0, 1) := by decide +kernel
theorem dX4_doesGo_77 : decode cX4_doesGo 77 = .ok (.invokevirtual 121, 3) := by decide +kernel
theorem dX4_doesGo_80 : decode cX4_doesGo 80 = .ok (.iload 4, 2) := by decide +kernel
theorem dX4_doesGo_82 : decode cX4_doesGo 82 = .ok (.ireturn, 1) := by decide +kernel
theorem dX4_fewest_0 : decode cX4_fewest 0 = .ok (.iload_n 1, 1) := by decide +kernel
theorem dX4_fewest_1 : decode cX4_fewest 1 = .ok (.iconst 0, 1) := by decide +kernel
theorem dX4_fewest_2 : decode cX4_fewest 2 = .ok (.iconst 1, 1) := by decide +kernel
theorem dX4_fewest_3 : decode cX4_fewest 3 = .ok (.invokestatic 71, 3) := by decide +kernel
theorem dX4_fewest_6 : decode cX4_fewest 6 = .ok (.ifCond .ne 10, 3) := by decide +kernel
theorem dX4_fewest_9 : decode cX4_fewest 9 = .ok (.aload_n 0, 1) := by decide +kernel
theorem dX4_fewest_10 : decode cX4_fewest 10 = .ok (.bipush (-2), 2) := by decide +kernel
theorem dX4_fewest_12 : decode cX4_fewest 12 = .ok (.invokevirtual 60, 3) := by decide +kernel
theorem dX4_fewest_15 : decode cX4_fewest 15 = .ok (.ireturn, 1) := by decide +kernel
theorem dX4_fewest_16 : decode cX4_fewest 16 = .ok (.aload_n 0, 1) := by decide +kernel
theorem dX4_fewest_17 : decode cX4_fewest 17 = .ok (.getfield 101, 3) := by decide +kernel
theorem dX4_fewest_20 : decode cX4_fewest 20 = .ok (.bipush 24, 2) := by decide +kernel
theorem dX4_fewest_22 : decode cX4_fewest 22 = .ok (.if_icmp .ne 14, 3) := by decide +kernel
theorem dX4_fewest_25 : decode cX4_fewest 25 = .ok (.iload_n 1, 1) := by decide +kernel
theorem dX4_fewest_26 : decode cX4_fewest 26 = .ok (.ifCond .ne 7, 3) := by decide +kernel
theorem dX4_fewest_29 : decode cX4_fewest 29 = .ok (.iconst 0, 1) := by decide +kernel
theorem dX4_fewest_30 : decode cX4_fewest 30 = .ok (.goto 5, 3) := by decide +kernel
theorem dX4_fewest_33 : decode cX4_fewest 33 = .ok (.bipush (-9), 2) := by decide +kernel
theorem dX4_fewest_35 : decode cX4_fewest 35 = .ok (.ireturn, 1) := by decide +kernel
theorem dX4_fewest_36 : decode cX4_fewest 36 = .ok (.iconst 1, 1) := by decide +kernel
theorem dX4_fewest_37 : decode cX4_fewest 37 = .ok (.istore_n 2, 1) := by decide +kernel
theorem dX4_fewest_38 : decode cX4_fewest 38 = .ok (.iconst 1, 1) := by decide +kernel
theorem dX4_fewest_39 : decode cX4_fewest 39 = .ok (.istore_n 3, 1) := by decide +kernel
theorem dX4_fewest_40 : decode cX4_fewest 40 = .ok (.iload_n 3, 1) := by decide +kernel
theorem dX4_fewest_41 : decode cX4_fewest 41 = .ok (.iconst 4, 1) := by decide +kernel
theorem dX4_fewest_42 : decode cX4_fewest 42 = .ok (.if_icmp .ge 56, 3) := by decide +kernel
theorem dX4_fewest_45 : decode cX4_fewest 45 = .ok (.iload_n 2, 1) := by decide +kernel
theorem dX4_fewest_46 : decode cX4_fewest 46 = .ok (.istore 4, 2) := by decide +kernel
theorem dX4_fewest_48 : decode cX4_fewest 48 = .ok (.iload_n 2, 1) := by decide +kernel
theorem dX4_fewest_49 : decode cX4_fewest 49 = .ok (.bipush 24, 2) := by decide +kernel
theorem dX4_fewest_51 : decode cX4_fewest 51 = .ok (.imul, 1) := by decide +kernel
theorem dX4_fewest_52 : decode cX4_fewest 52 = .ok (.istore_n 2, 1) := by decide +kernel
theorem dX4_fewest_53 : decode cX4_fewest 53 = .ok (.iconst 0, 1) := by decide +kernel
theorem dX4_fewest_54 : decode cX4_fewest 54 = .ok (.istore 5, 2) := by decide +kernel
theorem dX4_fewest_56 : decode cX4_fewest 56 = .ok (.iload 5, 2) := by decide +kernel
theorem dX4_fewest_58 : decode cX4_fewest 58 = .ok (.iload_n 2, 1) := by decide +kernel
theorem dX4_fewest_59 : decode cX4_fewest 59 = .ok (.if_icmp .ge 33, 3) := by decide +kernel
theorem dX4_fewest_62 : decode cX4_fewest 62 = .ok (.aload_n 0, 1) := by decide +kernel
theorem dX4_fewest_63 : decode cX4_fewest 63 = .ok (.iload 5, 2) := by decide +kernel
theorem dX4_fewest_65 : decode cX4_fewest 65 = .ok (.iload_n 3, 1) := by decide +kernel
theorem dX4_fewest_66 : decode cX4_fewest 66 = .ok (.invokevirtual 228, 3) := by decide +kernel
theorem dX4_fewest_69 : decode cX4_fewest 69 = .ok (.ifCond .eq 17, 3) := by decide +kernel
theorem dX4_fewest_72 : decode cX4_fewest 72 = .ok (.iload_n 1, 1) := by decide +kernel
theorem dX4_fewest_73 : decode cX4_fewest 73 = .ok (.ifCond .ne 7, 3) := by decide +kernel
theorem dX4_fewest_76 : decode cX4_fewest 76 = .ok (.iload_n 3, 1) := by decide +kernel
theorem dX4_fewest_77 : decode cX4_fewest 77 = .ok (.goto 8, 3) := by decide +kernel
theorem dX4_fewest_80 : decode cX4_fewest 80 = .ok (.iload 5, 2) := by decide +kernel
theorem dX4_fewest_82 : decode cX4_fewest 82 = .ok (.iload 4, 2) := by decide +kernel
theorem dX4_fewest_84 : decode cX4_fewest 84 = .ok (.idiv, 1) := by decide +kernel
theorem dX4_fewest_85 : decode cX4_fewest 85 = .ok (.ireturn, 1) := by decide +kernel
theorem dX4_fewest_86 : decode cX4_fewest 86 = .ok (.iinc 5 1, 3) := by decide +kernel
theorem dX4_fewest_89 : decode cX4_fewest 89 = .ok (.goto (-33), 3) := by decide +kernel
theorem dX4_fewest_92 : decode cX4_fewest 92 = .ok (.iinc 3 1, 3) := by decide +kernel
theorem dX4_fewest_95 : decode cX4_fewest 95 = .ok (.goto (-55), 3) := by decide +kernel
theorem dX4_fewest_98 : decode cX4_fewest 98 = .ok (.bipush (-9), 2) := by decide +kernel
theorem dX4_fewest_100 : decode cX4_fewest 100 = .ok (.ireturn, 1) := by decide +kernel
theorem dX4_soreAround_0 : decode cX4_soreAround 0 = .ok (.iconst 0, 1) := by decide +kernel
theorem dX4_soreAround_1 : decode cX4_soreAround 1 = .ok (.istore_n 2, 1) := by decide +kernel
theorem dX4_soreAround_2 : decode cX4_soreAround 2 = .ok (.iconst 0, 1) := by decide +kernel
theorem dX4_soreAround_3 : decode cX4_soreAround 3 = .ok (.istore_n 3, 1) := by decide +kernel
theorem dX4_soreAround_4 : decode cX4_soreAround 4 = .ok (.iload_n 3, 1) := by decide +kernel
theorem dX4_soreAround_5 : decode cX4_soreAround 5 = .ok (.bipush 24, 2) := by decide +kernel
theorem dX4_soreAround_7 : decode cX4_soreAround 7 = .ok (.if_icmp .ge 31, 3) := by decide +kernel
theorem dX4_soreAround_10 : decode cX4_soreAround 10 = .ok (.iload_n 2, 1) := by decide +kernel
theorem dX4_soreAround_11 : decode cX4_soreAround 11 = .ok (.iload_n 3, 1) := by decide +kernel
theorem dX4_soreAround_12 : decode cX4_soreAround 12 = .ok (.iload_n 1, 1) := by decide +kernel
theorem dX4_soreAround_13 : decode cX4_soreAround 13 = .ok (.invokestatic 167, 3) := by decide +kernel
theorem dX4_soreAround_16 : decode cX4_soreAround 16 = .ok (.iconst 1, 1) := by decide +kernel
theorem dX4_soreAround_17 : decode cX4_soreAround 17 = .ok (.if_icmp .ne 12, 3) := by decide +kernel
theorem dX4_soreAround_20 : decode cX4_soreAround 20 = .ok (.aload_n 0, 1) := by decide +kernel
theorem dX4_soreAround_21 : decode cX4_soreAround 21 = .ok (.getfield 13, 3) := by decide +kernel
theorem dX4_soreAround_24 : decode cX4_soreAround 24 = .ok (.iload_n 3, 1) := by decide +kernel
theorem dX4_soreAround_25 : decode cX4_soreAround 25 = .ok (.iaload, 1) := by decide +kernel
theorem dX4_soreAround_26 : decode cX4_soreAround 26 = .ok (.goto 4, 3) := by decide +kernel
theorem dX4_soreAround_29 : decode cX4_soreAround 29 = .ok (.iconst 0, 1) := by decide +kernel
theorem dX4_soreAround_30 : decode cX4_soreAround 30 = .ok (.iadd, 1) := by decide +kernel
theorem dX4_soreAround_31 : decode cX4_soreAround 31 = .ok (.istore_n 2, 1) := by decide +kernel
theorem dX4_soreAround_32 : decode cX4_soreAround 32 = .ok (.iinc 3 1, 3) := by decide +kernel
theorem dX4_soreAround_35 : decode cX4_soreAround 35 = .ok (.goto (-31), 3) := by decide +kernel
theorem dX4_soreAround_38 : decode cX4_soreAround 38 = .ok (.iload_n 2, 1) := by decide +kernel
theorem dX4_soreAround_39 : decode cX4_soreAround 39 = .ok (.ireturn, 1) := by decide +kernel
theorem dX4_bears_0 : decode cX4_bears 0 = .ok (.iload_n 1, 1) := by decide +kernel
theorem dX4_bears_1 : decode cX4_bears 1 = .ok (.invokestatic 104, 3) := by decide +kernel
theorem dX4_bears_4 : decode cX4_bears 4 = .ok (.ifCond .eq 15, 3) := by decide +kernel
theorem dX4_bears_7 : decode cX4_bears 7 = .ok (.iload_n 2, 1) := by decide +kernel
theorem dX4_bears_8 : decode cX4_bears 8 = .ok (.invokestatic 104, 3) := by decide +kernel
theorem dX4_bears_11 : decode cX4_bears 11 = .ok (.ifCond .eq 8, 3) := by decide +kernel
theorem dX4_bears_14 : decode cX4_bears 14 = .ok (.iload_n 1, 1) := by decide +kernel
theorem dX4_bears_15 : decode cX4_bears 15 = .ok (.iload_n 2, 1) := by decide +kernel
theorem dX4_bears_16 : decode cX4_bears 16 = .ok (.if_icmp .ne 9, 3) := by decide +kernel
theorem dX4_bears_19 : decode cX4_bears 19 = .ok (.aload_n 0, 1) := by decide +kernel
theorem dX4_bears_20 : decode cX4_bears 20 = .ok (.iconst (-1), 1) := by decide +kernel
theorem dX4_bears_21 : decode cX4_bears 21 = .ok (.invokevirtual 60, 3) := by decide +kernel
theorem dX4_bears_24 : decode cX4_bears 24 = .ok (.ireturn, 1) := by decide +kernel
theorem dX4_bears_25 : decode cX4_bears 25 = .ok (.aload_n 0, 1) := by decide +kernel
theorem dX4_bears_26 : decode cX4_bears 26 = .ok (.getfield 13, 3) := by decide +kernel
theorem dX4_bears_29 : decode cX4_bears 29 = .ok (.iload_n 1, 1) := by decide +kernel
theorem dX4_bears_30 : decode cX4_bears 30 = .ok (.iaload, 1) := by decide +kernel
theorem dX4_bears_31 : decode cX4_bears 31 = .ok (.aload_n 0, 1) := by decide +kernel
theorem dX4_bears_32 : decode cX4_bears 32 = .ok (.getfield 13, 3) := by decide +kernel
theorem dX4_bears_35 : decode cX4_bears 35 = .ok (.iload_n 2, 1) := by decide +kernel
theorem dX4_bears_36 : decode cX4_bears 36 = .ok (.iaload, 1) := by decide +kernel
theorem dX4_bears_37 : decode cX4_bears 37 = .ok (.isub, 1) := by decide +kernel
theorem dX4_bears_38 : decode cX4_bears 38 = .ok (.istore_n 3, 1) := by decide +kernel
theorem dX4_bears_39 : decode cX4_bears 39 = .ok (.iload_n 3, 1) := by decide +kernel
theorem dX4_bears_40 : decode cX4_bears 40 = .ok (.ifCond .ne 15, 3) := by decide +kernel
theorem dX4_bears_43 : decode cX4_bears 43 = .ok (.aload_n 0, 1) := by decide +kernel
theorem dX4_bears_44 : decode cX4_bears 44 = .ok (.iload_n 1, 1) := by decide +kernel
theorem dX4_bears_45 : decode cX4_bears 45 = .ok (.invokevirtual 231, 3) := by decide +kernel
theorem dX4_bears_48 : decode cX4_bears 48 = .ok (.aload_n 0, 1) := by decide +kernel
theorem dX4_bears_49 : decode cX4_bears 49 = .ok (.iload_n 2, 1) := by decide +kernel
theorem dX4_bears_50 : decode cX4_bears 50 = .ok (.invokevirtual 231, 3) := by decide +kernel
theorem dX4_bears_53 : decode cX4_bears 53 = .ok (.isub, 1) := by decide +kernel
theorem dX4_bears_54 : decode cX4_bears 54 = .ok (.istore_n 3, 1) := by decide +kernel
theorem dX4_bears_55 : decode cX4_bears 55 = .ok (.iload_n 3, 1) := by decide +kernel
theorem dX4_bears_56 : decode cX4_bears 56 = .ok (.ifCond .ne 7, 3) := by decide +kernel
theorem dX4_bears_59 : decode cX4_bears 59 = .ok (.iload_n 1, 1) := by decide +kernel
theorem dX4_bears_60 : decode cX4_bears 60 = .ok (.iload_n 2, 1) := by decide +kernel
theorem dX4_bears_61 : decode cX4_bears 61 = .ok (.isub, 1) := by decide +kernel
theorem dX4_bears_62 : decode cX4_bears 62 = .ok (.istore_n 3, 1) := by decide +kernel
theorem dX4_bears_63 : decode cX4_bears 63 = .ok (.iload_n 3, 1) := by decide +kernel
theorem dX4_bears_64 : decode cX4_bears 64 = .ok (.ifCond .ge 7, 3) := by decide +kernel
theorem dX4_bears_67 : decode cX4_bears 67 = .ok (.iload_n 1, 1) := by decide +kernel
theorem dX4_bears_68 : decode cX4_bears 68 = .ok (.goto 4, 3) := by decide +kernel
theorem dX4_bears_71 : decode cX4_bears 71 = .ok (.iload_n 2, 1) := by decide +kernel
theorem dX4_bears_72 : decode cX4_bears 72 = .ok (.ireturn, 1) := by decide +kernel
theorem dX4_boxOf_0 : decode cX4_boxOf 0 = .ok (.iload_n 1, 1) := by decide +kernel
theorem dX4_boxOf_1 : decode cX4_boxOf 1 = .ok (.iload_n 2, 1) := by decide +kernel
theorem dX4_boxOf_2 : decode cX4_boxOf 2 = .ok (.bipush 6, 2) := by decide +kernel
theorem dX4_boxOf_4 : decode cX4_boxOf 4 = .ok (.idiv, 1) := by decide +kernel
theorem dX4_boxOf_5 : decode cX4_boxOf 5 = .ok (.iload_n 0, 1) := by decide +kernel
theorem dX4_boxOf_6 : decode cX4_boxOf 6 = .ok (.imul, 1) := by decide +kernel
theorem dX4_boxOf_7 : decode cX4_boxOf 7 = .ok (.iconst 4, 1) := by decide +kernel
theorem dX4_boxOf_8 : decode cX4_boxOf 8 = .ok (.idiv, 1) := by decide +kernel
theorem dX4_boxOf_9 : decode cX4_boxOf 9 = .ok (.imul, 1) := by decide +kernel
theorem dX4_boxOf_10 : decode cX4_boxOf 10 = .ok (.iload_n 2, 1) := by decide +kernel
theorem dX4_boxOf_11 : decode cX4_boxOf 11 = .ok (.bipush 6, 2) := by decide +kernel
theorem dX4_boxOf_13 : decode cX4_boxOf 13 = .ok (.irem, 1) := by decide +kernel
theorem dX4_boxOf_14 : decode cX4_boxOf 14 = .ok (.iload_n 1, 1) := by decide +kernel
theorem dX4_boxOf_15 : decode cX4_boxOf 15 = .ok (.imul, 1) := by decide +kernel
theorem dX4_boxOf_16 : decode cX4_boxOf 16 = .ok (.bipush 6, 2) := by decide +kernel
theorem dX4_boxOf_18 : decode cX4_boxOf 18 = .ok (.idiv, 1) := by decide +kernel
theorem dX4_boxOf_19 : decode cX4_boxOf 19 = .ok (.iadd, 1) := by decide +kernel
theorem dX4_boxOf_20 : decode cX4_boxOf 20 = .ok (.ireturn, 1) := by decide +kernel
theorem dX4_grid_0 : decode cX4_grid 0 = .ok (.iload_n 1, 1) := by decide +kernel
theorem dX4_grid_1 : decode cX4_grid 1 = .ok (.iconst 1, 1) := by decide +kernel
theorem dX4_grid_2 : decode cX4_grid 2 = .ok (.if_icmp .lt 8, 3) := by decide +kernel
theorem dX4_grid_5 : decode cX4_grid 5 = .ok (.iload_n 2, 1) := by decide +kernel
theorem dX4_grid_6 : decode cX4_grid 6 = .ok (.iconst 1, 1) := by decide +kernel
theorem dX4_grid_7 : decode cX4_grid 7 = .ok (.if_icmp .ge 8, 3) := by decide +kernel
theorem dX4_grid_10 : decode cX4_grid 10 = .ok (.bipush (-4), 2) := by decide +kernel
theorem dX4_grid_12 : decode cX4_grid 12 = .ok (.goto 46, 3) := by decide +kernel
theorem dX4_grid_15 : decode cX4_grid 15 = .ok (.iload_n 1, 1) := by decide +kernel
theorem dX4_grid_16 : decode cX4_grid 16 = .ok (.iconst 4, 1) := by decide +kernel
theorem dX4_grid_17 : decode cX4_grid 17 = .ok (.if_icmp .gt 9, 3) := by decide +kernel
theorem dX4_grid_20 : decode cX4_grid 20 = .ok (.iload_n 2, 1) := by decide +kernel
theorem dX4_grid_21 : decode cX4_grid 21 = .ok (.bipush 6, 2) := by decide +kernel
theorem dX4_grid_23 : decode cX4_grid 23 = .ok (.if_icmp .le 8, 3) := by decide +kernel
theorem dX4_grid_26 : decode cX4_grid 26 = .ok (.bipush (-6), 2) := by decide +kernel
theorem dX4_grid_28 : decode cX4_grid 28 = .ok (.goto 30, 3) := by decide +kernel
theorem dX4_grid_31 : decode cX4_grid 31 = .ok (.iload_n 3, 1) := by decide +kernel
theorem dX4_grid_32 : decode cX4_grid 32 = .ok (.invokestatic 104, 3) := by decide +kernel
theorem dX4_grid_35 : decode cX4_grid 35 = .ok (.ifCond .ne 7, 3) := by decide +kernel
theorem dX4_grid_38 : decode cX4_grid 38 = .ok (.iconst (-1), 1) := by decide +kernel
theorem dX4_grid_39 : decode cX4_grid 39 = .ok (.goto 19, 3) := by decide +kernel
theorem dX4_grid_42 : decode cX4_grid 42 = .ok (.iload 4, 2) := by decide +kernel
theorem dX4_grid_44 : decode cX4_grid 44 = .ok (.iconst 0, 1) := by decide +kernel
theorem dX4_grid_45 : decode cX4_grid 45 = .ok (.iconst 1, 1) := by decide +kernel
theorem dX4_grid_46 : decode cX4_grid 46 = .ok (.invokestatic 71, 3) := by decide +kernel
theorem dX4_grid_49 : decode cX4_grid 49 = .ok (.ifCond .ne 8, 3) := by decide +kernel
theorem dX4_grid_52 : decode cX4_grid 52 = .ok (.bipush (-2), 2) := by decide +kernel
theorem dX4_grid_54 : decode cX4_grid 54 = .ok (.goto 4, 3) := by decide +kernel
theorem dX4_grid_57 : decode cX4_grid 57 = .ok (.iconst 0, 1) := by decide +kernel
theorem dX4_grid_58 : decode cX4_grid 58 = .ok (.istore 5, 2) := by decide +kernel
theorem dX4_grid_60 : decode cX4_grid 60 = .ok (.iload 5, 2) := by decide +kernel
theorem dX4_grid_62 : decode cX4_grid 62 = .ok (.ifCond .eq 10, 3) := by decide +kernel
theorem dX4_grid_65 : decode cX4_grid 65 = .ok (.aload_n 0, 1) := by decide +kernel
theorem dX4_grid_66 : decode cX4_grid 66 = .ok (.iload 5, 2) := by decide +kernel
theorem dX4_grid_68 : decode cX4_grid 68 = .ok (.invokevirtual 60, 3) := by decide +kernel
theorem dX4_grid_71 : decode cX4_grid 71 = .ok (.ireturn, 1) := by decide +kernel
theorem dX4_grid_72 : decode cX4_grid 72 = .ok (.iload_n 1, 1) := by decide +kernel
theorem dX4_grid_73 : decode cX4_grid 73 = .ok (.iload_n 2, 1) := by decide +kernel
theorem dX4_grid_74 : decode cX4_grid 74 = .ok (.iload_n 3, 1) := by decide +kernel
theorem dX4_grid_75 : decode cX4_grid 75 = .ok (.invokestatic 234, 3) := by decide +kernel
theorem dX4_grid_78 : decode cX4_grid 78 = .ok (.istore 6, 2) := by decide +kernel
theorem dX4_grid_80 : decode cX4_grid 80 = .ok (.iconst 0, 1) := by decide +kernel
theorem dX4_grid_81 : decode cX4_grid 81 = .ok (.istore 7, 2) := by decide +kernel
theorem dX4_grid_83 : decode cX4_grid 83 = .ok (.iconst 0, 1) := by decide +kernel
theorem dX4_grid_84 : decode cX4_grid 84 = .ok (.istore 8, 2) := by decide +kernel
theorem dX4_grid_86 : decode cX4_grid 86 = .ok (.iload 8, 2) := by decide +kernel
theorem dX4_grid_88 : decode cX4_grid 88 = .ok (.bipush 24, 2) := by decide +kernel
theorem dX4_grid_90 : decode cX4_grid 90 = .ok (.if_icmp .ge 31, 3) := by decide +kernel
theorem dX4_grid_93 : decode cX4_grid 93 = .ok (.iload 7, 2) := by decide +kernel
theorem dX4_grid_95 : decode cX4_grid 95 = .ok (.iload_n 1, 1) := by decide +kernel
theorem dX4_grid_96 : decode cX4_grid 96 = .ok (.iload_n 2, 1) := by decide +kernel
theorem dX4_grid_97 : decode cX4_grid 97 = .ok (.iload 8, 2) := by decide +kernel
theorem dX4_grid_99 : decode cX4_grid 99 = .ok (.invokestatic 234, 3) := by decide +kernel
theorem dX4_grid_102 : decode cX4_grid 102 = .ok (.iload 6, 2) := by decide +kernel
theorem dX4_grid_104 : decode cX4_grid 104 = .ok (.if_icmp .ne 7, 3) := by decide +kernel
theorem dX4_grid_107 : decode cX4_grid 107 = .ok (.iconst 1, 1) := by decide +kernel
theorem dX4_grid_108 : decode cX4_grid 108 = .ok (.goto 4, 3) := by decide +kernel
theorem dX4_grid_111 : decode cX4_grid 111 = .ok (.iconst 0, 1) := by decide +kernel
theorem dX4_grid_112 : decode cX4_grid 112 = .ok (.iadd, 1) := by decide +kernel
theorem dX4_grid_113 : decode cX4_grid 113 = .ok (.istore 7, 2) := by decide +kernel
theorem dX4_grid_115 : decode cX4_grid 115 = .ok (.iinc 8 1, 3) := by decide +kernel
theorem dX4_grid_118 : decode cX4_grid 118 = .ok (.goto (-32), 3) := by decide +kernel
theorem dX4_grid_121 : decode cX4_grid 121 = .ok (.iload 4, 2) := by decide +kernel
theorem dX4_grid_123 : decode cX4_grid 123 = .ok (.ifCond .ne 8, 3) := by decide +kernel
theorem dX4_grid_126 : decode cX4_grid 126 = .ok (.iload 6, 2) := by decide +kernel
theorem dX4_grid_128 : decode cX4_grid 128 = .ok (.goto 5, 3) := by decide +kernel
theorem dX4_grid_131 : decode cX4_grid 131 = .ok (.iload 7, 2) := by decide +kernel
theorem dX4_grid_133 : decode cX4_grid 133 = .ok (.ireturn, 1) := by decide +kernel
theorem dX4_taught_0 : decode cX4_taught 0 = .ok (.aload_n 0, 1) := by decide +kernel
theorem dX4_taught_1 : decode cX4_taught 1 = .ok (.getfield 101, 3) := by decide +kernel
theorem dX4_taught_4 : decode cX4_taught 4 = .ok (.bipush 24, 2) := by decide +kernel
theorem dX4_taught_6 : decode cX4_taught 6 = .ok (.if_icmp .ne 10, 3) := by decide +kernel
theorem dX4_taught_9 : decode cX4_taught 9 = .ok (.aload_n 0, 1) := by decide +kernel
theorem dX4_taught_10 : decode cX4_taught 10 = .ok (.bipush (-3), 2) := by decide +kernel
theorem dX4_taught_12 : decode cX4_taught 12 = .ok (.invokevirtual 60, 3) := by decide +kernel
theorem dX4_taught_15 : decode cX4_taught 15 = .ok (.ireturn, 1) := by decide +kernel
theorem dX4_taught_16 : decode cX4_taught 16 = .ok (.bipush (-9), 2) := by decide +kernel
theorem dX4_taught_18 : decode cX4_taught 18 = .ok (.istore_n 1, 1) := by decide +kernel
theorem dX4_taught_19 : decode cX4_taught 19 = .ok (.iconst (-1), 1) := by decide +kernel
theorem dX4_taught_20 : decode cX4_taught 20 = .ok (.istore_n 2, 1) := by decide +kernel
theorem dX4_taught_21 : decode cX4_taught 21 = .ok (.iconst 0, 1) := by decide +kernel
theorem dX4_taught_22 : decode cX4_taught 22 = .ok (.istore_n 3, 1) := by decide +kernel
theorem dX4_taught_23 : decode cX4_taught 23 = .ok (.iload_n 3, 1) := by decide +kernel
theorem dX4_taught_24 : decode cX4_taught 24 = .ok (.bipush 8, 2) := by decide +kernel
theorem dX4_taught_26 : decode cX4_taught 26 = .ok (.if_icmp .ge 52, 3) := by decide +kernel
theorem dX4_taught_29 : decode cX4_taught 29 = .ok (.aload_n 0, 1) := by decide +kernel
theorem dX4_taught_30 : decode cX4_taught 30 = .ok (.aload_n 0, 1) := by decide +kernel
theorem dX4_taught_31 : decode cX4_taught 31 = .ok (.getfield 101, 3) := by decide +kernel
theorem dX4_taught_34 : decode cX4_taught 34 = .ok (.iload_n 3, 1) := by decide +kernel
theorem dX4_taught_35 : decode cX4_taught 35 = .ok (.iconst 4, 1) := by decide +kernel
theorem dX4_taught_36 : decode cX4_taught 36 = .ok (.idiv, 1) := by decide +kernel
theorem dX4_taught_37 : decode cX4_taught 37 = .ok (.iconst 2, 1) := by decide +kernel
theorem dX4_taught_38 : decode cX4_taught 38 = .ok (.iload_n 3, 1) := by decide +kernel
theorem dX4_taught_39 : decode cX4_taught 39 = .ok (.iconst 4, 1) := by decide +kernel
theorem dX4_taught_40 : decode cX4_taught 40 = .ok (.irem, 1) := by decide +kernel
theorem dX4_taught_41 : decode cX4_taught 41 = .ok (.iadd, 1) := by decide +kernel
theorem dX4_taught_42 : decode cX4_taught 42 = .ok (.invokevirtual 211, 3) := by decide +kernel
theorem dX4_taught_45 : decode cX4_taught 45 = .ok (.istore 4, 2) := by decide +kernel
theorem dX4_taught_47 : decode cX4_taught 47 = .ok (.iload 4, 2) := by decide +kernel
theorem dX4_taught_49 : decode cX4_taught 49 = .ok (.iload_n 2, 1) := by decide +kernel
theorem dX4_taught_50 : decode cX4_taught 50 = .ok (.if_icmp .gt 6, 3) := by decide +kernel
theorem dX4_taught_53 : decode cX4_taught 53 = .ok (.goto 19, 3) := by decide +kernel
theorem dX4_taught_56 : decode cX4_taught 56 = .ok (.bipush 10, 2) := by decide +kernel
theorem dX4_taught_58 : decode cX4_taught 58 = .ok (.iload_n 3, 1) := by decide +kernel
theorem dX4_taught_59 : decode cX4_taught 59 = .ok (.iconst 4, 1) := by decide +kernel
theorem dX4_taught_60 : decode cX4_taught 60 = .ok (.idiv, 1) := by decide +kernel
theorem dX4_taught_61 : decode cX4_taught 61 = .ok (.imul, 1) := by decide +kernel
theorem dX4_taught_62 : decode cX4_taught 62 = .ok (.iconst 2, 1) := by decide +kernel
theorem dX4_taught_63 : decode cX4_taught 63 = .ok (.iadd, 1) := by decide +kernel
theorem dX4_taught_64 : decode cX4_taught 64 = .ok (.iload_n 3, 1) := by decide +kernel
theorem dX4_taught_65 : decode cX4_taught 65 = .ok (.iconst 4, 1) := by decide +kernel
theorem dX4_taught_66 : decode cX4_taught 66 = .ok (.irem, 1) := by decide +kernel
theorem dX4_taught_67 : decode cX4_taught 67 = .ok (.iadd, 1) := by decide +kernel
theorem dX4_taught_68 : decode cX4_taught 68 = .ok (.istore_n 1, 1) := by decide +kernel
theorem dX4_taught_69 : decode cX4_taught 69 = .ok (.iload 4, 2) := by decide +kernel
theorem dX4_taught_71 : decode cX4_taught 71 = .ok (.istore_n 2, 1) := by decide +kernel
theorem dX4_taught_72 : decode cX4_taught 72 = .ok (.iinc 3 1, 3) := by decide +kernel
theorem dX4_taught_75 : decode cX4_taught 75 = .ok (.goto (-52), 3) := by decide +kernel
theorem dX4_taught_78 : decode cX4_taught 78 = .ok (.iload_n 1, 1) := by decide +kernel
theorem dX4_taught_79 : decode cX4_taught 79 = .ok (.ireturn, 1) := by decide +kernel
theorem dX4_row_0 : decode cX4_row 0 = .ok (.iload_n 1, 1) := by decide +kernel
theorem dX4_row_1 : decode cX4_row 1 = .ok (.iconst 0, 1) := by decide +kernel
theorem dX4_row_2 : decode cX4_row 2 = .ok (.bipush 24, 2) := by decide +kernel
theorem dX4_row_4 : decode cX4_row 4 = .ok (.invokestatic 52, 3) := by decide +kernel
theorem dX4_row_7 : decode cX4_row 7 = .ok (.istore_n 2, 1) := by decide +kernel
theorem dX4_row_8 : decode cX4_row 8 = .ok (.iload_n 2, 1) := by decide +kernel
theorem dX4_row_9 : decode cX4_row 9 = .ok (.ifCond .ne 15, 3) := by decide +kernel
theorem dX4_row_12 : decode cX4_row 12 = .ok (.aload_n 0, 1) := by decide +kernel
theorem dX4_row_13 : decode cX4_row 13 = .ok (.getfield 237, 3) := by decide +kernel
theorem dX4_row_16 : decode cX4_row 16 = .ok (.bipush 20, 2) := by decide +kernel
theorem dX4_row_18 : decode cX4_row 18 = .ok (.if_icmp .ne 6, 3) := by decide +kernel
theorem dX4_row_21 : decode cX4_row 21 = .ok (.bipush (-6), 2) := by decide +kernel
theorem dX4_row_23 : decode cX4_row 23 = .ok (.istore_n 2, 1) := by decide +kernel
theorem dX4_row_24 : decode cX4_row 24 = .ok (.iload_n 2, 1) := by decide +kernel
theorem dX4_row_25 : decode cX4_row 25 = .ok (.ifCond .eq 9, 3) := by decide +kernel
theorem dX4_row_28 : decode cX4_row 28 = .ok (.aload_n 0, 1) := by decide +kernel
theorem dX4_row_29 : decode cX4_row 29 = .ok (.iload_n 2, 1) := by decide +kernel
theorem dX4_row_30 : decode cX4_row 30 = .ok (.invokevirtual 60, 3) := by decide +kernel
theorem dX4_row_33 : decode cX4_row 33 = .ok (.ireturn, 1) := by decide +kernel
theorem dX4_row_34 : decode cX4_row 34 = .ok (.aload_n 0, 1) := by decide +kernel
theorem dX4_row_35 : decode cX4_row 35 = .ok (.getfield 43, 3) := by decide +kernel
theorem dX4_row_38 : decode cX4_row 38 = .ok (.aload_n 0, 1) := by decide +kernel
theorem dX4_row_39 : decode cX4_row 39 = .ok (.getfield 237, 3) := by decide +kernel
theorem dX4_row_42 : decode cX4_row 42 = .ok (.iload_n 1, 1) := by decide +kernel
theorem dX4_row_43 : decode cX4_row 43 = .ok (.iastore, 1) := by decide +kernel
theorem dX4_row_44 : decode cX4_row 44 = .ok (.aload_n 0, 1) := by decide +kernel
theorem dX4_row_45 : decode cX4_row 45 = .ok (.dup, 1) := by decide +kernel
theorem dX4_row_46 : decode cX4_row 46 = .ok (.getfield 237, 3) := by decide +kernel
theorem dX4_row_49 : decode cX4_row 49 = .ok (.iconst 1, 1) := by decide +kernel
theorem dX4_row_50 : decode cX4_row 50 = .ok (.iadd, 1) := by decide +kernel
theorem dX4_row_51 : decode cX4_row 51 = .ok (.putfield 237, 3) := by decide +kernel
theorem dX4_row_54 : decode cX4_row 54 = .ok (.aload_n 0, 1) := by decide +kernel
theorem dX4_row_55 : decode cX4_row 55 = .ok (.getfield 237, 3) := by decide +kernel
theorem dX4_row_58 : decode cX4_row 58 = .ok (.ireturn, 1) := by decide +kernel
theorem dX4_wrongBy_0 : decode cX4_wrongBy 0 = .ok (.aload_n 0, 1) := by decide +kernel
theorem dX4_wrongBy_1 : decode cX4_wrongBy 1 = .ok (.iconst 1, 1) := by decide +kernel
theorem dX4_wrongBy_2 : decode cX4_wrongBy 2 = .ok (.iconst 1, 1) := by decide +kernel
theorem dX4_wrongBy_3 : decode cX4_wrongBy 3 = .ok (.invokevirtual 121, 3) := by decide +kernel
theorem dX4_wrongBy_6 : decode cX4_wrongBy 6 = .ok (.aload_n 0, 1) := by decide +kernel
theorem dX4_wrongBy_7 : decode cX4_wrongBy 7 = .ok (.iload_n 1, 1) := by decide +kernel
theorem dX4_wrongBy_8 : decode cX4_wrongBy 8 = .ok (.putfield 98, 3) := by decide +kernel
theorem dX4_wrongBy_11 : decode cX4_wrongBy 11 = .ok (.bipush (-9), 2) := by decide +kernel
theorem dX4_wrongBy_13 : decode cX4_wrongBy 13 = .ok (.istore_n 2, 1) := by decide +kernel
theorem dX4_wrongBy_14 : decode cX4_wrongBy 14 = .ok (.iconst 0, 1) := by decide +kernel
theorem dX4_wrongBy_15 : decode cX4_wrongBy 15 = .ok (.istore_n 3, 1) := by decide +kernel
theorem dX4_wrongBy_16 : decode cX4_wrongBy 16 = .ok (.iload_n 3, 1) := by decide +kernel
theorem dX4_wrongBy_17 : decode cX4_wrongBy 17 = .ok (.aload_n 0, 1) := by decide +kernel
theorem dX4_wrongBy_18 : decode cX4_wrongBy 18 = .ok (.getfield 237, 3) := by decide +kernel
theorem dX4_wrongBy_21 : decode cX4_wrongBy 21 = .ok (.if_icmp .ge 41, 3) := by decide +kernel
theorem dX4_wrongBy_24 : decode cX4_wrongBy 24 = .ok (.iload_n 2, 1) := by decide +kernel
theorem dX4_wrongBy_25 : decode cX4_wrongBy 25 = .ok (.ifCond .ge 37, 3) := by decide +kernel
theorem dX4_wrongBy_28 : decode cX4_wrongBy 28 = .ok (.aload_n 0, 1) := by decide +kernel
theorem dX4_wrongBy_29 : decode cX4_wrongBy 29 = .ok (.aload_n 0, 1) := by decide +kernel
theorem dX4_wrongBy_30 : decode cX4_wrongBy 30 = .ok (.getfield 142, 3) := by decide +kernel
theorem dX4_wrongBy_33 : decode cX4_wrongBy 33 = .ok (.invokevirtual 113, 3) := by decide +kernel
theorem dX4_wrongBy_36 : decode cX4_wrongBy 36 = .ok (.aload_n 0, 1) := by decide +kernel
theorem dX4_wrongBy_37 : decode cX4_wrongBy 37 = .ok (.getfield 101, 3) := by decide +kernel
theorem dX4_wrongBy_40 : decode cX4_wrongBy 40 = .ok (.aload_n 0, 1) := by decide +kernel
theorem dX4_wrongBy_41 : decode cX4_wrongBy 41 = .ok (.getfield 43, 3) := by decide +kernel
theorem dX4_wrongBy_44 : decode cX4_wrongBy 44 = .ok (.iload_n 3, 1) := by decide +kernel
theorem dX4_wrongBy_45 : decode cX4_wrongBy 45 = .ok (.iaload, 1) := by decide +kernel
theorem dX4_wrongBy_46 : decode cX4_wrongBy 46 = .ok (.if_icmp .eq 7, 3) := by decide +kernel
theorem dX4_wrongBy_49 : decode cX4_wrongBy 49 = .ok (.iload_n 3, 1) := by decide +kernel
theorem dX4_wrongBy_50 : decode cX4_wrongBy 50 = .ok (.goto 5, 3) := by decide +kernel
theorem dX4_wrongBy_53 : decode cX4_wrongBy 53 = .ok (.bipush (-9), 2) := by decide +kernel
theorem dX4_wrongBy_55 : decode cX4_wrongBy 55 = .ok (.istore_n 2, 1) := by decide +kernel
theorem dX4_wrongBy_56 : decode cX4_wrongBy 56 = .ok (.iinc 3 1, 3) := by decide +kernel
theorem dX4_wrongBy_59 : decode cX4_wrongBy 59 = .ok (.goto (-43), 3) := by decide +kernel
theorem dX4_wrongBy_62 : decode cX4_wrongBy 62 = .ok (.aload_n 0, 1) := by decide +kernel
theorem dX4_wrongBy_63 : decode cX4_wrongBy 63 = .ok (.iconst 1, 1) := by decide +kernel
theorem dX4_wrongBy_64 : decode cX4_wrongBy 64 = .ok (.iconst 0, 1) := by decide +kernel
theorem dX4_wrongBy_65 : decode cX4_wrongBy 65 = .ok (.invokevirtual 121, 3) := by decide +kernel
theorem dX4_wrongBy_68 : decode cX4_wrongBy 68 = .ok (.iload_n 2, 1) := by decide +kernel
theorem dX4_wrongBy_69 : decode cX4_wrongBy 69 = .ok (.ireturn, 1) := by decide +kernel
theorem dX4_kinds_0 : decode cX4_kinds 0 = .ok (.iconst 0, 1) := by decide +kernel
theorem dX4_kinds_1 : decode cX4_kinds 1 = .ok (.istore_n 1, 1) := by decide +kernel
theorem dX4_kinds_2 : decode cX4_kinds 2 = .ok (.iconst 0, 1) := by decide +kernel
theorem dX4_kinds_3 : decode cX4_kinds 3 = .ok (.istore_n 2, 1) := by decide +kernel
theorem dX4_kinds_4 : decode cX4_kinds 4 = .ok (.iload_n 2, 1) := by decide +kernel
theorem dX4_kinds_5 : decode cX4_kinds 5 = .ok (.bipush 6, 2) := by decide +kernel
theorem dX4_kinds_7 : decode cX4_kinds 7 = .ok (.if_icmp .ge 27, 3) := by decide +kernel
theorem dX4_kinds_10 : decode cX4_kinds 10 = .ok (.iload_n 1, 1) := by decide +kernel
theorem dX4_kinds_11 : decode cX4_kinds 11 = .ok (.aload_n 0, 1) := by decide +kernel
theorem dX4_kinds_12 : decode cX4_kinds 12 = .ok (.iload_n 2, 1) := by decide +kernel
theorem dX4_kinds_13 : decode cX4_kinds 13 = .ok (.invokevirtual 240, 3) := by decide +kernel
theorem dX4_kinds_16 : decode cX4_kinds 16 = .ok (.ifCond .ge 9, 3) := by decide +kernel
theorem dX4_kinds_19 : decode cX4_kinds 19 = .ok (.iconst 1, 1) := by decide +kernel
theorem dX4_kinds_20 : decode cX4_kinds 20 = .ok (.iload_n 2, 1) := by decide +kernel
theorem dX4_kinds_21 : decode cX4_kinds 21 = .ok (.ishl, 1) := by decide +kernel
theorem dX4_kinds_22 : decode cX4_kinds 22 = .ok (.goto 4, 3) := by decide +kernel
theorem dX4_kinds_25 : decode cX4_kinds 25 = .ok (.iconst 0, 1) := by decide +kernel
theorem dX4_kinds_26 : decode cX4_kinds 26 = .ok (.ior, 1) := by decide +kernel
theorem dX4_kinds_27 : decode cX4_kinds 27 = .ok (.istore_n 1, 1) := by decide +kernel
theorem dX4_kinds_28 : decode cX4_kinds 28 = .ok (.iinc 2 1, 3) := by decide +kernel
theorem dX4_kinds_31 : decode cX4_kinds 31 = .ok (.goto (-27), 3) := by decide +kernel
theorem dX4_kinds_34 : decode cX4_kinds 34 = .ok (.iload_n 1, 1) := by decide +kernel
theorem dX4_kinds_35 : decode cX4_kinds 35 = .ok (.ireturn, 1) := by decide +kernel
theorem dX4_judge_0 : decode cX4_judge 0 = .ok (.aload_n 0, 1) := by decide +kernel
theorem dX4_judge_1 : decode cX4_judge 1 = .ok (.aload_n 0, 1) := by decide +kernel
theorem dX4_judge_2 : decode cX4_judge 2 = .ok (.getfield 98, 3) := by decide +kernel
theorem dX4_judge_5 : decode cX4_judge 5 = .ok (.invokevirtual 240, 3) := by decide +kernel
theorem dX4_judge_8 : decode cX4_judge 8 = .ok (.istore_n 1, 1) := by decide +kernel
theorem dX4_judge_9 : decode cX4_judge 9 = .ok (.aload_n 0, 1) := by decide +kernel
theorem dX4_judge_10 : decode cX4_judge 10 = .ok (.iconst 0, 1) := by decide +kernel
theorem dX4_judge_11 : decode cX4_judge 11 = .ok (.putfield 237, 3) := by decide +kernel
theorem dX4_judge_14 : decode cX4_judge 14 = .ok (.iload_n 1, 1) := by decide +kernel
theorem dX4_judge_15 : decode cX4_judge 15 = .ok (.ireturn, 1) := by decide +kernel
theorem dX4_evenings_0 : decode cX4_evenings 0 = .ok (.iload_n 1, 1) := by decide +kernel
theorem dX4_evenings_1 : decode cX4_evenings 1 = .ok (.iconst 0, 1) := by decide +kernel
theorem dX4_evenings_2 : decode cX4_evenings 2 = .ok (.iconst 5, 1) := by decide +kernel
theorem dX4_evenings_3 : decode cX4_evenings 3 = .ok (.invokestatic 71, 3) := by decide +kernel
theorem dX4_evenings_6 : decode cX4_evenings 6 = .ok (.ifCond .ne 8, 3) := by decide +kernel
theorem dX4_evenings_9 : decode cX4_evenings 9 = .ok (.bipush (-2), 2) := by decide +kernel
theorem dX4_evenings_11 : decode cX4_evenings 11 = .ok (.goto 10, 3) := by decide +kernel
theorem dX4_evenings_14 : decode cX4_evenings 14 = .ok (.iload_n 2, 1) := by decide +kernel
theorem dX4_evenings_15 : decode cX4_evenings 15 = .ok (.iconst 1, 1) := by decide +kernel
theorem dX4_evenings_16 : decode cX4_evenings 16 = .ok (.bipush 20, 2) := by decide +kernel
theorem dX4_evenings_18 : decode cX4_evenings 18 = .ok (.invokestatic 52, 3) := by decide +kernel
theorem dX4_evenings_21 : decode cX4_evenings 21 = .ok (.istore 4, 2) := by decide +kernel
theorem dX4_evenings_23 : decode cX4_evenings 23 = .ok (.iload 4, 2) := by decide +kernel
theorem dX4_evenings_25 : decode cX4_evenings 25 = .ok (.ifCond .eq 10, 3) := by decide +kernel
theorem dX4_evenings_28 : decode cX4_evenings 28 = .ok (.aload_n 0, 1) := by decide +kernel
theorem dX4_evenings_29 : decode cX4_evenings 29 = .ok (.iload 4, 2) := by decide +kernel
theorem dX4_evenings_31 : decode cX4_evenings 31 = .ok (.invokevirtual 60, 3) := by decide +kernel
theorem dX4_evenings_34 : decode cX4_evenings 34 = .ok (.ireturn, 1) := by decide +kernel
theorem dX4_evenings_35 : decode cX4_evenings 35 = .ok (.aload_n 0, 1) := by decide +kernel
theorem dX4_evenings_36 : decode cX4_evenings 36 = .ok (.iconst 2, 1) := by decide +kernel
theorem dX4_evenings_37 : decode cX4_evenings 37 = .ok (.iconst 1, 1) := by decide +kernel
theorem dX4_evenings_38 : decode cX4_evenings 38 = .ok (.invokevirtual 121, 3) := by decide +kernel
theorem dX4_evenings_41 : decode cX4_evenings 41 = .ok (.iload_n 3, 1) := by decide +kernel
theorem dX4_evenings_42 : decode cX4_evenings 42 = .ok (.istore 5, 2) := by decide +kernel
theorem dX4_evenings_44 : decode cX4_evenings 44 = .ok (.iconst 0, 1) := by decide +kernel
theorem dX4_evenings_45 : decode cX4_evenings 45 = .ok (.istore 6, 2) := by decide +kernel
theorem dX4_evenings_47 : decode cX4_evenings 47 = .ok (.iconst 0, 1) := by decide +kernel
theorem dX4_evenings_48 : decode cX4_evenings 48 = .ok (.istore 7, 2) := by decide +kernel
theorem dX4_evenings_50 : decode cX4_evenings 50 = .ok (.iload 7, 2) := by decide +kernel
theorem dX4_evenings_52 : decode cX4_evenings 52 = .ok (.iload_n 2, 1) := by decide +kernel
theorem dX4_evenings_53 : decode cX4_evenings 53 = .ok (.if_icmp .ge 55, 3) := by decide +kernel
theorem dX4_evenings_56 : decode cX4_evenings 56 = .ok (.iload 5, 2) := by decide +kernel
theorem dX4_evenings_58 : decode cX4_evenings 58 = .ok (.ldc 243, 2) := by decide +kernel
theorem dX4_evenings_60 : decode cX4_evenings 60 = .ok (.imul, 1) := by decide +kernel
theorem dX4_evenings_61 : decode cX4_evenings 61 = .ok (.ldc 244, 2) := by decide +kernel
theorem dX4_evenings_63 : decode cX4_evenings 63 = .ok (.iadd, 1) := by decide +kernel
theorem dX4_evenings_64 : decode cX4_evenings 64 = .ok (.istore 5, 2) := by decide +kernel
theorem dX4_evenings_66 : decode cX4_evenings 66 = .ok (.aload_n 0, 1) := by decide +kernel
theorem dX4_evenings_67 : decode cX4_evenings 67 = .ok (.iload 5, 2) := by decide +kernel
theorem dX4_evenings_69 : decode cX4_evenings 69 = .ok (.ldc 245, 2) := by decide +kernel
theorem dX4_evenings_71 : decode cX4_evenings 71 = .ok (.iand, 1) := by decide +kernel
theorem dX4_evenings_72 : decode cX4_evenings 72 = .ok (.sipush 256, 3) := by decide +kernel
theorem dX4_evenings_75 : decode cX4_evenings 75 = .ok (.idiv, 1) := by decide +kernel
theorem dX4_evenings_76 : decode cX4_evenings 76 = .ok (.bipush 24, 2) := by decide +kernel
theorem dX4_evenings_78 : decode cX4_evenings 78 = .ok (.irem, 1) := by decide +kernel
theorem dX4_evenings_79 : decode cX4_evenings 79 = .ok (.putfield 101, 3) := by decide +kernel
theorem dX4_evenings_82 : decode cX4_evenings 82 = .ok (.aload_n 0, 1) := by decide +kernel
theorem dX4_evenings_83 : decode cX4_evenings 83 = .ok (.iconst 0, 1) := by decide +kernel
theorem dX4_evenings_84 : decode cX4_evenings 84 = .ok (.putfield 142, 3) := by decide +kernel
theorem dX4_evenings_87 : decode cX4_evenings 87 = .ok (.iload 6, 2) := by decide +kernel
theorem dX4_evenings_89 : decode cX4_evenings 89 = .ok (.aload_n 0, 1) := by decide +kernel
theorem dX4_evenings_90 : decode cX4_evenings 90 = .ok (.iload_n 1, 1) := by decide +kernel
theorem dX4_evenings_91 : decode cX4_evenings 91 = .ok (.invokevirtual 179, 3) := by decide +kernel
theorem dX4_evenings_94 : decode cX4_evenings 94 = .ok (.bipush 40, 2) := by decide +kernel
theorem dX4_evenings_96 : decode cX4_evenings 96 = .ok (.invokestatic 188, 3) := by decide +kernel
theorem dX4_evenings_99 : decode cX4_evenings 99 = .ok (.iadd, 1) := by decide +kernel
theorem dX4_evenings_100 : decode cX4_evenings 100 = .ok (.istore 6, 2) := by decide +kernel
theorem dX4_evenings_102 : decode cX4_evenings 102 = .ok (.iinc 7 1, 3) := by decide +kernel
theorem dX4_evenings_105 : decode cX4_evenings 105 = .ok (.goto (-55), 3) := by decide +kernel
theorem dX4_evenings_108 : decode cX4_evenings 108 = .ok (.aload_n 0, 1) := by decide +kernel
theorem dX4_evenings_109 : decode cX4_evenings 109 = .ok (.iconst 2, 1) := by decide +kernel
theorem dX4_evenings_110 : decode cX4_evenings 110 = .ok (.iconst 0, 1) := by decide +kernel
theorem dX4_evenings_111 : decode cX4_evenings 111 = .ok (.invokevirtual 121, 3) := by decide +kernel
theorem dX4_evenings_114 : decode cX4_evenings 114 = .ok (.iload 6, 2) := by decide +kernel
theorem dX4_evenings_116 : decode cX4_evenings 116 = .ok (.ireturn, 1) := by decide +kernel
theorem dX4_count_0 : decode cX4_count 0 = .ok (.iload_n 1, 1) := by decide +kernel
theorem dX4_count_1 : decode cX4_count 1 = .ok (.bipush 11, 2) := by decide +kernel
theorem dX4_count_3 : decode cX4_count 3 = .ok (.bipush 16, 2) := by decide +kernel
theorem dX4_count_5 : decode cX4_count 5 = .ok (.invokestatic 71, 3) := by decide +kernel
theorem dX4_count_8 : decode cX4_count 8 = .ok (.ifCond .eq 13, 3) := by decide +kernel
theorem dX4_count_11 : decode cX4_count 11 = .ok (.aload_n 0, 1) := by decide +kernel
theorem dX4_count_12 : decode cX4_count 12 = .ok (.getfield 7, 3) := by decide +kernel
theorem dX4_count_15 : decode cX4_count 15 = .ok (.iload_n 1, 1) := by decide +kernel
theorem dX4_count_16 : decode cX4_count 16 = .ok (.bipush 10, 2) := by decide +kernel
theorem dX4_count_18 : decode cX4_count 18 = .ok (.isub, 1) := by decide +kernel
theorem dX4_count_19 : decode cX4_count 19 = .ok (.iaload, 1) := by decide +kernel
theorem dX4_count_20 : decode cX4_count 20 = .ok (.ireturn, 1) := by decide +kernel
theorem dX4_count_21 : decode cX4_count 21 = .ok (.iconst 0, 1) := by decide +kernel
theorem dX4_count_22 : decode cX4_count 22 = .ok (.istore_n 2, 1) := by decide +kernel
theorem dX4_count_23 : decode cX4_count 23 = .ok (.iload_n 1, 1) := by decide +kernel
theorem dX4_count_24 : decode cX4_count 24 = .ok (.tableswitch 115 0 9 #[56, 61, 66, 91, 91, 91, 91, 100, 105, 110], 56) := by decide +kernel
theorem dX4_count_80 : decode cX4_count 80 = .ok (.aload_n 0, 1) := by decide +kernel
theorem dX4_count_81 : decode cX4_count 81 = .ok (.getfield 110, 3) := by decide +kernel
theorem dX4_count_84 : decode cX4_count 84 = .ok (.ireturn, 1) := by decide +kernel
theorem dX4_count_85 : decode cX4_count 85 = .ok (.aload_n 0, 1) := by decide +kernel
theorem dX4_count_86 : decode cX4_count 86 = .ok (.getfield 142, 3) := by decide +kernel
theorem dX4_count_89 : decode cX4_count 89 = .ok (.ireturn, 1) := by decide +kernel
theorem dX4_count_90 : decode cX4_count 90 = .ok (.iconst 0, 1) := by decide +kernel
theorem dX4_count_91 : decode cX4_count 91 = .ok (.istore_n 3, 1) := by decide +kernel
theorem dX4_count_92 : decode cX4_count 92 = .ok (.iload_n 3, 1) := by decide +kernel
theorem dX4_count_93 : decode cX4_count 93 = .ok (.bipush 24, 2) := by decide +kernel
theorem dX4_count_95 : decode cX4_count 95 = .ok (.if_icmp .ge 18, 3) := by decide +kernel
theorem dX4_count_98 : decode cX4_count 98 = .ok (.iload_n 2, 1) := by decide +kernel
theorem dX4_count_99 : decode cX4_count 99 = .ok (.aload_n 0, 1) := by decide +kernel
theorem dX4_count_100 : decode cX4_count 100 = .ok (.getfield 13, 3) := by decide +kernel
theorem dX4_count_103 : decode cX4_count 103 = .ok (.iload_n 3, 1) := by decide +kernel
theorem dX4_count_104 : decode cX4_count 104 = .ok (.iaload, 1) := by decide +kernel
theorem dX4_count_105 : decode cX4_count 105 = .ok (.iadd, 1) := by decide +kernel
theorem dX4_count_106 : decode cX4_count 106 = .ok (.istore_n 2, 1) := by decide +kernel
theorem dX4_count_107 : decode cX4_count 107 = .ok (.iinc 3 1, 3) := by decide +kernel
theorem dX4_count_110 : decode cX4_count 110 = .ok (.goto (-18), 3) := by decide +kernel
theorem dX4_count_113 : decode cX4_count 113 = .ok (.iload_n 2, 1) := by decide +kernel
theorem dX4_count_114 : decode cX4_count 114 = .ok (.ireturn, 1) := by decide +kernel
theorem dX4_count_115 : decode cX4_count 115 = .ok (.aload_n 0, 1) := by decide +kernel
theorem dX4_count_116 : decode cX4_count 116 = .ok (.getfield 16, 3) := by decide +kernel
theorem dX4_count_119 : decode cX4_count 119 = .ok (.iload_n 1, 1) := by decide +kernel
theorem dX4_count_120 : decode cX4_count 120 = .ok (.iconst 3, 1) := by decide +kernel
theorem dX4_count_121 : decode cX4_count 121 = .ok (.isub, 1) := by decide +kernel
theorem dX4_count_122 : decode cX4_count 122 = .ok (.iaload, 1) := by decide +kernel
theorem dX4_count_123 : decode cX4_count 123 = .ok (.ireturn, 1) := by decide +kernel
theorem dX4_count_124 : decode cX4_count 124 = .ok (.aload_n 0, 1) := by decide +kernel
theorem dX4_count_125 : decode cX4_count 125 = .ok (.getfield 208, 3) := by decide +kernel
theorem dX4_count_128 : decode cX4_count 128 = .ok (.ireturn, 1) := by decide +kernel
theorem dX4_count_129 : decode cX4_count 129 = .ok (.aload_n 0, 1) := by decide +kernel
theorem dX4_count_130 : decode cX4_count 130 = .ok (.getfield 237, 3) := by decide +kernel
theorem dX4_count_133 : decode cX4_count 133 = .ok (.ireturn, 1) := by decide +kernel
theorem dX4_count_134 : decode cX4_count 134 = .ok (.aload_n 0, 1) := by decide +kernel
theorem dX4_count_135 : decode cX4_count 135 = .ok (.getfield 56, 3) := by decide +kernel
theorem dX4_count_138 : decode cX4_count 138 = .ok (.ireturn, 1) := by decide +kernel
theorem dX4_count_139 : decode cX4_count 139 = .ok (.bipush (-9), 2) := by decide +kernel
theorem dX4_count_141 : decode cX4_count 141 = .ok (.ireturn, 1) := by decide +kernel
theorem dJ11_isValidCodePoint_9a6ad_0 : decode cJ11_isValidCodePoint_9a6ad 0 = .ok (.iload_n 0, 1) := by decide +kernel
theorem dJ11_isValidCodePoint_9a6ad_1 : decode cJ11_isValidCodePoint_9a6ad 1 = .ok (.bipush 16, 2) := by decide +kernel
theorem dJ11_isValidCodePoint_9a6ad_3 : decode cJ11_isValidCodePoint_9a6ad 3 = .ok (.iushr, 1) := by decide +kernel
theorem dJ11_isValidCodePoint_9a6ad_4 : decode cJ11_isValidCodePoint_9a6ad 4 = .ok (.istore_n 1, 1) := by decide +kernel
theorem dJ11_isValidCodePoint_9a6ad_5 : decode cJ11_isValidCodePoint_9a6ad 5 = .ok (.iload_n 1, 1) := by decide +kernel
theorem dJ11_isValidCodePoint_9a6ad_6 : decode cJ11_isValidCodePoint_9a6ad 6 = .ok (.bipush 17, 2) := by decide +kernel
theorem dJ11_isValidCodePoint_9a6ad_8 : decode cJ11_isValidCodePoint_9a6ad 8 = .ok (.if_icmp .ge 7, 3) := by decide +kernel
theorem dJ11_isValidCodePoint_9a6ad_11 : decode cJ11_isValidCodePoint_9a6ad 11 = .ok (.iconst 1, 1) := by decide +kernel
theorem dJ11_isValidCodePoint_9a6ad_12 : decode cJ11_isValidCodePoint_9a6ad 12 = .ok (.goto 4, 3) := by decide +kernel
theorem dJ11_isValidCodePoint_9a6ad_15 : decode cJ11_isValidCodePoint_9a6ad 15 = .ok (.iconst 0, 1) := by decide +kernel
theorem dJ11_isValidCodePoint_9a6ad_16 : decode cJ11_isValidCodePoint_9a6ad 16 = .ok (.ireturn, 1) := by decide +kernel
theorem dJ11_highSurrogate_5068e_0 : decode cJ11_highSurrogate_5068e 0 = .ok (.iload_n 0, 1) := by decide +kernel
theorem dJ11_highSurrogate_5068e_1 : decode cJ11_highSurrogate_5068e 1 = .ok (.bipush 10, 2) := by decide +kernel
theorem dJ11_highSurrogate_5068e_3 : decode cJ11_highSurrogate_5068e 3 = .ok (.iushr, 1) := by decide +kernel
theorem dJ11_highSurrogate_5068e_4 : decode cJ11_highSurrogate_5068e 4 = .ok (.ldc 110, 2) := by decide +kernel
theorem dJ11_highSurrogate_5068e_6 : decode cJ11_highSurrogate_5068e 6 = .ok (.iadd, 1) := by decide +kernel
theorem dJ11_highSurrogate_5068e_7 : decode cJ11_highSurrogate_5068e 7 = .ok (.i2c, 1) := by decide +kernel
theorem dJ11_highSurrogate_5068e_8 : decode cJ11_highSurrogate_5068e 8 = .ok (.ireturn, 1) := by decide +kernel
theorem dJ11_lowSurrogate_5068e_0 : decode cJ11_lowSurrogate_5068e 0 = .ok (.iload_n 0, 1) := by decide +kernel
theorem dJ11_lowSurrogate_5068e_1 : decode cJ11_lowSurrogate_5068e 1 = .ok (.sipush 1023, 3) := by decide +kernel
theorem dJ11_lowSurrogate_5068e_4 : decode cJ11_lowSurrogate_5068e 4 = .ok (.iand, 1) := by decide +kernel
theorem dJ11_lowSurrogate_5068e_5 : decode cJ11_lowSurrogate_5068e 5 = .ok (.ldc 76, 2) := by decide +kernel
theorem dJ11_lowSurrogate_5068e_7 : decode cJ11_lowSurrogate_5068e 7 = .ok (.iadd, 1) := by decide +kernel
theorem dJ11_lowSurrogate_5068e_8 : decode cJ11_lowSurrogate_5068e 8 = .ok (.i2c, 1) := by decide +kernel
theorem dJ11_lowSurrogate_5068e_9 : decode cJ11_lowSurrogate_5068e 9 = .ok (.ireturn, 1) := by decide +kernel
theorem dJ6_compare_7cf53_0 : decode cJ6_compare_7cf53 0 = .ok (.iload_n 0, 1) := by decide +kernel
theorem dJ6_compare_7cf53_1 : decode cJ6_compare_7cf53 1 = .ok (.iload_n 1, 1) := by decide +kernel
theorem dJ6_compare_7cf53_2 : decode cJ6_compare_7cf53 2 = .ok (.if_icmp .ge 7, 3) := by decide +kernel
theorem dJ6_compare_7cf53_5 : decode cJ6_compare_7cf53 5 = .ok (.iconst (-1), 1) := by decide +kernel
theorem dJ6_compare_7cf53_6 : decode cJ6_compare_7cf53 6 = .ok (.goto 13, 3) := by decide +kernel
theorem dJ6_compare_7cf53_9 : decode cJ6_compare_7cf53 9 = .ok (.iload_n 0, 1) := by decide +kernel
theorem dJ6_compare_7cf53_10 : decode cJ6_compare_7cf53 10 = .ok (.iload_n 1, 1) := by decide +kernel
theorem dJ6_compare_7cf53_11 : decode cJ6_compare_7cf53 11 = .ok (.if_icmp .ne 7, 3) := by decide +kernel
theorem dJ6_compare_7cf53_14 : decode cJ6_compare_7cf53 14 = .ok (.iconst 0, 1) := by decide +kernel
theorem dJ6_compare_7cf53_15 : decode cJ6_compare_7cf53 15 = .ok (.goto 4, 3) := by decide +kernel
theorem dJ6_compare_7cf53_18 : decode cJ6_compare_7cf53 18 = .ok (.iconst 1, 1) := by decide +kernel
theorem dJ6_compare_7cf53_19 : decode cJ6_compare_7cf53 19 = .ok (.ireturn, 1) := by decide +kernel
theorem dJ9_floorMod_7cf53_0 : decode cJ9_floorMod_7cf53 0 = .ok (.iload_n 0, 1) := by decide +kernel
theorem dJ9_floorMod_7cf53_1 : decode cJ9_floorMod_7cf53 1 = .ok (.iload_n 1, 1) := by decide +kernel
theorem dJ9_floorMod_7cf53_2 : decode cJ9_floorMod_7cf53 2 = .ok (.irem, 1) := by decide +kernel
theorem dJ9_floorMod_7cf53_3 : decode cJ9_floorMod_7cf53 3 = .ok (.istore_n 2, 1) := by decide +kernel
theorem dJ9_floorMod_7cf53_4 : decode cJ9_floorMod_7cf53 4 = .ok (.iload_n 0, 1) := by decide +kernel
theorem dJ9_floorMod_7cf53_5 : decode cJ9_floorMod_7cf53 5 = .ok (.iload_n 1, 1) := by decide +kernel
theorem dJ9_floorMod_7cf53_6 : decode cJ9_floorMod_7cf53 6 = .ok (.ixor, 1) := by decide +kernel
theorem dJ9_floorMod_7cf53_7 : decode cJ9_floorMod_7cf53 7 = .ok (.ifCond .ge 11, 3) := by decide +kernel
theorem dJ9_floorMod_7cf53_10 : decode cJ9_floorMod_7cf53 10 = .ok (.iload_n 2, 1) := by decide +kernel
theorem dJ9_floorMod_7cf53_11 : decode cJ9_floorMod_7cf53 11 = .ok (.ifCond .eq 7, 3) := by decide +kernel
theorem dJ9_floorMod_7cf53_14 : decode cJ9_floorMod_7cf53 14 = .ok (.iload_n 2, 1) := by decide +kernel
theorem dJ9_floorMod_7cf53_15 : decode cJ9_floorMod_7cf53 15 = .ok (.iload_n 1, 1) := by decide +kernel
theorem dJ9_floorMod_7cf53_16 : decode cJ9_floorMod_7cf53 16 = .ok (.iadd, 1) := by decide +kernel
theorem dJ9_floorMod_7cf53_17 : decode cJ9_floorMod_7cf53 17 = .ok (.ireturn, 1) := by decide +kernel
theorem dJ9_floorMod_7cf53_18 : decode cJ9_floorMod_7cf53 18 = .ok (.iload_n 2, 1) := by decide +kernel
theorem dJ9_floorMod_7cf53_19 : decode cJ9_floorMod_7cf53 19 = .ok (.ireturn, 1) := by decide +kernel
theorem dJ9_abs_0f7a4_0 : decode cJ9_abs_0f7a4 0 = .ok (.iload_n 0, 1) := by decide +kernel
theorem dJ9_abs_0f7a4_1 : decode cJ9_abs_0f7a4 1 = .ok (.ifCond .ge 8, 3) := by decide +kernel
theorem dJ9_abs_0f7a4_4 : decode cJ9_abs_0f7a4 4 = .ok (.iload_n 0, 1) := by decide +kernel
theorem dJ9_abs_0f7a4_5 : decode cJ9_abs_0f7a4 5 = .ok (.ineg, 1) := by decide +kernel
theorem dJ9_abs_0f7a4_6 : decode cJ9_abs_0f7a4 6 = .ok (.goto 4, 3) := by decide +kernel
theorem dJ9_abs_0f7a4_9 : decode cJ9_abs_0f7a4 9 = .ok (.iload_n 0, 1) := by decide +kernel
theorem dJ9_abs_0f7a4_10 : decode cJ9_abs_0f7a4 10 = .ok (.ireturn, 1) := by decide +kernel
theorem dJ9_max_7cf53_0 : decode cJ9_max_7cf53 0 = .ok (.iload_n 0, 1) := by decide +kernel
theorem dJ9_max_7cf53_1 : decode cJ9_max_7cf53 1 = .ok (.iload_n 1, 1) := by decide +kernel
theorem dJ9_max_7cf53_2 : decode cJ9_max_7cf53 2 = .ok (.if_icmp .lt 7, 3) := by decide +kernel
theorem dJ9_max_7cf53_5 : decode cJ9_max_7cf53 5 = .ok (.iload_n 0, 1) := by decide +kernel
theorem dJ9_max_7cf53_6 : decode cJ9_max_7cf53 6 = .ok (.goto 4, 3) := by decide +kernel
theorem dJ9_max_7cf53_9 : decode cJ9_max_7cf53 9 = .ok (.iload_n 1, 1) := by decide +kernel
theorem dJ9_max_7cf53_10 : decode cJ9_max_7cf53 10 = .ok (.ireturn, 1) := by decide +kernel
theorem dJ9_min_7cf53_0 : decode cJ9_min_7cf53 0 = .ok (.iload_n 0, 1) := by decide +kernel
theorem dJ9_min_7cf53_1 : decode cJ9_min_7cf53 1 = .ok (.iload_n 1, 1) := by decide +kernel
theorem dJ9_min_7cf53_2 : decode cJ9_min_7cf53 2 = .ok (.if_icmp .gt 7, 3) := by decide +kernel
theorem dJ9_min_7cf53_5 : decode cJ9_min_7cf53 5 = .ok (.iload_n 0, 1) := by decide +kernel
theorem dJ9_min_7cf53_6 : decode cJ9_min_7cf53 6 = .ok (.goto 4, 3) := by decide +kernel
theorem dJ9_min_7cf53_9 : decode cJ9_min_7cf53 9 = .ok (.iload_n 1, 1) := by decide +kernel
theorem dJ9_min_7cf53_10 : decode cJ9_min_7cf53 10 = .ok (.ireturn, 1) := by decide +kernel
theorem dJ0_length_8abf5_0 : decode cJ0_length_8abf5 0 = .ok (.aload_n 0, 1) := by decide +kernel
theorem dJ0_length_8abf5_1 : decode cJ0_length_8abf5 1 = .ok (.getfield 9, 3) := by decide +kernel
theorem dJ0_length_8abf5_4 : decode cJ0_length_8abf5 4 = .ok (.arraylength, 1) := by decide +kernel
theorem dJ0_length_8abf5_5 : decode cJ0_length_8abf5 5 = .ok (.aload_n 0, 1) := by decide +kernel
theorem dJ0_length_8abf5_6 : decode cJ0_length_8abf5 6 = .ok (.invokevirtual 335, 3) := by decide +kernel
theorem dJ0_length_8abf5_9 : decode cJ0_length_8abf5 9 = .ok (.ishr, 1) := by decide +kernel
theorem dJ0_length_8abf5_10 : decode cJ0_length_8abf5 10 = .ok (.ireturn, 1) := by decide +kernel
theorem dJ0_isEmpty_aae02_0 : decode cJ0_isEmpty_aae02 0 = .ok (.aload_n 0, 1) := by decide +kernel
theorem dJ0_isEmpty_aae02_1 : decode cJ0_isEmpty_aae02 1 = .ok (.getfield 9, 3) := by decide +kernel
theorem dJ0_isEmpty_aae02_4 : decode cJ0_isEmpty_aae02 4 = .ok (.arraylength, 1) := by decide +kernel
theorem dJ0_isEmpty_aae02_5 : decode cJ0_isEmpty_aae02 5 = .ok (.ifCond .ne 7, 3) := by decide +kernel
theorem dJ0_isEmpty_aae02_8 : decode cJ0_isEmpty_aae02 8 = .ok (.iconst 1, 1) := by decide +kernel
theorem dJ0_isEmpty_aae02_9 : decode cJ0_isEmpty_aae02 9 = .ok (.goto 4, 3) := by decide +kernel
theorem dJ0_isEmpty_aae02_12 : decode cJ0_isEmpty_aae02 12 = .ok (.iconst 0, 1) := by decide +kernel
theorem dJ0_isEmpty_aae02_13 : decode cJ0_isEmpty_aae02 13 = .ok (.ireturn, 1) := by decide +kernel
theorem dJ0_charAt_5068e_0 : decode cJ0_charAt_5068e 0 = .ok (.aload_n 0, 1) := by decide +kernel
theorem dJ0_charAt_5068e_1 : decode cJ0_charAt_5068e 1 = .ok (.invokevirtual 492, 3) := by decide +kernel
theorem dJ0_charAt_5068e_4 : decode cJ0_charAt_5068e 4 = .ok (.ifCond .eq 12, 3) := by decide +kernel
theorem dJ0_charAt_5068e_7 : decode cJ0_charAt_5068e 7 = .ok (.aload_n 0, 1) := by decide +kernel
theorem dJ0_charAt_5068e_8 : decode cJ0_charAt_5068e 8 = .ok (.getfield 9, 3) := by decide +kernel
theorem dJ0_charAt_5068e_11 : decode cJ0_charAt_5068e 11 = .ok (.iload_n 1, 1) := by decide +kernel
theorem dJ0_charAt_5068e_12 : decode cJ0_charAt_5068e 12 = .ok (.invokestatic 495, 3) := by decide +kernel
theorem dJ0_charAt_5068e_15 : decode cJ0_charAt_5068e 15 = .ok (.ireturn, 1) := by decide +kernel
theorem dJ0_charAt_5068e_16 : decode cJ0_charAt_5068e 16 = .ok (.aload_n 0, 1) := by decide +kernel
theorem dJ0_charAt_5068e_17 : decode cJ0_charAt_5068e 17 = .ok (.getfield 9, 3) := by decide +kernel
theorem dJ0_charAt_5068e_20 : decode cJ0_charAt_5068e 20 = .ok (.iload_n 1, 1) := by decide +kernel
theorem dJ0_charAt_5068e_21 : decode cJ0_charAt_5068e 21 = .ok (.invokestatic 498, 3) := by decide +kernel
theorem dJ0_charAt_5068e_24 : decode cJ0_charAt_5068e 24 = .ok (.ireturn, 1) := by decide +kernel
theorem dJ0_indexOf_0f7a4_0 : decode cJ0_indexOf_0f7a4 0 = .ok (.aload_n 0, 1) := by decide +kernel
theorem dJ0_indexOf_0f7a4_1 : decode cJ0_indexOf_0f7a4 1 = .ok (.iload_n 1, 1) := by decide +kernel
theorem dJ0_indexOf_0f7a4_2 : decode cJ0_indexOf_0f7a4 2 = .ok (.iconst 0, 1) := by decide +kernel
theorem dJ0_indexOf_0f7a4_3 : decode cJ0_indexOf_0f7a4 3 = .ok (.invokevirtual 633, 3) := by decide +kernel
theorem dJ0_indexOf_0f7a4_6 : decode cJ0_indexOf_0f7a4 6 = .ok (.ireturn, 1) := by decide +kernel
theorem dJ0_indexOf_7cf53_0 : decode cJ0_indexOf_7cf53 0 = .ok (.aload_n 0, 1) := by decide +kernel
theorem dJ0_indexOf_7cf53_1 : decode cJ0_indexOf_7cf53 1 = .ok (.invokevirtual 492, 3) := by decide +kernel
theorem dJ0_indexOf_7cf53_4 : decode cJ0_indexOf_7cf53 4 = .ok (.ifCond .eq 19, 3) := by decide +kernel
theorem dJ0_indexOf_7cf53_7 : decode cJ0_indexOf_7cf53 7 = .ok (.aload_n 0, 1) := by decide +kernel
theorem dJ0_indexOf_7cf53_8 : decode cJ0_indexOf_7cf53 8 = .ok (.getfield 9, 3) := by decide +kernel
theorem dJ0_indexOf_7cf53_11 : decode cJ0_indexOf_7cf53 11 = .ok (.iload_n 1, 1) := by decide +kernel
theorem dJ0_indexOf_7cf53_12 : decode cJ0_indexOf_7cf53 12 = .ok (.iload_n 2, 1) := by decide +kernel
theorem dJ0_indexOf_7cf53_13 : decode cJ0_indexOf_7cf53 13 = .ok (.aload_n 0, 1) := by decide +kernel
theorem dJ0_indexOf_7cf53_14 : decode cJ0_indexOf_7cf53 14 = .ok (.invokevirtual 505, 3) := by decide +kernel
theorem dJ0_indexOf_7cf53_17 : decode cJ0_indexOf_7cf53 17 = .ok (.invokestatic 637, 3) := by decide +kernel
theorem dJ0_indexOf_7cf53_20 : decode cJ0_indexOf_7cf53 20 = .ok (.goto 16, 3) := by decide +kernel
theorem dJ0_indexOf_7cf53_23 : decode cJ0_indexOf_7cf53 23 = .ok (.aload_n 0, 1) := by decide +kernel
theorem dJ0_indexOf_7cf53_24 : decode cJ0_indexOf_7cf53 24 = .ok (.getfield 9, 3) := by decide +kernel
theorem dJ0_indexOf_7cf53_27 : decode cJ0_indexOf_7cf53 27 = .ok (.iload_n 1, 1) := by decide +kernel
theorem dJ0_indexOf_7cf53_28 : decode cJ0_indexOf_7cf53 28 = .ok (.iload_n 2, 1) := by decide +kernel
theorem dJ0_indexOf_7cf53_29 : decode cJ0_indexOf_7cf53 29 = .ok (.aload_n 0, 1) := by decide +kernel
theorem dJ0_indexOf_7cf53_30 : decode cJ0_indexOf_7cf53 30 = .ok (.invokevirtual 505, 3) := by decide +kernel
theorem dJ0_indexOf_7cf53_33 : decode cJ0_indexOf_7cf53 33 = .ok (.invokestatic 640, 3) := by decide +kernel
theorem dJ0_indexOf_7cf53_36 : decode cJ0_indexOf_7cf53 36 = .ok (.ireturn, 1) := by decide +kernel
theorem dJ0_coder_7d493_0 : decode cJ0_coder_7d493 0 = .ok (.getstatic 38, 3) := by decide +kernel
theorem dJ0_coder_7d493_3 : decode cJ0_coder_7d493 3 = .ok (.ifCond .eq 10, 3) := by decide +kernel
theorem dJ0_coder_7d493_6 : decode cJ0_coder_7d493 6 = .ok (.aload_n 0, 1) := by decide +kernel
theorem dJ0_coder_7d493_7 : decode cJ0_coder_7d493 7 = .ok (.getfield 15, 3) := by decide +kernel
theorem dJ0_coder_7d493_10 : decode cJ0_coder_7d493 10 = .ok (.goto 4, 3) := by decide +kernel
theorem dJ0_coder_7d493_13 : decode cJ0_coder_7d493 13 = .ok (.iconst 1, 1) := by decide +kernel
theorem dJ0_coder_7d493_14 : decode cJ0_coder_7d493 14 = .ok (.ireturn, 1) := by decide +kernel
theorem dJ0_isLatin1_aae02_0 : decode cJ0_isLatin1_aae02 0 = .ok (.getstatic 38, 3) := by decide +kernel
theorem dJ0_isLatin1_aae02_3 : decode cJ0_isLatin1_aae02 3 = .ok (.ifCond .eq 14, 3) := by decide +kernel
theorem dJ0_isLatin1_aae02_6 : decode cJ0_isLatin1_aae02 6 = .ok (.aload_n 0, 1) := by decide +kernel
theorem dJ0_isLatin1_aae02_7 : decode cJ0_isLatin1_aae02 7 = .ok (.getfield 15, 3) := by decide +kernel
theorem dJ0_isLatin1_aae02_10 : decode cJ0_isLatin1_aae02 10 = .ok (.ifCond .ne 7, 3) := by decide +kernel
theorem dJ0_isLatin1_aae02_13 : decode cJ0_isLatin1_aae02 13 = .ok (.iconst 1, 1) := by decide +kernel
theorem dJ0_isLatin1_aae02_14 : decode cJ0_isLatin1_aae02 14 = .ok (.goto 4, 3) := by decide +kernel
theorem dJ0_isLatin1_aae02_17 : decode cJ0_isLatin1_aae02 17 = .ok (.iconst 0, 1) := by decide +kernel
theorem dJ0_isLatin1_aae02_18 : decode cJ0_isLatin1_aae02 18 = .ok (.ireturn, 1) := by decide +kernel
theorem dJ0_checkIndex_df160_0 : decode cJ0_checkIndex_df160 0 = .ok (.iload_n 0, 1) := by decide +kernel
theorem dJ0_checkIndex_df160_1 : decode cJ0_checkIndex_df160 1 = .ok (.iload_n 1, 1) := by decide +kernel
theorem dJ0_checkIndex_df160_2 : decode cJ0_checkIndex_df160 2 = .ok (.getstatic 1053, 3) := by decide +kernel
theorem dJ0_checkIndex_df160_5 : decode cJ0_checkIndex_df160 5 = .ok (.invokestatic 1059, 3) := by decide +kernel
theorem dJ0_checkIndex_df160_8 : decode cJ0_checkIndex_df160 8 = .ok (.pop, 1) := by decide +kernel
theorem dJ0_checkIndex_df160_9 : decode cJ0_checkIndex_df160 9 = .ok (.return_, 1) := by decide +kernel
theorem dJ0_checkBoundsBeginEnd_23922_0 : decode cJ0_checkBoundsBeginEnd_23922 0 = .ok (.iload_n 0, 1) := by decide +kernel
theorem dJ0_checkBoundsBeginEnd_23922_1 : decode cJ0_checkBoundsBeginEnd_23922 1 = .ok (.iload_n 1, 1) := by decide +kernel
theorem dJ0_checkBoundsBeginEnd_23922_2 : decode cJ0_checkBoundsBeginEnd_23922 2 = .ok (.iload_n 2, 1) := by decide +kernel
theorem dJ0_checkBoundsBeginEnd_23922_3 : decode cJ0_checkBoundsBeginEnd_23922 3 = .ok (.getstatic 1053, 3) := by decide +kernel
theorem dJ0_checkBoundsBeginEnd_23922_6 : decode cJ0_checkBoundsBeginEnd_23922 6 = .ok (.invokestatic 1062, 3) := by decide +kernel
theorem dJ0_checkBoundsBeginEnd_23922_9 : decode cJ0_checkBoundsBeginEnd_23922 9 = .ok (.pop, 1) := by decide +kernel
theorem dJ0_checkBoundsBeginEnd_23922_10 : decode cJ0_checkBoundsBeginEnd_23922 10 = .ok (.return_, 1) := by decide +kernel
theorem dJ1_charAt_3b067_0 : decode cJ1_charAt_3b067 0 = .ok (.iload_n 1, 1) := by decide +kernel
theorem dJ1_charAt_3b067_1 : decode cJ1_charAt_3b067 1 = .ok (.aload_n 0, 1) := by decide +kernel
theorem dJ1_charAt_3b067_2 : decode cJ1_charAt_3b067 2 = .ok (.arraylength, 1) := by decide +kernel
theorem dJ1_charAt_3b067_3 : decode cJ1_charAt_3b067 3 = .ok (.invokestatic 9, 3) := by decide +kernel
theorem dJ1_charAt_3b067_6 : decode cJ1_charAt_3b067 6 = .ok (.aload_n 0, 1) := by decide +kernel
theorem dJ1_charAt_3b067_7 : decode cJ1_charAt_3b067 7 = .ok (.iload_n 1, 1) := by decide +kernel
theorem dJ1_charAt_3b067_8 : decode cJ1_charAt_3b067 8 = .ok (.baload, 1) := by decide +kernel
theorem dJ1_charAt_3b067_9 : decode cJ1_charAt_3b067 9 = .ok (.sipush 255, 3) := by decide +kernel
theorem dJ1_charAt_3b067_12 : decode cJ1_charAt_3b067 12 = .ok (.iand, 1) := by decide +kernel
theorem dJ1_charAt_3b067_13 : decode cJ1_charAt_3b067 13 = .ok (.i2c, 1) := by decide +kernel
theorem dJ1_charAt_3b067_14 : decode cJ1_charAt_3b067 14 = .ok (.ireturn, 1) := by decide +kernel
theorem dJ1_canEncode_9a6ad_0 : decode cJ1_canEncode_9a6ad 0 = .ok (.iload_n 0, 1) := by decide +kernel
theorem dJ1_canEncode_9a6ad_1 : decode cJ1_canEncode_9a6ad 1 = .ok (.ifCond .lt 14, 3) := by decide +kernel
theorem dJ1_canEncode_9a6ad_4 : decode cJ1_canEncode_9a6ad 4 = .ok (.iload_n 0, 1) := by decide +kernel
theorem dJ1_canEncode_9a6ad_5 : decode cJ1_canEncode_9a6ad 5 = .ok (.sipush 255, 3) := by decide +kernel
theorem dJ1_canEncode_9a6ad_8 : decode cJ1_canEncode_9a6ad 8 = .ok (.if_icmp .gt 7, 3) := by decide +kernel
theorem dJ1_canEncode_9a6ad_11 : decode cJ1_canEncode_9a6ad 11 = .ok (.iconst 1, 1) := by decide +kernel
theorem dJ1_canEncode_9a6ad_12 : decode cJ1_canEncode_9a6ad 12 = .ok (.goto 4, 3) := by decide +kernel
theorem dJ1_canEncode_9a6ad_15 : decode cJ1_canEncode_9a6ad 15 = .ok (.iconst 0, 1) := by decide +kernel
theorem dJ1_canEncode_9a6ad_16 : decode cJ1_canEncode_9a6ad 16 = .ok (.ireturn, 1) := by decide +kernel
theorem dJ1_indexOf_4cfef_0 : decode cJ1_indexOf_4cfef 0 = .ok (.iload_n 1, 1) := by decide +kernel
theorem dJ1_indexOf_4cfef_1 : decode cJ1_indexOf_4cfef 1 = .ok (.invokestatic 88, 3) := by decide +kernel
theorem dJ1_indexOf_4cfef_4 : decode cJ1_indexOf_4cfef 4 = .ok (.ifCond .ne 5, 3) := by decide +kernel
theorem dJ1_indexOf_4cfef_7 : decode cJ1_indexOf_4cfef 7 = .ok (.iconst (-1), 1) := by decide +kernel
theorem dJ1_indexOf_4cfef_8 : decode cJ1_indexOf_4cfef 8 = .ok (.ireturn, 1) := by decide +kernel
theorem dJ1_indexOf_4cfef_9 : decode cJ1_indexOf_4cfef 9 = .ok (.iload_n 2, 1) := by decide +kernel
theorem dJ1_indexOf_4cfef_10 : decode cJ1_indexOf_4cfef 10 = .ok (.iconst 0, 1) := by decide +kernel
theorem dJ1_indexOf_4cfef_11 : decode cJ1_indexOf_4cfef 11 = .ok (.invokestatic 92, 3) := by decide +kernel
theorem dJ1_indexOf_4cfef_14 : decode cJ1_indexOf_4cfef 14 = .ok (.istore_n 2, 1) := by decide +kernel
theorem dJ1_indexOf_4cfef_15 : decode cJ1_indexOf_4cfef 15 = .ok (.iload_n 3, 1) := by decide +kernel
theorem dJ1_indexOf_4cfef_16 : decode cJ1_indexOf_4cfef 16 = .ok (.aload_n 0, 1) := by decide +kernel
theorem dJ1_indexOf_4cfef_17 : decode cJ1_indexOf_4cfef 17 = .ok (.arraylength, 1) := by decide +kernel
theorem dJ1_indexOf_4cfef_18 : decode cJ1_indexOf_4cfef 18 = .ok (.invokestatic 38, 3) := by decide +kernel
theorem dJ1_indexOf_4cfef_21 : decode cJ1_indexOf_4cfef 21 = .ok (.istore_n 3, 1) := by decide +kernel
theorem dJ1_indexOf_4cfef_22 : decode cJ1_indexOf_4cfef 22 = .ok (.iload_n 2, 1) := by decide +kernel
theorem dJ1_indexOf_4cfef_23 : decode cJ1_indexOf_4cfef 23 = .ok (.iload_n 3, 1) := by decide +kernel
theorem dJ1_indexOf_4cfef_24 : decode cJ1_indexOf_4cfef 24 = .ok (.if_icmp .lt 5, 3) := by decide +kernel
theorem dJ1_indexOf_4cfef_27 : decode cJ1_indexOf_4cfef 27 = .ok (.iconst (-1), 1) := by decide +kernel
theorem dJ1_indexOf_4cfef_28 : decode cJ1_indexOf_4cfef 28 = .ok (.ireturn, 1) := by decide +kernel
theorem dJ1_indexOf_4cfef_29 : decode cJ1_indexOf_4cfef 29 = .ok (.aload_n 0, 1) := by decide +kernel
theorem dJ1_indexOf_4cfef_30 : decode cJ1_indexOf_4cfef 30 = .ok (.iload_n 1, 1) := by decide +kernel
theorem dJ1_indexOf_4cfef_31 : decode cJ1_indexOf_4cfef 31 = .ok (.iload_n 2, 1) := by decide +kernel
theorem dJ1_indexOf_4cfef_32 : decode cJ1_indexOf_4cfef 32 = .ok (.iload_n 3, 1) := by decide +kernel
theorem dJ1_indexOf_4cfef_33 : decode cJ1_indexOf_4cfef 33 = .ok (.invokestatic 95, 3) := by decide +kernel
theorem dJ1_indexOf_4cfef_36 : decode cJ1_indexOf_4cfef 36 = .ok (.ireturn, 1) := by decide +kernel
theorem dJ1_indexOfChar_4cfef_0 : decode cJ1_indexOfChar_4cfef 0 = .ok (.iload_n 1, 1) := by decide +kernel
theorem dJ1_indexOfChar_4cfef_1 : decode cJ1_indexOfChar_4cfef 1 = .ok (.i2b, 1) := by decide +kernel
theorem dJ1_indexOfChar_4cfef_2 : decode cJ1_indexOfChar_4cfef 2 = .ok (.istore 4, 2) := by decide +kernel
theorem dJ1_indexOfChar_4cfef_4 : decode cJ1_indexOfChar_4cfef 4 = .ok (.iload_n 2, 1) := by decide +kernel
theorem dJ1_indexOfChar_4cfef_5 : decode cJ1_indexOfChar_4cfef 5 = .ok (.istore 5, 2) := by decide +kernel
theorem dJ1_indexOfChar_4cfef_7 : decode cJ1_indexOfChar_4cfef 7 = .ok (.iload 5, 2) := by decide +kernel
theorem dJ1_indexOfChar_4cfef_9 : decode cJ1_indexOfChar_4cfef 9 = .ok (.iload_n 3, 1) := by decide +kernel
theorem dJ1_indexOfChar_4cfef_10 : decode cJ1_indexOfChar_4cfef 10 = .ok (.if_icmp .ge 21, 3) := by decide +kernel
theorem dJ1_indexOfChar_4cfef_13 : decode cJ1_indexOfChar_4cfef 13 = .ok (.aload_n 0, 1) := by decide +kernel
theorem dJ1_indexOfChar_4cfef_14 : decode cJ1_indexOfChar_4cfef 14 = .ok (.iload 5, 2) := by decide +kernel
theorem dJ1_indexOfChar_4cfef_16 : decode cJ1_indexOfChar_4cfef 16 = .ok (.baload, 1) := by decide +kernel
theorem dJ1_indexOfChar_4cfef_17 : decode cJ1_indexOfChar_4cfef 17 = .ok (.iload 4, 2) := by decide +kernel
theorem dJ1_indexOfChar_4cfef_19 : decode cJ1_indexOfChar_4cfef 19 = .ok (.if_icmp .ne 6, 3) := by decide +kernel
theorem dJ1_indexOfChar_4cfef_22 : decode cJ1_indexOfChar_4cfef 22 = .ok (.iload 5, 2) := by decide +kernel
theorem dJ1_indexOfChar_4cfef_24 : decode cJ1_indexOfChar_4cfef 24 = .ok (.ireturn, 1) := by decide +kernel
theorem dJ1_indexOfChar_4cfef_25 : decode cJ1_indexOfChar_4cfef 25 = .ok (.iinc 5 1, 3) := by decide +kernel
theorem dJ1_indexOfChar_4cfef_28 : decode cJ1_indexOfChar_4cfef 28 = .ok (.goto (-21), 3) := by decide +kernel
theorem dJ1_indexOfChar_4cfef_31 : decode cJ1_indexOfChar_4cfef 31 = .ok (.iconst (-1), 1) := by decide +kernel
theorem dJ1_indexOfChar_4cfef_32 : decode cJ1_indexOfChar_4cfef 32 = .ok (.ireturn, 1) := by decide +kernel
theorem dJ2_getChar_3b067_0 : decode cJ2_getChar_3b067 0 = .ok (.getstatic 44, 3) := by decide +kernel
theorem dJ2_getChar_3b067_3 : decode cJ2_getChar_3b067 3 = .ok (.ifCond .ne 25, 3) := by decide +kernel
theorem dJ2_getChar_3b067_6 : decode cJ2_getChar_3b067 6 = .ok (.iload_n 1, 1) := by decide +kernel
theorem dJ2_getChar_3b067_7 : decode cJ2_getChar_3b067 7 = .ok (.ifCond .lt 11, 3) := by decide +kernel
theorem dJ2_getChar_3b067_10 : decode cJ2_getChar_3b067 10 = .ok (.iload_n 1, 1) := by decide +kernel
theorem dJ2_getChar_3b067_11 : decode cJ2_getChar_3b067 11 = .ok (.aload_n 0, 1) := by decide +kernel
theorem dJ2_getChar_3b067_12 : decode cJ2_getChar_3b067 12 = .ok (.invokestatic 48, 3) := by decide +kernel
theorem dJ2_getChar_3b067_15 : decode cJ2_getChar_3b067 15 = .ok (.if_icmp .lt 13, 3) := by decide +kernel
theorem dJ2_getChar_3b067_18 : decode cJ2_getChar_3b067 18 = .ok (.new 52, 3) := by decide +kernel
theorem dJ2_getChar_3b067_21 : decode cJ2_getChar_3b067 21 = .ok (.dup, 1) := by decide +kernel
theorem dJ2_getChar_3b067_22 : decode cJ2_getChar_3b067 22 = .ok (.ldc 54, 2) := by decide +kernel
theorem dJ2_getChar_3b067_24 : decode cJ2_getChar_3b067 24 = .ok (.invokespecial 56, 3) := by decide +kernel
theorem dJ2_getChar_3b067_27 : decode cJ2_getChar_3b067 27 = .ok (.athrow, 1) := by decide +kernel
theorem dJ2_getChar_3b067_28 : decode cJ2_getChar_3b067 28 = .ok (.iload_n 1, 1) := by decide +kernel
theorem dJ2_getChar_3b067_29 : decode cJ2_getChar_3b067 29 = .ok (.iconst 1, 1) := by decide +kernel
theorem dJ2_getChar_3b067_30 : decode cJ2_getChar_3b067 30 = .ok (.ishl, 1) := by decide +kernel
theorem dJ2_getChar_3b067_31 : decode cJ2_getChar_3b067 31 = .ok (.istore_n 1, 1) := by decide +kernel
theorem dJ2_getChar_3b067_32 : decode cJ2_getChar_3b067 32 = .ok (.aload_n 0, 1) := by decide +kernel
theorem dJ2_getChar_3b067_33 : decode cJ2_getChar_3b067 33 = .ok (.iload_n 1, 1) := by decide +kernel
theorem dJ2_getChar_3b067_34 : decode cJ2_getChar_3b067 34 = .ok (.iinc 1 1, 3) := by decide +kernel
theorem dJ2_getChar_3b067_37 : decode cJ2_getChar_3b067 37 = .ok (.baload, 1) := by decide +kernel
theorem dJ2_getChar_3b067_38 : decode cJ2_getChar_3b067 38 = .ok (.sipush 255, 3) := by decide +kernel
theorem dJ2_getChar_3b067_41 : decode cJ2_getChar_3b067 41 = .ok (.iand, 1) := by decide +kernel
theorem dJ2_getChar_3b067_42 : decode cJ2_getChar_3b067 42 = .ok (.getstatic 59, 3) := by decide +kernel
theorem dJ2_getChar_3b067_45 : decode cJ2_getChar_3b067 45 = .ok (.ishl, 1) := by decide +kernel
theorem dJ2_getChar_3b067_46 : decode cJ2_getChar_3b067 46 = .ok (.aload_n 0, 1) := by decide +kernel
theorem dJ2_getChar_3b067_47 : decode cJ2_getChar_3b067 47 = .ok (.iload_n 1, 1) := by decide +kernel
theorem dJ2_getChar_3b067_48 : decode cJ2_getChar_3b067 48 = .ok (.baload, 1) := by decide +kernel
theorem dJ2_getChar_3b067_49 : decode cJ2_getChar_3b067 49 = .ok (.sipush 255, 3) := by decide +kernel
theorem dJ2_getChar_3b067_52 : decode cJ2_getChar_3b067 52 = .ok (.iand, 1) := by decide +kernel
theorem dJ2_getChar_3b067_53 : decode cJ2_getChar_3b067 53 = .ok (.getstatic 63, 3) := by decide +kernel
theorem dJ2_getChar_3b067_56 : decode cJ2_getChar_3b067 56 = .ok (.ishl, 1) := by decide +kernel
theorem dJ2_getChar_3b067_57 : decode cJ2_getChar_3b067 57 = .ok (.ior, 1) := by decide +kernel
theorem dJ2_getChar_3b067_58 : decode cJ2_getChar_3b067 58 = .ok (.i2c, 1) := by decide +kernel
theorem dJ2_getChar_3b067_59 : decode cJ2_getChar_3b067 59 = .ok (.ireturn, 1) := by decide +kernel
theorem dJ2_length_9d52b_0 : decode cJ2_length_9d52b 0 = .ok (.aload_n 0, 1) := by decide +kernel
theorem dJ2_length_9d52b_1 : decode cJ2_length_9d52b 1 = .ok (.arraylength, 1) := by decide +kernel
theorem dJ2_length_9d52b_2 : decode cJ2_length_9d52b 2 = .ok (.iconst 1, 1) := by decide +kernel
theorem dJ2_length_9d52b_3 : decode cJ2_length_9d52b 3 = .ok (.ishr, 1) := by decide +kernel
theorem dJ2_length_9d52b_4 : decode cJ2_length_9d52b 4 = .ok (.ireturn, 1) := by decide +kernel
theorem dJ2_indexOf_4cfef_0 : decode cJ2_indexOf_4cfef 0 = .ok (.iload_n 2, 1) := by decide +kernel
theorem dJ2_indexOf_4cfef_1 : decode cJ2_indexOf_4cfef 1 = .ok (.iconst 0, 1) := by decide +kernel
theorem dJ2_indexOf_4cfef_2 : decode cJ2_indexOf_4cfef 2 = .ok (.invokestatic 224, 3) := by decide +kernel
theorem dJ2_indexOf_4cfef_5 : decode cJ2_indexOf_4cfef 5 = .ok (.istore_n 2, 1) := by decide +kernel
theorem dJ2_indexOf_4cfef_6 : decode cJ2_indexOf_4cfef 6 = .ok (.iload_n 3, 1) := by decide +kernel
theorem dJ2_indexOf_4cfef_7 : decode cJ2_indexOf_4cfef 7 = .ok (.aload_n 0, 1) := by decide +kernel
theorem dJ2_indexOf_4cfef_8 : decode cJ2_indexOf_4cfef 8 = .ok (.arraylength, 1) := by decide +kernel
theorem dJ2_indexOf_4cfef_9 : decode cJ2_indexOf_4cfef 9 = .ok (.iconst 1, 1) := by decide +kernel
theorem dJ2_indexOf_4cfef_10 : decode cJ2_indexOf_4cfef 10 = .ok (.ishr, 1) := by decide +kernel
theorem dJ2_indexOf_4cfef_11 : decode cJ2_indexOf_4cfef 11 = .ok (.invokestatic 183, 3) := by decide +kernel
theorem dJ2_indexOf_4cfef_14 : decode cJ2_indexOf_4cfef 14 = .ok (.istore_n 3, 1) := by decide +kernel
theorem dJ2_indexOf_4cfef_15 : decode cJ2_indexOf_4cfef 15 = .ok (.iload_n 2, 1) := by decide +kernel
theorem dJ2_indexOf_4cfef_16 : decode cJ2_indexOf_4cfef 16 = .ok (.iload_n 3, 1) := by decide +kernel
theorem dJ2_indexOf_4cfef_17 : decode cJ2_indexOf_4cfef 17 = .ok (.if_icmp .lt 5, 3) := by decide +kernel
theorem dJ2_indexOf_4cfef_20 : decode cJ2_indexOf_4cfef 20 = .ok (.iconst (-1), 1) := by decide +kernel
theorem dJ2_indexOf_4cfef_21 : decode cJ2_indexOf_4cfef 21 = .ok (.ireturn, 1) := by decide +kernel
theorem dJ2_indexOf_4cfef_22 : decode cJ2_indexOf_4cfef 22 = .ok (.iload_n 1, 1) := by decide +kernel
theorem dJ2_indexOf_4cfef_23 : decode cJ2_indexOf_4cfef 23 = .ok (.ldc 227, 2) := by decide +kernel
theorem dJ2_indexOf_4cfef_25 : decode cJ2_indexOf_4cfef 25 = .ok (.if_icmp .ge 11, 3) := by decide +kernel
theorem dJ2_indexOf_4cfef_28 : decode cJ2_indexOf_4cfef 28 = .ok (.aload_n 0, 1) := by decide +kernel
theorem dJ2_indexOf_4cfef_29 : decode cJ2_indexOf_4cfef 29 = .ok (.iload_n 1, 1) := by decide +kernel
theorem dJ2_indexOf_4cfef_30 : decode cJ2_indexOf_4cfef 30 = .ok (.iload_n 2, 1) := by decide +kernel
theorem dJ2_indexOf_4cfef_31 : decode cJ2_indexOf_4cfef 31 = .ok (.iload_n 3, 1) := by decide +kernel
theorem dJ2_indexOf_4cfef_32 : decode cJ2_indexOf_4cfef 32 = .ok (.invokestatic 228, 3) := by decide +kernel
theorem dJ2_indexOf_4cfef_35 : decode cJ2_indexOf_4cfef 35 = .ok (.ireturn, 1) := by decide +kernel
theorem dJ2_indexOf_4cfef_36 : decode cJ2_indexOf_4cfef 36 = .ok (.aload_n 0, 1) := by decide +kernel
theorem dJ2_indexOf_4cfef_37 : decode cJ2_indexOf_4cfef 37 = .ok (.iload_n 1, 1) := by decide +kernel
theorem dJ2_indexOf_4cfef_38 : decode cJ2_indexOf_4cfef 38 = .ok (.iload_n 2, 1) := by decide +kernel
theorem dJ2_indexOf_4cfef_39 : decode cJ2_indexOf_4cfef 39 = .ok (.iload_n 3, 1) := by decide +kernel
theorem dJ2_indexOf_4cfef_40 : decode cJ2_indexOf_4cfef 40 = .ok (.invokestatic 232, 3) := by decide +kernel
theorem dJ2_indexOf_4cfef_43 : decode cJ2_indexOf_4cfef 43 = .ok (.ireturn, 1) := by decide +kernel
theorem dJ2_indexOfChar_4cfef_0 : decode cJ2_indexOfChar_4cfef 0 = .ok (.iload_n 2, 1) := by decide +kernel
theorem dJ2_indexOfChar_4cfef_1 : decode cJ2_indexOfChar_4cfef 1 = .ok (.iload_n 3, 1) := by decide +kernel
theorem dJ2_indexOfChar_4cfef_2 : decode cJ2_indexOfChar_4cfef 2 = .ok (.aload_n 0, 1) := by decide +kernel
theorem dJ2_indexOfChar_4cfef_3 : decode cJ2_indexOfChar_4cfef 3 = .ok (.invokestatic 96, 3) := by decide +kernel
theorem dJ2_indexOfChar_4cfef_6 : decode cJ2_indexOfChar_4cfef 6 = .ok (.aload_n 0, 1) := by decide +kernel
theorem dJ2_indexOfChar_4cfef_7 : decode cJ2_indexOfChar_4cfef 7 = .ok (.iload_n 1, 1) := by decide +kernel
theorem dJ2_indexOfChar_4cfef_8 : decode cJ2_indexOfChar_4cfef 8 = .ok (.iload_n 2, 1) := by decide +kernel
theorem dJ2_indexOfChar_4cfef_9 : decode cJ2_indexOfChar_4cfef 9 = .ok (.iload_n 3, 1) := by decide +kernel
theorem dJ2_indexOfChar_4cfef_10 : decode cJ2_indexOfChar_4cfef 10 = .ok (.invokestatic 244, 3) := by decide +kernel
theorem dJ2_indexOfChar_4cfef_13 : decode cJ2_indexOfChar_4cfef 13 = .ok (.ireturn, 1) := by decide +kernel
theorem dJ2_indexOfCharUnsafe_4cfef_0 : decode cJ2_indexOfCharUnsafe_4cfef 0 = .ok (.iload_n 2, 1) := by decide +kernel
theorem dJ2_indexOfCharUnsafe_4cfef_1 : decode cJ2_indexOfCharUnsafe_4cfef 1 = .ok (.istore 4, 2) := by decide +kernel
theorem dJ2_indexOfCharUnsafe_4cfef_3 : decode cJ2_indexOfCharUnsafe_4cfef 3 = .ok (.iload 4, 2) := by decide +kernel
theorem dJ2_indexOfCharUnsafe_4cfef_5 : decode cJ2_indexOfCharUnsafe_4cfef 5 = .ok (.iload_n 3, 1) := by decide +kernel
theorem dJ2_indexOfCharUnsafe_4cfef_6 : decode cJ2_indexOfCharUnsafe_4cfef 6 = .ok (.if_icmp .ge 22, 3) := by decide +kernel
theorem dJ2_indexOfCharUnsafe_4cfef_9 : decode cJ2_indexOfCharUnsafe_4cfef 9 = .ok (.aload_n 0, 1) := by decide +kernel
theorem dJ2_indexOfCharUnsafe_4cfef_10 : decode cJ2_indexOfCharUnsafe_4cfef 10 = .ok (.iload 4, 2) := by decide +kernel
theorem dJ2_indexOfCharUnsafe_4cfef_12 : decode cJ2_indexOfCharUnsafe_4cfef 12 = .ok (.invokestatic 71, 3) := by decide +kernel
theorem dJ2_indexOfCharUnsafe_4cfef_15 : decode cJ2_indexOfCharUnsafe_4cfef 15 = .ok (.iload_n 1, 1) := by decide +kernel
theorem dJ2_indexOfCharUnsafe_4cfef_16 : decode cJ2_indexOfCharUnsafe_4cfef 16 = .ok (.if_icmp .ne 6, 3) := by decide +kernel
theorem dJ2_indexOfCharUnsafe_4cfef_19 : decode cJ2_indexOfCharUnsafe_4cfef 19 = .ok (.iload 4, 2) := by decide +kernel
theorem dJ2_indexOfCharUnsafe_4cfef_21 : decode cJ2_indexOfCharUnsafe_4cfef 21 = .ok (.ireturn, 1) := by decide +kernel
theorem dJ2_indexOfCharUnsafe_4cfef_22 : decode cJ2_indexOfCharUnsafe_4cfef 22 = .ok (.iinc 4 1, 3) := by decide +kernel
theorem dJ2_indexOfCharUnsafe_4cfef_25 : decode cJ2_indexOfCharUnsafe_4cfef 25 = .ok (.goto (-22), 3) := by decide +kernel
theorem dJ2_indexOfCharUnsafe_4cfef_28 : decode cJ2_indexOfCharUnsafe_4cfef 28 = .ok (.iconst (-1), 1) := by decide +kernel
theorem dJ2_indexOfCharUnsafe_4cfef_29 : decode cJ2_indexOfCharUnsafe_4cfef 29 = .ok (.ireturn, 1) := by decide +kernel
theorem dJ2_indexOfSupplementary_4cfef_0 : decode cJ2_indexOfSupplementary_4cfef 0 = .ok (.iload_n 1, 1) := by decide +kernel
theorem dJ2_indexOfSupplementary_4cfef_1 : decode cJ2_indexOfSupplementary_4cfef 1 = .ok (.invokestatic 164, 3) := by decide +kernel
theorem dJ2_indexOfSupplementary_4cfef_4 : decode cJ2_indexOfSupplementary_4cfef 4 = .ok (.ifCond .eq 65, 3) := by decide +kernel
theorem dJ2_indexOfSupplementary_4cfef_7 : decode cJ2_indexOfSupplementary_4cfef 7 = .ok (.iload_n 1, 1) := by decide +kernel
theorem dJ2_indexOfSupplementary_4cfef_8 : decode cJ2_indexOfSupplementary_4cfef 8 = .ok (.invokestatic 157, 3) := by decide +kernel
theorem dJ2_indexOfSupplementary_4cfef_11 : decode cJ2_indexOfSupplementary_4cfef 11 = .ok (.istore 4, 2) := by decide +kernel
theorem dJ2_indexOfSupplementary_4cfef_13 : decode cJ2_indexOfSupplementary_4cfef 13 = .ok (.iload_n 1, 1) := by decide +kernel
theorem dJ2_indexOfSupplementary_4cfef_14 : decode cJ2_indexOfSupplementary_4cfef 14 = .ok (.invokestatic 161, 3) := by decide +kernel
theorem dJ2_indexOfSupplementary_4cfef_17 : decode cJ2_indexOfSupplementary_4cfef 17 = .ok (.istore 5, 2) := by decide +kernel
theorem dJ2_indexOfSupplementary_4cfef_19 : decode cJ2_indexOfSupplementary_4cfef 19 = .ok (.iload_n 2, 1) := by decide +kernel
theorem dJ2_indexOfSupplementary_4cfef_20 : decode cJ2_indexOfSupplementary_4cfef 20 = .ok (.iload_n 3, 1) := by decide +kernel
theorem dJ2_indexOfSupplementary_4cfef_21 : decode cJ2_indexOfSupplementary_4cfef 21 = .ok (.aload_n 0, 1) := by decide +kernel
theorem dJ2_indexOfSupplementary_4cfef_22 : decode cJ2_indexOfSupplementary_4cfef 22 = .ok (.invokestatic 96, 3) := by decide +kernel
theorem dJ2_indexOfSupplementary_4cfef_25 : decode cJ2_indexOfSupplementary_4cfef 25 = .ok (.iload_n 2, 1) := by decide +kernel
theorem dJ2_indexOfSupplementary_4cfef_26 : decode cJ2_indexOfSupplementary_4cfef 26 = .ok (.istore 6, 2) := by decide +kernel
theorem dJ2_indexOfSupplementary_4cfef_28 : decode cJ2_indexOfSupplementary_4cfef 28 = .ok (.iload 6, 2) := by decide +kernel
theorem dJ2_indexOfSupplementary_4cfef_30 : decode cJ2_indexOfSupplementary_4cfef 30 = .ok (.iload_n 3, 1) := by decide +kernel
theorem dJ2_indexOfSupplementary_4cfef_31 : decode cJ2_indexOfSupplementary_4cfef 31 = .ok (.iconst 1, 1) := by decide +kernel
theorem dJ2_indexOfSupplementary_4cfef_32 : decode cJ2_indexOfSupplementary_4cfef 32 = .ok (.isub, 1) := by decide +kernel
theorem dJ2_indexOfSupplementary_4cfef_33 : decode cJ2_indexOfSupplementary_4cfef 33 = .ok (.if_icmp .ge 36, 3) := by decide +kernel
theorem dJ2_indexOfSupplementary_4cfef_36 : decode cJ2_indexOfSupplementary_4cfef 36 = .ok (.aload_n 0, 1) := by decide +kernel
theorem dJ2_indexOfSupplementary_4cfef_37 : decode cJ2_indexOfSupplementary_4cfef 37 = .ok (.iload 6, 2) := by decide +kernel
theorem dJ2_indexOfSupplementary_4cfef_39 : decode cJ2_indexOfSupplementary_4cfef 39 = .ok (.invokestatic 71, 3) := by decide +kernel
theorem dJ2_indexOfSupplementary_4cfef_42 : decode cJ2_indexOfSupplementary_4cfef 42 = .ok (.iload 4, 2) := by decide +kernel
theorem dJ2_indexOfSupplementary_4cfef_44 : decode cJ2_indexOfSupplementary_4cfef 44 = .ok (.if_icmp .ne 19, 3) := by decide +kernel
theorem dJ2_indexOfSupplementary_4cfef_47 : decode cJ2_indexOfSupplementary_4cfef 47 = .ok (.aload_n 0, 1) := by decide +kernel
theorem dJ2_indexOfSupplementary_4cfef_48 : decode cJ2_indexOfSupplementary_4cfef 48 = .ok (.iload 6, 2) := by decide +kernel
theorem dJ2_indexOfSupplementary_4cfef_50 : decode cJ2_indexOfSupplementary_4cfef 50 = .ok (.iconst 1, 1) := by decide +kernel
theorem dJ2_indexOfSupplementary_4cfef_51 : decode cJ2_indexOfSupplementary_4cfef 51 = .ok (.iadd, 1) := by decide +kernel
theorem dJ2_indexOfSupplementary_4cfef_52 : decode cJ2_indexOfSupplementary_4cfef 52 = .ok (.invokestatic 71, 3) := by decide +kernel
theorem dJ2_indexOfSupplementary_4cfef_55 : decode cJ2_indexOfSupplementary_4cfef 55 = .ok (.iload 5, 2) := by decide +kernel
theorem dJ2_indexOfSupplementary_4cfef_57 : decode cJ2_indexOfSupplementary_4cfef 57 = .ok (.if_icmp .ne 6, 3) := by decide +kernel
theorem dJ2_indexOfSupplementary_4cfef_60 : decode cJ2_indexOfSupplementary_4cfef 60 = .ok (.iload 6, 2) := by decide +kernel
theorem dJ2_indexOfSupplementary_4cfef_62 : decode cJ2_indexOfSupplementary_4cfef 62 = .ok (.ireturn, 1) := by decide +kernel
theorem dJ2_indexOfSupplementary_4cfef_63 : decode cJ2_indexOfSupplementary_4cfef 63 = .ok (.iinc 6 1, 3) := by decide +kernel
theorem dJ2_indexOfSupplementary_4cfef_66 : decode cJ2_indexOfSupplementary_4cfef 66 = .ok (.goto (-38), 3) := by decide +kernel
theorem dJ2_indexOfSupplementary_4cfef_69 : decode cJ2_indexOfSupplementary_4cfef 69 = .ok (.iconst (-1), 1) := by decide +kernel
theorem dJ2_indexOfSupplementary_4cfef_70 : decode cJ2_indexOfSupplementary_4cfef 70 = .ok (.ireturn, 1) := by decide +kernel
theorem dJ2_charAt_3b067_0 : decode cJ2_charAt_3b067 0 = .ok (.iload_n 1, 1) := by decide +kernel
theorem dJ2_charAt_3b067_1 : decode cJ2_charAt_3b067 1 = .ok (.aload_n 0, 1) := by decide +kernel
theorem dJ2_charAt_3b067_2 : decode cJ2_charAt_3b067 2 = .ok (.invokestatic 67, 3) := by decide +kernel
theorem dJ2_charAt_3b067_5 : decode cJ2_charAt_3b067 5 = .ok (.aload_n 0, 1) := by decide +kernel
theorem dJ2_charAt_3b067_6 : decode cJ2_charAt_3b067 6 = .ok (.iload_n 1, 1) := by decide +kernel
theorem dJ2_charAt_3b067_7 : decode cJ2_charAt_3b067 7 = .ok (.invokestatic 71, 3) := by decide +kernel
theorem dJ2_charAt_3b067_10 : decode cJ2_charAt_3b067 10 = .ok (.ireturn, 1) := by decide +kernel
theorem dJ2_checkIndex_2214a_0 : decode cJ2_checkIndex_2214a 0 = .ok (.iload_n 0, 1) := by decide +kernel
theorem dJ2_checkIndex_2214a_1 : decode cJ2_checkIndex_2214a 1 = .ok (.aload_n 1, 1) := by decide +kernel
theorem dJ2_checkIndex_2214a_2 : decode cJ2_checkIndex_2214a 2 = .ok (.invokestatic 48, 3) := by decide +kernel
theorem dJ2_checkIndex_2214a_5 : decode cJ2_checkIndex_2214a 5 = .ok (.invokestatic 414, 3) := by decide +kernel
theorem dJ2_checkIndex_2214a_8 : decode cJ2_checkIndex_2214a 8 = .ok (.return_, 1) := by decide +kernel
theorem dJ2_checkBoundsBeginEnd_d044e_0 : decode cJ2_checkBoundsBeginEnd_d044e 0 = .ok (.iload_n 0, 1) := by decide +kernel
theorem dJ2_checkBoundsBeginEnd_d044e_1 : decode cJ2_checkBoundsBeginEnd_d044e 1 = .ok (.iload_n 1, 1) := by decide +kernel
theorem dJ2_checkBoundsBeginEnd_d044e_2 : decode cJ2_checkBoundsBeginEnd_d044e 2 = .ok (.aload_n 2, 1) := by decide +kernel
theorem dJ2_checkBoundsBeginEnd_d044e_3 : decode cJ2_checkBoundsBeginEnd_d044e 3 = .ok (.invokestatic 48, 3) := by decide +kernel
theorem dJ2_checkBoundsBeginEnd_d044e_6 : decode cJ2_checkBoundsBeginEnd_d044e 6 = .ok (.invokestatic 241, 3) := by decide +kernel
theorem dJ2_checkBoundsBeginEnd_d044e_9 : decode cJ2_checkBoundsBeginEnd_d044e 9 = .ok (.return_, 1) := by decide +kernel
theorem dJ3_checkIndex_8e157_0 : decode cJ3_checkIndex_8e157 0 = .ok (.iload_n 0, 1) := by decide +kernel
theorem dJ3_checkIndex_8e157_1 : decode cJ3_checkIndex_8e157 1 = .ok (.ifCond .lt 8, 3) := by decide +kernel
theorem dJ3_checkIndex_8e157_4 : decode cJ3_checkIndex_8e157 4 = .ok (.iload_n 0, 1) := by decide +kernel
theorem dJ3_checkIndex_8e157_5 : decode cJ3_checkIndex_8e157 5 = .ok (.iload_n 1, 1) := by decide +kernel
theorem dJ3_checkIndex_8e157_6 : decode cJ3_checkIndex_8e157 6 = .ok (.if_icmp .lt 10, 3) := by decide +kernel
theorem dJ3_checkIndex_8e157_9 : decode cJ3_checkIndex_8e157 9 = .ok (.aload_n 2, 1) := by decide +kernel
theorem dJ3_checkIndex_8e157_10 : decode cJ3_checkIndex_8e157 10 = .ok (.iload_n 0, 1) := by decide +kernel
theorem dJ3_checkIndex_8e157_11 : decode cJ3_checkIndex_8e157 11 = .ok (.iload_n 1, 1) := by decide +kernel
theorem dJ3_checkIndex_8e157_12 : decode cJ3_checkIndex_8e157 12 = .ok (.invokestatic 95, 3) := by decide +kernel
theorem dJ3_checkIndex_8e157_15 : decode cJ3_checkIndex_8e157 15 = .ok (.athrow, 1) := by decide +kernel
theorem dJ3_checkIndex_8e157_16 : decode cJ3_checkIndex_8e157 16 = .ok (.iload_n 0, 1) := by decide +kernel
theorem dJ3_checkIndex_8e157_17 : decode cJ3_checkIndex_8e157 17 = .ok (.ireturn, 1) := by decide +kernel
theorem dJ3_checkFromToIndex_8c36e_0 : decode cJ3_checkFromToIndex_8c36e 0 = .ok (.iload_n 0, 1) := by decide +kernel
theorem dJ3_checkFromToIndex_8c36e_1 : decode cJ3_checkFromToIndex_8c36e 1 = .ok (.ifCond .lt 13, 3) := by decide +kernel
theorem dJ3_checkFromToIndex_8c36e_4 : decode cJ3_checkFromToIndex_8c36e 4 = .ok (.iload_n 0, 1) := by decide +kernel
theorem dJ3_checkFromToIndex_8c36e_5 : decode cJ3_checkFromToIndex_8c36e 5 = .ok (.iload_n 1, 1) := by decide +kernel
theorem dJ3_checkFromToIndex_8c36e_6 : decode cJ3_checkFromToIndex_8c36e 6 = .ok (.if_icmp .gt 8, 3) := by decide +kernel
theorem dJ3_checkFromToIndex_8c36e_9 : decode cJ3_checkFromToIndex_8c36e 9 = .ok (.iload_n 1, 1) := by decide +kernel
theorem dJ3_checkFromToIndex_8c36e_10 : decode cJ3_checkFromToIndex_8c36e 10 = .ok (.iload_n 2, 1) := by decide +kernel
theorem dJ3_checkFromToIndex_8c36e_11 : decode cJ3_checkFromToIndex_8c36e 11 = .ok (.if_icmp .le 11, 3) := by decide +kernel
theorem dJ3_checkFromToIndex_8c36e_14 : decode cJ3_checkFromToIndex_8c36e 14 = .ok (.aload_n 3, 1) := by decide +kernel
theorem dJ3_checkFromToIndex_8c36e_15 : decode cJ3_checkFromToIndex_8c36e 15 = .ok (.iload_n 0, 1) := by decide +kernel
theorem dJ3_checkFromToIndex_8c36e_16 : decode cJ3_checkFromToIndex_8c36e 16 = .ok (.iload_n 1, 1) := by decide +kernel
theorem dJ3_checkFromToIndex_8c36e_17 : decode cJ3_checkFromToIndex_8c36e 17 = .ok (.iload_n 2, 1) := by decide +kernel
theorem dJ3_checkFromToIndex_8c36e_18 : decode cJ3_checkFromToIndex_8c36e 18 = .ok (.invokestatic 99, 3) := by decide +kernel
theorem dJ3_checkFromToIndex_8c36e_21 : decode cJ3_checkFromToIndex_8c36e 21 = .ok (.athrow, 1) := by decide +kernel
theorem dJ3_checkFromToIndex_8c36e_22 : decode cJ3_checkFromToIndex_8c36e 22 = .ok (.iload_n 0, 1) := by decide +kernel
theorem dJ3_checkFromToIndex_8c36e_23 : decode cJ3_checkFromToIndex_8c36e 23 = .ok (.ireturn, 1) := by decide +kernel
theorem dL_law_0 : decode cL_law 0 = .ok (.new 7, 3) := by decide +kernel
theorem dL_law_3 : decode cL_law 3 = .ok (.dup, 1) := by decide +kernel
theorem dL_law_4 : decode cL_law 4 = .ok (.invokespecial 9, 3) := by decide +kernel
theorem dL_law_7 : decode cL_law 7 = .ok (.astore_n 1, 1) := by decide +kernel
theorem dL_law_8 : decode cL_law 8 = .ok (.new 10, 3) := by decide +kernel
theorem dL_law_11 : decode cL_law 11 = .ok (.dup, 1) := by decide +kernel
theorem dL_law_12 : decode cL_law 12 = .ok (.invokespecial 12, 3) := by decide +kernel
theorem dL_law_15 : decode cL_law 15 = .ok (.astore_n 2, 1) := by decide +kernel
theorem dL_law_16 : decode cL_law 16 = .ok (.iconst 0, 1) := by decide +kernel
theorem dL_law_17 : decode cL_law 17 = .ok (.istore_n 3, 1) := by decide +kernel
theorem dL_law_18 : decode cL_law 18 = .ok (.iload_n 3, 1) := by decide +kernel
theorem dL_law_19 : decode cL_law 19 = .ok (.aload_n 0, 1) := by decide +kernel
theorem dL_law_20 : decode cL_law 20 = .ok (.arraylength, 1) := by decide +kernel
theorem dL_law_21 : decode cL_law 21 = .ok (.iconst 5, 1) := by decide +kernel
theorem dL_law_22 : decode cL_law 22 = .ok (.isub, 1) := by decide +kernel
theorem dL_law_23 : decode cL_law 23 = .ok (.if_icmp .gt 1038, 3) := by decide +kernel
theorem dL_law_26 : decode cL_law 26 = .ok (.aload_n 0, 1) := by decide +kernel
theorem dL_law_27 : decode cL_law 27 = .ok (.iload_n 3, 1) := by decide +kernel
theorem dL_law_28 : decode cL_law 28 = .ok (.iaload, 1) := by decide +kernel
theorem dL_law_29 : decode cL_law 29 = .ok (.bipush 63, 2) := by decide +kernel
theorem dL_law_31 : decode cL_law 31 = .ok (.iand, 1) := by decide +kernel
theorem dL_law_32 : decode cL_law 32 = .ok (.tableswitch 1023 0 34 #[156, 179, 192, 215, 238, 261, 294, 317, 350, 363, 396, 429, 472, 495, 529, 552, 585, 618, 631, 654, 667, 701, 724, 747, 760, 783, 816, 869, 882, 905, 918, 931, 974, 987, 1000], 156) := by decide +kernel
theorem dL_law_188 : decode cL_law 188 = .ok (.aload_n 1, 1) := by decide +kernel
theorem dL_law_189 : decode cL_law 189 = .ok (.aload_n 0, 1) := by decide +kernel
theorem dL_law_190 : decode cL_law 190 = .ok (.iload_n 3, 1) := by decide +kernel
theorem dL_law_191 : decode cL_law 191 = .ok (.iconst 1, 1) := by decide +kernel
theorem dL_law_192 : decode cL_law 192 = .ok (.iadd, 1) := by decide +kernel
theorem dL_law_193 : decode cL_law 193 = .ok (.iaload, 1) := by decide +kernel
theorem dL_law_194 : decode cL_law 194 = .ok (.invokevirtual 13, 3) := by decide +kernel
theorem dL_law_197 : decode cL_law 197 = .ok (.aload_n 2, 1) := by decide +kernel
theorem dL_law_198 : decode cL_law 198 = .ok (.aload_n 0, 1) := by decide +kernel
theorem dL_law_199 : decode cL_law 199 = .ok (.iload_n 3, 1) := by decide +kernel
theorem dL_law_200 : decode cL_law 200 = .ok (.iconst 1, 1) := by decide +kernel
theorem dL_law_201 : decode cL_law 201 = .ok (.iadd, 1) := by decide +kernel
theorem dL_law_202 : decode cL_law 202 = .ok (.iaload, 1) := by decide +kernel
theorem dL_law_203 : decode cL_law 203 = .ok (.invokevirtual 17, 3) := by decide +kernel
theorem dL_law_206 : decode cL_law 206 = .ok (.if_icmp .eq 849, 3) := by decide +kernel
theorem dL_law_209 : decode cL_law 209 = .ok (.iconst 0, 1) := by decide +kernel
theorem dL_law_210 : decode cL_law 210 = .ok (.ireturn, 1) := by decide +kernel
theorem dL_law_211 : decode cL_law 211 = .ok (.aload_n 1, 1) := by decide +kernel
theorem dL_law_212 : decode cL_law 212 = .ok (.invokevirtual 18, 3) := by decide +kernel
theorem dL_law_215 : decode cL_law 215 = .ok (.aload_n 2, 1) := by decide +kernel
theorem dL_law_216 : decode cL_law 216 = .ok (.invokevirtual 22, 3) := by decide +kernel
theorem dL_law_219 : decode cL_law 219 = .ok (.if_icmp .eq 836, 3) := by decide +kernel
theorem dL_law_222 : decode cL_law 222 = .ok (.iconst 0, 1) := by decide +kernel
theorem dL_law_223 : decode cL_law 223 = .ok (.ireturn, 1) := by decide +kernel
theorem dL_law_224 : decode cL_law 224 = .ok (.aload_n 1, 1) := by decide +kernel
theorem dL_law_225 : decode cL_law 225 = .ok (.aload_n 0, 1) := by decide +kernel
theorem dL_law_226 : decode cL_law 226 = .ok (.iload_n 3, 1) := by decide +kernel
theorem dL_law_227 : decode cL_law 227 = .ok (.iconst 1, 1) := by decide +kernel
theorem dL_law_228 : decode cL_law 228 = .ok (.iadd, 1) := by decide +kernel
theorem dL_law_229 : decode cL_law 229 = .ok (.iaload, 1) := by decide +kernel
theorem dL_law_230 : decode cL_law 230 = .ok (.invokevirtual 23, 3) := by decide +kernel
theorem dL_law_233 : decode cL_law 233 = .ok (.aload_n 2, 1) := by decide +kernel
theorem dL_law_234 : decode cL_law 234 = .ok (.aload_n 0, 1) := by decide +kernel
theorem dL_law_235 : decode cL_law 235 = .ok (.iload_n 3, 1) := by decide +kernel
theorem dL_law_236 : decode cL_law 236 = .ok (.iconst 1, 1) := by decide +kernel
theorem dL_law_237 : decode cL_law 237 = .ok (.iadd, 1) := by decide +kernel
theorem dL_law_238 : decode cL_law 238 = .ok (.iaload, 1) := by decide +kernel
theorem dL_law_239 : decode cL_law 239 = .ok (.invokevirtual 26, 3) := by decide +kernel
theorem dL_law_242 : decode cL_law 242 = .ok (.if_icmp .eq 813, 3) := by decide +kernel
theorem dL_law_245 : decode cL_law 245 = .ok (.iconst 0, 1) := by decide +kernel
theorem dL_law_246 : decode cL_law 246 = .ok (.ireturn, 1) := by decide +kernel
theorem dL_law_247 : decode cL_law 247 = .ok (.aload_n 1, 1) := by decide +kernel
theorem dL_law_248 : decode cL_law 248 = .ok (.aload_n 0, 1) := by decide +kernel
theorem dL_law_249 : decode cL_law 249 = .ok (.iload_n 3, 1) := by decide +kernel
theorem dL_law_250 : decode cL_law 250 = .ok (.iconst 1, 1) := by decide +kernel
theorem dL_law_251 : decode cL_law 251 = .ok (.iadd, 1) := by decide +kernel
theorem dL_law_252 : decode cL_law 252 = .ok (.iaload, 1) := by decide +kernel
theorem dL_law_253 : decode cL_law 253 = .ok (.invokevirtual 27, 3) := by decide +kernel
theorem dL_law_256 : decode cL_law 256 = .ok (.aload_n 2, 1) := by decide +kernel
theorem dL_law_257 : decode cL_law 257 = .ok (.aload_n 0, 1) := by decide +kernel
theorem dL_law_258 : decode cL_law 258 = .ok (.iload_n 3, 1) := by decide +kernel
theorem dL_law_259 : decode cL_law 259 = .ok (.iconst 1, 1) := by decide +kernel
theorem dL_law_260 : decode cL_law 260 = .ok (.iadd, 1) := by decide +kernel
theorem dL_law_261 : decode cL_law 261 = .ok (.iaload, 1) := by decide +kernel
theorem dL_law_262 : decode cL_law 262 = .ok (.invokevirtual 30, 3) := by decide +kernel
theorem dL_law_265 : decode cL_law 265 = .ok (.if_icmp .eq 790, 3) := by decide +kernel
theorem dL_law_268 : decode cL_law 268 = .ok (.iconst 0, 1) := by decide +kernel
theorem dL_law_269 : decode cL_law 269 = .ok (.ireturn, 1) := by decide +kernel
theorem dL_law_270 : decode cL_law 270 = .ok (.aload_n 1, 1) := by decide +kernel
theorem dL_law_271 : decode cL_law 271 = .ok (.aload_n 0, 1) := by decide +kernel
theorem dL_law_272 : decode cL_law 272 = .ok (.iload_n 3, 1) := by decide +kernel
theorem dL_law_273 : decode cL_law 273 = .ok (.iconst 1, 1) := by decide +kernel
theorem dL_law_274 : decode cL_law 274 = .ok (.iadd, 1) := by decide +kernel
theorem dL_law_275 : decode cL_law 275 = .ok (.iaload, 1) := by decide +kernel
theorem dL_law_276 : decode cL_law 276 = .ok (.invokevirtual 31, 3) := by decide +kernel
theorem dL_law_279 : decode cL_law 279 = .ok (.aload_n 2, 1) := by decide +kernel
theorem dL_law_280 : decode cL_law 280 = .ok (.aload_n 0, 1) := by decide +kernel
theorem dL_law_281 : decode cL_law 281 = .ok (.iload_n 3, 1) := by decide +kernel
theorem dL_law_282 : decode cL_law 282 = .ok (.iconst 1, 1) := by decide +kernel
theorem dL_law_283 : decode cL_law 283 = .ok (.iadd, 1) := by decide +kernel
theorem dL_law_284 : decode cL_law 284 = .ok (.iaload, 1) := by decide +kernel
theorem dL_law_285 : decode cL_law 285 = .ok (.invokevirtual 34, 3) := by decide +kernel
theorem dL_law_288 : decode cL_law 288 = .ok (.if_icmp .eq 767, 3) := by decide +kernel
theorem dL_law_291 : decode cL_law 291 = .ok (.iconst 0, 1) := by decide +kernel
theorem dL_law_292 : decode cL_law 292 = .ok (.ireturn, 1) := by decide +kernel
theorem dL_law_293 : decode cL_law 293 = .ok (.aload_n 1, 1) := by decide +kernel
theorem dL_law_294 : decode cL_law 294 = .ok (.aload_n 0, 1) := by decide +kernel
theorem dL_law_295 : decode cL_law 295 = .ok (.iload_n 3, 1) := by decide +kernel
theorem dL_law_296 : decode cL_law 296 = .ok (.iconst 1, 1) := by decide +kernel
theorem dL_law_297 : decode cL_law 297 = .ok (.iadd, 1) := by decide +kernel
theorem dL_law_298 : decode cL_law 298 = .ok (.iaload, 1) := by decide +kernel
theorem dL_law_299 : decode cL_law 299 = .ok (.aload_n 0, 1) := by decide +kernel
theorem dL_law_300 : decode cL_law 300 = .ok (.iload_n 3, 1) := by decide +kernel
theorem dL_law_301 : decode cL_law 301 = .ok (.iconst 2, 1) := by decide +kernel
theorem dL_law_302 : decode cL_law 302 = .ok (.iadd, 1) := by decide +kernel
theorem dL_law_303 : decode cL_law 303 = .ok (.iaload, 1) := by decide +kernel
theorem dL_law_304 : decode cL_law 304 = .ok (.invokevirtual 35, 3) := by decide +kernel
theorem dL_law_307 : decode cL_law 307 = .ok (.aload_n 2, 1) := by decide +kernel
theorem dL_law_308 : decode cL_law 308 = .ok (.aload_n 0, 1) := by decide +kernel
theorem dL_law_309 : decode cL_law 309 = .ok (.iload_n 3, 1) := by decide +kernel
theorem dL_law_310 : decode cL_law 310 = .ok (.iconst 1, 1) := by decide +kernel
theorem dL_law_311 : decode cL_law 311 = .ok (.iadd, 1) := by decide +kernel
theorem dL_law_312 : decode cL_law 312 = .ok (.iaload, 1) := by decide +kernel
theorem dL_law_313 : decode cL_law 313 = .ok (.aload_n 0, 1) := by decide +kernel
theorem dL_law_314 : decode cL_law 314 = .ok (.iload_n 3, 1) := by decide +kernel
theorem dL_law_315 : decode cL_law 315 = .ok (.iconst 2, 1) := by decide +kernel
theorem dL_law_316 : decode cL_law 316 = .ok (.iadd, 1) := by decide +kernel
theorem dL_law_317 : decode cL_law 317 = .ok (.iaload, 1) := by decide +kernel
theorem dL_law_318 : decode cL_law 318 = .ok (.invokevirtual 39, 3) := by decide +kernel
theorem dL_law_321 : decode cL_law 321 = .ok (.if_icmp .eq 734, 3) := by decide +kernel
theorem dL_law_324 : decode cL_law 324 = .ok (.iconst 0, 1) := by decide +kernel
theorem dL_law_325 : decode cL_law 325 = .ok (.ireturn, 1) := by decide +kernel
theorem dL_law_326 : decode cL_law 326 = .ok (.aload_n 1, 1) := by decide +kernel
theorem dL_law_327 : decode cL_law 327 = .ok (.aload_n 0, 1) := by decide +kernel
theorem dL_law_328 : decode cL_law 328 = .ok (.iload_n 3, 1) := by decide +kernel
theorem dL_law_329 : decode cL_law 329 = .ok (.iconst 1, 1) := by decide +kernel
theorem dL_law_330 : decode cL_law 330 = .ok (.iadd, 1) := by decide +kernel
theorem dL_law_331 : decode cL_law 331 = .ok (.iaload, 1) := by decide +kernel
theorem dL_law_332 : decode cL_law 332 = .ok (.invokevirtual 40, 3) := by decide +kernel
theorem dL_law_335 : decode cL_law 335 = .ok (.aload_n 2, 1) := by decide +kernel
theorem dL_law_336 : decode cL_law 336 = .ok (.aload_n 0, 1) := by decide +kernel
theorem dL_law_337 : decode cL_law 337 = .ok (.iload_n 3, 1) := by decide +kernel
theorem dL_law_338 : decode cL_law 338 = .ok (.iconst 1, 1) := by decide +kernel
theorem dL_law_339 : decode cL_law 339 = .ok (.iadd, 1) := by decide +kernel
theorem dL_law_340 : decode cL_law 340 = .ok (.iaload, 1) := by decide +kernel
theorem dL_law_341 : decode cL_law 341 = .ok (.invokevirtual 43, 3) := by decide +kernel
theorem dL_law_344 : decode cL_law 344 = .ok (.if_icmp .eq 711, 3) := by decide +kernel
theorem dL_law_347 : decode cL_law 347 = .ok (.iconst 0, 1) := by decide +kernel
theorem dL_law_348 : decode cL_law 348 = .ok (.ireturn, 1) := by decide +kernel
theorem dL_law_349 : decode cL_law 349 = .ok (.aload_n 1, 1) := by decide +kernel
theorem dL_law_350 : decode cL_law 350 = .ok (.aload_n 0, 1) := by decide +kernel
theorem dL_law_351 : decode cL_law 351 = .ok (.iload_n 3, 1) := by decide +kernel
theorem dL_law_352 : decode cL_law 352 = .ok (.iconst 1, 1) := by decide +kernel
theorem dL_law_353 : decode cL_law 353 = .ok (.iadd, 1) := by decide +kernel
theorem dL_law_354 : decode cL_law 354 = .ok (.iaload, 1) := by decide +kernel
theorem dL_law_355 : decode cL_law 355 = .ok (.aload_n 0, 1) := by decide +kernel
theorem dL_law_356 : decode cL_law 356 = .ok (.iload_n 3, 1) := by decide +kernel
theorem dL_law_357 : decode cL_law 357 = .ok (.iconst 2, 1) := by decide +kernel
theorem dL_law_358 : decode cL_law 358 = .ok (.iadd, 1) := by decide +kernel
theorem dL_law_359 : decode cL_law 359 = .ok (.iaload, 1) := by decide +kernel
theorem dL_law_360 : decode cL_law 360 = .ok (.invokevirtual 44, 3) := by decide +kernel
theorem dL_law_363 : decode cL_law 363 = .ok (.aload_n 2, 1) := by decide +kernel
theorem dL_law_364 : decode cL_law 364 = .ok (.aload_n 0, 1) := by decide +kernel
theorem dL_law_365 : decode cL_law 365 = .ok (.iload_n 3, 1) := by decide +kernel
theorem dL_law_366 : decode cL_law 366 = .ok (.iconst 1, 1) := by decide +kernel
theorem dL_law_367 : decode cL_law 367 = .ok (.iadd, 1) := by decide +kernel
theorem dL_law_368 : decode cL_law 368 = .ok (.iaload, 1) := by decide +kernel
theorem dL_law_369 : decode cL_law 369 = .ok (.aload_n 0, 1) := by decide +kernel
theorem dL_law_370 : decode cL_law 370 = .ok (.iload_n 3, 1) := by decide +kernel
theorem dL_law_371 : decode cL_law 371 = .ok (.iconst 2, 1) := by decide +kernel
theorem dL_law_372 : decode cL_law 372 = .ok (.iadd, 1) := by decide +kernel
theorem dL_law_373 : decode cL_law 373 = .ok (.iaload, 1) := by decide +kernel
theorem dL_law_374 : decode cL_law 374 = .ok (.invokevirtual 47, 3) := by decide +kernel
theorem dL_law_377 : decode cL_law 377 = .ok (.if_icmp .eq 678, 3) := by decide +kernel
theorem dL_law_380 : decode cL_law 380 = .ok (.iconst 0, 1) := by decide +kernel
theorem dL_law_381 : decode cL_law 381 = .ok (.ireturn, 1) := by decide +kernel
theorem dL_law_382 : decode cL_law 382 = .ok (.aload_n 1, 1) := by decide +kernel
theorem dL_law_383 : decode cL_law 383 = .ok (.invokevirtual 48, 3) := by decide +kernel
theorem dL_law_386 : decode cL_law 386 = .ok (.aload_n 2, 1) := by decide +kernel
theorem dL_law_387 : decode cL_law 387 = .ok (.invokevirtual 51, 3) := by decide +kernel
theorem dL_law_390 : decode cL_law 390 = .ok (.if_icmp .eq 665, 3) := by decide +kernel
theorem dL_law_393 : decode cL_law 393 = .ok (.iconst 0, 1) := by decide +kernel
theorem dL_law_394 : decode cL_law 394 = .ok (.ireturn, 1) := by decide +kernel
theorem dL_law_395 : decode cL_law 395 = .ok (.aload_n 1, 1) := by decide +kernel
theorem dL_law_396 : decode cL_law 396 = .ok (.aload_n 0, 1) := by decide +kernel
theorem dL_law_397 : decode cL_law 397 = .ok (.iload_n 3, 1) := by decide +kernel
theorem dL_law_398 : decode cL_law 398 = .ok (.iconst 1, 1) := by decide +kernel
theorem dL_law_399 : decode cL_law 399 = .ok (.iadd, 1) := by decide +kernel
theorem dL_law_400 : decode cL_law 400 = .ok (.iaload, 1) := by decide +kernel
theorem dL_law_401 : decode cL_law 401 = .ok (.aload_n 0, 1) := by decide +kernel
theorem dL_law_402 : decode cL_law 402 = .ok (.iload_n 3, 1) := by decide +kernel
theorem dL_law_403 : decode cL_law 403 = .ok (.iconst 2, 1) := by decide +kernel
theorem dL_law_404 : decode cL_law 404 = .ok (.iadd, 1) := by decide +kernel
theorem dL_law_405 : decode cL_law 405 = .ok (.iaload, 1) := by decide +kernel
theorem dL_law_406 : decode cL_law 406 = .ok (.invokevirtual 52, 3) := by decide +kernel
theorem dL_law_409 : decode cL_law 409 = .ok (.aload_n 2, 1) := by decide +kernel
theorem dL_law_410 : decode cL_law 410 = .ok (.aload_n 0, 1) := by decide +kernel
theorem dL_law_411 : decode cL_law 411 = .ok (.iload_n 3, 1) := by decide +kernel
theorem dL_law_412 : decode cL_law 412 = .ok (.iconst 1, 1) := by decide +kernel
theorem dL_law_413 : decode cL_law 413 = .ok (.iadd, 1) := by decide +kernel
theorem dL_law_414 : decode cL_law 414 = .ok (.iaload, 1) := by decide +kernel
theorem dL_law_415 : decode cL_law 415 = .ok (.aload_n 0, 1) := by decide +kernel
theorem dL_law_416 : decode cL_law 416 = .ok (.iload_n 3, 1) := by decide +kernel
theorem dL_law_417 : decode cL_law 417 = .ok (.iconst 2, 1) := by decide +kernel
theorem dL_law_418 : decode cL_law 418 = .ok (.iadd, 1) := by decide +kernel
theorem dL_law_419 : decode cL_law 419 = .ok (.iaload, 1) := by decide +kernel
theorem dL_law_420 : decode cL_law 420 = .ok (.invokevirtual 55, 3) := by decide +kernel
theorem dL_law_423 : decode cL_law 423 = .ok (.if_icmp .eq 632, 3) := by decide +kernel
theorem dL_law_426 : decode cL_law 426 = .ok (.iconst 0, 1) := by decide +kernel
theorem dL_law_427 : decode cL_law 427 = .ok (.ireturn, 1) := by decide +kernel
theorem dL_law_428 : decode cL_law 428 = .ok (.aload_n 1, 1) := by decide +kernel
theorem dL_law_429 : decode cL_law 429 = .ok (.aload_n 0, 1) := by decide +kernel
theorem dL_law_430 : decode cL_law 430 = .ok (.iload_n 3, 1) := by decide +kernel
theorem dL_law_431 : decode cL_law 431 = .ok (.iconst 1, 1) := by decide +kernel
theorem dL_law_432 : decode cL_law 432 = .ok (.iadd, 1) := by decide +kernel
theorem dL_law_433 : decode cL_law 433 = .ok (.iaload, 1) := by decide +kernel
theorem dL_law_434 : decode cL_law 434 = .ok (.aload_n 0, 1) := by decide +kernel
theorem dL_law_435 : decode cL_law 435 = .ok (.iload_n 3, 1) := by decide +kernel
theorem dL_law_436 : decode cL_law 436 = .ok (.iconst 2, 1) := by decide +kernel
theorem dL_law_437 : decode cL_law 437 = .ok (.iadd, 1) := by decide +kernel
theorem dL_law_438 : decode cL_law 438 = .ok (.iaload, 1) := by decide +kernel
theorem dL_law_439 : decode cL_law 439 = .ok (.invokevirtual 56, 3) := by decide +kernel
theorem dL_law_442 : decode cL_law 442 = .ok (.aload_n 2, 1) := by decide +kernel
theorem dL_law_443 : decode cL_law 443 = .ok (.aload_n 0, 1) := by decide +kernel
theorem dL_law_444 : decode cL_law 444 = .ok (.iload_n 3, 1) := by decide +kernel
theorem dL_law_445 : decode cL_law 445 = .ok (.iconst 1, 1) := by decide +kernel
theorem dL_law_446 : decode cL_law 446 = .ok (.iadd, 1) := by decide +kernel
theorem dL_law_447 : decode cL_law 447 = .ok (.iaload, 1) := by decide +kernel
theorem dL_law_448 : decode cL_law 448 = .ok (.aload_n 0, 1) := by decide +kernel
theorem dL_law_449 : decode cL_law 449 = .ok (.iload_n 3, 1) := by decide +kernel
theorem dL_law_450 : decode cL_law 450 = .ok (.iconst 2, 1) := by decide +kernel
theorem dL_law_451 : decode cL_law 451 = .ok (.iadd, 1) := by decide +kernel
theorem dL_law_452 : decode cL_law 452 = .ok (.iaload, 1) := by decide +kernel
theorem dL_law_453 : decode cL_law 453 = .ok (.invokevirtual 59, 3) := by decide +kernel
theorem dL_law_456 : decode cL_law 456 = .ok (.if_icmp .eq 599, 3) := by decide +kernel
theorem dL_law_459 : decode cL_law 459 = .ok (.iconst 0, 1) := by decide +kernel
theorem dL_law_460 : decode cL_law 460 = .ok (.ireturn, 1) := by decide +kernel
theorem dL_law_461 : decode cL_law 461 = .ok (.aload_n 1, 1) := by decide +kernel
theorem dL_law_462 : decode cL_law 462 = .ok (.aload_n 0, 1) := by decide +kernel
theorem dL_law_463 : decode cL_law 463 = .ok (.iload_n 3, 1) := by decide +kernel
theorem dL_law_464 : decode cL_law 464 = .ok (.iconst 1, 1) := by decide +kernel
theorem dL_law_465 : decode cL_law 465 = .ok (.iadd, 1) := by decide +kernel
theorem dL_law_466 : decode cL_law 466 = .ok (.iaload, 1) := by decide +kernel
theorem dL_law_467 : decode cL_law 467 = .ok (.aload_n 0, 1) := by decide +kernel
theorem dL_law_468 : decode cL_law 468 = .ok (.iload_n 3, 1) := by decide +kernel
theorem dL_law_469 : decode cL_law 469 = .ok (.iconst 2, 1) := by decide +kernel
theorem dL_law_470 : decode cL_law 470 = .ok (.iadd, 1) := by decide +kernel
theorem dL_law_471 : decode cL_law 471 = .ok (.iaload, 1) := by decide +kernel
theorem dL_law_472 : decode cL_law 472 = .ok (.aload_n 0, 1) := by decide +kernel
theorem dL_law_473 : decode cL_law 473 = .ok (.iload_n 3, 1) := by decide +kernel
theorem dL_law_474 : decode cL_law 474 = .ok (.iconst 3, 1) := by decide +kernel
theorem dL_law_475 : decode cL_law 475 = .ok (.iadd, 1) := by decide +kernel
theorem dL_law_476 : decode cL_law 476 = .ok (.iaload, 1) := by decide +kernel
theorem dL_law_477 : decode cL_law 477 = .ok (.invokevirtual 60, 3) := by decide +kernel
theorem dL_law_480 : decode cL_law 480 = .ok (.aload_n 2, 1) := by decide +kernel
theorem dL_law_481 : decode cL_law 481 = .ok (.aload_n 0, 1) := by decide +kernel
theorem dL_law_482 : decode cL_law 482 = .ok (.iload_n 3, 1) := by decide +kernel
theorem dL_law_483 : decode cL_law 483 = .ok (.iconst 1, 1) := by decide +kernel
theorem dL_law_484 : decode cL_law 484 = .ok (.iadd, 1) := by decide +kernel
theorem dL_law_485 : decode cL_law 485 = .ok (.iaload, 1) := by decide +kernel
theorem dL_law_486 : decode cL_law 486 = .ok (.aload_n 0, 1) := by decide +kernel
theorem dL_law_487 : decode cL_law 487 = .ok (.iload_n 3, 1) := by decide +kernel
theorem dL_law_488 : decode cL_law 488 = .ok (.iconst 2, 1) := by decide +kernel
theorem dL_law_489 : decode cL_law 489 = .ok (.iadd, 1) := by decide +kernel
theorem dL_law_490 : decode cL_law 490 = .ok (.iaload, 1) := by decide +kernel
theorem dL_law_491 : decode cL_law 491 = .ok (.aload_n 0, 1) := by decide +kernel
theorem dL_law_492 : decode cL_law 492 = .ok (.iload_n 3, 1) := by decide +kernel
theorem dL_law_493 : decode cL_law 493 = .ok (.iconst 3, 1) := by decide +kernel
theorem dL_law_494 : decode cL_law 494 = .ok (.iadd, 1) := by decide +kernel
theorem dL_law_495 : decode cL_law 495 = .ok (.iaload, 1) := by decide +kernel
theorem dL_law_496 : decode cL_law 496 = .ok (.invokevirtual 64, 3) := by decide +kernel
theorem dL_law_499 : decode cL_law 499 = .ok (.if_icmp .eq 556, 3) := by decide +kernel
theorem dL_law_502 : decode cL_law 502 = .ok (.iconst 0, 1) := by decide +kernel
theorem dL_law_503 : decode cL_law 503 = .ok (.ireturn, 1) := by decide +kernel
theorem dL_law_504 : decode cL_law 504 = .ok (.aload_n 1, 1) := by decide +kernel
theorem dL_law_505 : decode cL_law 505 = .ok (.aload_n 0, 1) := by decide +kernel
theorem dL_law_506 : decode cL_law 506 = .ok (.iload_n 3, 1) := by decide +kernel
theorem dL_law_507 : decode cL_law 507 = .ok (.iconst 1, 1) := by decide +kernel
theorem dL_law_508 : decode cL_law 508 = .ok (.iadd, 1) := by decide +kernel
theorem dL_law_509 : decode cL_law 509 = .ok (.iaload, 1) := by decide +kernel
theorem dL_law_510 : decode cL_law 510 = .ok (.invokevirtual 65, 3) := by decide +kernel
theorem dL_law_513 : decode cL_law 513 = .ok (.aload_n 2, 1) := by decide +kernel
theorem dL_law_514 : decode cL_law 514 = .ok (.aload_n 0, 1) := by decide +kernel
theorem dL_law_515 : decode cL_law 515 = .ok (.iload_n 3, 1) := by decide +kernel
theorem dL_law_516 : decode cL_law 516 = .ok (.iconst 1, 1) := by decide +kernel
theorem dL_law_517 : decode cL_law 517 = .ok (.iadd, 1) := by decide +kernel
theorem dL_law_518 : decode cL_law 518 = .ok (.iaload, 1) := by decide +kernel
theorem dL_law_519 : decode cL_law 519 = .ok (.invokevirtual 68, 3) := by decide +kernel
theorem dL_law_522 : decode cL_law 522 = .ok (.if_icmp .eq 533, 3) := by decide +kernel
theorem dL_law_525 : decode cL_law 525 = .ok (.iconst 0, 1) := by decide +kernel
theorem dL_law_526 : decode cL_law 526 = .ok (.ireturn, 1) := by decide +kernel
theorem dL_law_527 : decode cL_law 527 = .ok (.aload_n 1, 1) := by decide +kernel
theorem dL_law_528 : decode cL_law 528 = .ok (.aload_n 0, 1) := by decide +kernel
theorem dL_law_529 : decode cL_law 529 = .ok (.iload_n 3, 1) := by decide +kernel
theorem dL_law_530 : decode cL_law 530 = .ok (.iconst 1, 1) := by decide +kernel
theorem dL_law_531 : decode cL_law 531 = .ok (.iadd, 1) := by decide +kernel
theorem dL_law_532 : decode cL_law 532 = .ok (.iaload, 1) := by decide +kernel
theorem dL_law_533 : decode cL_law 533 = .ok (.aload_n 0, 1) := by decide +kernel
theorem dL_law_534 : decode cL_law 534 = .ok (.iload_n 3, 1) := by decide +kernel
theorem dL_law_535 : decode cL_law 535 = .ok (.iconst 2, 1) := by decide +kernel
theorem dL_law_536 : decode cL_law 536 = .ok (.iadd, 1) := by decide +kernel
theorem dL_law_537 : decode cL_law 537 = .ok (.iaload, 1) := by decide +kernel
theorem dL_law_538 : decode cL_law 538 = .ok (.invokevirtual 69, 3) := by decide +kernel
theorem dL_law_541 : decode cL_law 541 = .ok (.aload_n 2, 1) := by decide +kernel
theorem dL_law_542 : decode cL_law 542 = .ok (.aload_n 0, 1) := by decide +kernel
theorem dL_law_543 : decode cL_law 543 = .ok (.iload_n 3, 1) := by decide +kernel
theorem dL_law_544 : decode cL_law 544 = .ok (.iconst 1, 1) := by decide +kernel
theorem dL_law_545 : decode cL_law 545 = .ok (.iadd, 1) := by decide +kernel
theorem dL_law_546 : decode cL_law 546 = .ok (.iaload, 1) := by decide +kernel
theorem dL_law_547 : decode cL_law 547 = .ok (.aload_n 0, 1) := by decide +kernel
theorem dL_law_548 : decode cL_law 548 = .ok (.iload_n 3, 1) := by decide +kernel
theorem dL_law_549 : decode cL_law 549 = .ok (.iconst 2, 1) := by decide +kernel
theorem dL_law_550 : decode cL_law 550 = .ok (.iadd, 1) := by decide +kernel
theorem dL_law_551 : decode cL_law 551 = .ok (.iaload, 1) := by decide +kernel
theorem dL_law_552 : decode cL_law 552 = .ok (.invokevirtual 73, 3) := by decide +kernel
theorem dL_law_555 : decode cL_law 555 = .ok (.lcmp, 1) := by decide +kernel
theorem dL_law_556 : decode cL_law 556 = .ok (.ifCond .eq 499, 3) := by decide +kernel
theorem dL_law_559 : decode cL_law 559 = .ok (.iconst 0, 1) := by decide +kernel
theorem dL_law_560 : decode cL_law 560 = .ok (.ireturn, 1) := by decide +kernel
theorem dL_law_561 : decode cL_law 561 = .ok (.aload_n 1, 1) := by decide +kernel
theorem dL_law_562 : decode cL_law 562 = .ok (.aload_n 0, 1) := by decide +kernel
theorem dL_law_563 : decode cL_law 563 = .ok (.iload_n 3, 1) := by decide +kernel
theorem dL_law_564 : decode cL_law 564 = .ok (.iconst 1, 1) := by decide +kernel
theorem dL_law_565 : decode cL_law 565 = .ok (.iadd, 1) := by decide +kernel
theorem dL_law_566 : decode cL_law 566 = .ok (.iaload, 1) := by decide +kernel
theorem dL_law_567 : decode cL_law 567 = .ok (.invokevirtual 74, 3) := by decide +kernel
theorem dL_law_570 : decode cL_law 570 = .ok (.aload_n 2, 1) := by decide +kernel
theorem dL_law_571 : decode cL_law 571 = .ok (.aload_n 0, 1) := by decide +kernel
theorem dL_law_572 : decode cL_law 572 = .ok (.iload_n 3, 1) := by decide +kernel
theorem dL_law_573 : decode cL_law 573 = .ok (.iconst 1, 1) := by decide +kernel
theorem dL_law_574 : decode cL_law 574 = .ok (.iadd, 1) := by decide +kernel
theorem dL_law_575 : decode cL_law 575 = .ok (.iaload, 1) := by decide +kernel
theorem dL_law_576 : decode cL_law 576 = .ok (.invokevirtual 77, 3) := by decide +kernel
theorem dL_law_579 : decode cL_law 579 = .ok (.if_icmp .eq 476, 3) := by decide +kernel
theorem dL_law_582 : decode cL_law 582 = .ok (.iconst 0, 1) := by decide +kernel
theorem dL_law_583 : decode cL_law 583 = .ok (.ireturn, 1) := by decide +kernel
theorem dL_law_584 : decode cL_law 584 = .ok (.aload_n 1, 1) := by decide +kernel
theorem dL_law_585 : decode cL_law 585 = .ok (.aload_n 0, 1) := by decide +kernel
theorem dL_law_586 : decode cL_law 586 = .ok (.iload_n 3, 1) := by decide +kernel
theorem dL_law_587 : decode cL_law 587 = .ok (.iconst 1, 1) := by decide +kernel
theorem dL_law_588 : decode cL_law 588 = .ok (.iadd, 1) := by decide +kernel
theorem dL_law_589 : decode cL_law 589 = .ok (.iaload, 1) := by decide +kernel
theorem dL_law_590 : decode cL_law 590 = .ok (.aload_n 0, 1) := by decide +kernel
theorem dL_law_591 : decode cL_law 591 = .ok (.iload_n 3, 1) := by decide +kernel
theorem dL_law_592 : decode cL_law 592 = .ok (.iconst 2, 1) := by decide +kernel
theorem dL_law_593 : decode cL_law 593 = .ok (.iadd, 1) := by decide +kernel
theorem dL_law_594 : decode cL_law 594 = .ok (.iaload, 1) := by decide +kernel
theorem dL_law_595 : decode cL_law 595 = .ok (.invokevirtual 78, 3) := by decide +kernel
theorem dL_law_598 : decode cL_law 598 = .ok (.aload_n 2, 1) := by decide +kernel
theorem dL_law_599 : decode cL_law 599 = .ok (.aload_n 0, 1) := by decide +kernel
theorem dL_law_600 : decode cL_law 600 = .ok (.iload_n 3, 1) := by decide +kernel
theorem dL_law_601 : decode cL_law 601 = .ok (.iconst 1, 1) := by decide +kernel
theorem dL_law_602 : decode cL_law 602 = .ok (.iadd, 1) := by decide +kernel
theorem dL_law_603 : decode cL_law 603 = .ok (.iaload, 1) := by decide +kernel
theorem dL_law_604 : decode cL_law 604 = .ok (.aload_n 0, 1) := by decide +kernel
theorem dL_law_605 : decode cL_law 605 = .ok (.iload_n 3, 1) := by decide +kernel
theorem dL_law_606 : decode cL_law 606 = .ok (.iconst 2, 1) := by decide +kernel
theorem dL_law_607 : decode cL_law 607 = .ok (.iadd, 1) := by decide +kernel
theorem dL_law_608 : decode cL_law 608 = .ok (.iaload, 1) := by decide +kernel
theorem dL_law_609 : decode cL_law 609 = .ok (.invokevirtual 81, 3) := by decide +kernel
theorem dL_law_612 : decode cL_law 612 = .ok (.if_icmp .eq 443, 3) := by decide +kernel
theorem dL_law_615 : decode cL_law 615 = .ok (.iconst 0, 1) := by decide +kernel
theorem dL_law_616 : decode cL_law 616 = .ok (.ireturn, 1) := by decide +kernel
theorem dL_law_617 : decode cL_law 617 = .ok (.aload_n 1, 1) := by decide +kernel
theorem dL_law_618 : decode cL_law 618 = .ok (.aload_n 0, 1) := by decide +kernel
theorem dL_law_619 : decode cL_law 619 = .ok (.iload_n 3, 1) := by decide +kernel
theorem dL_law_620 : decode cL_law 620 = .ok (.iconst 1, 1) := by decide +kernel
theorem dL_law_621 : decode cL_law 621 = .ok (.iadd, 1) := by decide +kernel
theorem dL_law_622 : decode cL_law 622 = .ok (.iaload, 1) := by decide +kernel
theorem dL_law_623 : decode cL_law 623 = .ok (.aload_n 0, 1) := by decide +kernel
theorem dL_law_624 : decode cL_law 624 = .ok (.iload_n 3, 1) := by decide +kernel
theorem dL_law_625 : decode cL_law 625 = .ok (.iconst 2, 1) := by decide +kernel
theorem dL_law_626 : decode cL_law 626 = .ok (.iadd, 1) := by decide +kernel
theorem dL_law_627 : decode cL_law 627 = .ok (.iaload, 1) := by decide +kernel
theorem dL_law_628 : decode cL_law 628 = .ok (.invokevirtual 82, 3) := by decide +kernel
theorem dL_law_631 : decode cL_law 631 = .ok (.aload_n 2, 1) := by decide +kernel
theorem dL_law_632 : decode cL_law 632 = .ok (.aload_n 0, 1) := by decide +kernel
theorem dL_law_633 : decode cL_law 633 = .ok (.iload_n 3, 1) := by decide +kernel
theorem dL_law_634 : decode cL_law 634 = .ok (.iconst 1, 1) := by decide +kernel
theorem dL_law_635 : decode cL_law 635 = .ok (.iadd, 1) := by decide +kernel
theorem dL_law_636 : decode cL_law 636 = .ok (.iaload, 1) := by decide +kernel
theorem dL_law_637 : decode cL_law 637 = .ok (.aload_n 0, 1) := by decide +kernel
theorem dL_law_638 : decode cL_law 638 = .ok (.iload_n 3, 1) := by decide +kernel
theorem dL_law_639 : decode cL_law 639 = .ok (.iconst 2, 1) := by decide +kernel
theorem dL_law_640 : decode cL_law 640 = .ok (.iadd, 1) := by decide +kernel
theorem dL_law_641 : decode cL_law 641 = .ok (.iaload, 1) := by decide +kernel
theorem dL_law_642 : decode cL_law 642 = .ok (.invokevirtual 85, 3) := by decide +kernel
theorem dL_law_645 : decode cL_law 645 = .ok (.if_icmp .eq 410, 3) := by decide +kernel
theorem dL_law_648 : decode cL_law 648 = .ok (.iconst 0, 1) := by decide +kernel
theorem dL_law_649 : decode cL_law 649 = .ok (.ireturn, 1) := by decide +kernel
theorem dL_law_650 : decode cL_law 650 = .ok (.aload_n 1, 1) := by decide +kernel
theorem dL_law_651 : decode cL_law 651 = .ok (.invokevirtual 86, 3) := by decide +kernel
theorem dL_law_654 : decode cL_law 654 = .ok (.aload_n 2, 1) := by decide +kernel
theorem dL_law_655 : decode cL_law 655 = .ok (.invokevirtual 89, 3) := by decide +kernel
theorem dL_law_658 : decode cL_law 658 = .ok (.if_icmp .eq 397, 3) := by decide +kernel
theorem dL_law_661 : decode cL_law 661 = .ok (.iconst 0, 1) := by decide +kernel
theorem dL_law_662 : decode cL_law 662 = .ok (.ireturn, 1) := by decide +kernel
theorem dL_law_663 : decode cL_law 663 = .ok (.aload_n 1, 1) := by decide +kernel
theorem dL_law_664 : decode cL_law 664 = .ok (.aload_n 0, 1) := by decide +kernel
theorem dL_law_665 : decode cL_law 665 = .ok (.iload_n 3, 1) := by decide +kernel
theorem dL_law_666 : decode cL_law 666 = .ok (.iconst 1, 1) := by decide +kernel
theorem dL_law_667 : decode cL_law 667 = .ok (.iadd, 1) := by decide +kernel
theorem dL_law_668 : decode cL_law 668 = .ok (.iaload, 1) := by decide +kernel
theorem dL_law_669 : decode cL_law 669 = .ok (.invokevirtual 90, 3) := by decide +kernel
theorem dL_law_672 : decode cL_law 672 = .ok (.aload_n 2, 1) := by decide +kernel
theorem dL_law_673 : decode cL_law 673 = .ok (.aload_n 0, 1) := by decide +kernel
theorem dL_law_674 : decode cL_law 674 = .ok (.iload_n 3, 1) := by decide +kernel
theorem dL_law_675 : decode cL_law 675 = .ok (.iconst 1, 1) := by decide +kernel
theorem dL_law_676 : decode cL_law 676 = .ok (.iadd, 1) := by decide +kernel
theorem dL_law_677 : decode cL_law 677 = .ok (.iaload, 1) := by decide +kernel
theorem dL_law_678 : decode cL_law 678 = .ok (.invokevirtual 93, 3) := by decide +kernel
theorem dL_law_681 : decode cL_law 681 = .ok (.if_icmp .eq 374, 3) := by decide +kernel
theorem dL_law_684 : decode cL_law 684 = .ok (.iconst 0, 1) := by decide +kernel
theorem dL_law_685 : decode cL_law 685 = .ok (.ireturn, 1) := by decide +kernel
theorem dL_law_686 : decode cL_law 686 = .ok (.aload_n 1, 1) := by decide +kernel
theorem dL_law_687 : decode cL_law 687 = .ok (.invokevirtual 94, 3) := by decide +kernel
theorem dL_law_690 : decode cL_law 690 = .ok (.aload_n 2, 1) := by decide +kernel
theorem dL_law_691 : decode cL_law 691 = .ok (.invokevirtual 97, 3) := by decide +kernel
theorem dL_law_694 : decode cL_law 694 = .ok (.if_icmp .eq 361, 3) := by decide +kernel
theorem dL_law_697 : decode cL_law 697 = .ok (.iconst 0, 1) := by decide +kernel
theorem dL_law_698 : decode cL_law 698 = .ok (.ireturn, 1) := by decide +kernel
theorem dL_law_699 : decode cL_law 699 = .ok (.aload_n 1, 1) := by decide +kernel
theorem dL_law_700 : decode cL_law 700 = .ok (.aload_n 0, 1) := by decide +kernel
theorem dL_law_701 : decode cL_law 701 = .ok (.iload_n 3, 1) := by decide +kernel
theorem dL_law_702 : decode cL_law 702 = .ok (.iconst 1, 1) := by decide +kernel
theorem dL_law_703 : decode cL_law 703 = .ok (.iadd, 1) := by decide +kernel
theorem dL_law_704 : decode cL_law 704 = .ok (.iaload, 1) := by decide +kernel
theorem dL_law_705 : decode cL_law 705 = .ok (.aload_n 0, 1) := by decide +kernel
theorem dL_law_706 : decode cL_law 706 = .ok (.iload_n 3, 1) := by decide +kernel
theorem dL_law_707 : decode cL_law 707 = .ok (.iconst 2, 1) := by decide +kernel
theorem dL_law_708 : decode cL_law 708 = .ok (.iadd, 1) := by decide +kernel
theorem dL_law_709 : decode cL_law 709 = .ok (.iaload, 1) := by decide +kernel
theorem dL_law_710 : decode cL_law 710 = .ok (.invokevirtual 98, 3) := by decide +kernel
theorem dL_law_713 : decode cL_law 713 = .ok (.aload_n 2, 1) := by decide +kernel
theorem dL_law_714 : decode cL_law 714 = .ok (.aload_n 0, 1) := by decide +kernel
theorem dL_law_715 : decode cL_law 715 = .ok (.iload_n 3, 1) := by decide +kernel
theorem dL_law_716 : decode cL_law 716 = .ok (.iconst 1, 1) := by decide +kernel
theorem dL_law_717 : decode cL_law 717 = .ok (.iadd, 1) := by decide +kernel
theorem dL_law_718 : decode cL_law 718 = .ok (.iaload, 1) := by decide +kernel
theorem dL_law_719 : decode cL_law 719 = .ok (.aload_n 0, 1) := by decide +kernel
theorem dL_law_720 : decode cL_law 720 = .ok (.iload_n 3, 1) := by decide +kernel
theorem dL_law_721 : decode cL_law 721 = .ok (.iconst 2, 1) := by decide +kernel
theorem dL_law_722 : decode cL_law 722 = .ok (.iadd, 1) := by decide +kernel
theorem dL_law_723 : decode cL_law 723 = .ok (.iaload, 1) := by decide +kernel
theorem dL_law_724 : decode cL_law 724 = .ok (.invokevirtual 101, 3) := by decide +kernel
theorem dL_law_727 : decode cL_law 727 = .ok (.lcmp, 1) := by decide +kernel
theorem dL_law_728 : decode cL_law 728 = .ok (.ifCond .eq 327, 3) := by decide +kernel
theorem dL_law_731 : decode cL_law 731 = .ok (.iconst 0, 1) := by decide +kernel
theorem dL_law_732 : decode cL_law 732 = .ok (.ireturn, 1) := by decide +kernel
theorem dL_law_733 : decode cL_law 733 = .ok (.aload_n 1, 1) := by decide +kernel
theorem dL_law_734 : decode cL_law 734 = .ok (.aload_n 0, 1) := by decide +kernel
theorem dL_law_735 : decode cL_law 735 = .ok (.iload_n 3, 1) := by decide +kernel
theorem dL_law_736 : decode cL_law 736 = .ok (.iconst 1, 1) := by decide +kernel
theorem dL_law_737 : decode cL_law 737 = .ok (.iadd, 1) := by decide +kernel
theorem dL_law_738 : decode cL_law 738 = .ok (.iaload, 1) := by decide +kernel
theorem dL_law_739 : decode cL_law 739 = .ok (.invokevirtual 102, 3) := by decide +kernel
theorem dL_law_742 : decode cL_law 742 = .ok (.aload_n 2, 1) := by decide +kernel
theorem dL_law_743 : decode cL_law 743 = .ok (.aload_n 0, 1) := by decide +kernel
theorem dL_law_744 : decode cL_law 744 = .ok (.iload_n 3, 1) := by decide +kernel
theorem dL_law_745 : decode cL_law 745 = .ok (.iconst 1, 1) := by decide +kernel
theorem dL_law_746 : decode cL_law 746 = .ok (.iadd, 1) := by decide +kernel
theorem dL_law_747 : decode cL_law 747 = .ok (.iaload, 1) := by decide +kernel
theorem dL_law_748 : decode cL_law 748 = .ok (.invokevirtual 105, 3) := by decide +kernel
theorem dL_law_751 : decode cL_law 751 = .ok (.if_icmp .eq 304, 3) := by decide +kernel
theorem dL_law_754 : decode cL_law 754 = .ok (.iconst 0, 1) := by decide +kernel
theorem dL_law_755 : decode cL_law 755 = .ok (.ireturn, 1) := by decide +kernel
theorem dL_law_756 : decode cL_law 756 = .ok (.aload_n 1, 1) := by decide +kernel
theorem dL_law_757 : decode cL_law 757 = .ok (.aload_n 0, 1) := by decide +kernel
theorem dL_law_758 : decode cL_law 758 = .ok (.iload_n 3, 1) := by decide +kernel
theorem dL_law_759 : decode cL_law 759 = .ok (.iconst 1, 1) := by decide +kernel
theorem dL_law_760 : decode cL_law 760 = .ok (.iadd, 1) := by decide +kernel
theorem dL_law_761 : decode cL_law 761 = .ok (.iaload, 1) := by decide +kernel
theorem dL_law_762 : decode cL_law 762 = .ok (.invokevirtual 106, 3) := by decide +kernel
theorem dL_law_765 : decode cL_law 765 = .ok (.aload_n 2, 1) := by decide +kernel
theorem dL_law_766 : decode cL_law 766 = .ok (.aload_n 0, 1) := by decide +kernel
theorem dL_law_767 : decode cL_law 767 = .ok (.iload_n 3, 1) := by decide +kernel
theorem dL_law_768 : decode cL_law 768 = .ok (.iconst 1, 1) := by decide +kernel
theorem dL_law_769 : decode cL_law 769 = .ok (.iadd, 1) := by decide +kernel
theorem dL_law_770 : decode cL_law 770 = .ok (.iaload, 1) := by decide +kernel
theorem dL_law_771 : decode cL_law 771 = .ok (.invokevirtual 109, 3) := by decide +kernel
theorem dL_law_774 : decode cL_law 774 = .ok (.if_icmp .eq 281, 3) := by decide +kernel
theorem dL_law_777 : decode cL_law 777 = .ok (.iconst 0, 1) := by decide +kernel
theorem dL_law_778 : decode cL_law 778 = .ok (.ireturn, 1) := by decide +kernel
theorem dL_law_779 : decode cL_law 779 = .ok (.aload_n 1, 1) := by decide +kernel
theorem dL_law_780 : decode cL_law 780 = .ok (.invokevirtual 110, 3) := by decide +kernel
theorem dL_law_783 : decode cL_law 783 = .ok (.aload_n 2, 1) := by decide +kernel
theorem dL_law_784 : decode cL_law 784 = .ok (.invokevirtual 113, 3) := by decide +kernel
theorem dL_law_787 : decode cL_law 787 = .ok (.if_icmp .eq 268, 3) := by decide +kernel
theorem dL_law_790 : decode cL_law 790 = .ok (.iconst 0, 1) := by decide +kernel
theorem dL_law_791 : decode cL_law 791 = .ok (.ireturn, 1) := by decide +kernel
theorem dL_law_792 : decode cL_law 792 = .ok (.aload_n 1, 1) := by decide +kernel
theorem dL_law_793 : decode cL_law 793 = .ok (.aload_n 0, 1) := by decide +kernel
theorem dL_law_794 : decode cL_law 794 = .ok (.iload_n 3, 1) := by decide +kernel
theorem dL_law_795 : decode cL_law 795 = .ok (.iconst 1, 1) := by decide +kernel
theorem dL_law_796 : decode cL_law 796 = .ok (.iadd, 1) := by decide +kernel
theorem dL_law_797 : decode cL_law 797 = .ok (.iaload, 1) := by decide +kernel
theorem dL_law_798 : decode cL_law 798 = .ok (.invokevirtual 114, 3) := by decide +kernel
theorem dL_law_801 : decode cL_law 801 = .ok (.aload_n 2, 1) := by decide +kernel
theorem dL_law_802 : decode cL_law 802 = .ok (.aload_n 0, 1) := by decide +kernel
theorem dL_law_803 : decode cL_law 803 = .ok (.iload_n 3, 1) := by decide +kernel
theorem dL_law_804 : decode cL_law 804 = .ok (.iconst 1, 1) := by decide +kernel
theorem dL_law_805 : decode cL_law 805 = .ok (.iadd, 1) := by decide +kernel
theorem dL_law_806 : decode cL_law 806 = .ok (.iaload, 1) := by decide +kernel
theorem dL_law_807 : decode cL_law 807 = .ok (.invokevirtual 117, 3) := by decide +kernel
theorem dL_law_810 : decode cL_law 810 = .ok (.if_icmp .eq 245, 3) := by decide +kernel
theorem dL_law_813 : decode cL_law 813 = .ok (.iconst 0, 1) := by decide +kernel
theorem dL_law_814 : decode cL_law 814 = .ok (.ireturn, 1) := by decide +kernel
theorem dL_law_815 : decode cL_law 815 = .ok (.aload_n 1, 1) := by decide +kernel
theorem dL_law_816 : decode cL_law 816 = .ok (.aload_n 0, 1) := by decide +kernel
theorem dL_law_817 : decode cL_law 817 = .ok (.iload_n 3, 1) := by decide +kernel
theorem dL_law_818 : decode cL_law 818 = .ok (.iconst 1, 1) := by decide +kernel
theorem dL_law_819 : decode cL_law 819 = .ok (.iadd, 1) := by decide +kernel
theorem dL_law_820 : decode cL_law 820 = .ok (.iaload, 1) := by decide +kernel
theorem dL_law_821 : decode cL_law 821 = .ok (.aload_n 0, 1) := by decide +kernel
theorem dL_law_822 : decode cL_law 822 = .ok (.iload_n 3, 1) := by decide +kernel
theorem dL_law_823 : decode cL_law 823 = .ok (.iconst 2, 1) := by decide +kernel
theorem dL_law_824 : decode cL_law 824 = .ok (.iadd, 1) := by decide +kernel
theorem dL_law_825 : decode cL_law 825 = .ok (.iaload, 1) := by decide +kernel
theorem dL_law_826 : decode cL_law 826 = .ok (.invokevirtual 118, 3) := by decide +kernel
theorem dL_law_829 : decode cL_law 829 = .ok (.aload_n 2, 1) := by decide +kernel
theorem dL_law_830 : decode cL_law 830 = .ok (.aload_n 0, 1) := by decide +kernel
theorem dL_law_831 : decode cL_law 831 = .ok (.iload_n 3, 1) := by decide +kernel
theorem dL_law_832 : decode cL_law 832 = .ok (.iconst 1, 1) := by decide +kernel
theorem dL_law_833 : decode cL_law 833 = .ok (.iadd, 1) := by decide +kernel
theorem dL_law_834 : decode cL_law 834 = .ok (.iaload, 1) := by decide +kernel
theorem dL_law_835 : decode cL_law 835 = .ok (.aload_n 0, 1) := by decide +kernel
theorem dL_law_836 : decode cL_law 836 = .ok (.iload_n 3, 1) := by decide +kernel
theorem dL_law_837 : decode cL_law 837 = .ok (.iconst 2, 1) := by decide +kernel
theorem dL_law_838 : decode cL_law 838 = .ok (.iadd, 1) := by decide +kernel
theorem dL_law_839 : decode cL_law 839 = .ok (.iaload, 1) := by decide +kernel
theorem dL_law_840 : decode cL_law 840 = .ok (.invokevirtual 121, 3) := by decide +kernel
theorem dL_law_843 : decode cL_law 843 = .ok (.if_icmp .eq 212, 3) := by decide +kernel
theorem dL_law_846 : decode cL_law 846 = .ok (.iconst 0, 1) := by decide +kernel
theorem dL_law_847 : decode cL_law 847 = .ok (.ireturn, 1) := by decide +kernel
theorem dL_law_848 : decode cL_law 848 = .ok (.aload_n 1, 1) := by decide +kernel
theorem dL_law_849 : decode cL_law 849 = .ok (.aload_n 0, 1) := by decide +kernel
theorem dL_law_850 : decode cL_law 850 = .ok (.iload_n 3, 1) := by decide +kernel
theorem dL_law_851 : decode cL_law 851 = .ok (.iconst 1, 1) := by decide +kernel
theorem dL_law_852 : decode cL_law 852 = .ok (.iadd, 1) := by decide +kernel
theorem dL_law_853 : decode cL_law 853 = .ok (.iaload, 1) := by decide +kernel
theorem dL_law_854 : decode cL_law 854 = .ok (.aload_n 0, 1) := by decide +kernel
theorem dL_law_855 : decode cL_law 855 = .ok (.iload_n 3, 1) := by decide +kernel
theorem dL_law_856 : decode cL_law 856 = .ok (.iconst 2, 1) := by decide +kernel
theorem dL_law_857 : decode cL_law 857 = .ok (.iadd, 1) := by decide +kernel
theorem dL_law_858 : decode cL_law 858 = .ok (.iaload, 1) := by decide +kernel
theorem dL_law_859 : decode cL_law 859 = .ok (.aload_n 0, 1) := by decide +kernel
theorem dL_law_860 : decode cL_law 860 = .ok (.iload_n 3, 1) := by decide +kernel
theorem dL_law_861 : decode cL_law 861 = .ok (.iconst 3, 1) := by decide +kernel
theorem dL_law_862 : decode cL_law 862 = .ok (.iadd, 1) := by decide +kernel
theorem dL_law_863 : decode cL_law 863 = .ok (.iaload, 1) := by decide +kernel
theorem dL_law_864 : decode cL_law 864 = .ok (.aload_n 0, 1) := by decide +kernel
theorem dL_law_865 : decode cL_law 865 = .ok (.iload_n 3, 1) := by decide +kernel
theorem dL_law_866 : decode cL_law 866 = .ok (.iconst 4, 1) := by decide +kernel
theorem dL_law_867 : decode cL_law 867 = .ok (.iadd, 1) := by decide +kernel
theorem dL_law_868 : decode cL_law 868 = .ok (.iaload, 1) := by decide +kernel
theorem dL_law_869 : decode cL_law 869 = .ok (.invokevirtual 122, 3) := by decide +kernel
theorem dL_law_872 : decode cL_law 872 = .ok (.aload_n 2, 1) := by decide +kernel
theorem dL_law_873 : decode cL_law 873 = .ok (.aload_n 0, 1) := by decide +kernel
theorem dL_law_874 : decode cL_law 874 = .ok (.iload_n 3, 1) := by decide +kernel
theorem dL_law_875 : decode cL_law 875 = .ok (.iconst 1, 1) := by decide +kernel
theorem dL_law_876 : decode cL_law 876 = .ok (.iadd, 1) := by decide +kernel
theorem dL_law_877 : decode cL_law 877 = .ok (.iaload, 1) := by decide +kernel
theorem dL_law_878 : decode cL_law 878 = .ok (.aload_n 0, 1) := by decide +kernel
theorem dL_law_879 : decode cL_law 879 = .ok (.iload_n 3, 1) := by decide +kernel
theorem dL_law_880 : decode cL_law 880 = .ok (.iconst 2, 1) := by decide +kernel
theorem dL_law_881 : decode cL_law 881 = .ok (.iadd, 1) := by decide +kernel
theorem dL_law_882 : decode cL_law 882 = .ok (.iaload, 1) := by decide +kernel
theorem dL_law_883 : decode cL_law 883 = .ok (.aload_n 0, 1) := by decide +kernel
theorem dL_law_884 : decode cL_law 884 = .ok (.iload_n 3, 1) := by decide +kernel
theorem dL_law_885 : decode cL_law 885 = .ok (.iconst 3, 1) := by decide +kernel
theorem dL_law_886 : decode cL_law 886 = .ok (.iadd, 1) := by decide +kernel
theorem dL_law_887 : decode cL_law 887 = .ok (.iaload, 1) := by decide +kernel
theorem dL_law_888 : decode cL_law 888 = .ok (.aload_n 0, 1) := by decide +kernel
theorem dL_law_889 : decode cL_law 889 = .ok (.iload_n 3, 1) := by decide +kernel
theorem dL_law_890 : decode cL_law 890 = .ok (.iconst 4, 1) := by decide +kernel
theorem dL_law_891 : decode cL_law 891 = .ok (.iadd, 1) := by decide +kernel
theorem dL_law_892 : decode cL_law 892 = .ok (.iaload, 1) := by decide +kernel
theorem dL_law_893 : decode cL_law 893 = .ok (.invokevirtual 126, 3) := by decide +kernel
theorem dL_law_896 : decode cL_law 896 = .ok (.if_icmp .eq 159, 3) := by decide +kernel
theorem dL_law_899 : decode cL_law 899 = .ok (.iconst 0, 1) := by decide +kernel
theorem dL_law_900 : decode cL_law 900 = .ok (.ireturn, 1) := by decide +kernel
theorem dL_law_901 : decode cL_law 901 = .ok (.aload_n 1, 1) := by decide +kernel
theorem dL_law_902 : decode cL_law 902 = .ok (.invokevirtual 127, 3) := by decide +kernel
theorem dL_law_905 : decode cL_law 905 = .ok (.aload_n 2, 1) := by decide +kernel
theorem dL_law_906 : decode cL_law 906 = .ok (.invokevirtual 130, 3) := by decide +kernel
theorem dL_law_909 : decode cL_law 909 = .ok (.if_icmp .eq 146, 3) := by decide +kernel
theorem dL_law_912 : decode cL_law 912 = .ok (.iconst 0, 1) := by decide +kernel
theorem dL_law_913 : decode cL_law 913 = .ok (.ireturn, 1) := by decide +kernel
theorem dL_law_914 : decode cL_law 914 = .ok (.aload_n 1, 1) := by decide +kernel
theorem dL_law_915 : decode cL_law 915 = .ok (.aload_n 0, 1) := by decide +kernel
theorem dL_law_916 : decode cL_law 916 = .ok (.iload_n 3, 1) := by decide +kernel
theorem dL_law_917 : decode cL_law 917 = .ok (.iconst 1, 1) := by decide +kernel
theorem dL_law_918 : decode cL_law 918 = .ok (.iadd, 1) := by decide +kernel
theorem dL_law_919 : decode cL_law 919 = .ok (.iaload, 1) := by decide +kernel
theorem dL_law_920 : decode cL_law 920 = .ok (.invokevirtual 131, 3) := by decide +kernel
theorem dL_law_923 : decode cL_law 923 = .ok (.aload_n 2, 1) := by decide +kernel
theorem dL_law_924 : decode cL_law 924 = .ok (.aload_n 0, 1) := by decide +kernel
theorem dL_law_925 : decode cL_law 925 = .ok (.iload_n 3, 1) := by decide +kernel
theorem dL_law_926 : decode cL_law 926 = .ok (.iconst 1, 1) := by decide +kernel
theorem dL_law_927 : decode cL_law 927 = .ok (.iadd, 1) := by decide +kernel
theorem dL_law_928 : decode cL_law 928 = .ok (.iaload, 1) := by decide +kernel
theorem dL_law_929 : decode cL_law 929 = .ok (.invokevirtual 134, 3) := by decide +kernel
theorem dL_law_932 : decode cL_law 932 = .ok (.if_icmp .eq 123, 3) := by decide +kernel
theorem dL_law_935 : decode cL_law 935 = .ok (.iconst 0, 1) := by decide +kernel
theorem dL_law_936 : decode cL_law 936 = .ok (.ireturn, 1) := by decide +kernel
theorem dL_law_937 : decode cL_law 937 = .ok (.aload_n 1, 1) := by decide +kernel
theorem dL_law_938 : decode cL_law 938 = .ok (.invokevirtual 135, 3) := by decide +kernel
theorem dL_law_941 : decode cL_law 941 = .ok (.aload_n 2, 1) := by decide +kernel
theorem dL_law_942 : decode cL_law 942 = .ok (.invokevirtual 138, 3) := by decide +kernel
theorem dL_law_945 : decode cL_law 945 = .ok (.if_icmp .eq 110, 3) := by decide +kernel
theorem dL_law_948 : decode cL_law 948 = .ok (.iconst 0, 1) := by decide +kernel
theorem dL_law_949 : decode cL_law 949 = .ok (.ireturn, 1) := by decide +kernel
theorem dL_law_950 : decode cL_law 950 = .ok (.aload_n 1, 1) := by decide +kernel
theorem dL_law_951 : decode cL_law 951 = .ok (.invokevirtual 139, 3) := by decide +kernel
theorem dL_law_954 : decode cL_law 954 = .ok (.aload_n 2, 1) := by decide +kernel
theorem dL_law_955 : decode cL_law 955 = .ok (.invokevirtual 142, 3) := by decide +kernel
theorem dL_law_958 : decode cL_law 958 = .ok (.if_icmp .eq 97, 3) := by decide +kernel
theorem dL_law_961 : decode cL_law 961 = .ok (.iconst 0, 1) := by decide +kernel
theorem dL_law_962 : decode cL_law 962 = .ok (.ireturn, 1) := by decide +kernel
theorem dL_law_963 : decode cL_law 963 = .ok (.aload_n 1, 1) := by decide +kernel
theorem dL_law_964 : decode cL_law 964 = .ok (.aload_n 0, 1) := by decide +kernel
theorem dL_law_965 : decode cL_law 965 = .ok (.iload_n 3, 1) := by decide +kernel
theorem dL_law_966 : decode cL_law 966 = .ok (.iconst 1, 1) := by decide +kernel
theorem dL_law_967 : decode cL_law 967 = .ok (.iadd, 1) := by decide +kernel
theorem dL_law_968 : decode cL_law 968 = .ok (.iaload, 1) := by decide +kernel
theorem dL_law_969 : decode cL_law 969 = .ok (.aload_n 0, 1) := by decide +kernel
theorem dL_law_970 : decode cL_law 970 = .ok (.iload_n 3, 1) := by decide +kernel
theorem dL_law_971 : decode cL_law 971 = .ok (.iconst 2, 1) := by decide +kernel
theorem dL_law_972 : decode cL_law 972 = .ok (.iadd, 1) := by decide +kernel
theorem dL_law_973 : decode cL_law 973 = .ok (.iaload, 1) := by decide +kernel
theorem dL_law_974 : decode cL_law 974 = .ok (.aload_n 0, 1) := by decide +kernel
theorem dL_law_975 : decode cL_law 975 = .ok (.iload_n 3, 1) := by decide +kernel
theorem dL_law_976 : decode cL_law 976 = .ok (.iconst 3, 1) := by decide +kernel
theorem dL_law_977 : decode cL_law 977 = .ok (.iadd, 1) := by decide +kernel
theorem dL_law_978 : decode cL_law 978 = .ok (.iaload, 1) := by decide +kernel
theorem dL_law_979 : decode cL_law 979 = .ok (.invokevirtual 143, 3) := by decide +kernel
theorem dL_law_982 : decode cL_law 982 = .ok (.aload_n 2, 1) := by decide +kernel
theorem dL_law_983 : decode cL_law 983 = .ok (.aload_n 0, 1) := by decide +kernel
theorem dL_law_984 : decode cL_law 984 = .ok (.iload_n 3, 1) := by decide +kernel
theorem dL_law_985 : decode cL_law 985 = .ok (.iconst 1, 1) := by decide +kernel
theorem dL_law_986 : decode cL_law 986 = .ok (.iadd, 1) := by decide +kernel
theorem dL_law_987 : decode cL_law 987 = .ok (.iaload, 1) := by decide +kernel
theorem dL_law_988 : decode cL_law 988 = .ok (.aload_n 0, 1) := by decide +kernel
theorem dL_law_989 : decode cL_law 989 = .ok (.iload_n 3, 1) := by decide +kernel
theorem dL_law_990 : decode cL_law 990 = .ok (.iconst 2, 1) := by decide +kernel
theorem dL_law_991 : decode cL_law 991 = .ok (.iadd, 1) := by decide +kernel
theorem dL_law_992 : decode cL_law 992 = .ok (.iaload, 1) := by decide +kernel
theorem dL_law_993 : decode cL_law 993 = .ok (.aload_n 0, 1) := by decide +kernel
theorem dL_law_994 : decode cL_law 994 = .ok (.iload_n 3, 1) := by decide +kernel
theorem dL_law_995 : decode cL_law 995 = .ok (.iconst 3, 1) := by decide +kernel
theorem dL_law_996 : decode cL_law 996 = .ok (.iadd, 1) := by decide +kernel
theorem dL_law_997 : decode cL_law 997 = .ok (.iaload, 1) := by decide +kernel
theorem dL_law_998 : decode cL_law 998 = .ok (.invokevirtual 146, 3) := by decide +kernel
theorem dL_law_1001 : decode cL_law 1001 = .ok (.if_icmp .eq 54, 3) := by decide +kernel
theorem dL_law_1004 : decode cL_law 1004 = .ok (.iconst 0, 1) := by decide +kernel
theorem dL_law_1005 : decode cL_law 1005 = .ok (.ireturn, 1) := by decide +kernel
theorem dL_law_1006 : decode cL_law 1006 = .ok (.aload_n 1, 1) := by decide +kernel
theorem dL_law_1007 : decode cL_law 1007 = .ok (.invokevirtual 147, 3) := by decide +kernel
theorem dL_law_1010 : decode cL_law 1010 = .ok (.aload_n 2, 1) := by decide +kernel
theorem dL_law_1011 : decode cL_law 1011 = .ok (.invokevirtual 150, 3) := by decide +kernel
theorem dL_law_1014 : decode cL_law 1014 = .ok (.if_icmp .eq 41, 3) := by decide +kernel
theorem dL_law_1017 : decode cL_law 1017 = .ok (.iconst 0, 1) := by decide +kernel
theorem dL_law_1018 : decode cL_law 1018 = .ok (.ireturn, 1) := by decide +kernel
theorem dL_law_1019 : decode cL_law 1019 = .ok (.aload_n 1, 1) := by decide +kernel
theorem dL_law_1020 : decode cL_law 1020 = .ok (.invokevirtual 151, 3) := by decide +kernel
theorem dL_law_1023 : decode cL_law 1023 = .ok (.aload_n 2, 1) := by decide +kernel
theorem dL_law_1024 : decode cL_law 1024 = .ok (.invokevirtual 154, 3) := by decide +kernel
theorem dL_law_1027 : decode cL_law 1027 = .ok (.if_icmp .eq 28, 3) := by decide +kernel
theorem dL_law_1030 : decode cL_law 1030 = .ok (.iconst 0, 1) := by decide +kernel
theorem dL_law_1031 : decode cL_law 1031 = .ok (.ireturn, 1) := by decide +kernel
theorem dL_law_1032 : decode cL_law 1032 = .ok (.aload_n 1, 1) := by decide +kernel
theorem dL_law_1033 : decode cL_law 1033 = .ok (.aload_n 0, 1) := by decide +kernel
theorem dL_law_1034 : decode cL_law 1034 = .ok (.iload_n 3, 1) := by decide +kernel
theorem dL_law_1035 : decode cL_law 1035 = .ok (.iconst 1, 1) := by decide +kernel
theorem dL_law_1036 : decode cL_law 1036 = .ok (.iadd, 1) := by decide +kernel
theorem dL_law_1037 : decode cL_law 1037 = .ok (.iaload, 1) := by decide +kernel
theorem dL_law_1038 : decode cL_law 1038 = .ok (.invokevirtual 155, 3) := by decide +kernel
theorem dL_law_1041 : decode cL_law 1041 = .ok (.aload_n 2, 1) := by decide +kernel
theorem dL_law_1042 : decode cL_law 1042 = .ok (.aload_n 0, 1) := by decide +kernel
theorem dL_law_1043 : decode cL_law 1043 = .ok (.iload_n 3, 1) := by decide +kernel
theorem dL_law_1044 : decode cL_law 1044 = .ok (.iconst 1, 1) := by decide +kernel
theorem dL_law_1045 : decode cL_law 1045 = .ok (.iadd, 1) := by decide +kernel
theorem dL_law_1046 : decode cL_law 1046 = .ok (.iaload, 1) := by decide +kernel
theorem dL_law_1047 : decode cL_law 1047 = .ok (.invokevirtual 158, 3) := by decide +kernel
theorem dL_law_1050 : decode cL_law 1050 = .ok (.if_icmp .eq 5, 3) := by decide +kernel
theorem dL_law_1053 : decode cL_law 1053 = .ok (.iconst 0, 1) := by decide +kernel
theorem dL_law_1054 : decode cL_law 1054 = .ok (.ireturn, 1) := by decide +kernel
theorem dL_law_1055 : decode cL_law 1055 = .ok (.iinc 3 5, 3) := by decide +kernel
theorem dL_law_1058 : decode cL_law 1058 = .ok (.goto (-1040), 3) := by decide +kernel
theorem dL_law_1061 : decode cL_law 1061 = .ok (.iconst 1, 1) := by decide +kernel
theorem dL_law_1062 : decode cL_law 1062 = .ok (.ireturn, 1) := by decide +kernel
end
section
/-! CORE: an abstract machine over a store of ints: the reference fields never change, so the world is a fixed layout of 30 cells and a store σ : cell → place → Int32. 'Rt' says: from this place of a method's code the machine comes to a return of it, with this answer and this store. -/
abbrev Sto : Type := Nat → Nat → Int32
def upS (σ : Sto) (k j : Nat) (x : Int32) : Sto := fun a => if a = k then upd (σ k) j x else σ a
abbrev LE : Type := Nat ⊕ (Nat × List (Option Nat))
def bkE (k : Nat) : LE := .inr (0, [some (k + 1), none, none, none, none, none, none, none, none])
def lay : List LE := [
  .inr (3, [some 1, some 3, some 5, some 7, some 9, some 11, some 14, some 15, some 16, none, none]),
  bkE 1, .inl 24, bkE 3, .inl 24, bkE 5, .inl 24, bkE 7, .inl 24,
  .inr (2, [some 10, none]), .inl 80,
  .inr (1, [some 12, some 13, none]), .inl 8, .inl 8,
  .inl 20, .inl 9, .inl 7,
  .inr (4, [some 18, some 19, some 20, none, none, none, none, some 21, some 22, some 23, some 24, none, none, none, some 25, none, none, none, none, none, some 26, some 27, some 28, none, some 29, none]),
  .inl 7, .inl 24, .inl 4, .inl 80, .inl 40, .inl 40, .inl 120, .inl 105, .inl 8, .inl 8, .inl 10, .inl 20]
abbrev Gl : Type := va_G × (Nat → Nat) × ClassId × (Nat → Prop) × Value
def cv (g : Gl) (v : Value) : Value := match v with
  | .ref k => .ref (g.2.1 k)
  | .float _ => g.2.2.2.2
  | v => v
def cvl (g : Gl) (q : Nat × Value) : Nat × Value := (q.1, cv g q.2)
def fdV (g : Gl) (σ : Sto) (k j : Nat) (f : Option Nat) : Value := match f with
  | some r => .ref (g.2.1 r)
  | none => .int (σ k j)
def ceE (g : Gl) (σ : Sto) (k : Nat) (e : LE) : va_E := match e with
  | .inl n => .inl (g.2.2.1, n, .inl (σ k))
  | .inr o => .inr (o.1, o.2.mapIdx (fdV g σ k))
def ces (g : Gl) (σ : Sto) : va_W := lay.mapIdx (fun k e => (g.2.1 k, ceE g σ k e))
theorem ces_at {g : Gl} {σ : Sto} {k : Nat} {e : LE} (h : lay[k]? = some e) : (ces g σ)[k]? = some (g.2.1 k, ceE g σ k e) := by
  unfold ces
  rw [List.getElem?_mapIdx, h]
  rfl
theorem ceE_congr {g : Gl} {σ τ : Sto} {k : Nat} (h : σ k = τ k) (e : LE) : ceE g σ k e = ceE g τ k e := by
  have hf : fdV g σ k = fdV g τ k := by
    funext j f
    cases f with
    | none => simp only [fdV, h]
    | some r => rfl
  cases e with
  | inl n => simp only [ceE, h]
  | inr o => simp only [ceE, hf]
theorem upS_ne {σ : Sto} {k j a : Nat} {x : Int32} (h : a ≠ k) : upS σ k j x a = σ a := if_neg h
theorem upS_eq {σ : Sto} {k j : Nat} {x : Int32} : upS σ k j x k = upd (σ k) j x := if_pos rfl
theorem ces_put {g : Gl} {σ : Sto} {k ci j : Nat} {fl : List (Option Nat)} {x : Int32} (h : lay[k]? = some (.inr (ci, fl))) (hj : fl[j]? = some none) :
    (ces g σ).set k (g.2.1 k, .inr (ci, (fl.mapIdx (fdV g σ k)).set j (.int x))) = ces g (upS σ k j x) := by
  have hlt : k < (ces g σ).length := by
    have := ces_at (g := g) (σ := σ) h
    exact (List.getElem?_eq_some_iff.mp this).1
  refine List.ext_getElem? fun i => ?_
  by_cases hi : i = k
  · subst hi
    rw [List.getElem?_set_self hlt, ces_at h]
    have e1 : (fl.mapIdx (fdV g σ i)).set j (.int x) = fl.mapIdx (fdV g (upS σ i j x) i) := by
      refine List.ext_getElem? fun b => ?_
      by_cases hb : b = j
      · subst hb
        have hl : b < (fl.mapIdx (fdV g σ i)).length := by
          rw [List.length_mapIdx]
          exact (List.getElem?_eq_some_iff.mp hj).1
        rw [List.getElem?_set_self hl, List.getElem?_mapIdx, hj]
        simp [fdV, upS_eq, upd]
      · rw [List.getElem?_set_ne (Ne.symm hb), List.getElem?_mapIdx, List.getElem?_mapIdx]
        cases fl[b]? with
        | none => rfl
        | some f =>
          cases f with
          | none => simp [fdV, upS_eq, upd, hb]
          | some r => rfl
    simp only [ceE, e1]
  · rw [List.getElem?_set_ne (Ne.symm hi)]
    unfold ces
    rw [List.getElem?_mapIdx, List.getElem?_mapIdx]
    cases lay[i]? with
    | none => rfl
    | some e =>
      show some (g.2.1 i, ceE g σ i e) = some (g.2.1 i, ceE g (upS σ k j x) i e)
      rw [ceE_congr (upS_ne hi).symm e]
def setS (σ : Sto) (k : Nat) (f : Nat → Int32) : Sto := fun a => if a = k then f else σ a
theorem setS_ne {σ : Sto} {k a : Nat} {f : Nat → Int32} (h : a ≠ k) : setS σ k f a = σ a := if_neg h
theorem setS_eq {σ : Sto} {k : Nat} {f : Nat → Int32} : setS σ k f k = f := if_pos rfl
theorem ces_setA {g : Gl} {σ : Sto} {k n : Nat} {f : Nat → Int32} (h : lay[k]? = some (.inl n)) :
    (ces g σ).set k (g.2.1 k, .inl (g.2.2.1, n, .inl f)) = ces g (setS σ k f) := by
  have hlt : k < (ces g σ).length := by
    have := ces_at (g := g) (σ := σ) h
    exact (List.getElem?_eq_some_iff.mp this).1
  refine List.ext_getElem? fun i => ?_
  by_cases hi : i = k
  · subst hi
    rw [List.getElem?_set_self hlt, ces_at h]
    simp only [ceE, setS_eq]
  · rw [List.getElem?_set_ne (Ne.symm hi)]
    unfold ces
    rw [List.getElem?_mapIdx, List.getElem?_mapIdx]
    cases lay[i]? with
    | none => rfl
    | some e =>
      show some (g.2.1 i, ceE g σ i e) = some (g.2.1 i, ceE g (setS σ k f) i e)
      rw [ceE_congr (setS_ne hi).symm e]
theorem ces_putA {g : Gl} {σ : Sto} {k n j : Nat} {x : Int32} (h : lay[k]? = some (.inl n)) :
    (ces g σ).set k (g.2.1 k, .inl (g.2.2.1, n, .inl (upd (σ k) j x))) = ces g (upS σ k j x) := ces_setA h
-- the tables' words
def gw : List Cond := lw_tbl.filter goodWord
theorem gw_mem {w : Cond} (h : w ∈ lw_tbl) (hg : goodWord w = true) : w ∈ gw := List.mem_filter.mpr ⟨h, hg⟩
theorem gw_at (i : Nat) {w : Cond} (h : lw_tbl[i]? = some w) (hg : goodWord w = true) : w ∈ gw := gw_mem (List.mem_of_getElem? h) hg
theorem gw_in {w : Cond} (h : w ∈ gw) : w ∈ lw_tbl := (List.mem_filter.mp h).1
theorem gw_good {ws : List Cond} (h : ∀ w ∈ ws, w ∈ gw) : GoodIn gw ws := fun w hw => ⟨h w hw, good_of_word (List.mem_filter.mp (h w hw)).2⟩
def isNest : Cond → Bool
  | .fieldLinkNest .. => true
  | .methodLinkNest .. => true
  | _ => false
theorem nest_warm {w : Cond} (hn : isNest w = true) {s U : State} (hW : s.WarmedH U.vm) (h : va_Nw w s) : va_Nw w U := by
  cases w <;> first | exact va_Nw.warmF hW h | exact va_Nw.warmM hW h | cases hn
theorem nest_same {w : Cond} (hn : isNest w = true) {u U : State} (hv : u.vm = U.vm) (h : va_Nw w u) : va_Nw w U := by
  cases w <;> first | exact va_Nw.same rfl hv h | cases hn
theorem nest_use {w : Cond} (hn : isNest w = true) {A : Array Value} {U : State} (h : va_Nw w U) : w.before A U = true := by
  cases w <;> first | exact va_Nw.use rfl h | cases hn
-- the text constants and the class's own tables
def sLen : List Nat := [4, 4, 2, 3, 0, 6]
def sByt : List (List Int32) := [[107, 100, 100, 59], [100, 100, 100, 59], [100, 59], [100, 100, 59], [], [105, 99, 104, 102, 115, 110]]
def sTx (i : Nat) : String := ["kdd;", "ddd;", "d;", "dd;", "", "ichfsn"].getD i ""
def heL (j : Nat) : Int32 := [0, 1, 2, 0].getD j 0
def heM (j : Nat) : Int32 := [1, 3, 5, 5].getD j 0
abbrev Scr : Type := Nat × (Nat → Int32)
def Stt (X : Scr) (g : Gl) (U : State) (H : Heap) : Prop :=
  (g.2.2.2.2 = .null ∨ ∃ t, g.2.2.2.2 = .ref t) ∧ (∀ w ∈ lw_tbl, isNest w = true → va_Nw w U) ∧
  va_T .int (g.2.1 30) X.1 (fun j => .int (X.2 j)) g.2.2.2.1 U H ∧
  va_T .int (g.2.1 31) 4 (fun j => .int (heL j)) g.2.2.2.1 U H ∧ va_T .int (g.2.1 32) 4 (fun j => .int (heM j)) g.2.2.2.1 U H ∧
  va_Z "HigherMoreLeft" "HE_LEAST" "[I" (.ref (g.2.1 31)) g.2.2.2.1 U H ∧ va_Z "HigherMoreLeft" "HE_MOST" "[I" (.ref (g.2.1 32)) g.2.2.2.1 U H ∧
  va_Z "java/lang/String" "COMPACT_STRINGS" "Z" (.int 1) g.2.2.2.1 U H ∧ va_Z "jdk/internal/util/Preconditions" "SIOOBE_FORMATTER" "Ljava/util/function/BiFunction;" g.2.2.2.2 g.2.2.2.1 U H ∧
  vk_S 6 sLen sByt (fun i => g.2.1 (40 + i)) (fun i => g.2.1 (50 + i)) g.2.2.2.1 U H ∧ ∀ i, i < 6 → vk_R "HigherMoreLeft$Text" (52 + 2 * i) (sTx i) (g.2.1 (40 + i)) U
theorem Stt.kept {X : Scr} {g : Gl} {U : State} {H H1 : Heap} (h : Stt X g U H) (hq : ∀ a : Nat, a < H.size → ¬ g.2.2.2.1 a → H1[a]? = H[a]?) : Stt X g U H1 := by
  obtain ⟨h0, h1, h2, h3, h4, h5, h6, h7, h8, h9, h10⟩ := h
  exact ⟨h0, h1, h2.kept hq, h3.kept hq, h4.kept hq, h5.kept hq, h6.kept hq, h7.kept hq, h8.kept hq, h9.kept hq, h10⟩
theorem Stt.warm {X : Scr} {g : Gl} {s U : State} {H : Heap} (h : Stt X g s H) (hW : s.WarmedH U.vm) : Stt X g U H := by
  obtain ⟨h0, h1, h2, h3, h4, h5, h6, h7, h8, h9, h10⟩ := h
  have ha := hW.alike
  exact ⟨h0, fun w hw hn => nest_warm hn hW (h1 w hw hn), h2.moved ha, h3.moved ha, h4.moved ha, h5.moved ha, h6.moved ha, h7.moved ha, h8.moved ha, h9.moved ha, fun i hi => (h10 i hi).warm hW⟩
theorem Stt.same {X : Scr} {g : Gl} {u U : State} {H : Heap} (h : Stt X g u H) (hv : u.vm = U.vm) : Stt X g U H := by
  obtain ⟨h0, h1, h2, h3, h4, h5, h6, h7, h8, h9, h10⟩ := h
  have ha : u.vm.Alike U.vm := by rw [hv]; exact Vm.Alike.refl _
  exact ⟨h0, fun w hw hn => nest_same hn hv (h1 w hw hn), h2.moved ha, h3.moved ha, h4.moved ha, h5.moved ha, h6.moved ha, h7.moved ha, h8.moved ha, h9.moved ha, fun i hi => (h10 i hi).same hv.symm⟩
theorem Stt.cat {X : Scr} {g : Gl} {U : State} {H : Heap} (h : Stt X g U H) : g.2.2.2.2.category = 1 := by
  rcases h.1 with e | ⟨t, e⟩ <;> rw [e] <;> rfl
theorem cv_cat {g : Gl} (hc : g.2.2.2.2.category = 1) (v : Value) : (cv g v).category = v.category := by
  cases v <;> first | rfl | exact hc
end
section
/-! Rt: from this place of a method's code the machine comes to a return, with this answer and this store; a row an instruction -/
def Rt (X : Scr) (own : String) (cc : ByteArray) (nL : Nat) (R : Room) (ri : Instr) (pc : Nat) (L : List (Nat × Value)) (st : List Value) (σ : Sto) (r : Option Value) (σ' : Sto) : Prop :=
  ∀ (g : Gl) (p : Program) (l : Launch) (e : Env) (s : State) (m : MethodId) (args : Array Value) (below : List Frame) (meth : Method) (c : Code) (cells slots : Nat) (Q : State → Prop),
    CallFix p m c cc nL s args gw own → cells ≤ R.cells → slots ≤ R.slots → va_K g.1 vwCl [(g.2.2.1, .int)] s → Stt X g s s.heap →
    (∀ (pcr : Nat) (H : Heap) (locs : List Loc) (ls : Array Slot), decode cc pcr = .ok (ri, 1) → va_P g.1 vwCl (ces g σ') H → va_D g.2.2.2.1 (ces g σ') → va_S g.2.2.2.1 s.heap H locs → W p l e R s m args below meth c H locs cells slots Q (F0 m pcr ls (r.toList.map (cv g)))) →
    ∀ (H : Heap) (locs : List Loc) (ls : Array Slot), va_P g.1 vwCl (ces g σ) H → va_D g.2.2.2.1 (ces g σ) → va_S g.2.2.2.1 s.heap H locs → lv_has ls nL (L.map (cvl g)) →
      W p l e R s m args below meth c H locs cells slots Q (F0 m pc ls (st.map (cv g)))
section RtOps
variable {X : Scr} {own : String} {cc : ByteArray} {nL : Nat} {R : Room} {ri : Instr} {pc : Nat} {L L' : List (Nat × Value)} {st : List Value} {σ : Sto} {r : Option Value} {σ' : Sto}
theorem lm_at {g : Gl} {j i : Nat} {v : Value} (h : L[j]? = some (i, v)) : (L.map (cvl g))[j]? = some (i, cv g v) := by rw [List.getElem?_map, h]; rfl
theorem lm_store1 {g : Gl} (hc : g.2.2.2.2.category = 1) {i : Nat} {v : Value} (hl : (i, v) :: L.filter (fun q => !(q.1 == i) && !(q.1 + 1 == i && q.2.category == 2)) = L') :
    (i, cv g v) :: (L.map (cvl g)).filter (fun q => !(q.1 == i) && !(q.1 + 1 == i && q.2.category == 2)) = L'.map (cvl g) := by
  rw [← hl, List.filter_map, List.map_cons]
  congr 2
  refine List.filter_congr fun q _ => ?_
  simp only [Function.comp, cvl, cv_cat hc]
theorem lm_store2 {g : Gl} (hc : g.2.2.2.2.category = 1) {i : Nat} {v : Value} (hl : (i, v) :: L.filter (fun q => !(q.1 == i) && (!(q.1 == i + 1) && !(q.1 + 1 == i && q.2.category == 2))) = L') :
    (i, cv g v) :: (L.map (cvl g)).filter (fun q => !(q.1 == i) && (!(q.1 == i + 1) && !(q.1 + 1 == i && q.2.category == 2))) = L'.map (cvl g) := by
  rw [← hl, List.filter_map, List.map_cons]
  congr 2
  refine List.filter_congr fun q _ => ?_
  simp only [Function.comp, cvl, cv_cat hc]
theorem Rt.ret {v : Option Value} (hd : decode cc pc = .ok (ri, 1)) (hs : st = v.toList) (hr : v = r) (hσ : σ = σ') : Rt X own cc nL R ri pc L st σ r σ' := by
  subst hs; subst hr; subst hσ
  intro g p l e s m args below meth c cells slots Q hf hc hs hK hT K H locs ls hP hD hS hl
  exact K pc H locs ls hd hP hD hS
theorem Rt.iconst {n : Int} (v : Int32) (hd : decode cc pc = .ok (.iconst n, 1)) (hv : Int32.ofInt n = v) (k : Rt X own cc nL R ri (pc + 1) L (.int v :: st) σ r σ') : Rt X own cc nL R ri pc L st σ r σ' := by
  intro g p l e s m args below meth c cells slots Q hf hc hs hK hT K H locs ls hP hD hS hl
  exact lv_iconst (v := v) hf.1 hf.2.1 hd hv (k g p l e s m args below meth c cells slots Q hf hc hs hK hT K H locs ls hP hD hS hl)
theorem Rt.bipush {n : Int} (v : Int32) (hd : decode cc pc = .ok (.bipush n, 2)) (hv : (Int8.ofInt n).toInt32 = v) (k : Rt X own cc nL R ri (pc + 2) L (.int v :: st) σ r σ') : Rt X own cc nL R ri pc L st σ r σ' := by
  intro g p l e s m args below meth c cells slots Q hf hc hs hK hT K H locs ls hP hD hS hl
  exact lv_bipush (v := v) hf.1 hf.2.1 hd hv (k g p l e s m args below meth c cells slots Q hf hc hs hK hT K H locs ls hP hD hS hl)
theorem Rt.sipush {n : Int} (v : Int32) (hd : decode cc pc = .ok (.sipush n, 3)) (hv : (Int16.ofInt n).toInt32 = v) (k : Rt X own cc nL R ri (pc + 3) L (.int v :: st) σ r σ') : Rt X own cc nL R ri pc L st σ r σ' := by
  intro g p l e s m args below meth c cells slots Q hf hc hs hK hT K H locs ls hP hD hS hl
  exact lv_sipush (v := v) hf.1 hf.2.1 hd hv (k g p l e s m args below meth c cells slots Q hf hc hs hK hT K H locs ls hP hD hS hl)
theorem Rt.lconst {n : Fin 2} (v : Int64) (hd : decode cc pc = .ok (.lconst n, 1)) (hv : Int64.ofNat (n : Nat) = v) (k : Rt X own cc nL R ri (pc + 1) L (.long v :: st) σ r σ') : Rt X own cc nL R ri pc L st σ r σ' := by
  intro g p l e s m args below meth c cells slots Q hf hc hs hK hT K H locs ls hP hD hS hl
  exact lv_lconst (v := v) hf.1 hf.2.1 hd hv (k g p l e s m args below meth c cells slots Q hf hc hs hK hT K H locs ls hP hD hS hl)
theorem Rt.ldc {index : Nat} (v : Int32) (hm : Cond.constant own index v ∈ gw) (hd : decode cc pc = .ok (.ldc index, 2)) (k : Rt X own cc nL R ri (pc + 2) L (.int v :: st) σ r σ') : Rt X own cc nL R ri pc L st σ r σ' := by
  intro g p l e s m args below meth c cells slots Q hf hc hs hK hT K H locs ls hP hD hS hl
  exact lv_ldc (v := v) hf.1 hf.2.1 hf.2.2.2.1 (hf.2.2.2.2 _ hm) hd (k g p l e s m args below meth c cells slots Q hf hc hs hK hT K H locs ls hP hD hS hl)
theorem Rt.ldc2 {index : Nat} (v : Int64) (hm : Cond.constantLong own index v ∈ gw) (hd : decode cc pc = .ok (.ldc2_w index, 3)) (k : Rt X own cc nL R ri (pc + 3) L (.long v :: st) σ r σ') : Rt X own cc nL R ri pc L st σ r σ' := by
  intro g p l e s m args below meth c cells slots Q hf hc hs hK hT K H locs ls hP hD hS hl
  exact lv_ldc2 (v := v) hf.1 hf.2.1 hf.2.2.2.1 (hf.2.2.2.2 _ hm) hd (k g p l e s m args below meth c cells slots Q hf hc hs hK hT K H locs ls hP hD hS hl)
theorem Rt.iload_n {q : Fin 4} {x : Int32} (j : Nat) (hd : decode cc pc = .ok (.iload_n q, 1)) (hj : L[j]? = some ((q : Nat), .int x)) (k : Rt X own cc nL R ri (pc + 1) L (.int x :: st) σ r σ') : Rt X own cc nL R ri pc L (st) σ r σ' := by
  intro g p l e s m args below meth c cells slots Q hf hc hs hK hT K H locs ls hP hD hS hl
  exact lv_iload_n hf.1 hf.2.1 hd rfl (lv_at hl j (lm_at hj)) (k g p l e s m args below meth c cells slots Q hf hc hs hK hT K H locs ls hP hD hS hl)
theorem Rt.iload {i : Nat} {x : Int32} (j : Nat) (hd : decode cc pc = .ok (.iload i, 2)) (hj : L[j]? = some (i, .int x)) (k : Rt X own cc nL R ri (pc + 2) L (.int x :: st) σ r σ') : Rt X own cc nL R ri pc L (st) σ r σ' := by
  intro g p l e s m args below meth c cells slots Q hf hc hs hK hT K H locs ls hP hD hS hl
  exact lv_iload hf.1 hf.2.1 hd (lv_at hl j (lm_at hj)) (k g p l e s m args below meth c cells slots Q hf hc hs hK hT K H locs ls hP hD hS hl)
theorem Rt.lload_n {q : Fin 4} {x : Int64} (j : Nat) (hd : decode cc pc = .ok (.lload_n q, 1)) (hj : L[j]? = some ((q : Nat), .long x)) (k : Rt X own cc nL R ri (pc + 1) L (.long x :: st) σ r σ') : Rt X own cc nL R ri pc L (st) σ r σ' := by
  intro g p l e s m args below meth c cells slots Q hf hc hs hK hT K H locs ls hP hD hS hl
  exact lv_lload_n hf.1 hf.2.1 hd rfl (lv_at hl j (lm_at hj)) (k g p l e s m args below meth c cells slots Q hf hc hs hK hT K H locs ls hP hD hS hl)
theorem Rt.lload {i : Nat} {x : Int64} (j : Nat) (hd : decode cc pc = .ok (.lload i, 2)) (hj : L[j]? = some (i, .long x)) (k : Rt X own cc nL R ri (pc + 2) L (.long x :: st) σ r σ') : Rt X own cc nL R ri pc L (st) σ r σ' := by
  intro g p l e s m args below meth c cells slots Q hf hc hs hK hT K H locs ls hP hD hS hl
  exact lv_lload hf.1 hf.2.1 hd (lv_at hl j (lm_at hj)) (k g p l e s m args below meth c cells slots Q hf hc hs hK hT K H locs ls hP hD hS hl)
theorem Rt.aload_n {q : Fin 4} {x : Nat} (j : Nat) (hd : decode cc pc = .ok (.aload_n q, 1)) (hj : L[j]? = some ((q : Nat), .ref x)) (k : Rt X own cc nL R ri (pc + 1) L (.ref x :: st) σ r σ') : Rt X own cc nL R ri pc L (st) σ r σ' := by
  intro g p l e s m args below meth c cells slots Q hf hc hs hK hT K H locs ls hP hD hS hl
  exact lv_aload_n hf.1 hf.2.1 hd rfl (lv_at hl j (lm_at hj)) (k g p l e s m args below meth c cells slots Q hf hc hs hK hT K H locs ls hP hD hS hl)
theorem Rt.aload {i : Nat} {x : Nat} (j : Nat) (hd : decode cc pc = .ok (.aload i, 2)) (hj : L[j]? = some (i, .ref x)) (k : Rt X own cc nL R ri (pc + 2) L (.ref x :: st) σ r σ') : Rt X own cc nL R ri pc L (st) σ r σ' := by
  intro g p l e s m args below meth c cells slots Q hf hc hs hK hT K H locs ls hP hD hS hl
  exact lv_aload hf.1 hf.2.1 hd (lv_at hl j (lm_at hj)) (k g p l e s m args below meth c cells slots Q hf hc hs hK hT K H locs ls hP hD hS hl)
theorem Rt.istore_n (L' : List (Nat × Value)) {q : Fin 4} {x : Int32} (hd : decode cc pc = .ok (.istore_n q, 1)) (hn : (q : Nat) < nL) (hl' : ((q : Nat), Value.int x) :: L.filter (fun z => !(z.1 == (q : Nat)) && !(z.1 + 1 == (q : Nat) && z.2.category == 2)) = L') (k : Rt X own cc nL R ri (pc + 1) L' (st) σ r σ') : Rt X own cc nL R ri pc L (.int x :: st) σ r σ' := by
  intro g p l e s m args below meth c cells slots Q hf hc hs hK hT K H locs ls hP hD hS hl
  exact lv_istore_n hf.1 hf.2.1 hd rfl hl hn (lm_store1 hT.cat hl') (fun ls' hl' => k g p l e s m args below meth c cells slots Q hf hc hs hK hT K H locs ls' hP hD hS hl')
theorem Rt.istore (L' : List (Nat × Value)) {i : Nat} {x : Int32} (hd : decode cc pc = .ok (.istore i, 2)) (hn : i < nL) (hl' : (i, Value.int x) :: L.filter (fun q => !(q.1 == i) && !(q.1 + 1 == i && q.2.category == 2)) = L') (k : Rt X own cc nL R ri (pc + 2) L' (st) σ r σ') : Rt X own cc nL R ri pc L (.int x :: st) σ r σ' := by
  intro g p l e s m args below meth c cells slots Q hf hc hs hK hT K H locs ls hP hD hS hl
  exact lv_istore hf.1 hf.2.1 hd hl hn (lm_store1 hT.cat hl') (fun ls' hl' => k g p l e s m args below meth c cells slots Q hf hc hs hK hT K H locs ls' hP hD hS hl')
theorem Rt.astore_n (L' : List (Nat × Value)) {q : Fin 4} {x : Nat} (hd : decode cc pc = .ok (.astore_n q, 1)) (hn : (q : Nat) < nL) (hl' : ((q : Nat), Value.ref x) :: L.filter (fun z => !(z.1 == (q : Nat)) && !(z.1 + 1 == (q : Nat) && z.2.category == 2)) = L') (k : Rt X own cc nL R ri (pc + 1) L' (st) σ r σ') : Rt X own cc nL R ri pc L (.ref x :: st) σ r σ' := by
  intro g p l e s m args below meth c cells slots Q hf hc hs hK hT K H locs ls hP hD hS hl
  exact lv_astore_n hf.1 hf.2.1 hd rfl hl hn (lm_store1 hT.cat hl') (fun ls' hl' => k g p l e s m args below meth c cells slots Q hf hc hs hK hT K H locs ls' hP hD hS hl')
theorem Rt.astore (L' : List (Nat × Value)) {i : Nat} {x : Nat} (hd : decode cc pc = .ok (.astore i, 2)) (hn : i < nL) (hl' : (i, Value.ref x) :: L.filter (fun q => !(q.1 == i) && !(q.1 + 1 == i && q.2.category == 2)) = L') (k : Rt X own cc nL R ri (pc + 2) L' (st) σ r σ') : Rt X own cc nL R ri pc L (.ref x :: st) σ r σ' := by
  intro g p l e s m args below meth c cells slots Q hf hc hs hK hT K H locs ls hP hD hS hl
  exact lv_astore hf.1 hf.2.1 hd hl hn (lm_store1 hT.cat hl') (fun ls' hl' => k g p l e s m args below meth c cells slots Q hf hc hs hK hT K H locs ls' hP hD hS hl')
theorem Rt.lstore_n (L' : List (Nat × Value)) {q : Fin 4} {x : Int64} (hd : decode cc pc = .ok (.lstore_n q, 1)) (hn : (q : Nat) + 1 < nL) (hl' : ((q : Nat), Value.long x) :: L.filter (fun z => !(z.1 == (q : Nat)) && (!(z.1 == (q : Nat) + 1) && !(z.1 + 1 == (q : Nat) && z.2.category == 2))) = L') (k : Rt X own cc nL R ri (pc + 1) L' (st) σ r σ') : Rt X own cc nL R ri pc L (.long x :: st) σ r σ' := by
  intro g p l e s m args below meth c cells slots Q hf hc hs hK hT K H locs ls hP hD hS hl
  exact lv_lstore_n hf.1 hf.2.1 hd rfl hl hn (lm_store2 hT.cat hl') (fun ls' hl' => k g p l e s m args below meth c cells slots Q hf hc hs hK hT K H locs ls' hP hD hS hl')
theorem Rt.lstore (L' : List (Nat × Value)) {i : Nat} {x : Int64} (hd : decode cc pc = .ok (.lstore i, 2)) (hn : i + 1 < nL) (hl' : (i, Value.long x) :: L.filter (fun q => !(q.1 == i) && (!(q.1 == i + 1) && !(q.1 + 1 == i && q.2.category == 2))) = L') (k : Rt X own cc nL R ri (pc + 2) L' (st) σ r σ') : Rt X own cc nL R ri pc L (.long x :: st) σ r σ' := by
  intro g p l e s m args below meth c cells slots Q hf hc hs hK hT K H locs ls hP hD hS hl
  exact lv_lstore hf.1 hf.2.1 hd hl hn (lm_store2 hT.cat hl') (fun ls' hl' => k g p l e s m args below meth c cells slots Q hf hc hs hK hT K H locs ls' hP hD hS hl')
theorem Rt.iinc (L' : List (Nat × Value)) {i : Nat} {n : Int} {x : Int32} (v : Int32) (j : Nat) (hd : decode cc pc = .ok (.iinc i n, 3)) (hj : L[j]? = some (i, .int x)) (hv : x + Int32.ofInt n = v) (hn : i < nL) (hl' : (i, Value.int v) :: L.filter (fun q => !(q.1 == i) && !(q.1 + 1 == i && q.2.category == 2)) = L') (k : Rt X own cc nL R ri (pc + 3) L' (st) σ r σ') : Rt X own cc nL R ri pc L (st) σ r σ' := by
  intro g p l e s m args below meth c cells slots Q hf hc hs hK hT K H locs ls hP hD hS hl
  exact lv_iinc hf.1 hf.2.1 hd hl (lm_at hj) hv hn (lm_store1 hT.cat hl') (fun ls' hl' => k g p l e s m args below meth c cells slots Q hf hc hs hK hT K H locs ls' hP hD hS hl')
theorem Rt.iadd {x y : Int32} (hd : decode cc pc = .ok (.iadd, 1)) (k : Rt X own cc nL R ri (pc + 1) L (.int (x + y) :: st) σ r σ') : Rt X own cc nL R ri pc L (.int y :: .int x :: st) σ r σ' := by
  intro g p l e s m args below meth c cells slots Q hf hc hs hK hT K H locs ls hP hD hS hl
  exact lv_iadd hf.1 hf.2.1 hd (k g p l e s m args below meth c cells slots Q hf hc hs hK hT K H locs ls hP hD hS hl)
theorem Rt.isub {x y : Int32} (hd : decode cc pc = .ok (.isub, 1)) (k : Rt X own cc nL R ri (pc + 1) L (.int (x - y) :: st) σ r σ') : Rt X own cc nL R ri pc L (.int y :: .int x :: st) σ r σ' := by
  intro g p l e s m args below meth c cells slots Q hf hc hs hK hT K H locs ls hP hD hS hl
  exact lv_isub hf.1 hf.2.1 hd (k g p l e s m args below meth c cells slots Q hf hc hs hK hT K H locs ls hP hD hS hl)
theorem Rt.imul {x y : Int32} (hd : decode cc pc = .ok (.imul, 1)) (k : Rt X own cc nL R ri (pc + 1) L (.int (x * y) :: st) σ r σ') : Rt X own cc nL R ri pc L (.int y :: .int x :: st) σ r σ' := by
  intro g p l e s m args below meth c cells slots Q hf hc hs hK hT K H locs ls hP hD hS hl
  exact lv_imul hf.1 hf.2.1 hd (k g p l e s m args below meth c cells slots Q hf hc hs hK hT K H locs ls hP hD hS hl)
theorem Rt.iand {x y : Int32} (hd : decode cc pc = .ok (.iand, 1)) (k : Rt X own cc nL R ri (pc + 1) L (.int (x &&& y) :: st) σ r σ') : Rt X own cc nL R ri pc L (.int y :: .int x :: st) σ r σ' := by
  intro g p l e s m args below meth c cells slots Q hf hc hs hK hT K H locs ls hP hD hS hl
  exact lv_iand hf.1 hf.2.1 hd (k g p l e s m args below meth c cells slots Q hf hc hs hK hT K H locs ls hP hD hS hl)
theorem Rt.ior {x y : Int32} (hd : decode cc pc = .ok (.ior, 1)) (k : Rt X own cc nL R ri (pc + 1) L (.int (x ||| y) :: st) σ r σ') : Rt X own cc nL R ri pc L (.int y :: .int x :: st) σ r σ' := by
  intro g p l e s m args below meth c cells slots Q hf hc hs hK hT K H locs ls hP hD hS hl
  exact lv_ior hf.1 hf.2.1 hd (k g p l e s m args below meth c cells slots Q hf hc hs hK hT K H locs ls hP hD hS hl)
theorem Rt.ishl {x y : Int32} (hd : decode cc pc = .ok (.ishl, 1)) (k : Rt X own cc nL R ri (pc + 1) L (.int (x <<< (y &&& 31)) :: st) σ r σ') : Rt X own cc nL R ri pc L (.int y :: .int x :: st) σ r σ' := by
  intro g p l e s m args below meth c cells slots Q hf hc hs hK hT K H locs ls hP hD hS hl
  exact lv_ishl hf.1 hf.2.1 hd (k g p l e s m args below meth c cells slots Q hf hc hs hK hT K H locs ls hP hD hS hl)
theorem Rt.ishr {x y : Int32} (hd : decode cc pc = .ok (.ishr, 1)) (k : Rt X own cc nL R ri (pc + 1) L (.int (x >>> (y &&& 31)) :: st) σ r σ') : Rt X own cc nL R ri pc L (.int y :: .int x :: st) σ r σ' := by
  intro g p l e s m args below meth c cells slots Q hf hc hs hK hT K H locs ls hP hD hS hl
  exact lv_ishr hf.1 hf.2.1 hd (k g p l e s m args below meth c cells slots Q hf hc hs hK hT K H locs ls hP hD hS hl)
theorem Rt.idiv {x y : Int32} (hd : decode cc pc = .ok (.idiv, 1)) (hy : ¬ y = 0) (k : Rt X own cc nL R ri (pc + 1) L (.int (x / y) :: st) σ r σ') : Rt X own cc nL R ri pc L (.int y :: .int x :: st) σ r σ' := by
  intro g p l e s m args below meth c cells slots Q hf hc hs hK hT K H locs ls hP hD hS hl
  exact lv_idiv hf.1 hf.2.1 hd hy (k g p l e s m args below meth c cells slots Q hf hc hs hK hT K H locs ls hP hD hS hl)
theorem Rt.irem {x y : Int32} (hd : decode cc pc = .ok (.irem, 1)) (hy : ¬ y = 0) (k : Rt X own cc nL R ri (pc + 1) L (.int (x - x / y * y) :: st) σ r σ') : Rt X own cc nL R ri pc L (.int y :: .int x :: st) σ r σ' := by
  intro g p l e s m args below meth c cells slots Q hf hc hs hK hT K H locs ls hP hD hS hl
  exact lv_irem hf.1 hf.2.1 hd hy (k g p l e s m args below meth c cells slots Q hf hc hs hK hT K H locs ls hP hD hS hl)
theorem Rt.ladd {x y : Int64} (hd : decode cc pc = .ok (.ladd, 1)) (k : Rt X own cc nL R ri (pc + 1) L (.long (x + y) :: st) σ r σ') : Rt X own cc nL R ri pc L (.long y :: .long x :: st) σ r σ' := by
  intro g p l e s m args below meth c cells slots Q hf hc hs hK hT K H locs ls hP hD hS hl
  exact lv_ladd hf.1 hf.2.1 hd (k g p l e s m args below meth c cells slots Q hf hc hs hK hT K H locs ls hP hD hS hl)
theorem Rt.lsub {x y : Int64} (hd : decode cc pc = .ok (.lsub, 1)) (k : Rt X own cc nL R ri (pc + 1) L (.long (x - y) :: st) σ r σ') : Rt X own cc nL R ri pc L (.long y :: .long x :: st) σ r σ' := by
  intro g p l e s m args below meth c cells slots Q hf hc hs hK hT K H locs ls hP hD hS hl
  exact lv_lsub hf.1 hf.2.1 hd (k g p l e s m args below meth c cells slots Q hf hc hs hK hT K H locs ls hP hD hS hl)
theorem Rt.lmul {x y : Int64} (hd : decode cc pc = .ok (.lmul, 1)) (k : Rt X own cc nL R ri (pc + 1) L (.long (x * y) :: st) σ r σ') : Rt X own cc nL R ri pc L (.long y :: .long x :: st) σ r σ' := by
  intro g p l e s m args below meth c cells slots Q hf hc hs hK hT K H locs ls hP hD hS hl
  exact lv_lmul hf.1 hf.2.1 hd (k g p l e s m args below meth c cells slots Q hf hc hs hK hT K H locs ls hP hD hS hl)
theorem Rt.ldiv {x y : Int64} (hd : decode cc pc = .ok (.ldiv, 1)) (hy : ¬ y = 0) (k : Rt X own cc nL R ri (pc + 1) L (.long (x / y) :: st) σ r σ') : Rt X own cc nL R ri pc L (.long y :: .long x :: st) σ r σ' := by
  intro g p l e s m args below meth c cells slots Q hf hc hs hK hT K H locs ls hP hD hS hl
  exact lv_ldiv hf.1 hf.2.1 hd hy (k g p l e s m args below meth c cells slots Q hf hc hs hK hT K H locs ls hP hD hS hl)
theorem Rt.lrem {x y : Int64} (hd : decode cc pc = .ok (.lrem, 1)) (hy : ¬ y = 0) (k : Rt X own cc nL R ri (pc + 1) L (.long (x - x / y * y) :: st) σ r σ') : Rt X own cc nL R ri pc L (.long y :: .long x :: st) σ r σ' := by
  intro g p l e s m args below meth c cells slots Q hf hc hs hK hT K H locs ls hP hD hS hl
  exact lv_lrem hf.1 hf.2.1 hd hy (k g p l e s m args below meth c cells slots Q hf hc hs hK hT K H locs ls hP hD hS hl)
theorem Rt.ineg {x : Int32} (hd : decode cc pc = .ok (.ineg, 1)) (k : Rt X own cc nL R ri (pc + 1) L (.int (-x) :: st) σ r σ') : Rt X own cc nL R ri pc L (.int x :: st) σ r σ' := by
  intro g p l e s m args below meth c cells slots Q hf hc hs hK hT K H locs ls hP hD hS hl
  exact lv_ineg hf.1 hf.2.1 hd (k g p l e s m args below meth c cells slots Q hf hc hs hK hT K H locs ls hP hD hS hl)
theorem Rt.i2l {x : Int32} (hd : decode cc pc = .ok (.i2l, 1)) (k : Rt X own cc nL R ri (pc + 1) L (.long x.toInt64 :: st) σ r σ') : Rt X own cc nL R ri pc L (.int x :: st) σ r σ' := by
  intro g p l e s m args below meth c cells slots Q hf hc hs hK hT K H locs ls hP hD hS hl
  exact lv_i2l hf.1 hf.2.1 hd rfl (k g p l e s m args below meth c cells slots Q hf hc hs hK hT K H locs ls hP hD hS hl)
theorem Rt.i2c {x : Int32} (hd : decode cc pc = .ok (.i2c, 1)) (k : Rt X own cc nL R ri (pc + 1) L (.int (x.toUInt32 % 65536).toInt32 :: st) σ r σ') : Rt X own cc nL R ri pc L (.int x :: st) σ r σ' := by
  intro g p l e s m args below meth c cells slots Q hf hc hs hK hT K H locs ls hP hD hS hl
  exact lv_i2c hf.1 hf.2.1 hd rfl (k g p l e s m args below meth c cells slots Q hf hc hs hK hT K H locs ls hP hD hS hl)
theorem Rt.lcmp {x y : Int64} (hd : decode cc pc = .ok (.lcmp, 1)) (k : Rt X own cc nL R ri (pc + 1) L (.int (lg_cmp x y) :: st) σ r σ') : Rt X own cc nL R ri pc L (.long y :: .long x :: st) σ r σ' := by
  intro g p l e s m args below meth c cells slots Q hf hc hs hK hT K H locs ls hP hD hS hl
  exact W.lcmp hf.1 hf.2.1 hd (k g p l e s m args below meth c cells slots Q hf hc hs hK hT K H locs ls hP hD hS hl)
theorem Rt.dup {v : Value} (hd : decode cc pc = .ok (.dup, 1)) (hv : v.category = 1) (k : Rt X own cc nL R ri (pc + 1) L (v :: v :: st) σ r σ') : Rt X own cc nL R ri pc L (v :: st) σ r σ' := by
  intro g p l e s m args below meth c cells slots Q hf hc hs hK hT K H locs ls hP hD hS hl
  exact lv_dup hf.1 hf.2.1 hd ((cv_cat hT.cat v).trans hv) (k g p l e s m args below meth c cells slots Q hf hc hs hK hT K H locs ls hP hD hS hl)
theorem Rt.dup2 {v w : Value} (hd : decode cc pc = .ok (.dup2, 1)) (hv : v.category = 1) (hw : w.category = 1) (k : Rt X own cc nL R ri (pc + 1) L (v :: w :: v :: w :: st) σ r σ') : Rt X own cc nL R ri pc L (v :: w :: st) σ r σ' := by
  intro g p l e s m args below meth c cells slots Q hf hc hs hK hT K H locs ls hP hD hS hl
  exact lv_dup2_11 hf.1 hf.2.1 hd ((cv_cat hT.cat v).trans hv) ((cv_cat hT.cat w).trans hw) (k g p l e s m args below meth c cells slots Q hf hc hs hK hT K H locs ls hP hD hS hl)
theorem Rt.ifnull {x : Nat} {off : Int} (hd : decode cc pc = .ok (.ifnull off, 3)) (k : Rt X own cc nL R ri (pc + 3) L (st) σ r σ') : Rt X own cc nL R ri pc L (.ref x :: st) σ r σ' := by
  intro g p l e s m args below meth c cells slots Q hf hc hs hK hT K H locs ls hP hD hS hl
  exact lv_ifnull hf.1 hf.2.1 hd (k g p l e s m args below meth c cells slots Q hf hc hs hK hT K H locs ls hP hD hS hl)
theorem Rt.if_eq {x : Int32} {off : Int} (tgt : Nat) (hd : decode cc pc = .ok (.ifCond .eq off, 3)) (ht : (pc : Int) + off = (tgt : Int)) (kt : x = 0 → Rt X own cc nL R ri tgt L st σ r σ') (kf : ¬ (x = 0) → Rt X own cc nL R ri (pc + 3) L st σ r σ') : Rt X own cc nL R ri pc L (.int x :: st) σ r σ' := by
  intro g p l e s m args below meth c cells slots Q hf hc hs hK hT K H locs ls hP hD hS hl
  exact lv_if_eq hf.1 hf.2.1 hd ht (fun h => kt h g p l e s m args below meth c cells slots Q hf hc hs hK hT K H locs ls hP hD hS hl) (fun h => kf h g p l e s m args below meth c cells slots Q hf hc hs hK hT K H locs ls hP hD hS hl)
theorem Rt.icmp_eq {x y : Int32} {off : Int} (tgt : Nat) (hd : decode cc pc = .ok (.if_icmp .eq off, 3)) (ht : (pc : Int) + off = (tgt : Int)) (kt : x = y → Rt X own cc nL R ri tgt L st σ r σ') (kf : ¬ (x = y) → Rt X own cc nL R ri (pc + 3) L st σ r σ') : Rt X own cc nL R ri pc L (.int y :: .int x :: st) σ r σ' := by
  intro g p l e s m args below meth c cells slots Q hf hc hs hK hT K H locs ls hP hD hS hl
  exact lv_icmp_eq hf.1 hf.2.1 hd ht (fun h => kt h g p l e s m args below meth c cells slots Q hf hc hs hK hT K H locs ls hP hD hS hl) (fun h => kf h g p l e s m args below meth c cells slots Q hf hc hs hK hT K H locs ls hP hD hS hl)
theorem Rt.if_ne {x : Int32} {off : Int} (tgt : Nat) (hd : decode cc pc = .ok (.ifCond .ne off, 3)) (ht : (pc : Int) + off = (tgt : Int)) (kt : ¬ x = 0 → Rt X own cc nL R ri tgt L st σ r σ') (kf : x = 0 → Rt X own cc nL R ri (pc + 3) L st σ r σ') : Rt X own cc nL R ri pc L (.int x :: st) σ r σ' := by
  intro g p l e s m args below meth c cells slots Q hf hc hs hK hT K H locs ls hP hD hS hl
  exact lv_if_ne hf.1 hf.2.1 hd ht (fun h => kt h g p l e s m args below meth c cells slots Q hf hc hs hK hT K H locs ls hP hD hS hl) (fun h => kf h g p l e s m args below meth c cells slots Q hf hc hs hK hT K H locs ls hP hD hS hl)
theorem Rt.icmp_ne {x y : Int32} {off : Int} (tgt : Nat) (hd : decode cc pc = .ok (.if_icmp .ne off, 3)) (ht : (pc : Int) + off = (tgt : Int)) (kt : ¬ x = y → Rt X own cc nL R ri tgt L st σ r σ') (kf : x = y → Rt X own cc nL R ri (pc + 3) L st σ r σ') : Rt X own cc nL R ri pc L (.int y :: .int x :: st) σ r σ' := by
  intro g p l e s m args below meth c cells slots Q hf hc hs hK hT K H locs ls hP hD hS hl
  exact lv_icmp_ne hf.1 hf.2.1 hd ht (fun h => kt h g p l e s m args below meth c cells slots Q hf hc hs hK hT K H locs ls hP hD hS hl) (fun h => kf h g p l e s m args below meth c cells slots Q hf hc hs hK hT K H locs ls hP hD hS hl)
theorem Rt.if_lt {x : Int32} {off : Int} (tgt : Nat) (hd : decode cc pc = .ok (.ifCond .lt off, 3)) (ht : (pc : Int) + off = (tgt : Int)) (kt : x < 0 → Rt X own cc nL R ri tgt L st σ r σ') (kf : ¬ (x < 0) → Rt X own cc nL R ri (pc + 3) L st σ r σ') : Rt X own cc nL R ri pc L (.int x :: st) σ r σ' := by
  intro g p l e s m args below meth c cells slots Q hf hc hs hK hT K H locs ls hP hD hS hl
  exact lv_if_lt hf.1 hf.2.1 hd ht (fun h => kt h g p l e s m args below meth c cells slots Q hf hc hs hK hT K H locs ls hP hD hS hl) (fun h => kf h g p l e s m args below meth c cells slots Q hf hc hs hK hT K H locs ls hP hD hS hl)
theorem Rt.icmp_lt {x y : Int32} {off : Int} (tgt : Nat) (hd : decode cc pc = .ok (.if_icmp .lt off, 3)) (ht : (pc : Int) + off = (tgt : Int)) (kt : x < y → Rt X own cc nL R ri tgt L st σ r σ') (kf : ¬ (x < y) → Rt X own cc nL R ri (pc + 3) L st σ r σ') : Rt X own cc nL R ri pc L (.int y :: .int x :: st) σ r σ' := by
  intro g p l e s m args below meth c cells slots Q hf hc hs hK hT K H locs ls hP hD hS hl
  exact lv_icmp_lt hf.1 hf.2.1 hd ht (fun h => kt h g p l e s m args below meth c cells slots Q hf hc hs hK hT K H locs ls hP hD hS hl) (fun h => kf h g p l e s m args below meth c cells slots Q hf hc hs hK hT K H locs ls hP hD hS hl)
theorem Rt.if_ge {x : Int32} {off : Int} (tgt : Nat) (hd : decode cc pc = .ok (.ifCond .ge off, 3)) (ht : (pc : Int) + off = (tgt : Int)) (kt : 0 ≤ x → Rt X own cc nL R ri tgt L st σ r σ') (kf : ¬ (0 ≤ x) → Rt X own cc nL R ri (pc + 3) L st σ r σ') : Rt X own cc nL R ri pc L (.int x :: st) σ r σ' := by
  intro g p l e s m args below meth c cells slots Q hf hc hs hK hT K H locs ls hP hD hS hl
  exact lv_if_ge hf.1 hf.2.1 hd ht (fun h => kt h g p l e s m args below meth c cells slots Q hf hc hs hK hT K H locs ls hP hD hS hl) (fun h => kf h g p l e s m args below meth c cells slots Q hf hc hs hK hT K H locs ls hP hD hS hl)
theorem Rt.icmp_ge {x y : Int32} {off : Int} (tgt : Nat) (hd : decode cc pc = .ok (.if_icmp .ge off, 3)) (ht : (pc : Int) + off = (tgt : Int)) (kt : y ≤ x → Rt X own cc nL R ri tgt L st σ r σ') (kf : ¬ (y ≤ x) → Rt X own cc nL R ri (pc + 3) L st σ r σ') : Rt X own cc nL R ri pc L (.int y :: .int x :: st) σ r σ' := by
  intro g p l e s m args below meth c cells slots Q hf hc hs hK hT K H locs ls hP hD hS hl
  exact lv_icmp_ge hf.1 hf.2.1 hd ht (fun h => kt h g p l e s m args below meth c cells slots Q hf hc hs hK hT K H locs ls hP hD hS hl) (fun h => kf h g p l e s m args below meth c cells slots Q hf hc hs hK hT K H locs ls hP hD hS hl)
theorem Rt.if_gt {x : Int32} {off : Int} (tgt : Nat) (hd : decode cc pc = .ok (.ifCond .gt off, 3)) (ht : (pc : Int) + off = (tgt : Int)) (kt : 0 < x → Rt X own cc nL R ri tgt L st σ r σ') (kf : ¬ (0 < x) → Rt X own cc nL R ri (pc + 3) L st σ r σ') : Rt X own cc nL R ri pc L (.int x :: st) σ r σ' := by
  intro g p l e s m args below meth c cells slots Q hf hc hs hK hT K H locs ls hP hD hS hl
  exact lv_if_gt hf.1 hf.2.1 hd ht (fun h => kt h g p l e s m args below meth c cells slots Q hf hc hs hK hT K H locs ls hP hD hS hl) (fun h => kf h g p l e s m args below meth c cells slots Q hf hc hs hK hT K H locs ls hP hD hS hl)
theorem Rt.icmp_gt {x y : Int32} {off : Int} (tgt : Nat) (hd : decode cc pc = .ok (.if_icmp .gt off, 3)) (ht : (pc : Int) + off = (tgt : Int)) (kt : y < x → Rt X own cc nL R ri tgt L st σ r σ') (kf : ¬ (y < x) → Rt X own cc nL R ri (pc + 3) L st σ r σ') : Rt X own cc nL R ri pc L (.int y :: .int x :: st) σ r σ' := by
  intro g p l e s m args below meth c cells slots Q hf hc hs hK hT K H locs ls hP hD hS hl
  exact lv_icmp_gt hf.1 hf.2.1 hd ht (fun h => kt h g p l e s m args below meth c cells slots Q hf hc hs hK hT K H locs ls hP hD hS hl) (fun h => kf h g p l e s m args below meth c cells slots Q hf hc hs hK hT K H locs ls hP hD hS hl)
theorem Rt.if_le {x : Int32} {off : Int} (tgt : Nat) (hd : decode cc pc = .ok (.ifCond .le off, 3)) (ht : (pc : Int) + off = (tgt : Int)) (kt : x ≤ 0 → Rt X own cc nL R ri tgt L st σ r σ') (kf : ¬ (x ≤ 0) → Rt X own cc nL R ri (pc + 3) L st σ r σ') : Rt X own cc nL R ri pc L (.int x :: st) σ r σ' := by
  intro g p l e s m args below meth c cells slots Q hf hc hs hK hT K H locs ls hP hD hS hl
  exact lv_if_le hf.1 hf.2.1 hd ht (fun h => kt h g p l e s m args below meth c cells slots Q hf hc hs hK hT K H locs ls hP hD hS hl) (fun h => kf h g p l e s m args below meth c cells slots Q hf hc hs hK hT K H locs ls hP hD hS hl)
theorem Rt.icmp_le {x y : Int32} {off : Int} (tgt : Nat) (hd : decode cc pc = .ok (.if_icmp .le off, 3)) (ht : (pc : Int) + off = (tgt : Int)) (kt : x ≤ y → Rt X own cc nL R ri tgt L st σ r σ') (kf : ¬ (x ≤ y) → Rt X own cc nL R ri (pc + 3) L st σ r σ') : Rt X own cc nL R ri pc L (.int y :: .int x :: st) σ r σ' := by
  intro g p l e s m args below meth c cells slots Q hf hc hs hK hT K H locs ls hP hD hS hl
  exact lv_icmp_le hf.1 hf.2.1 hd ht (fun h => kt h g p l e s m args below meth c cells slots Q hf hc hs hK hT K H locs ls hP hD hS hl) (fun h => kf h g p l e s m args below meth c cells slots Q hf hc hs hK hT K H locs ls hP hD hS hl)
theorem Rt.goto {off : Int} (tgt : Nat) (hd : decode cc pc = .ok (.goto off, 3)) (ht : (pc : Int) + off = (tgt : Int)) (k : Rt X own cc nL R ri tgt L st σ r σ') : Rt X own cc nL R ri pc L st σ r σ' := by
  intro g p l e s m args below meth c cells slots Q hf hc hs hK hT K H locs ls hP hD hS hl
  exact lv_goto hf.1 hf.2.1 hd ht (k g p l e s m args below meth c cells slots Q hf hc hs hK hT K H locs ls hP hD hS hl)
theorem Rt.ifnonnull {x : Nat} {off : Int} (tgt : Nat) (hd : decode cc pc = .ok (.ifnonnull off, 3)) (ht : (pc : Int) + off = (tgt : Int)) (k : Rt X own cc nL R ri tgt L st σ r σ') : Rt X own cc nL R ri pc L (.ref x :: st) σ r σ' := by
  intro g p l e s m args below meth c cells slots Q hf hc hs hK hT K H locs ls hP hD hS hl
  exact lv_ifnonnull hf.1 hf.2.1 hd ht (k g p l e s m args below meth c cells slots Q hf hc hs hK hT K H locs ls hP hD hS hl)
end RtOps
end
section
/-! fields, rows, tables, calls, contracts -/
def inb (i : Int32) (n : Nat) : Bool := !(decide (i < 0)) && decide (i.toNatClampNeg < n)
theorem inb_vp {i : Int32} {n : Nat} (h : inb i n = true) : vp_in i n := by
  unfold inb at h
  rw [Bool.and_eq_true, Bool.not_eq_true', decide_eq_false_iff_not, decide_eq_true_iff] at h
  intro q
  rcases q with q | q
  · exact h.1 q
  · exact absurd h.2 (Nat.not_lt.mpr q)
theorem fs_at {g : Gl} {σ : Sto} {k j : Nat} {fl : List (Option Nat)} {f : Option Nat} (h : fl[j]? = some f) : (fl.mapIdx (fdV g σ k))[j]? = some (fdV g σ k j f) := by
  rw [List.getElem?_mapIdx, h]; rfl
theorem cat_sum {g : Gl} (hc : g.2.2.2.2.category = 1) (st : List Value) : ((st.map (cv g)).map fun v => v.category).sum = (st.map fun v => v.category).sum := by
  rw [List.map_map]
  congr 1
  refine List.map_congr_left fun v _ => ?_
  exact cv_cat hc v
section RtHeap
variable {X : Scr} {own : String} {cc : ByteArray} {nL : Nat} {R : Room} {ri : Instr} {pc : Nat} {L L' : List (Nat × Value)} {st : List Value} {σ : Sto} {r : Option Value} {σ' : Sto}
theorem Rt.getI {k ci j idx N : Nat} {fl : List (Option Nat)} {C : String} {T : u_T} (hlay : lay[k]? = some (.inr (ci, fl))) (hcl : vwCl[ci]? = some (C, T, N)) (hin : ∀ w ∈ u_ws C T N, w ∈ gw) (hN : j < N) (hj : fl[j]? = some none) (hm : Cond.fieldLink own idx (T j).1 (T j).2.1 (T j).2.2.1 ∈ gw) (hd : decode cc pc = .ok (.getfield idx, 3)) (k1 : Rt X own cc nL R ri (pc + 3) L (.int (σ k j) :: st) σ r σ') : Rt X own cc nL R ri pc L (.ref k :: st) σ r σ' := by
  intro g p l e s m args below meth c cells slots Q hf hc hs hK hT K H locs ls hP hD hS hl
  exact va_get (v := .int (σ k j)) hf.1 hf.2.1 hf.2.2.2.2 hin hf.2.2.2.1 hK hP k (ces_at hlay) hcl j hN (hf.2.2.2.2 _ hm) (fun _ h => h) (fs_at hj) hd (k1 g p l e s m args below meth c cells slots Q hf hc hs hK hT K H locs ls hP hD hS hl)
theorem Rt.getR {k ci j idx N f : Nat} {fl : List (Option Nat)} {C : String} {T : u_T} (hlay : lay[k]? = some (.inr (ci, fl))) (hcl : vwCl[ci]? = some (C, T, N)) (hin : ∀ w ∈ u_ws C T N, w ∈ gw) (hN : j < N) (hj : fl[j]? = some (some f)) (hm : Cond.fieldLink own idx (T j).1 (T j).2.1 (T j).2.2.1 ∈ gw) (hd : decode cc pc = .ok (.getfield idx, 3)) (k1 : Rt X own cc nL R ri (pc + 3) L (.ref f :: st) σ r σ') : Rt X own cc nL R ri pc L (.ref k :: st) σ r σ' := by
  intro g p l e s m args below meth c cells slots Q hf hc hs hK hT K H locs ls hP hD hS hl
  exact va_get (v := .ref (g.2.1 f)) hf.1 hf.2.1 hf.2.2.2.2 hin hf.2.2.2.1 hK hP k (ces_at hlay) hcl j hN (hf.2.2.2.2 _ hm) (fun _ h => h) (fs_at hj) hd (k1 g p l e s m args below meth c cells slots Q hf hc hs hK hT K H locs ls hP hD hS hl)
theorem Rt.getIN {k ci j idx N : Nat} {fl : List (Option Nat)} {C host : String} {T : u_T} (hlay : lay[k]? = some (.inr (ci, fl))) (hcl : vwCl[ci]? = some (C, T, N)) (hin : ∀ w ∈ u_ws C T N, w ∈ gw) (hN : j < N) (hj : fl[j]? = some none) (hm : Cond.fieldLinkNest own idx (T j).1 (T j).2.1 (T j).2.2.1 host ∈ lw_tbl) (hd : decode cc pc = .ok (.getfield idx, 3)) (k1 : Rt X own cc nL R ri (pc + 3) L (.int (σ k j) :: st) σ r σ') : Rt X own cc nL R ri pc L (.ref k :: st) σ r σ' := by
  intro g p l e s m args below meth c cells slots Q hf hc hs hK hT K H locs ls hP hD hS hl
  exact va_getN (v := .int (σ k j)) hf.1 hf.2.1 hf.2.2.2.2 hin hf.2.2.2.1 hK hP k (ces_at hlay) hcl j hN (nest_use rfl (hT.2.1 _ hm rfl)) (fun _ h => h) (fs_at hj) hd (k1 g p l e s m args below meth c cells slots Q hf hc hs hK hT K H locs ls hP hD hS hl)
theorem Rt.getRN {k ci j idx N f : Nat} {fl : List (Option Nat)} {C host : String} {T : u_T} (hlay : lay[k]? = some (.inr (ci, fl))) (hcl : vwCl[ci]? = some (C, T, N)) (hin : ∀ w ∈ u_ws C T N, w ∈ gw) (hN : j < N) (hj : fl[j]? = some (some f)) (hm : Cond.fieldLinkNest own idx (T j).1 (T j).2.1 (T j).2.2.1 host ∈ lw_tbl) (hd : decode cc pc = .ok (.getfield idx, 3)) (k1 : Rt X own cc nL R ri (pc + 3) L (.ref f :: st) σ r σ') : Rt X own cc nL R ri pc L (.ref k :: st) σ r σ' := by
  intro g p l e s m args below meth c cells slots Q hf hc hs hK hT K H locs ls hP hD hS hl
  exact va_getN (v := .ref (g.2.1 f)) hf.1 hf.2.1 hf.2.2.2.2 hin hf.2.2.2.1 hK hP k (ces_at hlay) hcl j hN (nest_use rfl (hT.2.1 _ hm rfl)) (fun _ h => h) (fs_at hj) hd (k1 g p l e s m args below meth c cells slots Q hf hc hs hK hT K H locs ls hP hD hS hl)
theorem Rt.putI {k ci j idx N : Nat} {fl : List (Option Nat)} {C : String} {T : u_T} {ty0 : Nat → FieldType} {ty : FieldType} {x : Int32} (hlay : lay[k]? = some (.inr (ci, fl))) (hcl : vwCl[ci]? = some (C, T, N)) (hin : ∀ w ∈ u_ws C T N, w ∈ gw) (hty : ∀ k, k < N → parseFieldDescriptor (T k).2.2.1 = some (ty0 k)) (hnm : ∀ a, a < N → ∀ b, b < N → a ≠ b → (T a).2.1 ≠ (T b).2.1) (hN : j < N) (hj : fl[j]? = some none) (hfin : (T j).2.2.2 = false) (hpt : ty0 j = ty) (hn : narrow ty (.int x) = .int x) (hfit : fits ty (.int x) = true) (hm : Cond.fieldLink own idx (T j).1 (T j).2.1 (T j).2.2.1 ∈ gw) (hd : decode cc pc = .ok (.putfield idx, 3)) (k1 : Rt X own cc nL R ri (pc + 3) L st (upS σ k j x) r σ') : Rt X own cc nL R ri pc L (.int x :: .ref k :: st) σ r σ' := by
  intro g p l e s m args below meth c cells slots Q hf hc hs hK hT K H locs ls hP hD hS hl
  refine va_put (v := .int x) (ty := ty) hf.1 hf.2.1 hf.2.2.2.2 hin ty0 hty hnm hf.2.2.2.1 hK hP hD hS k (ces_at hlay) hcl j hN (hf.2.2.2.2 _ hm) (fun _ h => h) hfin (by rw [hty j hN, hpt]) hn hfit (by rw [List.length_mapIdx]; exact (List.getElem?_eq_some_iff.mp hj).1) hd (fun H1 locs1 hP1 hD1 hS1 => ?_)
  rw [ces_put hlay hj] at hP1 hD1
  exact k1 g p l e s m args below meth c cells slots Q hf hc hs hK hT K H1 locs1 ls hP1 hD1 hS1 hl
theorem Rt.putIN {k ci j idx N : Nat} {fl : List (Option Nat)} {C host : String} {T : u_T} {ty0 : Nat → FieldType} {ty : FieldType} {x : Int32} (hlay : lay[k]? = some (.inr (ci, fl))) (hcl : vwCl[ci]? = some (C, T, N)) (hin : ∀ w ∈ u_ws C T N, w ∈ gw) (hty : ∀ k, k < N → parseFieldDescriptor (T k).2.2.1 = some (ty0 k)) (hnm : ∀ a, a < N → ∀ b, b < N → a ≠ b → (T a).2.1 ≠ (T b).2.1) (hN : j < N) (hj : fl[j]? = some none) (hfin : (T j).2.2.2 = false) (hpt : ty0 j = ty) (hn : narrow ty (.int x) = .int x) (hfit : fits ty (.int x) = true) (hm : Cond.fieldLinkNest own idx (T j).1 (T j).2.1 (T j).2.2.1 host ∈ lw_tbl) (hd : decode cc pc = .ok (.putfield idx, 3)) (k1 : Rt X own cc nL R ri (pc + 3) L st (upS σ k j x) r σ') : Rt X own cc nL R ri pc L (.int x :: .ref k :: st) σ r σ' := by
  intro g p l e s m args below meth c cells slots Q hf hc hs hK hT K H locs ls hP hD hS hl
  refine va_putN (v := .int x) (ty := ty) hf.1 hf.2.1 hf.2.2.2.2 hin ty0 hty hnm hf.2.2.2.1 hK hP hD hS k (ces_at hlay) hcl j hN (nest_use rfl (hT.2.1 _ hm rfl)) (fun _ h => h) hfin (by rw [hty j hN, hpt]) hn hfit (by rw [List.length_mapIdx]; exact (List.getElem?_eq_some_iff.mp hj).1) hd (fun H1 locs1 hP1 hD1 hS1 => ?_)
  rw [ces_put hlay hj] at hP1 hD1
  exact k1 g p l e s m args below meth c cells slots Q hf hc hs hK hT K H1 locs1 ls hP1 hD1 hS1 hl
theorem Rt.iald {k n : Nat} {i : Int32} (hlay : lay[k]? = some (.inl n)) (hi : inb i n = true) (hd : decode cc pc = .ok (.iaload, 1)) (k1 : Rt X own cc nL R ri (pc + 1) L (.int (σ k i.toNatClampNeg) :: st) σ r σ') : Rt X own cc nL R ri pc L (.int i :: .ref k :: st) σ r σ' := by
  intro g p l e s m args below meth c cells slots Q hf hc hs hK hT K H locs ls hP hD hS hl
  exact va_iald hf.1 hf.2.1 hK hP k 0 (ces_at hlay) rfl (inb_vp hi) hd (k1 g p l e s m args below meth c cells slots Q hf hc hs hK hT K H locs ls hP hD hS hl)
theorem Rt.iast {k n : Nat} {i x : Int32} (hlay : lay[k]? = some (.inl n)) (hi : inb i n = true) (hd : decode cc pc = .ok (.iastore, 1)) (k1 : Rt X own cc nL R ri (pc + 1) L st (upS σ k i.toNatClampNeg x) r σ') : Rt X own cc nL R ri pc L (.int x :: .int i :: .ref k :: st) σ r σ' := by
  intro g p l e s m args below meth c cells slots Q hf hc hs hK hT K H locs ls hP hD hS hl
  refine va_iast hf.1 hf.2.1 hK hP hD hS k 0 (ces_at hlay) rfl (inb_vp hi) hd (fun H1 locs1 hP1 hD1 hS1 => ?_)
  rw [ces_putA hlay] at hP1 hD1
  exact k1 g p l e s m args below meth c cells slots Q hf hc hs hK hT K H1 locs1 ls hP1 hD1 hS1 hl
theorem Rt.alen {k n : Nat} (v : Int32) (hlay : lay[k]? = some (.inl n)) (hv : Int32.ofNat n = v) (hd : decode cc pc = .ok (.arraylength, 1)) (k1 : Rt X own cc nL R ri (pc + 1) L (.int v :: st) σ r σ') : Rt X own cc nL R ri pc L (.ref k :: st) σ r σ' := by
  intro g p l e s m args below meth c cells slots Q hf hc hs hK hT K H locs ls hP hD hS hl
  exact va_alen hf.1 hf.2.1 hK hP k 0 (ces_at hlay) rfl hv hd (k1 g p l e s m args below meth c cells slots Q hf hc hs hK hT K H locs ls hP hD hS hl)
theorem Rt.ialdX {i : Int32} (hi : inb i X.1 = true) (hd : decode cc pc = .ok (.iaload, 1)) (k1 : Rt X own cc nL R ri (pc + 1) L (.int (X.2 i.toNatClampNeg) :: st) σ r σ') : Rt X own cc nL R ri pc L (.int i :: .ref 30 :: st) σ r σ' := by
  intro g p l e s m args below meth c cells slots Q hf hc hs hK hT K H locs ls hP hD hS hl
  exact va_ti hf.1 hf.2.1 hT.2.2.1 hS (inb_vp hi) rfl hd (k1 g p l e s m args below meth c cells slots Q hf hc hs hK hT K H locs ls hP hD hS hl)
theorem Rt.alenX (hd : decode cc pc = .ok (.arraylength, 1)) (k1 : Rt X own cc nL R ri (pc + 1) L (.int (Int32.ofNat X.1) :: st) σ r σ') : Rt X own cc nL R ri pc L (.ref 30 :: st) σ r σ' := by
  intro g p l e s m args below meth c cells slots Q hf hc hs hK hT K H locs ls hP hD hS hl
  exact va_tlen hf.1 hf.2.1 hT.2.2.1 hS rfl hd (k1 g p l e s m args below meth c cells slots Q hf hc hs hK hT K H locs ls hP hD hS hl)
theorem Rt.ialdHL {i : Int32} (hi : inb i 4 = true) (hd : decode cc pc = .ok (.iaload, 1)) (k1 : Rt X own cc nL R ri (pc + 1) L (.int (heL i.toNatClampNeg) :: st) σ r σ') : Rt X own cc nL R ri pc L (.int i :: .ref 31 :: st) σ r σ' := by
  intro g p l e s m args below meth c cells slots Q hf hc hs hK hT K H locs ls hP hD hS hl
  exact va_ti hf.1 hf.2.1 hT.2.2.2.1 hS (inb_vp hi) rfl hd (k1 g p l e s m args below meth c cells slots Q hf hc hs hK hT K H locs ls hP hD hS hl)
theorem Rt.ialdHM {i : Int32} (hi : inb i 4 = true) (hd : decode cc pc = .ok (.iaload, 1)) (k1 : Rt X own cc nL R ri (pc + 1) L (.int (heM i.toNatClampNeg) :: st) σ r σ') : Rt X own cc nL R ri pc L (.int i :: .ref 32 :: st) σ r σ' := by
  intro g p l e s m args below meth c cells slots Q hf hc hs hK hT K H locs ls hP hD hS hl
  exact va_ti hf.1 hf.2.1 hT.2.2.2.2.1 hS (inb_vp hi) rfl hd (k1 g p l e s m args below meth c cells slots Q hf hc hs hK hT K H locs ls hP hD hS hl)
theorem Rt.alenHL (hd : decode cc pc = .ok (.arraylength, 1)) (k1 : Rt X own cc nL R ri (pc + 1) L (.int 4 :: st) σ r σ') : Rt X own cc nL R ri pc L (.ref 31 :: st) σ r σ' := by
  intro g p l e s m args below meth c cells slots Q hf hc hs hK hT K H locs ls hP hD hS hl
  exact va_tlen hf.1 hf.2.1 hT.2.2.2.1 hS rfl hd (k1 g p l e s m args below meth c cells slots Q hf hc hs hK hT K H locs ls hP hD hS hl)
theorem Rt.alenHM (hd : decode cc pc = .ok (.arraylength, 1)) (k1 : Rt X own cc nL R ri (pc + 1) L (.int 4 :: st) σ r σ') : Rt X own cc nL R ri pc L (.ref 32 :: st) σ r σ' := by
  intro g p l e s m args below meth c cells slots Q hf hc hs hK hT K H locs ls hP hD hS hl
  exact va_tlen hf.1 hf.2.1 hT.2.2.2.2.1 hS rfl hd (k1 g p l e s m args below meth c cells slots Q hf hc hs hK hT K H locs ls hP hD hS hl)
theorem Rt.getsHL {idx : Nat} (hm : Cond.fieldLink own idx "HigherMoreLeft" "HE_LEAST" "[I" ∈ gw) (hd : decode cc pc = .ok (.getstatic idx, 3)) (k1 : Rt X own cc nL R ri (pc + 3) L (.ref 31 :: st) σ r σ') : Rt X own cc nL R ri pc L st σ r σ' := by
  intro g p l e s m args below meth c cells slots Q hf hc hs hK hT K H locs ls hP hD hS hl
  exact va_gets hf.1 hf.2.1 hT.2.2.2.2.2.1 hS hf.2.2.2.1 (hf.2.2.2.2 _ hm) (fun _ h => h) hd (k1 g p l e s m args below meth c cells slots Q hf hc hs hK hT K H locs ls hP hD hS hl)
theorem Rt.getsHM {idx : Nat} (hm : Cond.fieldLink own idx "HigherMoreLeft" "HE_MOST" "[I" ∈ gw) (hd : decode cc pc = .ok (.getstatic idx, 3)) (k1 : Rt X own cc nL R ri (pc + 3) L (.ref 32 :: st) σ r σ') : Rt X own cc nL R ri pc L st σ r σ' := by
  intro g p l e s m args below meth c cells slots Q hf hc hs hK hT K H locs ls hP hD hS hl
  exact va_gets hf.1 hf.2.1 hT.2.2.2.2.2.2.1 hS hf.2.2.2.1 (hf.2.2.2.2 _ hm) (fun _ h => h) hd (k1 g p l e s m args below meth c cells slots Q hf hc hs hK hT K H locs ls hP hD hS hl)
theorem Rt.getsCS {idx : Nat} (hm : Cond.fieldLink own idx "java/lang/String" "COMPACT_STRINGS" "Z" ∈ gw) (hd : decode cc pc = .ok (.getstatic idx, 3)) (k1 : Rt X own cc nL R ri (pc + 3) L (.int 1 :: st) σ r σ') : Rt X own cc nL R ri pc L st σ r σ' := by
  intro g p l e s m args below meth c cells slots Q hf hc hs hK hT K H locs ls hP hD hS hl
  exact va_gets hf.1 hf.2.1 hT.2.2.2.2.2.2.2.1 hS hf.2.2.2.1 (hf.2.2.2.2 _ hm) (fun _ h => h) hd (k1 g p l e s m args below meth c cells slots Q hf hc hs hK hT K H locs ls hP hD hS hl)
theorem Rt.getsSF {idx : Nat} (hm : Cond.fieldLink own idx "jdk/internal/util/Preconditions" "SIOOBE_FORMATTER" "Ljava/util/function/BiFunction;" ∈ gw) (hd : decode cc pc = .ok (.getstatic idx, 3)) (k1 : Rt X own cc nL R ri (pc + 3) L (.float 0 :: st) σ r σ') : Rt X own cc nL R ri pc L st σ r σ' := by
  intro g p l e s m args below meth c cells slots Q hf hc hs hK hT K H locs ls hP hD hS hl
  exact va_gets hf.1 hf.2.1 hT.2.2.2.2.2.2.2.2.1 hS hf.2.2.2.1 (hf.2.2.2.2 _ hm) (fun _ h => h) hd (k1 g p l e s m args below meth c cells slots Q hf hc hs hK hT K H locs ls hP hD hS hl)
-- text constants: 40 + i is the i-th text, 50 + i its row of bytes
theorem Rt.ldcT {idx : Nat} (i : Nat) (hi : i < 6) (ho : own = "HigherMoreLeft$Text") (hx : idx = 52 + 2 * i) (hd : decode cc pc = .ok (.ldc idx, 2)) (k1 : Rt X own cc nL R ri (pc + 2) L (.ref (40 + i) :: st) σ r σ') : Rt X own cc nL R ri pc L st σ r σ' := by
  subst ho; subst hx
  intro g p l e s m args below meth c cells slots Q hf hc hs hK hT K H locs ls hP hD hS hl
  have hR := hT.2.2.2.2.2.2.2.2.2.2 i hi
  exact va_ldcS hf.1 hf.2.1 hf.2.2.2.1 hR hd (k1 g p l e s m args below meth c cells slots Q hf hc hs hK hT K H locs ls hP hD hS hl)
theorem Rt.getV {i idx : Nat} (hi : i < 6) (hm : Cond.fieldLink own idx "java/lang/String" "value" "[B" ∈ gw) (hd : decode cc pc = .ok (.getfield idx, 3)) (k1 : Rt X own cc nL R ri (pc + 3) L (.ref (50 + i) :: st) σ r σ') : Rt X own cc nL R ri pc L (.ref (40 + i) :: st) σ r σ' := by
  intro g p l e s m args below meth c cells slots Q hf hc hs hK hT K H locs ls hP hD hS hl
  exact vk_getf hf.1 hf.2.1 (hT.2.2.2.2.2.2.2.2.2.1.1 i hi).2.2.1 hS hf.2.2.2.1 (hf.2.2.2.2 _ hm) (fun _ h => h) hd (k1 g p l e s m args below meth c cells slots Q hf hc hs hK hT K H locs ls hP hD hS hl)
theorem Rt.getC {i idx : Nat} (hi : i < 6) (hm : Cond.fieldLink own idx "java/lang/String" "coder" "B" ∈ gw) (hd : decode cc pc = .ok (.getfield idx, 3)) (k1 : Rt X own cc nL R ri (pc + 3) L (.int 0 :: st) σ r σ') : Rt X own cc nL R ri pc L (.ref (40 + i) :: st) σ r σ' := by
  intro g p l e s m args below meth c cells slots Q hf hc hs hK hT K H locs ls hP hD hS hl
  exact vk_getf hf.1 hf.2.1 (hT.2.2.2.2.2.2.2.2.2.1.1 i hi).2.1 hS hf.2.2.2.1 (hf.2.2.2.2 _ hm) (fun _ h => h) hd (k1 g p l e s m args below meth c cells slots Q hf hc hs hK hT K H locs ls hP hD hS hl)
theorem Rt.baldT {i : Nat} {x : Int32} (hi : i < 6) (hx : inb x (sLen.getD i 0) = true) (hd : decode cc pc = .ok (.baload, 1)) (k1 : Rt X own cc nL R ri (pc + 1) L (.int ((sByt.getD i []).getD x.toNatClampNeg 0) :: st) σ r σ') : Rt X own cc nL R ri pc L (.int x :: .ref (50 + i) :: st) σ r σ' := by
  intro g p l e s m args below meth c cells slots Q hf hc hs hK hT K H locs ls hP hD hS hl
  exact va_tb hf.1 hf.2.1 (hT.2.2.2.2.2.2.2.2.2.1.1 i hi).2.2.2 hS (inb_vp hx) rfl hd (k1 g p l e s m args below meth c cells slots Q hf hc hs hK hT K H locs ls hP hD hS hl)
theorem Rt.alenT {i : Nat} (hi : i < 6) (hd : decode cc pc = .ok (.arraylength, 1)) (k1 : Rt X own cc nL R ri (pc + 1) L (.int (Int32.ofNat (sLen.getD i 0)) :: st) σ r σ') : Rt X own cc nL R ri pc L (.ref (50 + i) :: st) σ r σ' := by
  intro g p l e s m args below meth c cells slots Q hf hc hs hK hT K H locs ls hP hD hS hl
  exact va_tlen hf.1 hf.2.1 (hT.2.2.2.2.2.2.2.2.2.1.1 i hi).2.2.2 hS rfl hd (k1 g p l e s m args below meth c cells slots Q hf hc hs hK hT K H locs ls hP hD hS hl)
-- Math
theorem Rt.mmax {x y : Int32} {idx : Nat} (h1 : Cond.methodLink own idx Lib.Math.max.name ∈ gw) (h2 : Cond.static Lib.Math.max.name ∈ gw) (h3 : Cond.initialized "java/lang/Math" ∈ gw) (h4 : Cond.code Lib.Math.max.name Lib.Math.max.code 2 (some .int) ∈ gw) (hfr : 1 ≤ R.frames) (hlo : (st.map fun v => v.category).sum + 13 ≤ R.locals) (hd : decode cc pc = .ok (.invokestatic idx, 3)) (k1 : Rt X own cc nL R ri (pc + 3) L (.int (if x < y then y else x) :: st) σ r σ') : Rt X own cc nL R ri pc L (.int y :: .int x :: st) σ r σ' := by
  intro g p l e s m args below meth c cells slots Q hf hc hs hK hT K H locs ls hP hD hS hl
  exact va_mmax hf.1 hf.2.1 (hf.2.2.1.trans hl.1.symm) hf.2.2.2.1 (hf.2.2.2.2 _ h1) (hf.2.2.2.2 _ h2) (hf.2.2.2.2 _ h3) (hf.2.2.2.2 _ h4) hfr (by rw [cat_sum hT.cat]; exact hlo) hc hs hd (k1 g p l e s m args below meth c cells slots Q hf hc hs hK hT K H locs ls hP hD hS hl)
theorem Rt.mmin {x y : Int32} {idx : Nat} (h1 : Cond.methodLink own idx Lib.Math.min.name ∈ gw) (h2 : Cond.static Lib.Math.min.name ∈ gw) (h3 : Cond.initialized "java/lang/Math" ∈ gw) (h4 : Cond.code Lib.Math.min.name Lib.Math.min.code 2 (some .int) ∈ gw) (hfr : 1 ≤ R.frames) (hlo : (st.map fun v => v.category).sum + 13 ≤ R.locals) (hd : decode cc pc = .ok (.invokestatic idx, 3)) (k1 : Rt X own cc nL R ri (pc + 3) L (.int (if y < x then y else x) :: st) σ r σ') : Rt X own cc nL R ri pc L (.int y :: .int x :: st) σ r σ' := by
  intro g p l e s m args below meth c cells slots Q hf hc hs hK hT K H locs ls hP hD hS hl
  exact va_mmin hf.1 hf.2.1 (hf.2.2.1.trans hl.1.symm) hf.2.2.2.1 (hf.2.2.2.2 _ h1) (hf.2.2.2.2 _ h2) (hf.2.2.2.2 _ h3) (hf.2.2.2.2 _ h4) hfr (by rw [cat_sum hT.cat]; exact hlo) hc hs hd (k1 g p l e s m args below meth c cells slots Q hf hc hs hK hT K H locs ls hP hD hS hl)
theorem Rt.mabs {x : Int32} {idx : Nat} (h1 : Cond.methodLink own idx Lib.Math.abs.name ∈ gw) (h2 : Cond.static Lib.Math.abs.name ∈ gw) (h3 : Cond.initialized "java/lang/Math" ∈ gw) (h4 : Cond.code Lib.Math.abs.name Lib.Math.abs.code 1 (some .int) ∈ gw) (hfr : 1 ≤ R.frames) (hlo : (st.map fun v => v.category).sum + 13 ≤ R.locals) (hd : decode cc pc = .ok (.invokestatic idx, 3)) (k1 : Rt X own cc nL R ri (pc + 3) L (.int (if 0 ≤ x then x else 0 - x) :: st) σ r σ') : Rt X own cc nL R ri pc L (.int x :: st) σ r σ' := by
  intro g p l e s m args below meth c cells slots Q hf hc hs hK hT K H locs ls hP hD hS hl
  exact va_mabs hf.1 hf.2.1 (hf.2.2.1.trans hl.1.symm) hf.2.2.2.1 (hf.2.2.2.2 _ h1) (hf.2.2.2.2 _ h2) (hf.2.2.2.2 _ h3) (hf.2.2.2.2 _ h4) hfr (by rw [cat_sum hT.cat]; exact hlo) hc hs hd (k1 g p l e s m args below meth c cells slots Q hf hc hs hK hT K H locs ls hP hD hS hl)
-- 24 places of one row into another
theorem Rt.copy24 {idx a b : Nat} (ha : lay[a]? = some (.inl 24)) (hb : lay[b]? = some (.inl 24)) (h1 : Cond.methodLink own idx arraycopyName ∈ gw) (h2 : Cond.native arraycopyName ∈ gw) (h3 : Cond.static arraycopyName ∈ gw) (h4 : Cond.initialized "java/lang/System" ∈ gw) (hfr : 1 ≤ R.frames) (hlo : (st.map fun v => v.category).sum + (nativeFrameWords "java/lang/System" "arraycopy" 5 + 11) ≤ R.locals) (hd : decode cc pc = .ok (.invokestatic idx, 3)) (k1 : Rt X own cc nL R ri (pc + 3) L st (setS σ b (va_cpy (σ a) (σ b) 0 0 24)) r σ') : Rt X own cc nL R ri pc L (.int 24 :: .int 0 :: .ref b :: .int 0 :: .ref a :: st) σ r σ' := by
  intro g p l e s m args below meth c cells slots Q hf hc hs hK hT K H locs ls hP hD hS hl
  refine va_copyi (sp := 0) (dp := 0) (n := 24) (ty := .int) hf.1 hf.2.1 (hf.2.2.1.trans hl.1.symm) hf.2.2.2.1 (hf.2.2.2.2 _ h1) (hf.2.2.2.2 _ h2) (hf.2.2.2.2 _ h3) (hf.2.2.2.2 _ h4) hK hP hD hS a b 0 0 (ces_at ha) (ces_at hb) rfl rfl rfl (by decide) (by decide) (by decide) (by decide) (by decide) (fun _ _ => rfl) hfr (by rw [cat_sum hT.cat]; exact hlo) hd (fun H1 locs1 hP1 hD1 hS1 => ?_)
  rw [ces_setA hb] at hP1 hD1
  exact k1 g p l e s m args below meth c cells slots Q hf hc hs hK hT K H1 locs1 ls hP1 hD1 hS1 hl
end RtHeap
end
section
/-! contracts and calls -/
def Wd (X : Scr) (g : Gl) (σ : Sto) (U : State) : Prop := va_P g.1 vwCl (ces g σ) U.heap ∧ va_D g.2.2.2.1 (ces g σ) ∧ va_K g.1 vwCl [(g.2.2.1, .int)] U ∧ Stt X g U U.heap
def Qa (g : Gl) (r : Option Value) (σ' : Sto) : Array Value → State → Outcome → State → Prop := fun _ st oc t => oc = .returned (r.map (cv g)) ∧ va_P g.1 vwCl (ces g σ') t.heap ∧ va_D g.2.2.2.1 (ces g σ') ∧ va_F g.2.2.2.1 st t
def rmA (f n : Nat) : Room := { frames := f, cells := 0, slots := 0, locals := n }
def AM (y : MethodName) (cc : ByteArray) (nL : Nat) (ret : Option FieldType) (fr lo : Nat) (as : List Value) (σ : Sto) (r : Option Value) (σ' : Sto) : Prop :=
  ∀ (X : Scr) (g : Gl) (l : Launch), Met l y (.code y cc nL ret :: gw) (rmA fr lo) (va_Pc (as.map (cv g)) (Wd X g σ)) (Qa g r σ') 0 0 g.2.2.2.1
theorem lv_args_cv {g : Gl} (hc : g.2.2.2.2.category = 1) (as : List Value) : ∀ i, lv_args i (as.map (cv g)) = (lv_args i as).map (cvl g) := by
  induction as with
  | nil => intro i; rfl
  | cons v vs ih =>
    intro i
    show (i, cv g v) :: lv_args (if (cv g v).category = 2 then i + 2 else i + 1) (vs.map (cv g)) = _
    rw [cv_cat hc, ih]
    rfl
theorem lg_sl_cv {g : Gl} (hc : g.2.2.2.2.category = 1) (as : List Value) : (lg_sl (as.map (cv g))).length = (lg_sl as).length := by
  induction as with
  | nil => rfl
  | cons v vs ih =>
    unfold lg_sl at ih ⊢
    rw [List.map_cons, List.flatMap_cons, List.flatMap_cons, List.length_append, List.length_append, ih, cv_cat hc]
    split <;> rfl
/-- a method's contract out of the walk of its body, whatever it gives back -/
theorem AM.mk {y : MethodName} {cc : ByteArray} {nL : Nat} {ret : Option FieldType} {fr lo : Nat} {as : List Value} {σ : Sto} {r : Option Value} {σ' : Sto} {ri : Instr} (hy : plainName y.cls = true) (hsl : (lg_sl as).length ≤ nL)
    (hend : ∀ (g : Gl) (p : Program) (l : Launch) (e : Env) (R : Room) (s : State) (m : MethodId) (args : Array Value) (below : List Frame) (meth : Method) (c : Code) (H : Heap) (locs : List Loc) (pcr : Nat) (ls : Array Slot), (g.2.2.2.2 = .null ∨ ∃ t, g.2.2.2.2 = .ref t) → p.tables.exec = Jvm.exec → c.code = cc → meth.sig.returnType = ret → meth.locks = false → (∀ t : State, t.heap = H → s.WarmedH t.vm → Qa g r σ' args s (.returned (r.map (cv g))) t) → (∀ q ∈ locs, g.2.2.2.1 q.base) → decode cc pcr = .ok (ri, 1) → W p l e R s m args below meth c H locs 0 0 (MQ below (Qa g r σ') args s 0 0 g.2.2.2.1) (F0 m pcr ls (r.toList.map (cv g))))
    (h : ∀ X : Scr, Rt X y.cls cc nL (rmA fr lo) ri 0 (lv_args 0 as) [] σ r σ') : AM y cc nL ret fr lo as σ r σ' := by
  intro X g l
  refine Met.ofW (cc := cc) (maxL := nL) (ret := ret) hy rfl ?_
  intro p e s m args below meth c s₁ B hml hv
  obtain ⟨rfl, hP, hD, hK, hT⟩ := hv
  have hx := B.exec
  have hb := B.bytes
  have hr := B.returns
  have hts := atoms_spec (ws := Cond.code y cc nL ret :: gw) B.pre
  have hown : s.vm.findClass y.cls = some m.cls := findClass_of_methodNamed B.named
  have hlocks := B.notSynchronized
  have hl := lv_entry (as.map (cv g)) (n := nL) (by rw [lg_sl_cv hT.cat]; exact hsl)
  rw [lg_entry_eq]
  rw [lv_args_cv hT.cat] at hl
  refine h X g p l e s m _ below meth c 0 0 _ ⟨hx, hb, hml, hown, fun w hw => hts w (List.mem_cons_of_mem _ hw)⟩ (Nat.zero_le _) (Nat.zero_le _) hK hT ?_ s.heap [] _ hP hD va_S.rf hl
  intro pcr H locs ls hd hP' hD' hS'
  exact hend g p l e _ s m _ below meth c H locs pcr ls hT.1 hx hb hr hlocks (fun t ht hW => ⟨rfl, by rw [ht]; exact hP', hD', hS'.F ht⟩) hS'.2.2 hd
section AMends
variable {y : MethodName} {cc : ByteArray} {nL fr lo : Nat} {as : List Value} {σ σ' : Sto}
theorem AM.int {v : Int32} (hy : plainName y.cls = true) (hsl : (lg_sl as).length ≤ nL) (h : ∀ X : Scr, Rt X y.cls cc nL (rmA fr lo) .ireturn 0 (lv_args 0 as) [] σ (some (.int v)) σ') : AM y cc nL (some .int) fr lo as σ (some (.int v)) σ' :=
  AM.mk hy hsl (fun _ _ _ _ _ _ _ _ _ _ _ _ _ _ _ _ hx hb hr hlocks hq hf hd => W.iret hx hb hr hq hf hd hlocks) h
theorem AM.bool {v : Int32} (hv : v = 0 ∨ v = 1) (hy : plainName y.cls = true) (hsl : (lg_sl as).length ≤ nL) (h : ∀ X : Scr, Rt X y.cls cc nL (rmA fr lo) .ireturn 0 (lv_args 0 as) [] σ (some (.int v)) σ') : AM y cc nL (some .boolean) fr lo as σ (some (.int v)) σ' :=
  AM.mk hy hsl (fun _ _ _ _ _ _ _ _ _ _ _ _ _ _ _ _ hx hb hr hlocks hq hf hd => W.zret hx hb hr (by rcases hv with e | e <;> subst e <;> rfl) hq hf hd hlocks) h
theorem AM.narrow {v : Int32} {ty : FieldType} (hn : narrow ty (.int v) = .int v) (hy : plainName y.cls = true) (hsl : (lg_sl as).length ≤ nL) (h : ∀ X : Scr, Rt X y.cls cc nL (rmA fr lo) .ireturn 0 (lv_args 0 as) [] σ (some (.int v)) σ') : AM y cc nL (some ty) fr lo as σ (some (.int v)) σ' :=
  AM.mk hy hsl (fun _ _ _ _ _ _ _ _ _ _ _ _ _ _ _ _ hx hb hr hlocks hq hf hd => W.zret hx hb hr hn hq hf hd hlocks) h
theorem AM.long {v : Int64} (hy : plainName y.cls = true) (hsl : (lg_sl as).length ≤ nL) (h : ∀ X : Scr, Rt X y.cls cc nL (rmA fr lo) .lreturn 0 (lv_args 0 as) [] σ (some (.long v)) σ') : AM y cc nL (some .long) fr lo as σ (some (.long v)) σ' :=
  AM.mk hy hsl (fun _ _ _ _ _ _ _ _ _ _ _ _ _ _ _ _ hx hb hr hlocks hq hf hd => W.lret hx hb hr hq hf hd hlocks) h
theorem AM.void (hy : plainName y.cls = true) (hsl : (lg_sl as).length ≤ nL) (h : ∀ X : Scr, Rt X y.cls cc nL (rmA fr lo) .return_ 0 (lv_args 0 as) [] σ none σ') : AM y cc nL none fr lo as σ none σ' :=
  AM.mk hy hsl (fun _ _ _ _ _ _ _ _ _ _ _ _ _ _ _ _ hx hb hr hlocks hq hf hd => W.vret hx hb hr hq hf hd hlocks) h
theorem AM.refr {k : Nat} {C : String} (hy : plainName y.cls = true) (hsl : (lg_sl as).length ≤ nL) (h : ∀ X : Scr, Rt X y.cls cc nL (rmA fr lo) .areturn 0 (lv_args 0 as) [] σ (some (.ref k)) σ') : AM y cc nL (some (.object C)) fr lo as σ (some (.ref k)) σ' :=
  AM.mk hy hsl (fun _ _ _ _ _ _ _ _ _ _ _ _ _ _ _ _ hx hb hr hlocks hq hf hd => W.aret hx hb hr (Or.inl ⟨_, rfl⟩) (Or.inr ⟨_, rfl⟩) hq hf hd hlocks) h
end AMends
-- calls
theorem run_go {p : Program} {l : Launch} {e : Env} {R : Room} {s : State} {m : MethodId} {args : Array Value} {below : List Frame} {meth : Method} {c : Code} {H : Heap} {locs : List Loc} {cells slots : Nat} {Q : State → Prop} {g : Gl} {r : Option Value} {σ' : Sto} {a : Array Value} {pc : Nat} {ls : Array Slot} {st0 st : List Value}
    (hr : va_Run p l e R s m args below meth c H locs cells slots 0 0 (F0 m pc ls st0) (st.map (cv g)) (Qa g r σ' a) g.2.2.2.1) (hS : va_S g.2.2.2.1 s.heap H locs)
    (kk : ∀ (H1 : Heap) (locs1 : List Loc), va_P g.1 vwCl (ces g σ') H1 → va_D g.2.2.2.1 (ces g σ') → va_S g.2.2.2.1 s.heap H1 locs1 → W p l e R s m args below meth c H1 locs1 cells slots Q (F0 m (pc + 3) ls ((r.toList ++ st).map (cv g)))) :
    W p l e R s m args below meth c H locs cells slots Q (F0 m pc ls st0) := by
  intro T hT X
  obtain ⟨v, st₀, t, T', L, h0, X', hL, e1, e2, ⟨hv, hP, hD, hz, hk⟩, stp⟩ := hr T hT X
  have hv : v = r.map (cv g) := by injection hv
  subst hv
  rw [h0] at hz hk
  have hst : (r.toList ++ st).map (cv g) = (r.map (cv g)).toList ++ st.map (cv g) := by cases r <;> rfl
  have kk := kk T'.heap (locs ++ L) (by rw [e1]; exact hP) hD ⟨Nat.le_trans hS.1 (by rw [e1]; exact hz), fun q h1 h2 => by rw [e1, hk q (Nat.lt_of_lt_of_le h1 hS.1) h2]; exact hS.2.1 q h1 h2, fun q hq => by
      rcases List.mem_append.mp hq with h | h
      · exact hS.2.2 q h
      · exact hL q h⟩
  rw [hst] at kk
  obtain ⟨t2, a1, b1⟩ := kk T' rfl X'
  exact ⟨t2, stp t2 a1, b1⟩
theorem wd_blind {X : Scr} {g : Gl} {σ : Sto} {av : List Value} : FrameBlind (va_Pc av (Wd X g σ)) := by
  intro a U fr mk q
  obtain ⟨q0, qP, qD, qK, qT⟩ := q
  exact ⟨q0, qP, qD, va_K.moved (u := U) (U := U.calling fr mk a) (Vm.Alike.refl U.vm) qK, Stt.same (u := U) (U := U.calling fr mk a) qT rfl⟩
theorem wd_pre {X : Scr} {g : Gl} {σ : Sto} {s : State} {H : Heap} {locs : List Loc} (hP : va_P g.1 vwCl (ces g σ) H) (hD : va_D g.2.2.2.1 (ces g σ)) (hK : va_K g.1 vwCl [(g.2.2.1, .int)] s) (hT : Stt X g s s.heap) (hS : va_S g.2.2.2.1 s.heap H locs) {av : List Value} : ∀ U : State, U.heap = H → s.WarmedH U.vm → va_Pc av (Wd X g σ) av.toArray U := by
  intro U hU hW
  refine ⟨rfl, by rw [hU]; exact hP, hD, va_K.moved hW.alike hK, ?_⟩
  rw [hU]
  exact (hT.kept hS.2.1).warm hW
def LkD (y : MethodName) (cc : ByteArray) (nL : Nat) (ret : Option FieldType) (n : Nat) : Prop := Cond.initialized y.cls ∈ gw ∧ Cond.code y cc nL ret ∈ gw ∧ y.cls ≠ "java/lang/invoke/MethodHandle" ∧ y.cls ≠ "java/lang/invoke/VarHandle" ∧ (parseMethodDescriptor y.desc).map (fun d => d.parameters.length) = some n
def LkV (own : String) (idx : Nat) (y : MethodName) (cc : ByteArray) (nL : Nat) (ret : Option FieldType) (n : Nat) : Prop := Cond.methodLink own idx y ∈ gw ∧ Cond.instanceMethod y ∈ gw ∧ Cond.selects y.cls y y ∈ gw ∧ LkD y cc nL ret n
def LkS (own : String) (idx : Nat) (y : MethodName) (cc : ByteArray) (nL : Nat) (ret : Option FieldType) (n : Nat) : Prop := Cond.methodLink own idx y ∈ gw ∧ Cond.static y ∈ gw ∧ LkD y cc nL ret n
def LkVN (own : String) (idx : Nat) (y : MethodName) (host : String) (cc : ByteArray) (nL : Nat) (ret : Option FieldType) (n : Nat) : Prop := Cond.methodLinkNest own idx y host ∈ lw_tbl ∧ Cond.instanceMethod y ∈ gw ∧ Cond.selects y.cls y y ∈ gw ∧ LkD y cc nL ret n
def LkSN (own : String) (idx : Nat) (y : MethodName) (host : String) (cc : ByteArray) (nL : Nat) (ret : Option FieldType) (n : Nat) : Prop := Cond.methodLinkNest own idx y host ∈ lw_tbl ∧ Cond.static y ∈ gw ∧ LkD y cc nL ret n
theorem gw_code {y : MethodName} {cc : ByteArray} {nL : Nat} {ret : Option FieldType} (h : Cond.code y cc nL ret ∈ gw) : GoodIn gw (Cond.code y cc nL ret :: gw) := gw_good fun w hw => by
  rcases List.mem_cons.mp hw with e | e
  · rw [e]; exact h
  · exact e
section RtCalls
variable {X : Scr} {own : String} {cc : ByteArray} {nL : Nat} {R : Room} {ri : Instr} {pc : Nat} {L : List (Nat × Value)} {st : List Value} {σ σ1 : Sto} {r : Option Value} {σ' : Sto}
  {y : MethodName} {bytes : ByteArray} {maxL n idx fr lo k : Nat} {ret : Option FieldType} {As : List Value} {r1 : Option Value}
theorem Rt.callV {ci : Nat} {fl : List (Option Nat)} {q : vw_C} (hM : AM y bytes maxL ret fr lo (.ref k :: As) σ r1 σ1) (hL : LkV own idx y bytes maxL ret n) (hlay : lay[k]? = some (.inr (ci, fl))) (hcl : vwCl[ci]? = some q) (hq : q.1 = y.cls) (hn : As.length = n) (hR : fr + 1 ≤ R.frames ∧ 8 + (maxL + 11) + lo ≤ R.locals) (hW : (st.map fun v => v.category).sum ≤ 8) (hd : decode cc pc = .ok (.invokevirtual idx, 3)) (k1 : Rt X own cc nL R ri (pc + 3) L (r1.toList ++ st) σ1 r σ') : Rt X own cc nL R ri pc L (As.reverse ++ .ref k :: st) σ r σ' := by
  intro g p l e s m args below meth c cells slots Q hf hc hs hK hT K H locs ls hP hD hS hl
  obtain ⟨h1, h2, h3, h4, h5, h6, h7, h8⟩ := hL
  have hts := hf.2.2.2.2
  have cb : CallB R s args own idx y bytes maxL ret (Cond.code y bytes maxL ret :: gw) (rmA fr lo) 0 0 n := callB_of n hts (gw_code h5) rfl rfl rfl (hts _ h4) (hts _ h1) ⟨h6, h7, h8⟩ hR
  have hrec := va_recv hK hP hcl (ces_at hlay)
  rw [hq] at hrec
  refine run_go (st := st) (va_runV (As := As.map (cv g)) (rest := st.map (cv g)) hf (hM X g l) ⟨cb, hts _ h2, hts _ h3⟩ ⟨wd_blind, hrec, wd_pre hP hD hK hT hS⟩ rfl (by rw [List.length_map]; exact hn) hl.1 ?_ (lv_room (by rw [cat_sum hT.cat]; exact hW)) hd ⟨hc, hs⟩) hS (fun H1 locs1 hP1 hD1 hS1 => k1 g p l e s m args below meth c cells slots Q hf hc hs hK hT K H1 locs1 ls hP1 hD1 hS1 hl)
  show (As.reverse ++ .ref k :: st).map (cv g) = _
  rw [List.map_append, List.map_reverse]
  rfl
theorem Rt.callVT {i : Nat} (hM : AM y bytes maxL ret fr lo (.ref (40 + i) :: As) σ r1 σ1) (hL : LkV own idx y bytes maxL ret n) (hi : i < 6) (hq : "java/lang/String" = y.cls) (hn : As.length = n) (hR : fr + 1 ≤ R.frames ∧ 8 + (maxL + 11) + lo ≤ R.locals) (hW : (st.map fun v => v.category).sum ≤ 8) (hd : decode cc pc = .ok (.invokevirtual idx, 3)) (k1 : Rt X own cc nL R ri (pc + 3) L (r1.toList ++ st) σ1 r σ') : Rt X own cc nL R ri pc L (As.reverse ++ .ref (40 + i) :: st) σ r σ' := by
  intro g p l e s m args below meth c cells slots Q hf hc hs hK hT K H locs ls hP hD hS hl
  obtain ⟨h1, h2, h3, h4, h5, h6, h7, h8⟩ := hL
  have hts := hf.2.2.2.2
  have cb : CallB R s args own idx y bytes maxL ret (Cond.code y bytes maxL ret :: gw) (rmA fr lo) 0 0 n := callB_of n hts (gw_code h5) rfl rfl rfl (hts _ h4) (hts _ h1) ⟨h6, h7, h8⟩ hR
  have hrec := vk_recv hT.2.2.2.2.2.2.2.2.2.1 hi hS
  rw [hq] at hrec
  refine run_go (st := st) (va_runV (As := As.map (cv g)) (rest := st.map (cv g)) hf (hM X g l) ⟨cb, hts _ h2, hts _ h3⟩ ⟨wd_blind, hrec, wd_pre hP hD hK hT hS⟩ rfl (by rw [List.length_map]; exact hn) hl.1 ?_ (lv_room (by rw [cat_sum hT.cat]; exact hW)) hd ⟨hc, hs⟩) hS (fun H1 locs1 hP1 hD1 hS1 => k1 g p l e s m args below meth c cells slots Q hf hc hs hK hT K H1 locs1 ls hP1 hD1 hS1 hl)
  show (As.reverse ++ .ref (40 + i) :: st).map (cv g) = _
  rw [List.map_append, List.map_reverse]
  rfl
theorem Rt.callS (hM : AM y bytes maxL ret fr lo As σ r1 σ1) (hL : LkS own idx y bytes maxL ret n) (hn : As.length = n) (hR : fr + 1 ≤ R.frames ∧ 8 + (maxL + 11) + lo ≤ R.locals) (hW : (st.map fun v => v.category).sum ≤ 8) (hd : decode cc pc = .ok (.invokestatic idx, 3)) (k1 : Rt X own cc nL R ri (pc + 3) L (r1.toList ++ st) σ1 r σ') : Rt X own cc nL R ri pc L (As.reverse ++ st) σ r σ' := by
  intro g p l e s m args below meth c cells slots Q hf hc hs hK hT K H locs ls hP hD hS hl
  obtain ⟨h1, h2, h4, h5, h6, h7, h8⟩ := hL
  have hts := hf.2.2.2.2
  have cb : CallB R s args own idx y bytes maxL ret (Cond.code y bytes maxL ret :: gw) (rmA fr lo) 0 0 n := callB_of n hts (gw_code h5) rfl rfl rfl (hts _ h4) (hts _ h1) ⟨h6, h7, h8⟩ hR
  refine run_go (st := st) (va_runS (As := As.map (cv g)) (rest := st.map (cv g)) hf (hM X g l) ⟨cb, hts _ h2⟩ ⟨wd_blind, wd_pre hP hD hK hT hS⟩ rfl (by rw [List.length_map]; exact hn) hl.1 ?_ (lv_room (by rw [cat_sum hT.cat]; exact hW)) hd ⟨hc, hs⟩) hS (fun H1 locs1 hP1 hD1 hS1 => k1 g p l e s m args below meth c cells slots Q hf hc hs hK hT K H1 locs1 ls hP1 hD1 hS1 hl)
  show (As.reverse ++ st).map (cv g) = _
  rw [List.map_append, List.map_reverse]
theorem Rt.callVN {ci : Nat} {fl : List (Option Nat)} {q : vw_C} {host : String} (hM : AM y bytes maxL ret fr lo (.ref k :: As) σ r1 σ1) (hL : LkVN own idx y host bytes maxL ret n) (hlay : lay[k]? = some (.inr (ci, fl))) (hcl : vwCl[ci]? = some q) (hq : q.1 = y.cls) (hn : As.length = n) (hR : fr + 1 ≤ R.frames ∧ 8 + (maxL + 11) + lo ≤ R.locals) (hW : (st.map fun v => v.category).sum ≤ 8) (hd : decode cc pc = .ok (.invokevirtual idx, 3)) (k1 : Rt X own cc nL R ri (pc + 3) L (r1.toList ++ st) σ1 r σ') : Rt X own cc nL R ri pc L (As.reverse ++ .ref k :: st) σ r σ' := by
  intro g p l e s m args below meth c cells slots Q hf hc hs hK hT K H locs ls hP hD hS hl
  obtain ⟨h1, h2, h3, h4, h5, h6, h7, h8⟩ := hL
  have hts := hf.2.2.2.2
  have cb : va_CN R s args own idx y host bytes maxL ret (Cond.code y bytes maxL ret :: gw) (rmA fr lo) 0 0 n := va_cnB n hts (gw_code h5) rfl rfl rfl (hT.2.1 _ h1 rfl) (hts _ h4) ⟨h6, h7, h8⟩ hR
  have hrec := va_recv hK hP hcl (ces_at hlay)
  rw [hq] at hrec
  refine run_go (st := st) (va_runVN (As := As.map (cv g)) (rest := st.map (cv g)) hf (hM X g l) ⟨cb, hts _ h2, hts _ h3⟩ ⟨wd_blind, hrec, wd_pre hP hD hK hT hS⟩ rfl (by rw [List.length_map]; exact hn) hl.1 ?_ (lv_room (by rw [cat_sum hT.cat]; exact hW)) hd ⟨hc, hs⟩) hS (fun H1 locs1 hP1 hD1 hS1 => k1 g p l e s m args below meth c cells slots Q hf hc hs hK hT K H1 locs1 ls hP1 hD1 hS1 hl)
  show (As.reverse ++ .ref k :: st).map (cv g) = _
  rw [List.map_append, List.map_reverse]
  rfl
theorem Rt.callSN {host : String} (hM : AM y bytes maxL ret fr lo As σ r1 σ1) (hL : LkSN own idx y host bytes maxL ret n) (hn : As.length = n) (hR : fr + 1 ≤ R.frames ∧ 8 + (maxL + 11) + lo ≤ R.locals) (hW : (st.map fun v => v.category).sum ≤ 8) (hd : decode cc pc = .ok (.invokestatic idx, 3)) (k1 : Rt X own cc nL R ri (pc + 3) L (r1.toList ++ st) σ1 r σ') : Rt X own cc nL R ri pc L (As.reverse ++ st) σ r σ' := by
  intro g p l e s m args below meth c cells slots Q hf hc hs hK hT K H locs ls hP hD hS hl
  obtain ⟨h1, h2, h4, h5, h6, h7, h8⟩ := hL
  have hts := hf.2.2.2.2
  have cb : va_CN R s args own idx y host bytes maxL ret (Cond.code y bytes maxL ret :: gw) (rmA fr lo) 0 0 n := va_cnB n hts (gw_code h5) rfl rfl rfl (hT.2.1 _ h1 rfl) (hts _ h4) ⟨h6, h7, h8⟩ hR
  refine run_go (st := st) (va_runSN (As := As.map (cv g)) (rest := st.map (cv g)) hf (hM X g l) ⟨cb, hts _ h2, trivial⟩ ⟨wd_blind, wd_pre hP hD hK hT hS⟩ rfl (by rw [List.length_map]; exact hn) hl.1 ?_ (lv_room (by rw [cat_sum hT.cat]; exact hW)) hd ⟨hc, hs⟩) hS (fun H1 locs1 hP1 hD1 hS1 => k1 g p l e s m args below meth c cells slots Q hf hc hs hK hT K H1 locs1 ls hP1 hD1 hS1 hl)
  show (As.reverse ++ st).map (cv g) = _
  rw [List.map_append, List.map_reverse]
end RtCalls
end
section
/-! more rows: names for remainders and the like, switches, picking locals, calls with an answer or none -/
def irm (x y : Int32) : Int32 := x - x / y * y
def lrm (x y : Int64) : Int64 := x - x / y * y
def ishl5 (x y : Int32) : Int32 := x <<< (y &&& 31)
def ishr5 (x y : Int32) : Int32 := x >>> (y &&& 31)
def mxI (x y : Int32) : Int32 := if x < y then y else x
def mnI (x y : Int32) : Int32 := if y < x then y else x
def abI (x : Int32) : Int32 := if 0 ≤ x then x else 0 - x
def i2cI (x : Int32) : Int32 := (x.toUInt32 % 65536).toInt32
def i2bI (x : Int32) : Int32 := x.toInt8.toInt32
/-- a Back at cell k, its row of SORE behind it -/
def bk (k : Nat) : Prop := lay[k]? = some (.inr (0, [some (k + 1), none, none, none, none, none, none, none, none])) ∧ lay[k + 1]? = some (.inl 24)
theorem bk1 : bk 1 := ⟨rfl, rfl⟩
theorem bk3 : bk 3 := ⟨rfl, rfl⟩
theorem bk5 : bk 5 := ⟨rfl, rfl⟩
theorem bk7 : bk 7 := ⟨rfl, rfl⟩
theorem gd {c : Prop} [Decidable c] {α : Type} {x : Option α} {y : α} (h : (if c then x else none) = some y) : c ∧ x = some y := by
  by_cases hc : c
  · exact ⟨hc, (if_pos hc).symm.trans h⟩
  · rw [if_neg hc] at h
    cases h
theorem bnd {α β : Type} {o : Option α} {k : α → Option β} {b : β} (h : o.bind k = some b) : ∃ a, o = some a ∧ k a = some b := Option.bind_eq_some_iff.mp h
theorem nti {x : Int32} (v : Int32) {k : Int} (hv : v.toInt = k) (h : ¬ x = v) : x.toInt ≠ k := fun e => h (Int32.toInt_inj.mp (e.trans hv.symm))
section RtMore
variable {X : Scr} {own : String} {cc : ByteArray} {nL : Nat} {R : Room} {ri : Instr} {pc : Nat} {L L' : List (Nat × Value)} {st : List Value} {σ σ1 : Sto} {r : Option Value} {σ' : Sto}
theorem Rt.pick (is : List Nat) (hl' : is.filterMap (fun i => L[i]?) = L') (k : Rt X own cc nL R ri pc L' st σ r σ') : Rt X own cc nL R ri pc L st σ r σ' := by
  intro g p l e s m args below meth c cells slots Q hf hc hs hK hT K H locs ls hP hD hS hl
  refine k g p l e s m args below meth c cells slots Q hf hc hs hK hT K H locs ls hP hD hS ⟨hl.1, hl.2.1, fun q hq => hl.2.2 q ?_⟩
  rw [← hl'] at hq
  obtain ⟨z, hz, rfl⟩ := List.mem_map.mp hq
  obtain ⟨i, -, hi⟩ := List.mem_filterMap.mp hz
  exact List.mem_map.mpr ⟨z, List.mem_of_getElem? hi, rfl⟩
theorem Rt.rem {x y : Int32} (hd : decode cc pc = .ok (.irem, 1)) (hy : ¬ y = 0) (k : Rt X own cc nL R ri (pc + 1) L (.int (irm x y) :: st) σ r σ') : Rt X own cc nL R ri pc L (.int y :: .int x :: st) σ r σ' := Rt.irem hd hy k
theorem Rt.lrem' {x y : Int64} (hd : decode cc pc = .ok (.lrem, 1)) (hy : ¬ y = 0) (k : Rt X own cc nL R ri (pc + 1) L (.long (lrm x y) :: st) σ r σ') : Rt X own cc nL R ri pc L (.long y :: .long x :: st) σ r σ' := Rt.lrem hd hy k
theorem Rt.shl {x y : Int32} (hd : decode cc pc = .ok (.ishl, 1)) (k : Rt X own cc nL R ri (pc + 1) L (.int (ishl5 x y) :: st) σ r σ') : Rt X own cc nL R ri pc L (.int y :: .int x :: st) σ r σ' := Rt.ishl hd k
theorem Rt.shr {x y : Int32} (hd : decode cc pc = .ok (.ishr, 1)) (k : Rt X own cc nL R ri (pc + 1) L (.int (ishr5 x y) :: st) σ r σ') : Rt X own cc nL R ri pc L (.int y :: .int x :: st) σ r σ' := Rt.ishr hd k
theorem Rt.toC {x : Int32} (hd : decode cc pc = .ok (.i2c, 1)) (k : Rt X own cc nL R ri (pc + 1) L (.int (i2cI x) :: st) σ r σ') : Rt X own cc nL R ri pc L (.int x :: st) σ r σ' := Rt.i2c hd k
theorem Rt.toB {x : Int32} (hd : decode cc pc = .ok (.i2b, 1)) (k : Rt X own cc nL R ri (pc + 1) L (.int (i2bI x) :: st) σ r σ') : Rt X own cc nL R ri pc L (.int x :: st) σ r σ' := by
  intro g p l e s m args below meth c cells slots Q hf hc hs hK hT K H locs ls hP hD hS hl
  exact lv_i2b hf.1 hf.2.1 hd rfl (k g p l e s m args below meth c cells slots Q hf hc hs hK hT K H locs ls hP hD hS hl)
theorem Rt.pop {v : Value} (hd : decode cc pc = .ok (.pop, 1)) (hv : v.category = 1) (k : Rt X own cc nL R ri (pc + 1) L st σ r σ') : Rt X own cc nL R ri pc L (v :: st) σ r σ' := by
  intro g p l e s m args below meth c cells slots Q hf hc hs hK hT K H locs ls hP hD hS hl
  exact lv_pop hf.1 hf.2.1 hd ((cv_cat hT.cat v).trans hv) (k g p l e s m args below meth c cells slots Q hf hc hs hK hT K H locs ls hP hD hS hl)
theorem Rt.tsIn {dflt lo hi : Int} {offs : Array Int} {len : Nat} {x : Int32} {off : Int} (tgt : Nat) (hd : decode cc pc = .ok (.tableswitch dflt lo hi offs, len)) (h1 : ¬ x.toInt < lo) (h2 : ¬ hi < x.toInt) (ho : offs[(x.toInt - lo).toNat]? = some off) (ht : (pc : Int) + off = (tgt : Int)) (k : Rt X own cc nL R ri tgt L st σ r σ') : Rt X own cc nL R ri pc L (.int x :: st) σ r σ' := by
  intro g p l e s m args below meth c cells slots Q hf hc hs hK hT K H locs ls hP hD hS hl
  exact lv_tableIn hf.1 hf.2.1 hd h1 h2 ho ht (k g p l e s m args below meth c cells slots Q hf hc hs hK hT K H locs ls hP hD hS hl)
theorem Rt.tsOut {dflt lo hi : Int} {offs : Array Int} {len : Nat} {x : Int32} (tgt : Nat) (hd : decode cc pc = .ok (.tableswitch dflt lo hi offs, len)) (h : x.toInt < lo ∨ hi < x.toInt) (ht : (pc : Int) + dflt = (tgt : Int)) (k : Rt X own cc nL R ri tgt L st σ r σ') : Rt X own cc nL R ri pc L (.int x :: st) σ r σ' := by
  intro g p l e s m args below meth c cells slots Q hf hc hs hK hT K H locs ls hP hD hS hl
  exact lv_tableOut hf.1 hf.2.1 hd h ht (k g p l e s m args below meth c cells slots Q hf hc hs hK hT K H locs ls hP hD hS hl)
theorem Rt.lsw {dflt : Int} {ps : Array (Int × Int)} {len : Nat} {x : Int32} {off : Int} (tgt : Nat) (hd : decode cc pc = .ok (.lookupswitch dflt ps, len)) (hp : (ps.toList.zip (ps.toList.drop 1)).all (fun (a, next) => a.1 < next.1) = true) (ho : Op.lookupswitch.offset ps.toList dflt x.toInt = off) (ht : (pc : Int) + off = (tgt : Int)) (k : Rt X own cc nL R ri tgt L st σ r σ') : Rt X own cc nL R ri pc L (.int x :: st) σ r σ' := by
  intro g p l e s m args below meth c cells slots Q hf hc hs hK hT K H locs ls hP hD hS hl
  exact lv_lookup hf.1 hf.2.1 hd hp ho ht (k g p l e s m args below meth c cells slots Q hf hc hs hK hT K H locs ls hP hD hS hl)
theorem lsw_out {l : List (Int × Int)} {dflt k : Int} (h : ∀ q ∈ l, q.1 ≠ k) : Op.lookupswitch.offset l dflt k = dflt := by
  induction l with
  | nil => rfl
  | cons a l ih =>
    obtain ⟨a1, a2⟩ := a
    rw [Op.lookupswitch.offset_cons, if_neg (h (a1, a2) List.mem_cons_self)]
    exact ih fun q hq => h q (List.mem_cons_of_mem _ hq)
theorem Rt.lswOut {dflt : Int} {ps : Array (Int × Int)} {len : Nat} {x : Int32} (tgt : Nat) (hd : decode cc pc = .ok (.lookupswitch dflt ps, len)) (hp : (ps.toList.zip (ps.toList.drop 1)).all (fun (a, next) => a.1 < next.1) = true) (ho : ∀ q ∈ ps.toList, q.1 ≠ x.toInt) (ht : (pc : Int) + dflt = (tgt : Int)) (k : Rt X own cc nL R ri tgt L st σ r σ') : Rt X own cc nL R ri pc L (.int x :: st) σ r σ' := Rt.lsw tgt hd hp (lsw_out ho) ht k
variable {y : MethodName} {bytes : ByteArray} {maxL n idx fr lo kk : Nat} {ret : Option FieldType} {As : List Value} {v1 : Value} {S : List Value}
theorem Rt.cV {ci : Nat} {fl : List (Option Nat)} {q : vw_C} (hM : AM y bytes maxL ret fr lo (.ref kk :: As) σ (some v1) σ1) (hL : LkV own idx y bytes maxL ret n) (hlay : lay[kk]? = some (.inr (ci, fl))) (hcl : vwCl[ci]? = some q) (hq : q.1 = y.cls) (hn : As.length = n) (hR : fr + 1 ≤ R.frames ∧ 8 + (maxL + 11) + lo ≤ R.locals) (hW : (st.map fun v => v.category).sum ≤ 8) (hS : S = As.reverse ++ .ref kk :: st) (hd : decode cc pc = .ok (.invokevirtual idx, 3)) (k1 : Rt X own cc nL R ri (pc + 3) L (v1 :: st) σ1 r σ') : Rt X own cc nL R ri pc L S σ r σ' := by
  subst hS
  exact Rt.callV hM hL hlay hcl hq hn hR hW hd k1
theorem Rt.cV0 {ci : Nat} {fl : List (Option Nat)} {q : vw_C} (hM : AM y bytes maxL ret fr lo (.ref kk :: As) σ none σ1) (hL : LkV own idx y bytes maxL ret n) (hlay : lay[kk]? = some (.inr (ci, fl))) (hcl : vwCl[ci]? = some q) (hq : q.1 = y.cls) (hn : As.length = n) (hR : fr + 1 ≤ R.frames ∧ 8 + (maxL + 11) + lo ≤ R.locals) (hW : (st.map fun v => v.category).sum ≤ 8) (hS : S = As.reverse ++ .ref kk :: st) (hd : decode cc pc = .ok (.invokevirtual idx, 3)) (k1 : Rt X own cc nL R ri (pc + 3) L st σ1 r σ') : Rt X own cc nL R ri pc L S σ r σ' := by
  subst hS
  exact Rt.callV hM hL hlay hcl hq hn hR hW hd k1
theorem Rt.cVT {i : Nat} (hM : AM y bytes maxL ret fr lo (.ref (40 + i) :: As) σ (some v1) σ1) (hL : LkV own idx y bytes maxL ret n) (hi : i < 6) (hq : "java/lang/String" = y.cls) (hn : As.length = n) (hR : fr + 1 ≤ R.frames ∧ 8 + (maxL + 11) + lo ≤ R.locals) (hW : (st.map fun v => v.category).sum ≤ 8) (hS : S = As.reverse ++ .ref (40 + i) :: st) (hd : decode cc pc = .ok (.invokevirtual idx, 3)) (k1 : Rt X own cc nL R ri (pc + 3) L (v1 :: st) σ1 r σ') : Rt X own cc nL R ri pc L S σ r σ' := by
  subst hS
  exact Rt.callVT hM hL hi hq hn hR hW hd k1
theorem Rt.cS (hM : AM y bytes maxL ret fr lo As σ (some v1) σ1) (hL : LkS own idx y bytes maxL ret n) (hn : As.length = n) (hR : fr + 1 ≤ R.frames ∧ 8 + (maxL + 11) + lo ≤ R.locals) (hW : (st.map fun v => v.category).sum ≤ 8) (hS : S = As.reverse ++ st) (hd : decode cc pc = .ok (.invokestatic idx, 3)) (k1 : Rt X own cc nL R ri (pc + 3) L (v1 :: st) σ1 r σ') : Rt X own cc nL R ri pc L S σ r σ' := by
  subst hS
  exact Rt.callS hM hL hn hR hW hd k1
theorem Rt.cS0 (hM : AM y bytes maxL ret fr lo As σ none σ1) (hL : LkS own idx y bytes maxL ret n) (hn : As.length = n) (hR : fr + 1 ≤ R.frames ∧ 8 + (maxL + 11) + lo ≤ R.locals) (hW : (st.map fun v => v.category).sum ≤ 8) (hS : S = As.reverse ++ st) (hd : decode cc pc = .ok (.invokestatic idx, 3)) (k1 : Rt X own cc nL R ri (pc + 3) L st σ1 r σ') : Rt X own cc nL R ri pc L S σ r σ' := by
  subst hS
  exact Rt.callS hM hL hn hR hW hd k1
theorem Rt.cVN {ci : Nat} {fl : List (Option Nat)} {q : vw_C} {host : String} (hM : AM y bytes maxL ret fr lo (.ref kk :: As) σ (some v1) σ1) (hL : LkVN own idx y host bytes maxL ret n) (hlay : lay[kk]? = some (.inr (ci, fl))) (hcl : vwCl[ci]? = some q) (hq : q.1 = y.cls) (hn : As.length = n) (hR : fr + 1 ≤ R.frames ∧ 8 + (maxL + 11) + lo ≤ R.locals) (hW : (st.map fun v => v.category).sum ≤ 8) (hS : S = As.reverse ++ .ref kk :: st) (hd : decode cc pc = .ok (.invokevirtual idx, 3)) (k1 : Rt X own cc nL R ri (pc + 3) L (v1 :: st) σ1 r σ') : Rt X own cc nL R ri pc L S σ r σ' := by
  subst hS
  exact Rt.callVN hM hL hlay hcl hq hn hR hW hd k1
theorem Rt.cVN0 {ci : Nat} {fl : List (Option Nat)} {q : vw_C} {host : String} (hM : AM y bytes maxL ret fr lo (.ref kk :: As) σ none σ1) (hL : LkVN own idx y host bytes maxL ret n) (hlay : lay[kk]? = some (.inr (ci, fl))) (hcl : vwCl[ci]? = some q) (hq : q.1 = y.cls) (hn : As.length = n) (hR : fr + 1 ≤ R.frames ∧ 8 + (maxL + 11) + lo ≤ R.locals) (hW : (st.map fun v => v.category).sum ≤ 8) (hS : S = As.reverse ++ .ref kk :: st) (hd : decode cc pc = .ok (.invokevirtual idx, 3)) (k1 : Rt X own cc nL R ri (pc + 3) L st σ1 r σ') : Rt X own cc nL R ri pc L S σ r σ' := by
  subst hS
  exact Rt.callVN hM hL hlay hcl hq hn hR hW hd k1
theorem Rt.cSN {host : String} (hM : AM y bytes maxL ret fr lo As σ (some v1) σ1) (hL : LkSN own idx y host bytes maxL ret n) (hn : As.length = n) (hR : fr + 1 ≤ R.frames ∧ 8 + (maxL + 11) + lo ≤ R.locals) (hW : (st.map fun v => v.category).sum ≤ 8) (hS : S = As.reverse ++ st) (hd : decode cc pc = .ok (.invokestatic idx, 3)) (k1 : Rt X own cc nL R ri (pc + 3) L (v1 :: st) σ1 r σ') : Rt X own cc nL R ri pc L S σ r σ' := by
  subst hS
  exact Rt.callSN hM hL hn hR hW hd k1
end RtMore
end
section
theorem ws_gw (ws : List Cond) (ps : List Nat) (hp : ws = ps.filterMap (fun i => lw_tbl[i]?)) (h : ws.all goodWord = true) : ∀ w ∈ ws, w ∈ gw := by
  intro w hw
  have h1 := List.all_eq_true.mp h w hw
  rw [hp] at hw
  obtain ⟨i, -, hi⟩ := List.mem_filterMap.mp hw
  exact gw_at i hi h1
def chkZ (q : Int32 × Sto) : Option (Int32 × Sto) := if q.1 = 0 ∨ q.1 = 1 then some q else none
theorem chkZ_ok {o : Option (Int32 × Sto)} {z : Int32 × Sto} (h : o.bind chkZ = some z) : (z.1 = 0 ∨ z.1 = 1) ∧ o = some z := by
  obtain ⟨a, ha, hb⟩ := bnd h
  obtain ⟨hc, hd⟩ := gd hb
  cases hd
  exact ⟨hc, ha⟩
def chkC (q : Int32 × Sto) : Option (Int32 × Sto) := if narrow .char (.int q.1) = .int q.1 then some q else none
theorem chkC_ok {o : Option (Int32 × Sto)} {z : Int32 × Sto} (h : o.bind chkC = some z) : narrow .char (.int z.1) = .int z.1 ∧ o = some z := by
  obtain ⟨a, ha, hb⟩ := bnd h
  obtain ⟨hc, hd⟩ := gd hb
  cases hd
  exact ⟨hc, ha⟩
def chkB (q : Int32 × Sto) : Option (Int32 × Sto) := if narrow .byte (.int q.1) = .int q.1 then some q else none
theorem chkB_ok {o : Option (Int32 × Sto)} {z : Int32 × Sto} (h : o.bind chkB = some z) : narrow .byte (.int z.1) = .int z.1 ∧ o = some z := by
  obtain ⟨a, ha, hb⟩ := bnd h
  obtain ⟨hc, hd⟩ := gd hb
  cases hd
  exact ⟨hc, ha⟩
/-! facts of the tables, by their places -/
theorem inX0g : ∀ w ∈ u_ws RX0 TX0 9, w ∈ gw := ws_gw _ [115, 117, 119, 121, 123, 125, 127, 129, 131] (by decide +kernel) (by decide +kernel)
theorem inX1g : ∀ w ∈ u_ws RX1 TX1 3, w ∈ gw := ws_gw _ [159, 161, 163] (by decide +kernel) (by decide +kernel)
theorem inX2g : ∀ w ∈ u_ws RX2 TX2 2, w ∈ gw := ws_gw _ [144, 146] (by decide +kernel) (by decide +kernel)
theorem inX3g : ∀ w ∈ u_ws RX3 TX3 11, w ∈ gw := ws_gw _ [177, 179, 181, 183, 185, 187, 189, 191, 193, 195, 197] (by decide +kernel) (by decide +kernel)
theorem inX4g : ∀ w ∈ u_ws RX4 TX4 26, w ∈ gw := ws_gw _ [706, 708, 710, 712, 714, 716, 718, 720, 722, 724, 726, 728, 730, 732, 734, 736, 738, 740, 742, 744, 746, 748, 750, 752, 754, 756] (by decide +kernel) (by decide +kernel)
theorem ly0 : lay[0]? = some (.inr (3, [some 1, some 3, some 5, some 7, some 9, some 11, some 14, some 15, some 16, none, none])) := rfl
theorem ly2 : lay[2]? = some (.inl 24) := rfl
theorem ly4 : lay[4]? = some (.inl 24) := rfl
theorem ly6 : lay[6]? = some (.inl 24) := rfl
theorem ly8 : lay[8]? = some (.inl 24) := rfl
theorem ly9 : lay[9]? = some (.inr (2, [some 10, none])) := rfl
theorem ly10 : lay[10]? = some (.inl 80) := rfl
theorem ly11 : lay[11]? = some (.inr (1, [some 12, some 13, none])) := rfl
theorem ly12 : lay[12]? = some (.inl 8) := rfl
theorem ly13 : lay[13]? = some (.inl 8) := rfl
theorem ly14 : lay[14]? = some (.inl 20) := rfl
theorem ly15 : lay[15]? = some (.inl 9) := rfl
theorem ly16 : lay[16]? = some (.inl 7) := rfl
theorem ly17 : lay[17]? = some (.inr (4, [some 18, some 19, some 20, none, none, none, none, some 21, some 22, some 23, some 24, none, none, none, some 25, none, none, none, none, none, some 26, some 27, some 28, none, some 29, none])) := rfl
theorem ly18 : lay[18]? = some (.inl 7) := rfl
theorem ly19 : lay[19]? = some (.inl 24) := rfl
theorem ly20 : lay[20]? = some (.inl 4) := rfl
theorem ly21 : lay[21]? = some (.inl 80) := rfl
theorem ly22 : lay[22]? = some (.inl 40) := rfl
theorem ly23 : lay[23]? = some (.inl 40) := rfl
theorem ly24 : lay[24]? = some (.inl 120) := rfl
theorem ly25 : lay[25]? = some (.inl 105) := rfl
theorem ly26 : lay[26]? = some (.inl 8) := rfl
theorem ly27 : lay[27]? = some (.inl 8) := rfl
theorem ly28 : lay[28]? = some (.inl 10) := rfl
theorem ly29 : lay[29]? = some (.inl 20) := rfl
theorem iniX3 : Cond.initialized RX3 ∈ gw := gw_at 64 (by decide +kernel) rfl
theorem cdX3_isNoCell : Cond.code yX3_isNoCell cX3_isNoCell 1 (some .boolean) ∈ gw := gw_at 378 (by decide +kernel) rfl
theorem ldX3_isNoCell : LkD yX3_isNoCell cX3_isNoCell 1 (some .boolean) 1 := ⟨iniX3, cdX3_isNoCell, by decide +kernel, by decide +kernel, by decide +kernel⟩
theorem mlX3_85 : Cond.methodLink RX3 85 yX3_isNoCell ∈ gw := gw_at 433 (by decide +kernel) rfl
theorem smX3_isNoCell : Cond.static yX3_isNoCell ∈ gw := gw_at 377 (by decide +kernel) rfl
theorem lkX3_85 : LkS RX3 85 yX3_isNoCell cX3_isNoCell 1 (some .boolean) 1 := ⟨mlX3_85, smX3_isNoCell, ldX3_isNoCell⟩
theorem flX3_10 : Cond.fieldLink RX3 10 "HigherMoreLeft" "now" "LHigherMoreLeft$Back;" ∈ gw := gw_at 166 (by decide +kernel) rfl
theorem flX0_9 : Cond.fieldLink RX0 9 "HigherMoreLeft$Back" "sores" "[I" ∈ gw := gw_at 91 (by decide +kernel) rfl
theorem iniX0 : Cond.initialized RX0 ∈ gw := gw_at 65 (by decide +kernel) rfl
theorem cdX0_soreAt : Cond.code yX0_soreAt cX0_soreAt 2 (some .int) ∈ gw := gw_at 404 (by decide +kernel) rfl
theorem ldX0_soreAt : LkD yX0_soreAt cX0_soreAt 2 (some .int) 1 := ⟨iniX0, cdX0_soreAt, by decide +kernel, by decide +kernel, by decide +kernel⟩
theorem mlX3_89 : Cond.methodLinkNest RX3 89 yX0_soreAt "HigherMoreLeft" ∈ lw_tbl := List.mem_of_getElem? (i := 434) (by decide +kernel)
theorem imX0_soreAt : Cond.instanceMethod yX0_soreAt ∈ gw := gw_at 403 (by decide +kernel) rfl
theorem seX0_soreAt : Cond.selects (yX0_soreAt).cls yX0_soreAt yX0_soreAt ∈ gw := gw_at 11 (by decide +kernel) rfl
theorem lkX3_89 : LkVN RX3 89 yX0_soreAt "HigherMoreLeft" cX0_soreAt 2 (some .int) 1 := ⟨mlX3_89, imX0_soreAt, seX0_soreAt, ldX0_soreAt⟩
theorem flX3_46 : Cond.fieldLink RX3 46 "HigherMoreLeft" "refused" "[I" ∈ gw := gw_at 174 (by decide +kernel) rfl
theorem cdX3_refuse : Cond.code yX3_refuse cX3_refuse 3 (some .int) ∈ gw := gw_at 207 (by decide +kernel) rfl
theorem ldX3_refuse : LkD yX3_refuse cX3_refuse 3 (some .int) 1 := ⟨iniX3, cdX3_refuse, by decide +kernel, by decide +kernel, by decide +kernel⟩
theorem mlX3_57 : Cond.methodLink RX3 57 yX3_refuse ∈ gw := gw_at 204 (by decide +kernel) rfl
theorem imX3_refuse : Cond.instanceMethod yX3_refuse ∈ gw := gw_at 206 (by decide +kernel) rfl
theorem seX3_refuse : Cond.selects (yX3_refuse).cls yX3_refuse yX3_refuse ∈ gw := gw_at 0 (by decide +kernel) rfl
theorem lkX3_57 : LkV RX3 57 yX3_refuse cX3_refuse 3 (some .int) 1 := ⟨mlX3_57, imX3_refuse, seX3_refuse, ldX3_refuse⟩
theorem mlX0_46 : Cond.methodLinkNest RX0 46 yX3_isNoCell "HigherMoreLeft" ∈ lw_tbl := List.mem_of_getElem? (i := 395) (by decide +kernel)
theorem lkX0_46 : LkSN RX0 46 yX3_isNoCell "HigherMoreLeft" cX3_isNoCell 1 (some .boolean) 1 := ⟨mlX0_46, smX3_isNoCell, ldX3_isNoCell⟩
theorem mlX0_54 : Cond.methodLink RX0 54 Lib.Math.min.name ∈ gw := gw_at 396 (by decide +kernel) rfl
theorem smMmin : Cond.static Lib.Math.min.name ∈ gw := gw_at 318 (by decide +kernel) rfl
theorem iniMath : Cond.initialized "java/lang/Math" ∈ gw := gw_at 74 (by decide +kernel) rfl
theorem cdMmin : Cond.code Lib.Math.min.name Lib.Math.min.code 2 (some .int) ∈ gw := gw_at 319 (by decide +kernel) rfl
theorem flX0_22 : Cond.fieldLink RX0 22 "HigherMoreLeft$Back" "hand" "I" ∈ gw := gw_at 98 (by decide +kernel) rfl
theorem flX0_19 : Cond.fieldLink RX0 19 "HigherMoreLeft$Back" "place" "I" ∈ gw := gw_at 95 (by decide +kernel) rfl
theorem flX0_25 : Cond.fieldLink RX0 25 "HigherMoreLeft$Back" "time" "I" ∈ gw := gw_at 100 (by decide +kernel) rfl
theorem flX0_15 : Cond.fieldLink RX0 15 "HigherMoreLeft$Back" "kind" "I" ∈ gw := gw_at 92 (by decide +kernel) rfl
theorem cdX0_awayFromHand : Cond.code yX0_awayFromHand cX0_awayFromHand 2 (some .int) ∈ gw := gw_at 415 (by decide +kernel) rfl
theorem ldX0_awayFromHand : LkD yX0_awayFromHand cX0_awayFromHand 2 (some .int) 0 := ⟨iniX0, cdX0_awayFromHand, by decide +kernel, by decide +kernel, by decide +kernel⟩
theorem mlX0_75 : Cond.methodLink RX0 75 yX0_awayFromHand ∈ gw := gw_at 412 (by decide +kernel) rfl
theorem imX0_awayFromHand : Cond.instanceMethod yX0_awayFromHand ∈ gw := gw_at 414 (by decide +kernel) rfl
theorem seX0_awayFromHand : Cond.selects (yX0_awayFromHand).cls yX0_awayFromHand yX0_awayFromHand ∈ gw := gw_at 13 (by decide +kernel) rfl
theorem lkX0_75 : LkV RX0 75 yX0_awayFromHand cX0_awayFromHand 2 (some .int) 0 := ⟨mlX0_75, imX0_awayFromHand, seX0_awayFromHand, ldX0_awayFromHand⟩
theorem mlX0_66 : Cond.methodLink RX0 66 yX0_soreAt ∈ gw := gw_at 401 (by decide +kernel) rfl
theorem lkX0_66 : LkV RX0 66 yX0_soreAt cX0_soreAt 2 (some .int) 1 := ⟨mlX0_66, imX0_soreAt, seX0_soreAt, ldX0_soreAt⟩
theorem flX0_37 : Cond.fieldLink RX0 37 "HigherMoreLeft$Back" "seam" "I" ∈ gw := gw_at 112 (by decide +kernel) rfl
theorem iniJ6 : Cond.initialized RJ6 ∈ gw := gw_at 76 (by decide +kernel) rfl
theorem cdJ6_compare_7cf53 : Cond.code yJ6_compare_7cf53 cJ6_compare_7cf53 2 (some .int) ∈ gw := gw_at 411 (by decide +kernel) rfl
theorem ldJ6_compare_7cf53 : LkD yJ6_compare_7cf53 cJ6_compare_7cf53 2 (some .int) 2 := ⟨iniJ6, cdJ6_compare_7cf53, by decide +kernel, by decide +kernel, by decide +kernel⟩
theorem mlX0_70 : Cond.methodLink RX0 70 yJ6_compare_7cf53 ∈ gw := gw_at 409 (by decide +kernel) rfl
theorem smJ6_compare_7cf53 : Cond.static yJ6_compare_7cf53 ∈ gw := gw_at 410 (by decide +kernel) rfl
theorem lkX0_70 : LkS RX0 70 yJ6_compare_7cf53 cJ6_compare_7cf53 2 (some .int) 2 := ⟨mlX0_70, smJ6_compare_7cf53, ldJ6_compare_7cf53⟩
theorem cdX0_whenBeside : Cond.code yX0_whenBeside cX0_whenBeside 4 (some .int) ∈ gw := gw_at 408 (by decide +kernel) rfl
theorem ldX0_whenBeside : LkD yX0_whenBeside cX0_whenBeside 4 (some .int) 0 := ⟨iniX0, cdX0_whenBeside, by decide +kernel, by decide +kernel, by decide +kernel⟩
theorem mlX0_63 : Cond.methodLink RX0 63 yX0_whenBeside ∈ gw := gw_at 405 (by decide +kernel) rfl
theorem imX0_whenBeside : Cond.instanceMethod yX0_whenBeside ∈ gw := gw_at 407 (by decide +kernel) rfl
theorem seX0_whenBeside : Cond.selects (yX0_whenBeside).cls yX0_whenBeside yX0_whenBeside ∈ gw := gw_at 12 (by decide +kernel) rfl
theorem lkX0_63 : LkV RX0 63 yX0_whenBeside cX0_whenBeside 4 (some .int) 0 := ⟨mlX0_63, imX0_whenBeside, seX0_whenBeside, ldX0_whenBeside⟩
theorem cdX0_whenStruck : Cond.code yX0_whenStruck cX0_whenStruck 1 (some .int) ∈ gw := gw_at 400 (by decide +kernel) rfl
theorem ldX0_whenStruck : LkD yX0_whenStruck cX0_whenStruck 1 (some .int) 0 := ⟨iniX0, cdX0_whenStruck, by decide +kernel, by decide +kernel, by decide +kernel⟩
theorem mlX0_59 : Cond.methodLink RX0 59 yX0_whenStruck ∈ gw := gw_at 397 (by decide +kernel) rfl
theorem imX0_whenStruck : Cond.instanceMethod yX0_whenStruck ∈ gw := gw_at 399 (by decide +kernel) rfl
theorem seX0_whenStruck : Cond.selects (yX0_whenStruck).cls yX0_whenStruck yX0_whenStruck ∈ gw := gw_at 10 (by decide +kernel) rfl
theorem lkX0_59 : LkV RX0 59 yX0_whenStruck cX0_whenStruck 1 (some .int) 0 := ⟨mlX0_59, imX0_whenStruck, seX0_whenStruck, ldX0_whenStruck⟩
theorem gfX3_10 {X : Scr} {cc : ByteArray} {nL : Nat} {R : Room} {ri : Instr} {pc : Nat} {L : List (Nat × Value)} {st : List Value} {σ σ' : Sto} {r : Option Value} {kk : Nat} {fl : List (Option Nat)} {f : Nat} (hl : lay[kk]? = some (.inr (3, fl))) (hd : decode cc pc = .ok (.getfield 10, 3)) (k1 : Rt X RX3 cc nL R ri (pc + 3) L (.ref f :: st) σ r σ') (hj : fl[0]? = some (some f) := by rfl) : Rt X RX3 cc nL R ri pc L (.ref kk :: st) σ r σ' := Rt.getR hl rfl inX3g (by decide) hj flX3_10 hd k1
theorem gfX0_9 {X : Scr} {cc : ByteArray} {nL : Nat} {R : Room} {ri : Instr} {pc : Nat} {L : List (Nat × Value)} {st : List Value} {σ σ' : Sto} {r : Option Value} {kk : Nat} {fl : List (Option Nat)} {f : Nat} (hl : lay[kk]? = some (.inr (0, fl))) (hd : decode cc pc = .ok (.getfield 9, 3)) (k1 : Rt X RX0 cc nL R ri (pc + 3) L (.ref f :: st) σ r σ') (hj : fl[0]? = some (some f) := by rfl) : Rt X RX0 cc nL R ri pc L (.ref kk :: st) σ r σ' := Rt.getR hl rfl inX0g (by decide) hj flX0_9 hd k1
theorem gfX3_46 {X : Scr} {cc : ByteArray} {nL : Nat} {R : Room} {ri : Instr} {pc : Nat} {L : List (Nat × Value)} {st : List Value} {σ σ' : Sto} {r : Option Value} {kk : Nat} {fl : List (Option Nat)} {f : Nat} (hl : lay[kk]? = some (.inr (3, fl))) (hd : decode cc pc = .ok (.getfield 46, 3)) (k1 : Rt X RX3 cc nL R ri (pc + 3) L (.ref f :: st) σ r σ') (hj : fl[8]? = some (some f) := by rfl) : Rt X RX3 cc nL R ri pc L (.ref kk :: st) σ r σ' := Rt.getR hl rfl inX3g (by decide) hj flX3_46 hd k1
theorem pfX0_22 {X : Scr} {cc : ByteArray} {nL : Nat} {R : Room} {ri : Instr} {pc : Nat} {L : List (Nat × Value)} {st : List Value} {σ σ' : Sto} {r : Option Value} {kk : Nat} {fl : List (Option Nat)} {x : Int32} (hl : lay[kk]? = some (.inr (0, fl))) (hd : decode cc pc = .ok (.putfield 22, 3)) (k1 : Rt X RX0 cc nL R ri (pc + 3) L st (upS σ kk 3 x) r σ') (hj : fl[3]? = some none := by rfl) : Rt X RX0 cc nL R ri pc L (.int x :: .ref kk :: st) σ r σ' := Rt.putI (ty := .int) hl rfl inX0g tyX0_ok nmX0 (by decide) hj rfl rfl rfl rfl flX0_22 hd k1
theorem gfX0_19 {X : Scr} {cc : ByteArray} {nL : Nat} {R : Room} {ri : Instr} {pc : Nat} {L : List (Nat × Value)} {st : List Value} {σ σ' : Sto} {r : Option Value} {kk : Nat} {fl : List (Option Nat)} (hl : lay[kk]? = some (.inr (0, fl))) (hd : decode cc pc = .ok (.getfield 19, 3)) (k1 : Rt X RX0 cc nL R ri (pc + 3) L (.int (σ kk 2) :: st) σ r σ') (hj : fl[2]? = some none := by rfl) : Rt X RX0 cc nL R ri pc L (.ref kk :: st) σ r σ' := Rt.getI hl rfl inX0g (by decide) hj flX0_19 hd k1
theorem gfX0_25 {X : Scr} {cc : ByteArray} {nL : Nat} {R : Room} {ri : Instr} {pc : Nat} {L : List (Nat × Value)} {st : List Value} {σ σ' : Sto} {r : Option Value} {kk : Nat} {fl : List (Option Nat)} (hl : lay[kk]? = some (.inr (0, fl))) (hd : decode cc pc = .ok (.getfield 25, 3)) (k1 : Rt X RX0 cc nL R ri (pc + 3) L (.int (σ kk 4) :: st) σ r σ') (hj : fl[4]? = some none := by rfl) : Rt X RX0 cc nL R ri pc L (.ref kk :: st) σ r σ' := Rt.getI hl rfl inX0g (by decide) hj flX0_25 hd k1
theorem pfX0_25 {X : Scr} {cc : ByteArray} {nL : Nat} {R : Room} {ri : Instr} {pc : Nat} {L : List (Nat × Value)} {st : List Value} {σ σ' : Sto} {r : Option Value} {kk : Nat} {fl : List (Option Nat)} {x : Int32} (hl : lay[kk]? = some (.inr (0, fl))) (hd : decode cc pc = .ok (.putfield 25, 3)) (k1 : Rt X RX0 cc nL R ri (pc + 3) L st (upS σ kk 4 x) r σ') (hj : fl[4]? = some none := by rfl) : Rt X RX0 cc nL R ri pc L (.int x :: .ref kk :: st) σ r σ' := Rt.putI (ty := .int) hl rfl inX0g tyX0_ok nmX0 (by decide) hj rfl rfl rfl rfl flX0_25 hd k1
theorem gfX0_15 {X : Scr} {cc : ByteArray} {nL : Nat} {R : Room} {ri : Instr} {pc : Nat} {L : List (Nat × Value)} {st : List Value} {σ σ' : Sto} {r : Option Value} {kk : Nat} {fl : List (Option Nat)} (hl : lay[kk]? = some (.inr (0, fl))) (hd : decode cc pc = .ok (.getfield 15, 3)) (k1 : Rt X RX0 cc nL R ri (pc + 3) L (.int (σ kk 1) :: st) σ r σ') (hj : fl[1]? = some none := by rfl) : Rt X RX0 cc nL R ri pc L (.ref kk :: st) σ r σ' := Rt.getI hl rfl inX0g (by decide) hj flX0_15 hd k1
theorem gfX0_22 {X : Scr} {cc : ByteArray} {nL : Nat} {R : Room} {ri : Instr} {pc : Nat} {L : List (Nat × Value)} {st : List Value} {σ σ' : Sto} {r : Option Value} {kk : Nat} {fl : List (Option Nat)} (hl : lay[kk]? = some (.inr (0, fl))) (hd : decode cc pc = .ok (.getfield 22, 3)) (k1 : Rt X RX0 cc nL R ri (pc + 3) L (.int (σ kk 3) :: st) σ r σ') (hj : fl[3]? = some none := by rfl) : Rt X RX0 cc nL R ri pc L (.ref kk :: st) σ r σ' := Rt.getI hl rfl inX0g (by decide) hj flX0_22 hd k1
theorem gfX0_37 {X : Scr} {cc : ByteArray} {nL : Nat} {R : Room} {ri : Instr} {pc : Nat} {L : List (Nat × Value)} {st : List Value} {σ σ' : Sto} {r : Option Value} {kk : Nat} {fl : List (Option Nat)} (hl : lay[kk]? = some (.inr (0, fl))) (hd : decode cc pc = .ok (.getfield 37, 3)) (k1 : Rt X RX0 cc nL R ri (pc + 3) L (.int (σ kk 8) :: st) σ r σ') (hj : fl[8]? = some none := by rfl) : Rt X RX0 cc nL R ri pc L (.ref kk :: st) σ r σ' := Rt.getI hl rfl inX0g (by decide) hj flX0_37 hd k1
theorem pfX0_19 {X : Scr} {cc : ByteArray} {nL : Nat} {R : Room} {ri : Instr} {pc : Nat} {L : List (Nat × Value)} {st : List Value} {σ σ' : Sto} {r : Option Value} {kk : Nat} {fl : List (Option Nat)} {x : Int32} (hl : lay[kk]? = some (.inr (0, fl))) (hd : decode cc pc = .ok (.putfield 19, 3)) (k1 : Rt X RX0 cc nL R ri (pc + 3) L st (upS σ kk 2 x) r σ') (hj : fl[2]? = some none := by rfl) : Rt X RX0 cc nL R ri pc L (.int x :: .ref kk :: st) σ r σ' := Rt.putI (ty := .int) hl rfl inX0g tyX0_ok nmX0 (by decide) hj rfl rfl rfl rfl flX0_19 hd k1
end
section
-- fX3_isNoCell
def fX3_isNoCell_e (v0 : Int32) (σ : Sto) : Option (Int32 × Sto) := if v0 < 0 then (some ((1 : Int32), σ)) else (if v0 < (24 : Int32) then (some ((0 : Int32), σ)) else (some ((1 : Int32), σ)))
set_option maxRecDepth 100000 in
set_option maxHeartbeats 4000000 in
theorem wfX3_isNoCell_e (X : Scr) (v0 : Int32) (σ : Sto) (z : Int32 × Sto) (h : fX3_isNoCell_e v0 σ = some z) : Rt X RX3 cX3_isNoCell 1 (rmA 0 0) .ireturn 0 [(0, .int v0)] [] σ (some (.int z.1)) z.2 := by
  unfold fX3_isNoCell_e at h
  refine Rt.iload_n 0 dX3_isNoCell_0 rfl ?_
  refine Rt.if_lt 10 dX3_isNoCell_1 (by decide) (fun c1 => ?_) (fun c1 => ?_)
  · replace h := (if_pos c1).symm.trans h
    refine Rt.iconst 1 dX3_isNoCell_10 (by decide) ?_
    refine Rt.goto 15 dX3_isNoCell_11 (by decide) ?_
    cases h
    exact Rt.ret (v := some (.int (1 : Int32))) dX3_isNoCell_15 rfl rfl rfl
  · replace h := (if_neg c1).symm.trans h
    refine Rt.iload_n 0 dX3_isNoCell_4 rfl ?_
    refine Rt.bipush 24 dX3_isNoCell_5 (by decide) ?_
    refine Rt.icmp_lt 14 dX3_isNoCell_7 (by decide) (fun c2 => ?_) (fun c2 => ?_)
    · replace h := (if_pos c2).symm.trans h
      refine Rt.iconst 0 dX3_isNoCell_14 (by decide) ?_
      cases h
      exact Rt.ret (v := some (.int (0 : Int32))) dX3_isNoCell_15 rfl rfl rfl
    · replace h := (if_neg c2).symm.trans h
      refine Rt.iconst 1 dX3_isNoCell_10 (by decide) ?_
      refine Rt.goto 15 dX3_isNoCell_11 (by decide) ?_
      cases h
      exact Rt.ret (v := some (.int (1 : Int32))) dX3_isNoCell_15 rfl rfl rfl
def fX3_isNoCell (v0 : Int32) (σ : Sto) : Option (Int32 × Sto) := (fX3_isNoCell_e v0 σ).bind chkZ
set_option maxRecDepth 100000 in
set_option maxHeartbeats 4000000 in
theorem mfX3_isNoCell (v0 : Int32) (σ : Sto) (z : Int32 × Sto) (h : fX3_isNoCell v0 σ = some z) : AM yX3_isNoCell cX3_isNoCell 1 (some .boolean) 0 0 [.int v0] σ (some (.int z.1)) z.2 := by
  obtain ⟨hz, h⟩ := chkZ_ok h
  exact AM.bool hz rfl (Nat.le_of_ble_eq_true rfl) (fun X => wfX3_isNoCell_e X v0 σ z h)
-- fX0_soreAt
def fX0_soreAt (k : Nat) (v1 : Int32) (σ : Sto) : Option (Int32 × Sto) := if v1 < 0 then (some ((0 : Int32), σ)) else (if v1 < (24 : Int32) then (if inb v1 24 = true then (some ((σ (k + 1) (v1).toNatClampNeg), σ)) else none) else (some ((0 : Int32), σ)))
set_option maxRecDepth 100000 in
set_option maxHeartbeats 4000000 in
theorem wfX0_soreAt (X : Scr) (k : Nat) (hk : bk k) (v1 : Int32) (σ : Sto) (z : Int32 × Sto) (h : fX0_soreAt k v1 σ = some z) : Rt X RX0 cX0_soreAt 2 (rmA 0 0) .ireturn 0 [(0, .ref k), (1, .int v1)] [] σ (some (.int z.1)) z.2 := by
  unfold fX0_soreAt at h
  refine Rt.iload_n 1 dX0_soreAt_0 rfl ?_
  refine Rt.if_lt 10 dX0_soreAt_1 (by decide) (fun c1 => ?_) (fun c1 => ?_)
  · replace h := (if_pos c1).symm.trans h
    refine Rt.iconst 0 dX0_soreAt_10 (by decide) ?_
    refine Rt.goto 20 dX0_soreAt_11 (by decide) ?_
    cases h
    exact Rt.ret (v := some (.int (0 : Int32))) dX0_soreAt_20 rfl rfl rfl
  · replace h := (if_neg c1).symm.trans h
    refine Rt.iload_n 1 dX0_soreAt_4 rfl ?_
    refine Rt.bipush 24 dX0_soreAt_5 (by decide) ?_
    refine Rt.icmp_lt 14 dX0_soreAt_7 (by decide) (fun c2 => ?_) (fun c2 => ?_)
    · replace h := (if_pos c2).symm.trans h
      refine Rt.aload_n 0 dX0_soreAt_14 rfl ?_
      refine gfX0_9 hk.1 dX0_soreAt_15 ?_
      refine Rt.iload_n 1 dX0_soreAt_18 rfl ?_
      obtain ⟨g3, h⟩ := gd h
      refine Rt.iald hk.2 g3 dX0_soreAt_19 ?_
      cases h
      exact Rt.ret (v := some (.int (σ (k + 1) (v1).toNatClampNeg))) dX0_soreAt_20 rfl rfl rfl
    · replace h := (if_neg c2).symm.trans h
      refine Rt.iconst 0 dX0_soreAt_10 (by decide) ?_
      refine Rt.goto 20 dX0_soreAt_11 (by decide) ?_
      cases h
      exact Rt.ret (v := some (.int (0 : Int32))) dX0_soreAt_20 rfl rfl rfl
set_option maxRecDepth 100000 in
set_option maxHeartbeats 4000000 in
theorem mfX0_soreAt (k : Nat) (hk : bk k) (v1 : Int32) (σ : Sto) (z : Int32 × Sto) (h : fX0_soreAt k v1 σ = some z) : AM yX0_soreAt cX0_soreAt 2 (some .int) 0 0 [.ref k, .int v1] σ (some (.int z.1)) z.2 := AM.int rfl (Nat.le_of_ble_eq_true rfl) (fun X => wfX0_soreAt X k hk v1 σ z h)
-- fX3_refuse
def fX3_refuse (v1 : Int32) (σ : Sto) : Option (Int32 × Sto) := if (-v1) < (1 : Int32) then (some (v1, σ)) else (if (6 : Int32) < (-v1) then (some (v1, σ)) else (if inb (-v1) 7 = true then (if inb (-v1) 7 = true then (some (v1, (upS σ 16 ((-v1)).toNatClampNeg ((σ 16 ((-v1)).toNatClampNeg) + (1 : Int32))))) else none) else none))
set_option maxRecDepth 100000 in
set_option maxHeartbeats 4000000 in
theorem wfX3_refuse (X : Scr) (v1 : Int32) (σ : Sto) (z : Int32 × Sto) (h : fX3_refuse v1 σ = some z) : Rt X RX3 cX3_refuse 3 (rmA 0 0) .ireturn 0 [(0, .ref 0), (1, .int v1)] [] σ (some (.int z.1)) z.2 := by
  unfold fX3_refuse at h
  refine Rt.iload_n 1 dX3_refuse_0 rfl ?_
  refine Rt.ineg dX3_refuse_1 ?_
  refine Rt.istore_n [(2, _), (0, _), (1, _)] dX3_refuse_2 (by decide) rfl ?_
  refine Rt.iload_n 0 dX3_refuse_3 rfl ?_
  refine Rt.iconst 1 dX3_refuse_4 (by decide) ?_
  refine Rt.icmp_lt 24 dX3_refuse_5 (by decide) (fun c1 => ?_) (fun c1 => ?_)
  · replace h := (if_pos c1).symm.trans h
    refine Rt.iload_n 2 dX3_refuse_24 rfl ?_
    cases h
    exact Rt.ret (v := some (.int v1)) dX3_refuse_25 rfl rfl rfl
  · replace h := (if_neg c1).symm.trans h
    refine Rt.iload_n 0 dX3_refuse_8 rfl ?_
    refine Rt.bipush 6 dX3_refuse_9 (by decide) ?_
    refine Rt.icmp_gt 24 dX3_refuse_11 (by decide) (fun c2 => ?_) (fun c2 => ?_)
    · replace h := (if_pos c2).symm.trans h
      refine Rt.iload_n 2 dX3_refuse_24 rfl ?_
      cases h
      exact Rt.ret (v := some (.int v1)) dX3_refuse_25 rfl rfl rfl
    · replace h := (if_neg c2).symm.trans h
      refine Rt.aload_n 1 dX3_refuse_14 rfl ?_
      refine gfX3_46 ly0 dX3_refuse_15 ?_
      refine Rt.iload_n 0 dX3_refuse_18 rfl ?_
      refine Rt.dup2 dX3_refuse_19 rfl rfl ?_
      obtain ⟨g3, h⟩ := gd h
      refine Rt.iald ly16 g3 dX3_refuse_20 ?_
      refine Rt.iconst 1 dX3_refuse_21 (by decide) ?_
      refine Rt.iadd dX3_refuse_22 ?_
      obtain ⟨g4, h⟩ := gd h
      refine Rt.iast ly16 g4 dX3_refuse_23 ?_
      refine Rt.iload_n 2 dX3_refuse_24 rfl ?_
      cases h
      exact Rt.ret (v := some (.int v1)) dX3_refuse_25 rfl rfl rfl
set_option maxRecDepth 100000 in
set_option maxHeartbeats 4000000 in
theorem mfX3_refuse (v1 : Int32) (σ : Sto) (z : Int32 × Sto) (h : fX3_refuse v1 σ = some z) : AM yX3_refuse cX3_refuse 3 (some .int) 0 0 [.ref 0, .int v1] σ (some (.int z.1)) z.2 := AM.int rfl (Nat.le_of_ble_eq_true rfl) (fun X => wfX3_refuse X v1 σ z h)
-- fX3_sore
def fX3_sore (v1 : Int32) (σ : Sto) : Option (Int32 × Sto) := (fX3_isNoCell v1 σ).bind fun q1 => if q1.1 = 0 then ((fX0_soreAt 1 v1 q1.2).bind fun q2 => some (q2.1, q2.2)) else ((fX3_refuse (-1 : Int32) q1.2).bind fun q3 => some (q3.1, q3.2))
set_option maxRecDepth 100000 in
set_option maxHeartbeats 4000000 in
theorem wfX3_sore (X : Scr) (v1 : Int32) (σ : Sto) (z : Int32 × Sto) (h : fX3_sore v1 σ = some z) : Rt X RX3 cX3_sore 2 (rmA 1 22) .ireturn 0 [(0, .ref 0), (1, .int v1)] [] σ (some (.int z.1)) z.2 := by
  unfold fX3_sore at h
  refine Rt.iload_n 1 dX3_sore_0 rfl ?_
  obtain ⟨q1, e1, h⟩ := bnd h
  refine Rt.cS (mfX3_isNoCell v1 _ q1 e1) lkX3_85 rfl ⟨Nat.le_of_ble_eq_true rfl, Nat.le_of_ble_eq_true rfl⟩ (Nat.le_of_ble_eq_true rfl) rfl dX3_sore_1 ?_
  refine Rt.if_eq 15 dX3_sore_4 (by decide) (fun c1 => ?_) (fun c1 => ?_)
  · replace h := (if_pos c1).symm.trans h
    refine Rt.aload_n 0 dX3_sore_15 rfl ?_
    refine gfX3_10 ly0 dX3_sore_16 ?_
    refine Rt.iload_n 1 dX3_sore_19 rfl ?_
    obtain ⟨q2, e2, h⟩ := bnd h
    refine Rt.cVN (mfX0_soreAt 1 bk1 v1 _ q2 e2) lkX3_89 bk1.1 rfl rfl rfl ⟨Nat.le_of_ble_eq_true rfl, Nat.le_of_ble_eq_true rfl⟩ (Nat.le_of_ble_eq_true rfl) rfl dX3_sore_20 ?_
    cases h
    exact Rt.ret (v := some (.int q2.1)) dX3_sore_23 rfl rfl rfl
  · replace h := (if_neg c1).symm.trans h
    refine Rt.aload_n 0 dX3_sore_7 rfl ?_
    refine Rt.iconst (-1) dX3_sore_8 (by decide) ?_
    obtain ⟨q3, e3, h⟩ := bnd h
    refine Rt.cV (mfX3_refuse (-1 : Int32) _ q3 e3) lkX3_57 ly0 rfl rfl rfl ⟨Nat.le_of_ble_eq_true rfl, Nat.le_of_ble_eq_true rfl⟩ (Nat.le_of_ble_eq_true rfl) rfl dX3_sore_9 ?_
    refine Rt.goto 23 dX3_sore_12 (by decide) ?_
    cases h
    exact Rt.ret (v := some (.int q3.1)) dX3_sore_23 rfl rfl rfl
set_option maxRecDepth 100000 in
set_option maxHeartbeats 4000000 in
theorem mfX3_sore (v1 : Int32) (σ : Sto) (z : Int32 × Sto) (h : fX3_sore v1 σ = some z) : AM yX3_sore cX3_sore 2 (some .int) 1 22 [.ref 0, .int v1] σ (some (.int z.1)) z.2 := AM.int rfl (Nat.le_of_ble_eq_true rfl) (fun X => wfX3_sore X v1 σ z h)
-- fX0_awayFromHand
def fX0_awayFromHand_b81 (k : Nat) (σ : Sto) : Option (Int32 × Sto) := some ((σ k 2), σ)
set_option maxRecDepth 100000 in
set_option maxHeartbeats 4000000 in
theorem wfX0_awayFromHand_b81 (X : Scr) (k : Nat) (hk : bk k) (σ : Sto) (z : Int32 × Sto) (h : fX0_awayFromHand_b81 k σ = some z) : Rt X RX0 cX0_awayFromHand 2 (rmA 0 0) .ireturn 81 [(0, .ref k)] [] σ (some (.int z.1)) z.2 := by
  unfold fX0_awayFromHand_b81 at h
  refine Rt.aload_n 0 dX0_awayFromHand_81 rfl ?_
  refine gfX0_19 hk.1 dX0_awayFromHand_82 ?_
  cases h
  exact Rt.ret (v := some (.int (σ k 2))) dX0_awayFromHand_85 rfl rfl rfl
def fX0_awayFromHand_b55 (k : Nat) (v1 : Int32) (σ : Sto) : Option (Int32 × Sto) := if (σ k 2) = ((σ k 3) - (1 : Int32)) then (if v1 ≤ 0 then (fX0_awayFromHand_b81 k σ) else (some (((σ k 2) - (1 : Int32)), σ))) else (fX0_awayFromHand_b81 k σ)
set_option maxRecDepth 100000 in
set_option maxHeartbeats 4000000 in
theorem wfX0_awayFromHand_b55 (X : Scr) (k : Nat) (hk : bk k) (v1 : Int32) (σ : Sto) (z : Int32 × Sto) (h : fX0_awayFromHand_b55 k v1 σ = some z) : Rt X RX0 cX0_awayFromHand 2 (rmA 0 0) .ireturn 55 [(0, .ref k), (1, .int v1)] [] σ (some (.int z.1)) z.2 := by
  unfold fX0_awayFromHand_b55 at h
  refine Rt.aload_n 0 dX0_awayFromHand_55 rfl ?_
  refine gfX0_19 hk.1 dX0_awayFromHand_56 ?_
  refine Rt.aload_n 0 dX0_awayFromHand_59 rfl ?_
  refine gfX0_22 hk.1 dX0_awayFromHand_60 ?_
  refine Rt.iconst 1 dX0_awayFromHand_63 (by decide) ?_
  refine Rt.isub dX0_awayFromHand_64 ?_
  refine Rt.icmp_ne 81 dX0_awayFromHand_65 (by decide) (fun c3 => ?_) (fun c3 => ?_)
  · replace h := (if_neg c3).symm.trans h
    refine Rt.pick [0] rfl ?_
    exact wfX0_awayFromHand_b81 X k hk _ z h
  · replace h := (if_pos c3).symm.trans h
    refine Rt.iload_n 1 dX0_awayFromHand_68 rfl ?_
    refine Rt.if_le 81 dX0_awayFromHand_69 (by decide) (fun c4 => ?_) (fun c4 => ?_)
    · replace h := (if_pos c4).symm.trans h
      refine Rt.pick [0] rfl ?_
      exact wfX0_awayFromHand_b81 X k hk _ z h
    · replace h := (if_neg c4).symm.trans h
      refine Rt.aload_n 0 dX0_awayFromHand_72 rfl ?_
      refine gfX0_19 hk.1 dX0_awayFromHand_73 ?_
      refine Rt.iconst 1 dX0_awayFromHand_76 (by decide) ?_
      refine Rt.isub dX0_awayFromHand_77 ?_
      refine Rt.goto 85 dX0_awayFromHand_78 (by decide) ?_
      cases h
      exact Rt.ret (v := some (.int ((σ k 2) - (1 : Int32)))) dX0_awayFromHand_85 rfl rfl rfl
def fX0_awayFromHand (k : Nat) (σ : Sto) : Option (Int32 × Sto) := if ((σ k 2) / (6 : Int32)) = ((σ k 3) / (6 : Int32)) then (if (σ k 2) = ((σ k 3) + (1 : Int32)) then (if (5 : Int32) ≤ (irm (σ k 2) (6 : Int32)) then (fX0_awayFromHand_b55 k (irm (σ k 2) (6 : Int32)) σ) else (some (((σ k 2) + (1 : Int32)), σ))) else (fX0_awayFromHand_b55 k (irm (σ k 2) (6 : Int32)) σ)) else (some ((σ k 2), σ))
set_option maxRecDepth 100000 in
set_option maxHeartbeats 4000000 in
theorem wfX0_awayFromHand (X : Scr) (k : Nat) (hk : bk k) (σ : Sto) (z : Int32 × Sto) (h : fX0_awayFromHand k σ = some z) : Rt X RX0 cX0_awayFromHand 2 (rmA 0 0) .ireturn 0 [(0, .ref k)] [] σ (some (.int z.1)) z.2 := by
  unfold fX0_awayFromHand at h
  refine Rt.aload_n 0 dX0_awayFromHand_0 rfl ?_
  refine gfX0_19 hk.1 dX0_awayFromHand_1 ?_
  refine Rt.bipush 6 dX0_awayFromHand_4 (by decide) ?_
  refine Rt.idiv dX0_awayFromHand_6 (by decide) ?_
  refine Rt.aload_n 0 dX0_awayFromHand_7 rfl ?_
  refine gfX0_22 hk.1 dX0_awayFromHand_8 ?_
  refine Rt.bipush 6 dX0_awayFromHand_11 (by decide) ?_
  refine Rt.idiv dX0_awayFromHand_13 (by decide) ?_
  refine Rt.icmp_eq 22 dX0_awayFromHand_14 (by decide) (fun c1 => ?_) (fun c1 => ?_)
  · replace h := (if_pos c1).symm.trans h
    refine Rt.aload_n 0 dX0_awayFromHand_22 rfl ?_
    refine gfX0_19 hk.1 dX0_awayFromHand_23 ?_
    refine Rt.bipush 6 dX0_awayFromHand_26 (by decide) ?_
    refine Rt.rem dX0_awayFromHand_28 (by decide) ?_
    refine Rt.istore_n [(1, _), (0, _)] dX0_awayFromHand_29 (by decide) rfl ?_
    refine Rt.aload_n 1 dX0_awayFromHand_30 rfl ?_
    refine gfX0_19 hk.1 dX0_awayFromHand_31 ?_
    refine Rt.aload_n 1 dX0_awayFromHand_34 rfl ?_
    refine gfX0_22 hk.1 dX0_awayFromHand_35 ?_
    refine Rt.iconst 1 dX0_awayFromHand_38 (by decide) ?_
    refine Rt.iadd dX0_awayFromHand_39 ?_
    refine Rt.icmp_ne 55 dX0_awayFromHand_40 (by decide) (fun c2 => ?_) (fun c2 => ?_)
    · replace h := (if_neg c2).symm.trans h
      refine Rt.pick [1, 0] rfl ?_
      exact wfX0_awayFromHand_b55 X k hk (irm (σ k 2) (6 : Int32)) _ z h
    · replace h := (if_pos c2).symm.trans h
      refine Rt.iload_n 0 dX0_awayFromHand_43 rfl ?_
      refine Rt.iconst 5 dX0_awayFromHand_44 (by decide) ?_
      refine Rt.icmp_ge 55 dX0_awayFromHand_45 (by decide) (fun c5 => ?_) (fun c5 => ?_)
      · replace h := (if_pos c5).symm.trans h
        refine Rt.pick [1, 0] rfl ?_
        exact wfX0_awayFromHand_b55 X k hk (irm (σ k 2) (6 : Int32)) _ z h
      · replace h := (if_neg c5).symm.trans h
        refine Rt.aload_n 1 dX0_awayFromHand_48 rfl ?_
        refine gfX0_19 hk.1 dX0_awayFromHand_49 ?_
        refine Rt.iconst 1 dX0_awayFromHand_52 (by decide) ?_
        refine Rt.iadd dX0_awayFromHand_53 ?_
        cases h
        exact Rt.ret (v := some (.int ((σ k 2) + (1 : Int32)))) dX0_awayFromHand_54 rfl rfl rfl
  · replace h := (if_neg c1).symm.trans h
    refine Rt.aload_n 0 dX0_awayFromHand_17 rfl ?_
    refine gfX0_19 hk.1 dX0_awayFromHand_18 ?_
    cases h
    exact Rt.ret (v := some (.int (σ k 2))) dX0_awayFromHand_21 rfl rfl rfl
set_option maxRecDepth 100000 in
set_option maxHeartbeats 4000000 in
theorem mfX0_awayFromHand (k : Nat) (hk : bk k) (σ : Sto) (z : Int32 × Sto) (h : fX0_awayFromHand k σ = some z) : AM yX0_awayFromHand cX0_awayFromHand 2 (some .int) 0 0 [.ref k] σ (some (.int z.1)) z.2 := AM.int rfl (Nat.le_of_ble_eq_true rfl) (fun X => wfX0_awayFromHand X k hk σ z h)
-- fJ6_compare_7cf53
def fJ6_compare_7cf53 (v0 : Int32) (v1 : Int32) (σ : Sto) : Option (Int32 × Sto) := if v1 ≤ v0 then (if v0 = v1 then (some ((0 : Int32), σ)) else (some ((1 : Int32), σ))) else (some ((-1 : Int32), σ))
set_option maxRecDepth 100000 in
set_option maxHeartbeats 4000000 in
theorem wfJ6_compare_7cf53 (X : Scr) (v0 : Int32) (v1 : Int32) (σ : Sto) (z : Int32 × Sto) (h : fJ6_compare_7cf53 v0 v1 σ = some z) : Rt X RJ6 cJ6_compare_7cf53 2 (rmA 0 0) .ireturn 0 [(0, .int v0), (1, .int v1)] [] σ (some (.int z.1)) z.2 := by
  unfold fJ6_compare_7cf53 at h
  refine Rt.iload_n 0 dJ6_compare_7cf53_0 rfl ?_
  refine Rt.iload_n 1 dJ6_compare_7cf53_1 rfl ?_
  refine Rt.icmp_ge 9 dJ6_compare_7cf53_2 (by decide) (fun c1 => ?_) (fun c1 => ?_)
  · replace h := (if_pos c1).symm.trans h
    refine Rt.iload_n 0 dJ6_compare_7cf53_9 rfl ?_
    refine Rt.iload_n 1 dJ6_compare_7cf53_10 rfl ?_
    refine Rt.icmp_ne 18 dJ6_compare_7cf53_11 (by decide) (fun c2 => ?_) (fun c2 => ?_)
    · replace h := (if_neg c2).symm.trans h
      refine Rt.iconst 1 dJ6_compare_7cf53_18 (by decide) ?_
      cases h
      exact Rt.ret (v := some (.int (1 : Int32))) dJ6_compare_7cf53_19 rfl rfl rfl
    · replace h := (if_pos c2).symm.trans h
      refine Rt.iconst 0 dJ6_compare_7cf53_14 (by decide) ?_
      refine Rt.goto 19 dJ6_compare_7cf53_15 (by decide) ?_
      cases h
      exact Rt.ret (v := some (.int (0 : Int32))) dJ6_compare_7cf53_19 rfl rfl rfl
  · replace h := (if_neg c1).symm.trans h
    refine Rt.iconst (-1) dJ6_compare_7cf53_5 (by decide) ?_
    refine Rt.goto 19 dJ6_compare_7cf53_6 (by decide) ?_
    cases h
    exact Rt.ret (v := some (.int (-1 : Int32))) dJ6_compare_7cf53_19 rfl rfl rfl
set_option maxRecDepth 100000 in
set_option maxHeartbeats 4000000 in
theorem mfJ6_compare_7cf53 (v0 : Int32) (v1 : Int32) (σ : Sto) (z : Int32 × Sto) (h : fJ6_compare_7cf53 v0 v1 σ = some z) : AM yJ6_compare_7cf53 cJ6_compare_7cf53 2 (some .int) 0 0 [.int v0, .int v1] σ (some (.int z.1)) z.2 := AM.int rfl (Nat.le_of_ble_eq_true rfl) (fun X => wfJ6_compare_7cf53 X v0 v1 σ z h)
-- fX0_whenBeside
def fX0_whenBeside_b103 (k : Nat) (s0 : Int32) (σ : Sto) : Option (Int32 × Sto) := if (σ k 1) = (3 : Int32) then (if s0 = (σ k 2) then ((fX0_soreAt k ((((((σ k 2) / (6 : Int32)) * (6 : Int32)) + (6 : Int32)) - (1 : Int32)) - (irm (σ k 2) (6 : Int32))) σ).bind fun q2 => if q2.1 = 0 then (some (((((((σ k 2) / (6 : Int32)) * (6 : Int32)) + (6 : Int32)) - (1 : Int32)) - (irm (σ k 2) (6 : Int32))), q2.2)) else (some ((q2.2 k 2), q2.2))) else (some (s0, σ))) else (some (s0, σ))
set_option maxRecDepth 100000 in
set_option maxHeartbeats 4000000 in
theorem wfX0_whenBeside_b103 (X : Scr) (k : Nat) (hk : bk k) (s0 : Int32) (σ : Sto) (z : Int32 × Sto) (h : fX0_whenBeside_b103 k s0 σ = some z) : Rt X RX0 cX0_whenBeside 4 (rmA 1 21) .ireturn 103 [(0, .ref k)] [.int s0] σ (some (.int z.1)) z.2 := by
  unfold fX0_whenBeside_b103 at h
  refine Rt.istore_n [(2, _), (0, _)] dX0_whenBeside_103 (by decide) rfl ?_
  refine Rt.aload_n 1 dX0_whenBeside_104 rfl ?_
  refine gfX0_15 hk.1 dX0_whenBeside_105 ?_
  refine Rt.iconst 3 dX0_whenBeside_108 (by decide) ?_
  refine Rt.icmp_ne 120 dX0_whenBeside_109 (by decide) (fun c6 => ?_) (fun c6 => ?_)
  · replace h := (if_neg c6).symm.trans h
    refine Rt.iload_n 0 dX0_whenBeside_120 rfl ?_
    cases h
    exact Rt.ret (v := some (.int s0)) dX0_whenBeside_121 rfl rfl rfl
  · replace h := (if_pos c6).symm.trans h
    refine Rt.iload_n 0 dX0_whenBeside_112 rfl ?_
    refine Rt.aload_n 1 dX0_whenBeside_113 rfl ?_
    refine gfX0_19 hk.1 dX0_whenBeside_114 ?_
    refine Rt.icmp_eq 122 dX0_whenBeside_117 (by decide) (fun c7 => ?_) (fun c7 => ?_)
    · replace h := (if_pos c7).symm.trans h
      refine Rt.aload_n 1 dX0_whenBeside_122 rfl ?_
      refine gfX0_19 hk.1 dX0_whenBeside_123 ?_
      refine Rt.bipush 6 dX0_whenBeside_126 (by decide) ?_
      refine Rt.idiv dX0_whenBeside_128 (by decide) ?_
      refine Rt.bipush 6 dX0_whenBeside_129 (by decide) ?_
      refine Rt.imul dX0_whenBeside_131 ?_
      refine Rt.bipush 6 dX0_whenBeside_132 (by decide) ?_
      refine Rt.iadd dX0_whenBeside_134 ?_
      refine Rt.iconst 1 dX0_whenBeside_135 (by decide) ?_
      refine Rt.isub dX0_whenBeside_136 ?_
      refine Rt.aload_n 1 dX0_whenBeside_137 rfl ?_
      refine gfX0_19 hk.1 dX0_whenBeside_138 ?_
      refine Rt.bipush 6 dX0_whenBeside_141 (by decide) ?_
      refine Rt.rem dX0_whenBeside_143 (by decide) ?_
      refine Rt.isub dX0_whenBeside_144 ?_
      refine Rt.istore_n [(3, _), (2, _), (0, _)] dX0_whenBeside_145 (by decide) rfl ?_
      refine Rt.aload_n 2 dX0_whenBeside_146 rfl ?_
      refine Rt.iload_n 0 dX0_whenBeside_147 rfl ?_
      obtain ⟨q2, e2, h⟩ := bnd h
      refine Rt.cV (mfX0_soreAt k hk ((((((σ k 2) / (6 : Int32)) * (6 : Int32)) + (6 : Int32)) - (1 : Int32)) - (irm (σ k 2) (6 : Int32))) _ q2 e2) lkX0_66 hk.1 rfl rfl rfl ⟨Nat.le_of_ble_eq_true rfl, Nat.le_of_ble_eq_true rfl⟩ (Nat.le_of_ble_eq_true rfl) rfl dX0_whenBeside_148 ?_
      refine Rt.if_ne 158 dX0_whenBeside_151 (by decide) (fun c8 => ?_) (fun c8 => ?_)
      · replace h := (if_neg c8).symm.trans h
        refine Rt.aload_n 2 dX0_whenBeside_158 rfl ?_
        refine gfX0_19 hk.1 dX0_whenBeside_159 ?_
        cases h
        exact Rt.ret (v := some (.int (q2.2 k 2))) dX0_whenBeside_162 rfl rfl rfl
      · replace h := (if_pos c8).symm.trans h
        refine Rt.iload_n 0 dX0_whenBeside_154 rfl ?_
        refine Rt.goto 162 dX0_whenBeside_155 (by decide) ?_
        cases h
        exact Rt.ret (v := some (.int ((((((σ k 2) / (6 : Int32)) * (6 : Int32)) + (6 : Int32)) - (1 : Int32)) - (irm (σ k 2) (6 : Int32))))) dX0_whenBeside_162 rfl rfl rfl
    · replace h := (if_neg c7).symm.trans h
      refine Rt.iload_n 0 dX0_whenBeside_120 rfl ?_
      cases h
      exact Rt.ret (v := some (.int s0)) dX0_whenBeside_121 rfl rfl rfl
def fX0_whenBeside_b84 (k : Nat) (s0 : Int32) (σ : Sto) : Option (Int32 × Sto) := if s0 = 0 then ((fX0_awayFromHand k σ).bind fun q1 => fX0_whenBeside_b103 k q1.1 q1.2) else (fX0_whenBeside_b103 k ((σ k 2) + (6 : Int32)) σ)
set_option maxRecDepth 100000 in
set_option maxHeartbeats 4000000 in
theorem wfX0_whenBeside_b84 (X : Scr) (k : Nat) (hk : bk k) (s0 : Int32) (σ : Sto) (z : Int32 × Sto) (h : fX0_whenBeside_b84 k s0 σ = some z) : Rt X RX0 cX0_whenBeside 4 (rmA 1 21) .ireturn 84 [(0, .ref k)] [.int s0] σ (some (.int z.1)) z.2 := by
  unfold fX0_whenBeside_b84 at h
  refine Rt.istore_n [(1, _), (0, _)] dX0_whenBeside_84 (by decide) rfl ?_
  refine Rt.iload_n 0 dX0_whenBeside_85 rfl ?_
  refine Rt.if_eq 99 dX0_whenBeside_86 (by decide) (fun c5 => ?_) (fun c5 => ?_)
  · replace h := (if_pos c5).symm.trans h
    refine Rt.aload_n 1 dX0_whenBeside_99 rfl ?_
    obtain ⟨q1, e1, h⟩ := bnd h
    refine Rt.cV (mfX0_awayFromHand k hk _ q1 e1) lkX0_75 hk.1 rfl rfl rfl ⟨Nat.le_of_ble_eq_true rfl, Nat.le_of_ble_eq_true rfl⟩ (Nat.le_of_ble_eq_true rfl) rfl dX0_whenBeside_100 ?_
    refine Rt.pick [1] rfl ?_
    exact wfX0_whenBeside_b103 X k hk q1.1 _ z h
  · replace h := (if_neg c5).symm.trans h
    refine Rt.aload_n 1 dX0_whenBeside_89 rfl ?_
    refine gfX0_19 hk.1 dX0_whenBeside_90 ?_
    refine Rt.bipush 6 dX0_whenBeside_93 (by decide) ?_
    refine Rt.iadd dX0_whenBeside_95 ?_
    refine Rt.goto 103 dX0_whenBeside_96 (by decide) ?_
    refine Rt.pick [1] rfl ?_
    exact wfX0_whenBeside_b103 X k hk ((σ k 2) + (6 : Int32)) _ z h
def fX0_whenBeside_b83 (k : Nat) (σ : Sto) : Option (Int32 × Sto) := fX0_whenBeside_b84 k (0 : Int32) σ
set_option maxRecDepth 100000 in
set_option maxHeartbeats 4000000 in
theorem wfX0_whenBeside_b83 (X : Scr) (k : Nat) (hk : bk k) (σ : Sto) (z : Int32 × Sto) (h : fX0_whenBeside_b83 k σ = some z) : Rt X RX0 cX0_whenBeside 4 (rmA 1 21) .ireturn 83 [(0, .ref k)] [] σ (some (.int z.1)) z.2 := by
  unfold fX0_whenBeside_b83 at h
  refine Rt.iconst 0 dX0_whenBeside_83 (by decide) ?_
  exact wfX0_whenBeside_b84 X k hk (0 : Int32) _ z h
def fX0_whenBeside (k : Nat) (σ : Sto) : Option (Int32 × Sto) := if (σ k 1) = (5 : Int32) then (some ((24 : Int32), σ)) else (if (σ k 1) = (2 : Int32) then (some ((σ k 2), σ)) else (if (σ k 1) = (4 : Int32) then ((fJ6_compare_7cf53 (σ k 8) (irm (σ k 2) (6 : Int32)) σ).bind fun q3 => some (((σ k 2) + q3.1), q3.2)) else (if (σ k 1) = 0 then (fX0_whenBeside_b83 k σ) else (if (irm (σ k 4) (3 : Int32)) = 0 then (if (3 : Int32) ≤ ((σ k 2) / (6 : Int32)) then (fX0_whenBeside_b83 k σ) else (fX0_whenBeside_b84 k (1 : Int32) σ)) else (fX0_whenBeside_b83 k σ)))))
set_option maxRecDepth 100000 in
set_option maxHeartbeats 4000000 in
theorem wfX0_whenBeside (X : Scr) (k : Nat) (hk : bk k) (σ : Sto) (z : Int32 × Sto) (h : fX0_whenBeside k σ = some z) : Rt X RX0 cX0_whenBeside 4 (rmA 1 21) .ireturn 0 [(0, .ref k)] [] σ (some (.int z.1)) z.2 := by
  unfold fX0_whenBeside at h
  refine Rt.aload_n 0 dX0_whenBeside_0 rfl ?_
  refine gfX0_15 hk.1 dX0_whenBeside_1 ?_
  refine Rt.iconst 5 dX0_whenBeside_4 (by decide) ?_
  refine Rt.icmp_ne 11 dX0_whenBeside_5 (by decide) (fun c1 => ?_) (fun c1 => ?_)
  · replace h := (if_neg c1).symm.trans h
    refine Rt.aload_n 0 dX0_whenBeside_11 rfl ?_
    refine gfX0_15 hk.1 dX0_whenBeside_12 ?_
    refine Rt.iconst 2 dX0_whenBeside_15 (by decide) ?_
    refine Rt.icmp_ne 24 dX0_whenBeside_16 (by decide) (fun c2 => ?_) (fun c2 => ?_)
    · replace h := (if_neg c2).symm.trans h
      refine Rt.aload_n 0 dX0_whenBeside_24 rfl ?_
      refine gfX0_15 hk.1 dX0_whenBeside_25 ?_
      refine Rt.iconst 4 dX0_whenBeside_28 (by decide) ?_
      refine Rt.icmp_ne 52 dX0_whenBeside_29 (by decide) (fun c3 => ?_) (fun c3 => ?_)
      · replace h := (if_neg c3).symm.trans h
        refine Rt.aload_n 0 dX0_whenBeside_52 rfl ?_
        refine gfX0_15 hk.1 dX0_whenBeside_53 ?_
        refine Rt.if_eq 83 dX0_whenBeside_56 (by decide) (fun c4 => ?_) (fun c4 => ?_)
        · replace h := (if_pos c4).symm.trans h
          exact wfX0_whenBeside_b83 X k hk _ z h
        · replace h := (if_neg c4).symm.trans h
          refine Rt.aload_n 0 dX0_whenBeside_59 rfl ?_
          refine gfX0_25 hk.1 dX0_whenBeside_60 ?_
          refine Rt.iconst 3 dX0_whenBeside_63 (by decide) ?_
          refine Rt.rem dX0_whenBeside_64 (by decide) ?_
          refine Rt.if_ne 83 dX0_whenBeside_65 (by decide) (fun c9 => ?_) (fun c9 => ?_)
          · replace h := (if_neg c9).symm.trans h
            exact wfX0_whenBeside_b83 X k hk _ z h
          · replace h := (if_pos c9).symm.trans h
            refine Rt.aload_n 0 dX0_whenBeside_68 rfl ?_
            refine gfX0_19 hk.1 dX0_whenBeside_69 ?_
            refine Rt.bipush 6 dX0_whenBeside_72 (by decide) ?_
            refine Rt.idiv dX0_whenBeside_74 (by decide) ?_
            refine Rt.iconst 3 dX0_whenBeside_75 (by decide) ?_
            refine Rt.icmp_ge 83 dX0_whenBeside_76 (by decide) (fun c10 => ?_) (fun c10 => ?_)
            · replace h := (if_pos c10).symm.trans h
              exact wfX0_whenBeside_b83 X k hk _ z h
            · replace h := (if_neg c10).symm.trans h
              refine Rt.iconst 1 dX0_whenBeside_79 (by decide) ?_
              refine Rt.goto 84 dX0_whenBeside_80 (by decide) ?_
              exact wfX0_whenBeside_b84 X k hk (1 : Int32) _ z h
      · replace h := (if_pos c3).symm.trans h
        refine Rt.aload_n 0 dX0_whenBeside_32 rfl ?_
        refine gfX0_19 hk.1 dX0_whenBeside_33 ?_
        refine Rt.aload_n 0 dX0_whenBeside_36 rfl ?_
        refine gfX0_37 hk.1 dX0_whenBeside_37 ?_
        refine Rt.aload_n 0 dX0_whenBeside_40 rfl ?_
        refine gfX0_19 hk.1 dX0_whenBeside_41 ?_
        refine Rt.bipush 6 dX0_whenBeside_44 (by decide) ?_
        refine Rt.rem dX0_whenBeside_46 (by decide) ?_
        obtain ⟨q3, e3, h⟩ := bnd h
        refine Rt.cS (mfJ6_compare_7cf53 (σ k 8) (irm (σ k 2) (6 : Int32)) _ q3 e3) lkX0_70 rfl ⟨Nat.le_of_ble_eq_true rfl, Nat.le_of_ble_eq_true rfl⟩ (Nat.le_of_ble_eq_true rfl) rfl dX0_whenBeside_47 ?_
        refine Rt.iadd dX0_whenBeside_50 ?_
        cases h
        exact Rt.ret (v := some (.int ((σ k 2) + q3.1))) dX0_whenBeside_51 rfl rfl rfl
    · replace h := (if_pos c2).symm.trans h
      refine Rt.aload_n 0 dX0_whenBeside_19 rfl ?_
      refine gfX0_19 hk.1 dX0_whenBeside_20 ?_
      cases h
      exact Rt.ret (v := some (.int (σ k 2))) dX0_whenBeside_23 rfl rfl rfl
  · replace h := (if_pos c1).symm.trans h
    refine Rt.bipush 24 dX0_whenBeside_8 (by decide) ?_
    cases h
    exact Rt.ret (v := some (.int (24 : Int32))) dX0_whenBeside_10 rfl rfl rfl
set_option maxRecDepth 100000 in
set_option maxHeartbeats 4000000 in
theorem mfX0_whenBeside (k : Nat) (hk : bk k) (σ : Sto) (z : Int32 × Sto) (h : fX0_whenBeside k σ = some z) : AM yX0_whenBeside cX0_whenBeside 4 (some .int) 1 21 [.ref k] σ (some (.int z.1)) z.2 := AM.int rfl (Nat.le_of_ble_eq_true rfl) (fun X => wfX0_whenBeside X k hk σ z h)
-- fX0_whenStruck
def fX0_whenStruck (k : Nat) (σ : Sto) : Option (Int32 × Sto) := if (σ k 1) = 3 then (some ((irm ((σ k 2) + (7 : Int32)) (24 : Int32)), σ)) else (if (σ k 1) = 4 then ((fX0_soreAt k (σ k 2) σ).bind fun q1 => if q1.1 < (3 : Int32) then (some ((q1.2 k 2), q1.2)) else (some ((24 : Int32), q1.2))) else (some ((24 : Int32), σ)))
set_option maxRecDepth 100000 in
set_option maxHeartbeats 4000000 in
theorem wfX0_whenStruck (X : Scr) (k : Nat) (hk : bk k) (σ : Sto) (z : Int32 × Sto) (h : fX0_whenStruck k σ = some z) : Rt X RX0 cX0_whenStruck 1 (rmA 1 21) .ireturn 0 [(0, .ref k)] [] σ (some (.int z.1)) z.2 := by
  unfold fX0_whenStruck at h
  refine Rt.aload_n 0 dX0_whenStruck_0 rfl ?_
  refine gfX0_15 hk.1 dX0_whenStruck_1 ?_
  by_cases sw1_0 : (σ k 1) = 3
  · replace h := (if_pos sw1_0).symm.trans h
    refine Rt.lsw 32 dX0_whenStruck_4 (by decide) (by rw [sw1_0] <;> rfl) (by decide) ?_
    refine Rt.aload_n 0 dX0_whenStruck_32 rfl ?_
    refine gfX0_19 hk.1 dX0_whenStruck_33 ?_
    refine Rt.bipush 7 dX0_whenStruck_36 (by decide) ?_
    refine Rt.iadd dX0_whenStruck_38 ?_
    refine Rt.bipush 24 dX0_whenStruck_39 (by decide) ?_
    refine Rt.rem dX0_whenStruck_41 (by decide) ?_
    cases h
    exact Rt.ret (v := some (.int (irm ((σ k 2) + (7 : Int32)) (24 : Int32)))) dX0_whenStruck_42 rfl rfl rfl
  · replace h := (if_neg sw1_0).symm.trans h
    by_cases sw1_1 : (σ k 1) = 4
    · replace h := (if_pos sw1_1).symm.trans h
      refine Rt.lsw 43 dX0_whenStruck_4 (by decide) (by rw [sw1_1] <;> rfl) (by decide) ?_
      refine Rt.aload_n 0 dX0_whenStruck_43 rfl ?_
      refine Rt.aload_n 0 dX0_whenStruck_44 rfl ?_
      refine gfX0_19 hk.1 dX0_whenStruck_45 ?_
      obtain ⟨q1, e1, h⟩ := bnd h
      refine Rt.cV (mfX0_soreAt k hk (σ k 2) _ q1 e1) lkX0_66 hk.1 rfl rfl rfl ⟨Nat.le_of_ble_eq_true rfl, Nat.le_of_ble_eq_true rfl⟩ (Nat.le_of_ble_eq_true rfl) rfl dX0_whenStruck_48 ?_
      refine Rt.iconst 3 dX0_whenStruck_51 (by decide) ?_
      refine Rt.icmp_lt 60 dX0_whenStruck_52 (by decide) (fun c2 => ?_) (fun c2 => ?_)
      · replace h := (if_pos c2).symm.trans h
        refine Rt.aload_n 0 dX0_whenStruck_60 rfl ?_
        refine gfX0_19 hk.1 dX0_whenStruck_61 ?_
        cases h
        exact Rt.ret (v := some (.int (q1.2 k 2))) dX0_whenStruck_64 rfl rfl rfl
      · replace h := (if_neg c2).symm.trans h
        refine Rt.bipush 24 dX0_whenStruck_55 (by decide) ?_
        refine Rt.goto 64 dX0_whenStruck_57 (by decide) ?_
        cases h
        exact Rt.ret (v := some (.int (24 : Int32))) dX0_whenStruck_64 rfl rfl rfl
    · replace h := (if_neg sw1_1).symm.trans h
      have w0 := nti 3 (k := 3) rfl sw1_0
      have w1 := nti 4 (k := 4) rfl sw1_1
      refine Rt.lswOut 65 dX0_whenStruck_4 (by decide) (fun q hq => by simp at hq; rcases hq with e | e <;> subst e <;> first | exact Ne.symm w0 | exact Ne.symm w1) (by decide) ?_
      refine Rt.bipush 24 dX0_whenStruck_65 (by decide) ?_
      cases h
      exact Rt.ret (v := some (.int (24 : Int32))) dX0_whenStruck_67 rfl rfl rfl
set_option maxRecDepth 100000 in
set_option maxHeartbeats 4000000 in
theorem mfX0_whenStruck (k : Nat) (hk : bk k) (σ : Sto) (z : Int32 × Sto) (h : fX0_whenStruck k σ = some z) : AM yX0_whenStruck cX0_whenStruck 1 (some .int) 1 21 [.ref k] σ (some (.int z.1)) z.2 := AM.int rfl (Nat.le_of_ble_eq_true rfl) (fun X => wfX0_whenStruck X k hk σ z h)
-- fX0_strokeOn
def fX0_strokeOn_b64 (k : Nat) (σ : Sto) : Option (Unit × Sto) := some ((), (upS σ k 4 ((σ k 4) + (1 : Int32))))
set_option maxRecDepth 100000 in
set_option maxHeartbeats 4000000 in
theorem wfX0_strokeOn_b64 (X : Scr) (k : Nat) (hk : bk k) (σ : Sto) (z : Unit × Sto) (h : fX0_strokeOn_b64 k σ = some z) : Rt X RX0 cX0_strokeOn 2 (rmA 2 44) .return_ 64 [(0, .ref k)] [] σ none z.2 := by
  unfold fX0_strokeOn_b64 at h
  refine Rt.aload_n 0 dX0_strokeOn_64 rfl ?_
  refine Rt.dup dX0_strokeOn_65 rfl ?_
  refine gfX0_25 hk.1 dX0_strokeOn_66 ?_
  refine Rt.iconst 1 dX0_strokeOn_69 (by decide) ?_
  refine Rt.iadd dX0_strokeOn_70 ?_
  refine pfX0_25 hk.1 dX0_strokeOn_71 ?_
  cases h
  exact Rt.ret (v := none) dX0_strokeOn_74 rfl rfl rfl
def fX0_strokeOn_b61 (k : Nat) (s0 : Int32) (σ : Sto) : Option (Unit × Sto) := fX0_strokeOn_b64 k (upS σ k 2 s0)
set_option maxRecDepth 100000 in
set_option maxHeartbeats 4000000 in
theorem wfX0_strokeOn_b61 (X : Scr) (k : Nat) (hk : bk k) (s0 : Int32) (σ : Sto) (z : Unit × Sto) (h : fX0_strokeOn_b61 k s0 σ = some z) : Rt X RX0 cX0_strokeOn 2 (rmA 2 44) .return_ 61 [(0, .ref k)] [.int s0, .ref k] σ none z.2 := by
  unfold fX0_strokeOn_b61 at h
  refine pfX0_19 hk.1 dX0_strokeOn_61 ?_
  exact wfX0_strokeOn_b64 X k hk _ z h
def fX0_strokeOn_b32 (k : Nat) (v1 : Int32) (σ : Sto) : Option (Unit × Sto) := if (σ k 2) = (24 : Int32) then (fX0_strokeOn_b64 k σ) else (if (σ k 2) = v1 then ((fX0_whenStruck k σ).bind fun q3 => fX0_strokeOn_b61 k q3.1 q3.2) else ((fX0_whenBeside k σ).bind fun q2 => fX0_strokeOn_b61 k q2.1 q2.2))
set_option maxRecDepth 100000 in
set_option maxHeartbeats 4000000 in
theorem wfX0_strokeOn_b32 (X : Scr) (k : Nat) (hk : bk k) (v1 : Int32) (σ : Sto) (z : Unit × Sto) (h : fX0_strokeOn_b32 k v1 σ = some z) : Rt X RX0 cX0_strokeOn 2 (rmA 2 44) .return_ 32 [(0, .ref k), (1, .int v1)] [] σ none z.2 := by
  unfold fX0_strokeOn_b32 at h
  refine Rt.aload_n 0 dX0_strokeOn_32 rfl ?_
  refine gfX0_19 hk.1 dX0_strokeOn_33 ?_
  refine Rt.bipush 24 dX0_strokeOn_36 (by decide) ?_
  refine Rt.icmp_eq 64 dX0_strokeOn_38 (by decide) (fun c4 => ?_) (fun c4 => ?_)
  · replace h := (if_pos c4).symm.trans h
    refine Rt.pick [0] rfl ?_
    exact wfX0_strokeOn_b64 X k hk _ z h
  · replace h := (if_neg c4).symm.trans h
    refine Rt.aload_n 0 dX0_strokeOn_41 rfl ?_
    refine Rt.aload_n 0 dX0_strokeOn_42 rfl ?_
    refine gfX0_19 hk.1 dX0_strokeOn_43 ?_
    refine Rt.iload_n 1 dX0_strokeOn_46 rfl ?_
    refine Rt.icmp_ne 57 dX0_strokeOn_47 (by decide) (fun c5 => ?_) (fun c5 => ?_)
    · replace h := (if_neg c5).symm.trans h
      refine Rt.aload_n 0 dX0_strokeOn_57 rfl ?_
      obtain ⟨q2, e2, h⟩ := bnd h
      refine Rt.cV (mfX0_whenBeside k hk _ q2 e2) lkX0_63 hk.1 rfl rfl rfl ⟨Nat.le_of_ble_eq_true rfl, Nat.le_of_ble_eq_true rfl⟩ (Nat.le_of_ble_eq_true rfl) rfl dX0_strokeOn_58 ?_
      refine Rt.pick [0] rfl ?_
      exact wfX0_strokeOn_b61 X k hk q2.1 _ z h
    · replace h := (if_pos c5).symm.trans h
      refine Rt.aload_n 0 dX0_strokeOn_50 rfl ?_
      obtain ⟨q3, e3, h⟩ := bnd h
      refine Rt.cV (mfX0_whenStruck k hk _ q3 e3) lkX0_59 hk.1 rfl rfl rfl ⟨Nat.le_of_ble_eq_true rfl, Nat.le_of_ble_eq_true rfl⟩ (Nat.le_of_ble_eq_true rfl) rfl dX0_strokeOn_51 ?_
      refine Rt.goto 61 dX0_strokeOn_54 (by decide) ?_
      refine Rt.pick [0] rfl ?_
      exact wfX0_strokeOn_b61 X k hk q3.1 _ z h
def fX0_strokeOn (k : Nat) (v1 : Int32) (σ : Sto) : Option (Unit × Sto) := (fX3_isNoCell v1 σ).bind fun q1 => if q1.1 = 0 then (if inb v1 24 = true then (if inb v1 24 = true then (fX0_strokeOn_b32 k v1 (upS (upS q1.2 (k + 1) (v1).toNatClampNeg (mnI (9 : Int32) ((q1.2 (k + 1) (v1).toNatClampNeg) + (1 : Int32)))) k 3 v1)) else none) else none) else (some ((), q1.2))
set_option maxRecDepth 100000 in
set_option maxHeartbeats 4000000 in
theorem wfX0_strokeOn (X : Scr) (k : Nat) (hk : bk k) (v1 : Int32) (σ : Sto) (z : Unit × Sto) (h : fX0_strokeOn k v1 σ = some z) : Rt X RX0 cX0_strokeOn 2 (rmA 2 44) .return_ 0 [(0, .ref k), (1, .int v1)] [] σ none z.2 := by
  unfold fX0_strokeOn at h
  refine Rt.iload_n 1 dX0_strokeOn_0 rfl ?_
  obtain ⟨q1, e1, h⟩ := bnd h
  refine Rt.cSN (mfX3_isNoCell v1 _ q1 e1) lkX0_46 rfl ⟨Nat.le_of_ble_eq_true rfl, Nat.le_of_ble_eq_true rfl⟩ (Nat.le_of_ble_eq_true rfl) rfl dX0_strokeOn_1 ?_
  refine Rt.if_eq 8 dX0_strokeOn_4 (by decide) (fun c1 => ?_) (fun c1 => ?_)
  · replace h := (if_pos c1).symm.trans h
    refine Rt.aload_n 0 dX0_strokeOn_8 rfl ?_
    refine gfX0_9 hk.1 dX0_strokeOn_9 ?_
    refine Rt.iload_n 1 dX0_strokeOn_12 rfl ?_
    refine Rt.bipush 9 dX0_strokeOn_13 (by decide) ?_
    refine Rt.aload_n 0 dX0_strokeOn_15 rfl ?_
    refine gfX0_9 hk.1 dX0_strokeOn_16 ?_
    refine Rt.iload_n 1 dX0_strokeOn_19 rfl ?_
    obtain ⟨g2, h⟩ := gd h
    refine Rt.iald hk.2 g2 dX0_strokeOn_20 ?_
    refine Rt.iconst 1 dX0_strokeOn_21 (by decide) ?_
    refine Rt.iadd dX0_strokeOn_22 ?_
    refine Rt.mmin mlX0_54 smMmin iniMath cdMmin (Nat.le_of_ble_eq_true rfl) (Nat.le_of_ble_eq_true rfl) dX0_strokeOn_23 ?_
    obtain ⟨g3, h⟩ := gd h
    refine Rt.iast hk.2 g3 dX0_strokeOn_26 ?_
    refine Rt.aload_n 0 dX0_strokeOn_27 rfl ?_
    refine Rt.iload_n 1 dX0_strokeOn_28 rfl ?_
    refine pfX0_22 hk.1 dX0_strokeOn_29 ?_
    exact wfX0_strokeOn_b32 X k hk v1 _ z h
  · replace h := (if_neg c1).symm.trans h
    cases h
    exact Rt.ret (v := none) dX0_strokeOn_7 rfl rfl rfl
set_option maxRecDepth 100000 in
set_option maxHeartbeats 4000000 in
theorem mfX0_strokeOn (k : Nat) (hk : bk k) (v1 : Int32) (σ : Sto) (z : Unit × Sto) (h : fX0_strokeOn k v1 σ = some z) : AM yX0_strokeOn cX0_strokeOn 2 none 2 44 [.ref k, .int v1] σ none z.2 := AM.void rfl (Nat.le_of_ble_eq_true rfl) (fun X => wfX0_strokeOn X k hk v1 σ z h)
end
