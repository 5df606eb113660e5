section
-- ===== PART A: goes FIRST, ahead of the names: the tables' words, and 'selects' of the private methods out of them =====
/-- a private method of a class that the tables say can be made, by its rows of tables_1 -/
def lw_okq (q : MethodName × Nat) : Prop := (q.1.cls ≠ "java/lang/invoke/MethodHandle" ∧ q.1.cls ≠ "java/lang/invoke/VarHandle") ∧ Cond.instantiable q.1.cls q.2 ∈ tables_1 ∧ Cond.privateMethod q.1 ∈ tables_1 ∧ Cond.instanceMethod q.1 ∈ tables_1
theorem lw_p0 : lw_okq (⟨"LateChecks", "startAnew", "()V"⟩, 12) := ⟨⟨by decide +kernel, by decide +kernel⟩, List.mem_of_getElem? (i := 12) (by decide +kernel), List.mem_of_getElem? (i := 120) (by decide +kernel), List.mem_of_getElem? (i := 121) (by decide +kernel)⟩
theorem lw_p1 : lw_okq (⟨"LateChecks", "doClause", "(I)V"⟩, 12) := ⟨⟨by decide +kernel, by decide +kernel⟩, List.mem_of_getElem? (i := 12) (by decide +kernel), List.mem_of_getElem? (i := 296) (by decide +kernel), List.mem_of_getElem? (i := 297) (by decide +kernel)⟩
theorem lw_p2 : lw_okq (⟨"LateChecks", "howMany", "(I)I"⟩, 12) := ⟨⟨by decide +kernel, by decide +kernel⟩, List.mem_of_getElem? (i := 12) (by decide +kernel), List.mem_of_getElem? (i := 318) (by decide +kernel), List.mem_of_getElem? (i := 319) (by decide +kernel)⟩
theorem lw_p3 : lw_okq (⟨"LateChecks", "nextEntry", "()LLateChecks$Entry;"⟩, 12) := ⟨⟨by decide +kernel, by decide +kernel⟩, List.mem_of_getElem? (i := 12) (by decide +kernel), List.mem_of_getElem? (i := 322) (by decide +kernel), List.mem_of_getElem? (i := 323) (by decide +kernel)⟩
theorem lw_p4 : lw_okq (⟨"LateChecks", "change", "(II)V"⟩, 12) := ⟨⟨by decide +kernel, by decide +kernel⟩, List.mem_of_getElem? (i := 12) (by decide +kernel), List.mem_of_getElem? (i := 371) (by decide +kernel), List.mem_of_getElem? (i := 372) (by decide +kernel)⟩
theorem lw_p5 : lw_okq (⟨"LateChecks", "foretell", "(LLateChecks$Deal;I)I"⟩, 12) := ⟨⟨by decide +kernel, by decide +kernel⟩, List.mem_of_getElem? (i := 12) (by decide +kernel), List.mem_of_getElem? (i := 438) (by decide +kernel), List.mem_of_getElem? (i := 439) (by decide +kernel)⟩
theorem lw_p6 : lw_okq (⟨"LateChecks", "staleOf", "(LLateChecks$Deal;)I"⟩, 12) := ⟨⟨by decide +kernel, by decide +kernel⟩, List.mem_of_getElem? (i := 12) (by decide +kernel), List.mem_of_getElem? (i := 442) (by decide +kernel), List.mem_of_getElem? (i := 443) (by decide +kernel)⟩
theorem lw_p7 : lw_okq (⟨"LateChecks", "crossedOf", "(LLateChecks$Deal;)I"⟩, 12) := ⟨⟨by decide +kernel, by decide +kernel⟩, List.mem_of_getElem? (i := 12) (by decide +kernel), List.mem_of_getElem? (i := 446) (by decide +kernel), List.mem_of_getElem? (i := 447) (by decide +kernel)⟩
theorem lw_p8 : lw_okq (⟨"LateChecks", "mustYield", "(LLateChecks$Deal;)Z"⟩, 12) := ⟨⟨by decide +kernel, by decide +kernel⟩, List.mem_of_getElem? (i := 12) (by decide +kernel), List.mem_of_getElem? (i := 450) (by decide +kernel), List.mem_of_getElem? (i := 451) (by decide +kernel)⟩
theorem lw_p9 : lw_okq (⟨"LateChecks", "rivalsOf", "(LLateChecks$Deal;)I"⟩, 12) := ⟨⟨by decide +kernel, by decide +kernel⟩, List.mem_of_getElem? (i := 12) (by decide +kernel), List.mem_of_getElem? (i := 454) (by decide +kernel), List.mem_of_getElem? (i := 455) (by decide +kernel)⟩
theorem lw_p10 : lw_okq (⟨"LateChecks", "goesFirst", "(LLateChecks$Deal;LLateChecks$Deal;)Z"⟩, 12) := ⟨⟨by decide +kernel, by decide +kernel⟩, List.mem_of_getElem? (i := 12) (by decide +kernel), List.mem_of_getElem? (i := 458) (by decide +kernel), List.mem_of_getElem? (i := 459) (by decide +kernel)⟩
theorem lw_p11 : lw_okq (⟨"LateChecks", "isStubborn", "(LLateChecks$Deal;)Z"⟩, 12) := ⟨⟨by decide +kernel, by decide +kernel⟩, List.mem_of_getElem? (i := 12) (by decide +kernel), List.mem_of_getElem? (i := 462) (by decide +kernel), List.mem_of_getElem? (i := 463) (by decide +kernel)⟩
theorem lw_p12 : lw_okq (⟨"LateChecks", "lose", "(LLateChecks$Deal;I)I"⟩, 12) := ⟨⟨by decide +kernel, by decide +kernel⟩, List.mem_of_getElem? (i := 12) (by decide +kernel), List.mem_of_getElem? (i := 469) (by decide +kernel), List.mem_of_getElem? (i := 470) (by decide +kernel)⟩
theorem lw_p13 : lw_okq (⟨"LateChecks", "doomAll", "(I)V"⟩, 12) := ⟨⟨by decide +kernel, by decide +kernel⟩, List.mem_of_getElem? (i := 12) (by decide +kernel), List.mem_of_getElem? (i := 473) (by decide +kernel), List.mem_of_getElem? (i := 474) (by decide +kernel)⟩
theorem lw_p14 : lw_okq (⟨"LateChecks", "keep", "(LLateChecks$Deal;I)I"⟩, 12) := ⟨⟨by decide +kernel, by decide +kernel⟩, List.mem_of_getElem? (i := 12) (by decide +kernel), List.mem_of_getElem? (i := 477) (by decide +kernel), List.mem_of_getElem? (i := 478) (by decide +kernel)⟩
theorem lw_p15 : lw_okq (⟨"LateChecks", "firstWithoutVote", "(I)I"⟩, 12) := ⟨⟨by decide +kernel, by decide +kernel⟩, List.mem_of_getElem? (i := 12) (by decide +kernel), List.mem_of_getElem? (i := 505) (by decide +kernel), List.mem_of_getElem? (i := 506) (by decide +kernel)⟩
def lw_privs_1 : List (MethodName × Nat) := [(⟨"LateChecks", "startAnew", "()V"⟩, 12), (⟨"LateChecks", "doClause", "(I)V"⟩, 12), (⟨"LateChecks", "howMany", "(I)I"⟩, 12), (⟨"LateChecks", "nextEntry", "()LLateChecks$Entry;"⟩, 12), (⟨"LateChecks", "change", "(II)V"⟩, 12), (⟨"LateChecks", "foretell", "(LLateChecks$Deal;I)I"⟩, 12), (⟨"LateChecks", "staleOf", "(LLateChecks$Deal;)I"⟩, 12), (⟨"LateChecks", "crossedOf", "(LLateChecks$Deal;)I"⟩, 12), (⟨"LateChecks", "mustYield", "(LLateChecks$Deal;)Z"⟩, 12), (⟨"LateChecks", "rivalsOf", "(LLateChecks$Deal;)I"⟩, 12), (⟨"LateChecks", "goesFirst", "(LLateChecks$Deal;LLateChecks$Deal;)Z"⟩, 12), (⟨"LateChecks", "isStubborn", "(LLateChecks$Deal;)Z"⟩, 12), (⟨"LateChecks", "lose", "(LLateChecks$Deal;I)I"⟩, 12), (⟨"LateChecks", "doomAll", "(I)V"⟩, 12), (⟨"LateChecks", "keep", "(LLateChecks$Deal;I)I"⟩, 12), (⟨"LateChecks", "firstWithoutVote", "(I)I"⟩, 12)]
theorem lw_r1 : ∀ q ∈ lw_privs_1, lw_okq q := List.forall_mem_cons.mpr ⟨lw_p0, List.forall_mem_cons.mpr ⟨lw_p1, List.forall_mem_cons.mpr ⟨lw_p2, List.forall_mem_cons.mpr ⟨lw_p3, List.forall_mem_cons.mpr ⟨lw_p4, List.forall_mem_cons.mpr ⟨lw_p5, List.forall_mem_cons.mpr ⟨lw_p6, List.forall_mem_cons.mpr ⟨lw_p7, List.forall_mem_cons.mpr ⟨lw_p8, List.forall_mem_cons.mpr ⟨lw_p9, List.forall_mem_cons.mpr ⟨lw_p10, List.forall_mem_cons.mpr ⟨lw_p11, List.forall_mem_cons.mpr ⟨lw_p12, List.forall_mem_cons.mpr ⟨lw_p13, List.forall_mem_cons.mpr ⟨lw_p14, List.forall_mem_cons.mpr ⟨lw_p15, fun _ h => absurd h List.not_mem_nil⟩⟩⟩⟩⟩⟩⟩⟩⟩⟩⟩⟩⟩⟩⟩⟩
theorem lw_p16 : lw_okq (⟨"LateChecks", "sentAt", "(I)I"⟩, 12) := ⟨⟨by decide +kernel, by decide +kernel⟩, List.mem_of_getElem? (i := 12) (by decide +kernel), List.mem_of_getElem? (i := 509) (by decide +kernel), List.mem_of_getElem? (i := 510) (by decide +kernel)⟩
theorem lw_p17 : lw_okq (⟨"LateChecks", "sentBefore", "(LLateChecks$Deal;)I"⟩, 12) := ⟨⟨by decide +kernel, by decide +kernel⟩, List.mem_of_getElem? (i := 12) (by decide +kernel), List.mem_of_getElem? (i := 513) (by decide +kernel), List.mem_of_getElem? (i := 514) (by decide +kernel)⟩
theorem lw_p18 : lw_okq (⟨"LateChecks", "opinion", "(ILLateChecks$Deal;)I"⟩, 12) := ⟨⟨by decide +kernel, by decide +kernel⟩, List.mem_of_getElem? (i := 12) (by decide +kernel), List.mem_of_getElem? (i := 517) (by decide +kernel), List.mem_of_getElem? (i := 518) (by decide +kernel)⟩
theorem lw_p19 : lw_okq (⟨"LateChecks", "promisedBefore", "(ILLateChecks$Deal;)I"⟩, 12) := ⟨⟨by decide +kernel, by decide +kernel⟩, List.mem_of_getElem? (i := 12) (by decide +kernel), List.mem_of_getElem? (i := 521) (by decide +kernel), List.mem_of_getElem? (i := 522) (by decide +kernel)⟩
theorem lw_p20 : lw_okq (⟨"LateChecks", "entryOf", "(I)LLateChecks$Entry;"⟩, 12) := ⟨⟨by decide +kernel, by decide +kernel⟩, List.mem_of_getElem? (i := 12) (by decide +kernel), List.mem_of_getElem? (i := 560) (by decide +kernel), List.mem_of_getElem? (i := 561) (by decide +kernel)⟩
theorem lw_p21 : lw_okq (⟨"LateChecks", "allValues", "()I"⟩, 12) := ⟨⟨by decide +kernel, by decide +kernel⟩, List.mem_of_getElem? (i := 12) (by decide +kernel), List.mem_of_getElem? (i := 581) (by decide +kernel), List.mem_of_getElem? (i := 582) (by decide +kernel)⟩
theorem lw_p22 : lw_okq (⟨"LateChecksModel", "readsAll", "(Z)Z"⟩, 30) := ⟨⟨by decide +kernel, by decide +kernel⟩, List.mem_of_getElem? (i := 585) (by decide +kernel), List.mem_of_getElem? (i := 699) (by decide +kernel), List.mem_of_getElem? (i := 700) (by decide +kernel)⟩
theorem lw_p23 : lw_okq (⟨"LateChecksModel", "next", "()V"⟩, 30) := ⟨⟨by decide +kernel, by decide +kernel⟩, List.mem_of_getElem? (i := 585) (by decide +kernel), List.mem_of_getElem? (i := 703) (by decide +kernel), List.mem_of_getElem? (i := 704) (by decide +kernel)⟩
theorem lw_p24 : lw_okq (⟨"LateChecksModel", "readsClause", "()Z"⟩, 30) := ⟨⟨by decide +kernel, by decide +kernel⟩, List.mem_of_getElem? (i := 585) (by decide +kernel), List.mem_of_getElem? (i := 717) (by decide +kernel), List.mem_of_getElem? (i := 718) (by decide +kernel)⟩
theorem lw_p25 : lw_okq (⟨"LateChecksModel", "wordHere", "()I"⟩, 30) := ⟨⟨by decide +kernel, by decide +kernel⟩, List.mem_of_getElem? (i := 585) (by decide +kernel), List.mem_of_getElem? (i := 721) (by decide +kernel), List.mem_of_getElem? (i := 722) (by decide +kernel)⟩
theorem lw_p26 : lw_okq (⟨"LateChecksModel", "readsRest", "(I)Z"⟩, 30) := ⟨⟨by decide +kernel, by decide +kernel⟩, List.mem_of_getElem? (i := 585) (by decide +kernel), List.mem_of_getElem? (i := 725) (by decide +kernel), List.mem_of_getElem? (i := 726) (by decide +kernel)⟩
theorem lw_p27 : lw_okq (⟨"LateChecksModel", "reads", "(III)Z"⟩, 30) := ⟨⟨by decide +kernel, by decide +kernel⟩, List.mem_of_getElem? (i := 585) (by decide +kernel), List.mem_of_getElem? (i := 729) (by decide +kernel), List.mem_of_getElem? (i := 730) (by decide +kernel)⟩
theorem lw_p28 : lw_okq (⟨"LateChecksModel", "does", "(I)V"⟩, 30) := ⟨⟨by decide +kernel, by decide +kernel⟩, List.mem_of_getElem? (i := 585) (by decide +kernel), List.mem_of_getElem? (i := 733) (by decide +kernel), List.mem_of_getElem? (i := 734) (by decide +kernel)⟩
theorem lw_p29 : lw_okq (⟨"LateChecksModel", "allAnew", "()V"⟩, 30) := ⟨⟨by decide +kernel, by decide +kernel⟩, List.mem_of_getElem? (i := 585) (by decide +kernel), List.mem_of_getElem? (i := 737) (by decide +kernel), List.mem_of_getElem? (i := 738) (by decide +kernel)⟩
theorem lw_p30 : lw_okq (⟨"LateChecksModel", "frees", "(IZ)V"⟩, 30) := ⟨⟨by decide +kernel, by decide +kernel⟩, List.mem_of_getElem? (i := 585) (by decide +kernel), List.mem_of_getElem? (i := 741) (by decide +kernel), List.mem_of_getElem? (i := 742) (by decide +kernel)⟩
theorem lw_p31 : lw_okq (⟨"LateChecksModel", "inState", "(I)I"⟩, 30) := ⟨⟨by decide +kernel, by decide +kernel⟩, List.mem_of_getElem? (i := 585) (by decide +kernel), List.mem_of_getElem? (i := 754) (by decide +kernel), List.mem_of_getElem? (i := 755) (by decide +kernel)⟩
def lw_privs_2 : List (MethodName × Nat) := [(⟨"LateChecks", "sentAt", "(I)I"⟩, 12), (⟨"LateChecks", "sentBefore", "(LLateChecks$Deal;)I"⟩, 12), (⟨"LateChecks", "opinion", "(ILLateChecks$Deal;)I"⟩, 12), (⟨"LateChecks", "promisedBefore", "(ILLateChecks$Deal;)I"⟩, 12), (⟨"LateChecks", "entryOf", "(I)LLateChecks$Entry;"⟩, 12), (⟨"LateChecks", "allValues", "()I"⟩, 12), (⟨"LateChecksModel", "readsAll", "(Z)Z"⟩, 30), (⟨"LateChecksModel", "next", "()V"⟩, 30), (⟨"LateChecksModel", "readsClause", "()Z"⟩, 30), (⟨"LateChecksModel", "wordHere", "()I"⟩, 30), (⟨"LateChecksModel", "readsRest", "(I)Z"⟩, 30), (⟨"LateChecksModel", "reads", "(III)Z"⟩, 30), (⟨"LateChecksModel", "does", "(I)V"⟩, 30), (⟨"LateChecksModel", "allAnew", "()V"⟩, 30), (⟨"LateChecksModel", "frees", "(IZ)V"⟩, 30), (⟨"LateChecksModel", "inState", "(I)I"⟩, 30)]
theorem lw_r2 : ∀ q ∈ lw_privs_2, lw_okq q := List.forall_mem_cons.mpr ⟨lw_p16, List.forall_mem_cons.mpr ⟨lw_p17, List.forall_mem_cons.mpr ⟨lw_p18, List.forall_mem_cons.mpr ⟨lw_p19, List.forall_mem_cons.mpr ⟨lw_p20, List.forall_mem_cons.mpr ⟨lw_p21, List.forall_mem_cons.mpr ⟨lw_p22, List.forall_mem_cons.mpr ⟨lw_p23, List.forall_mem_cons.mpr ⟨lw_p24, List.forall_mem_cons.mpr ⟨lw_p25, List.forall_mem_cons.mpr ⟨lw_p26, List.forall_mem_cons.mpr ⟨lw_p27, List.forall_mem_cons.mpr ⟨lw_p28, List.forall_mem_cons.mpr ⟨lw_p29, List.forall_mem_cons.mpr ⟨lw_p30, List.forall_mem_cons.mpr ⟨lw_p31, fun _ h => absurd h List.not_mem_nil⟩⟩⟩⟩⟩⟩⟩⟩⟩⟩⟩⟩⟩⟩⟩⟩
theorem lw_p32 : lw_okq (⟨"LateChecksModel", "logs", "(II)I"⟩, 30) := ⟨⟨by decide +kernel, by decide +kernel⟩, List.mem_of_getElem? (i := 585) (by decide +kernel), List.mem_of_getElem? (i := 758) (by decide +kernel), List.mem_of_getElem? (i := 759) (by decide +kernel)⟩
theorem lw_p33 : lw_okq (⟨"LateChecksModel", "puts", "(II)V"⟩, 30) := ⟨⟨by decide +kernel, by decide +kernel⟩, List.mem_of_getElem? (i := 585) (by decide +kernel), List.mem_of_getElem? (i := 765) (by decide +kernel), List.mem_of_getElem? (i := 766) (by decide +kernel)⟩
theorem lw_p34 : lw_okq (⟨"LateChecksModel", "opens", "(I)V"⟩, 30) := ⟨⟨by decide +kernel, by decide +kernel⟩, List.mem_of_getElem? (i := 585) (by decide +kernel), List.mem_of_getElem? (i := 782) (by decide +kernel), List.mem_of_getElem? (i := 783) (by decide +kernel)⟩
theorem lw_p35 : lw_okq (⟨"LateChecksModel", "refused", "(II)I"⟩, 30) := ⟨⟨by decide +kernel, by decide +kernel⟩, List.mem_of_getElem? (i := 585) (by decide +kernel), List.mem_of_getElem? (i := 822) (by decide +kernel), List.mem_of_getElem? (i := 823) (by decide +kernel)⟩
theorem lw_p36 : lw_okq (⟨"LateChecksModel", "checks", "(II)I"⟩, 30) := ⟨⟨by decide +kernel, by decide +kernel⟩, List.mem_of_getElem? (i := 585) (by decide +kernel), List.mem_of_getElem? (i := 827) (by decide +kernel), List.mem_of_getElem? (i := 828) (by decide +kernel)⟩
theorem lw_p37 : lw_okq (⟨"LateChecksModel", "stale", "(I)I"⟩, 30) := ⟨⟨by decide +kernel, by decide +kernel⟩, List.mem_of_getElem? (i := 585) (by decide +kernel), List.mem_of_getElem? (i := 831) (by decide +kernel), List.mem_of_getElem? (i := 832) (by decide +kernel)⟩
theorem lw_p38 : lw_okq (⟨"LateChecksModel", "crossed", "(I)I"⟩, 30) := ⟨⟨by decide +kernel, by decide +kernel⟩, List.mem_of_getElem? (i := 585) (by decide +kernel), List.mem_of_getElem? (i := 835) (by decide +kernel), List.mem_of_getElem? (i := 836) (by decide +kernel)⟩
theorem lw_p39 : lw_okq (⟨"LateChecksModel", "rivals", "(I)I"⟩, 30) := ⟨⟨by decide +kernel, by decide +kernel⟩, List.mem_of_getElem? (i := 585) (by decide +kernel), List.mem_of_getElem? (i := 839) (by decide +kernel), List.mem_of_getElem? (i := 840) (by decide +kernel)⟩
theorem lw_p40 : lw_okq (⟨"LateChecksModel", "isWeaker", "(II)Z"⟩, 30) := ⟨⟨by decide +kernel, by decide +kernel⟩, List.mem_of_getElem? (i := 585) (by decide +kernel), List.mem_of_getElem? (i := 843) (by decide +kernel), List.mem_of_getElem? (i := 844) (by decide +kernel)⟩
theorem lw_p41 : lw_okq (⟨"LateChecksModel", "isStubborn", "(I)Z"⟩, 30) := ⟨⟨by decide +kernel, by decide +kernel⟩, List.mem_of_getElem? (i := 585) (by decide +kernel), List.mem_of_getElem? (i := 847) (by decide +kernel), List.mem_of_getElem? (i := 848) (by decide +kernel)⟩
theorem lw_p42 : lw_okq (⟨"LateChecksModel", "fails", "(II)V"⟩, 30) := ⟨⟨by decide +kernel, by decide +kernel⟩, List.mem_of_getElem? (i := 585) (by decide +kernel), List.mem_of_getElem? (i := 851) (by decide +kernel), List.mem_of_getElem? (i := 852) (by decide +kernel)⟩
theorem lw_p43 : lw_okq (⟨"LateChecksModel", "commits", "(II)I"⟩, 30) := ⟨⟨by decide +kernel, by decide +kernel⟩, List.mem_of_getElem? (i := 585) (by decide +kernel), List.mem_of_getElem? (i := 855) (by decide +kernel), List.mem_of_getElem? (i := 856) (by decide +kernel)⟩
theorem lw_p44 : lw_okq (⟨"LateChecksModel", "firstSent", "(I)I"⟩, 30) := ⟨⟨by decide +kernel, by decide +kernel⟩, List.mem_of_getElem? (i := 585) (by decide +kernel), List.mem_of_getElem? (i := 876) (by decide +kernel), List.mem_of_getElem? (i := 877) (by decide +kernel)⟩
theorem lw_p45 : lw_okq (⟨"LateChecksModel", "isCommit", "(I)Z"⟩, 30) := ⟨⟨by decide +kernel, by decide +kernel⟩, List.mem_of_getElem? (i := 585) (by decide +kernel), List.mem_of_getElem? (i := 904) (by decide +kernel), List.mem_of_getElem? (i := 905) (by decide +kernel)⟩
theorem lw_p46 : lw_okq (⟨"LateChecksModel", "allValues", "()I"⟩, 30) := ⟨⟨by decide +kernel, by decide +kernel⟩, List.mem_of_getElem? (i := 585) (by decide +kernel), List.mem_of_getElem? (i := 920) (by decide +kernel), List.mem_of_getElem? (i := 921) (by decide +kernel)⟩
def lw_privs_3 : List (MethodName × Nat) := [(⟨"LateChecksModel", "logs", "(II)I"⟩, 30), (⟨"LateChecksModel", "puts", "(II)V"⟩, 30), (⟨"LateChecksModel", "opens", "(I)V"⟩, 30), (⟨"LateChecksModel", "refused", "(II)I"⟩, 30), (⟨"LateChecksModel", "checks", "(II)I"⟩, 30), (⟨"LateChecksModel", "stale", "(I)I"⟩, 30), (⟨"LateChecksModel", "crossed", "(I)I"⟩, 30), (⟨"LateChecksModel", "rivals", "(I)I"⟩, 30), (⟨"LateChecksModel", "isWeaker", "(II)Z"⟩, 30), (⟨"LateChecksModel", "isStubborn", "(I)Z"⟩, 30), (⟨"LateChecksModel", "fails", "(II)V"⟩, 30), (⟨"LateChecksModel", "commits", "(II)I"⟩, 30), (⟨"LateChecksModel", "firstSent", "(I)I"⟩, 30), (⟨"LateChecksModel", "isCommit", "(I)Z"⟩, 30), (⟨"LateChecksModel", "allValues", "()I"⟩, 30)]
theorem lw_r3 : ∀ q ∈ lw_privs_3, lw_okq q := List.forall_mem_cons.mpr ⟨lw_p32, List.forall_mem_cons.mpr ⟨lw_p33, List.forall_mem_cons.mpr ⟨lw_p34, List.forall_mem_cons.mpr ⟨lw_p35, List.forall_mem_cons.mpr ⟨lw_p36, List.forall_mem_cons.mpr ⟨lw_p37, List.forall_mem_cons.mpr ⟨lw_p38, List.forall_mem_cons.mpr ⟨lw_p39, List.forall_mem_cons.mpr ⟨lw_p40, List.forall_mem_cons.mpr ⟨lw_p41, List.forall_mem_cons.mpr ⟨lw_p42, List.forall_mem_cons.mpr ⟨lw_p43, List.forall_mem_cons.mpr ⟨lw_p44, List.forall_mem_cons.mpr ⟨lw_p45, List.forall_mem_cons.mpr ⟨lw_p46, fun _ h => absurd h List.not_mem_nil⟩⟩⟩⟩⟩⟩⟩⟩⟩⟩⟩⟩⟩⟩⟩
def lw_privs : List (MethodName × Nat) := lw_privs_1 ++ (lw_privs_2 ++ (lw_privs_3))
def lw_tbl : List Cond := k2_sels lw_privs ++ tables_1
theorem lw_privs_ok : ∀ q ∈ lw_privs, lw_okq q := by
  show ∀ q ∈ lw_privs_1 ++ (lw_privs_2 ++ (lw_privs_3)), lw_okq q
  exact List.forall_mem_append.mpr ⟨lw_r1, List.forall_mem_append.mpr ⟨lw_r2, lw_r3⟩⟩
def RX0 : String := "LateChecks$Deal"
def TX0 : u_T := fun k => match k with
  | 0 => ("LateChecks$Deal", "number", "I", true)
  | 1 => ("LateChecks$Deal", "state", "I", false)
  | 2 => ("LateChecks$Deal", "start", "I", false)
  | 3 => ("LateChecks$Deal", "age", "I", false)
  | 4 => ("LateChecks$Deal", "tries", "I", false)
  | 5 => ("LateChecks$Deal", "reads", "I", false)
  | 6 => ("LateChecks$Deal", "writes", "I", false)
  | 7 => ("LateChecks$Deal", "ticket", "I", false)
  | 8 => ("LateChecks$Deal", "lost", "Z", false)
  | 9 => ("LateChecks$Deal", "notedValues", "[I", true)
  | 10 => ("LateChecks$Deal", "notedStamps", "[I", true)
  | 11 => ("LateChecks$Deal", "writtenValues", "[I", true)
  | _ => ("LateChecks$Deal", "votes", "[I", true)
def tyX0 : Nat → FieldType := fun k => match k with
  | 0 => .int
  | 1 => .int
  | 2 => .int
  | 3 => .int
  | 4 => .int
  | 5 => .int
  | 6 => .int
  | 7 => .int
  | 8 => .boolean
  | 9 => .array .int
  | 10 => .array .int
  | 11 => .array .int
  | _ => .array .int
abbrev wsX00 : List Cond := u_ws RX0 TX0 13
theorem nmX0 : ∀ a, a < 13 → ∀ b, b < 13 → a ≠ b → (TX0 a).2.1 ≠ (TX0 b).2.1 := by decide +kernel
theorem tyX0_ok : ∀ k, k < 13 → parseFieldDescriptor (TX0 k).2.2.1 = some (tyX0 k) := by decide +kernel
abbrev cX0_init : ByteArray := prog_2_method_1_code
def yX0_init : MethodName := ⟨RX0, "<init>", "(I)V"⟩
abbrev cX0_becomeFree : ByteArray := prog_2_method_2_code
def yX0_becomeFree : MethodName := ⟨RX0, "becomeFree", "(Z)V"⟩
abbrev cX0_becomeOpen : ByteArray := prog_2_method_3_code
def yX0_becomeOpen : MethodName := ⟨RX0, "becomeOpen", "(III)V"⟩
abbrev cX0_becomeSent : ByteArray := prog_2_method_4_code
def yX0_becomeSent : MethodName := ⟨RX0, "becomeSent", "(I)V"⟩
abbrev cX0_note : ByteArray := prog_2_method_5_code
def yX0_note : MethodName := ⟨RX0, "note", "(III)V"⟩
abbrev cX0_hasAllVotes : ByteArray := prog_2_method_6_code
def yX0_hasAllVotes : MethodName := ⟨RX0, "hasAllVotes", "()Z"⟩
abbrev cX0_hasOnlyYes : ByteArray := prog_2_method_7_code
def yX0_hasOnlyYes : MethodName := ⟨RX0, "hasOnlyYes", "()Z"⟩
def RX1 : String := "LateChecks$Entry"
def TX1 : u_T := fun k => match k with
  | 0 => ("LateChecks$Entry", "dealNumber", "I", false)
  | 1 => ("LateChecks$Entry", "age", "I", false)
  | 2 => ("LateChecks$Entry", "tries", "I", false)
  | 3 => ("LateChecks$Entry", "reads", "I", false)
  | 4 => ("LateChecks$Entry", "writes", "I", false)
  | 5 => ("LateChecks$Entry", "way", "I", false)
  | 6 => ("LateChecks$Entry", "notedStamps", "[I", true)
  | _ => ("LateChecks$Entry", "writtenValues", "[I", true)
def tyX1 : Nat → FieldType := fun k => match k with
  | 0 => .int
  | 1 => .int
  | 2 => .int
  | 3 => .int
  | 4 => .int
  | 5 => .int
  | 6 => .array .int
  | _ => .array .int
abbrev wsX10 : List Cond := u_ws RX1 TX1 8
theorem nmX1 : ∀ a, a < 8 → ∀ b, b < 8 → a ≠ b → (TX1 a).2.1 ≠ (TX1 b).2.1 := by decide +kernel
theorem tyX1_ok : ∀ k, k < 8 → parseFieldDescriptor (TX1 k).2.2.1 = some (tyX1 k) := by decide +kernel
abbrev cX1_init : ByteArray := prog_3_method_1_code
def yX1_init : MethodName := ⟨RX1, "<init>", "()V"⟩
abbrev cX1_keepDeal : ByteArray := prog_3_method_2_code
def yX1_keepDeal : MethodName := ⟨RX1, "keepDeal", "(LLateChecks$Deal;I)V"⟩
abbrev cX1_keepWrite : ByteArray := prog_3_method_3_code
def yX1_keepWrite : MethodName := ⟨RX1, "keepWrite", "(II)V"⟩
abbrev cX1_hasNoted : ByteArray := prog_3_method_4_code
def yX1_hasNoted : MethodName := ⟨RX1, "hasNoted", "(I)Z"⟩
def RX2 : String := "LateChecks$Text"
def TX2 : u_T := fun k => match k with
  | 0 => ("LateChecks$Text", "letters", "[I", true)
  | 1 => ("LateChecks$Text", "length", "I", false)
  | 2 => ("LateChecks$Text", "kinds", "[I", true)
  | 3 => ("LateChecks$Text", "numbers", "[I", true)
  | 4 => ("LateChecks$Text", "clauses", "I", false)
  | 5 => ("LateChecks$Text", "tokenStart", "I", false)
  | _ => ("LateChecks$Text", "tokenEnd", "I", false)
def tyX2 : Nat → FieldType := fun k => match k with
  | 0 => .array .int
  | 1 => .int
  | 2 => .array .int
  | 3 => .array .int
  | 4 => .int
  | 5 => .int
  | _ => .int
abbrev wsX20 : List Cond := u_ws RX2 TX2 7
theorem nmX2 : ∀ a, a < 7 → ∀ b, b < 7 → a ≠ b → (TX2 a).2.1 ≠ (TX2 b).2.1 := by decide +kernel
theorem tyX2_ok : ∀ k, k < 7 → parseFieldDescriptor (TX2 k).2.2.1 = some (tyX2 k) := by decide +kernel
abbrev cX2_init : ByteArray := prog_4_method_1_code
def yX2_init : MethodName := ⟨RX2, "<init>", "()V"⟩
abbrev cX2_append : ByteArray := prog_4_method_2_code
def yX2_append : MethodName := ⟨RX2, "append", "(I)V"⟩
abbrev cX2_kindOf : ByteArray := prog_4_method_3_code
def yX2_kindOf : MethodName := ⟨RX2, "kindOf", "(I)I"⟩
abbrev cX2_numberOf : ByteArray := prog_4_method_4_code
def yX2_numberOf : MethodName := ⟨RX2, "numberOf", "(II)I"⟩
abbrev cX2_parse : ByteArray := prog_4_method_5_code
def yX2_parse : MethodName := ⟨RX2, "parse", "()I"⟩
abbrev cX2_takeClause : ByteArray := prog_4_method_6_code
def yX2_takeClause : MethodName := ⟨RX2, "takeClause", "(I)Z"⟩
abbrev cX2_kindOfToken : ByteArray := prog_4_method_7_code
def yX2_kindOfToken : MethodName := ⟨RX2, "kindOfToken", "()I"⟩
abbrev cX2_tokenIs : ByteArray := prog_4_method_8_code
def yX2_tokenIs : MethodName := ⟨RX2, "tokenIs", "(Ljava/lang/String;)Z"⟩
abbrev cX2_numberOfToken : ByteArray := prog_4_method_9_code
def yX2_numberOfToken : MethodName := ⟨RX2, "numberOfToken", "()I"⟩
abbrev cX2_nextToken : ByteArray := prog_4_method_10_code
def yX2_nextToken : MethodName := ⟨RX2, "nextToken", "()V"⟩
abbrev cX2_letterAt : ByteArray := prog_4_method_11_code
def yX2_letterAt : MethodName := ⟨RX2, "letterAt", "(I)I"⟩
abbrev cX2_areOfOneRow : ByteArray := prog_4_method_12_code
def yX2_areOfOneRow : MethodName := ⟨RX2, "areOfOneRow", "(II)Z"⟩
abbrev cX2_isDigit : ByteArray := prog_4_method_13_code
def yX2_isDigit : MethodName := ⟨RX2, "isDigit", "(I)Z"⟩
abbrev cX2_isSmall : ByteArray := prog_4_method_14_code
def yX2_isSmall : MethodName := ⟨RX2, "isSmall", "(I)Z"⟩
abbrev cX2_wordOf : ByteArray := prog_4_method_15_code
def yX2_wordOf : MethodName := ⟨RX2, "wordOf", "(I)Ljava/lang/String;"⟩
abbrev cX2_formOf : ByteArray := prog_4_method_16_code
def yX2_formOf : MethodName := ⟨RX2, "formOf", "(I)Ljava/lang/String;"⟩
abbrev cX2_leastOf : ByteArray := prog_4_method_17_code
def yX2_leastOf : MethodName := ⟨RX2, "leastOf", "(C)I"⟩
abbrev cX2_mostOf : ByteArray := prog_4_method_18_code
def yX2_mostOf : MethodName := ⟨RX2, "mostOf", "(C)I"⟩
def RX3 : String := "LateChecks"
def TX3 : u_T := fun k => match k with
  | 0 => ("LateChecks", "text", "LLateChecks$Text;", true)
  | 1 => ("LateChecks", "values", "[I", true)
  | 2 => ("LateChecks", "stamps", "[I", true)
  | 3 => ("LateChecks", "deals", "[LLateChecks$Deal;", true)
  | 4 => ("LateChecks", "entries", "[LLateChecks$Entry;", true)
  | 5 => ("LateChecks", "commits", "I", false)
  | 6 => ("LateChecks", "triesLimit", "I", false)
  | 7 => ("LateChecks", "begun", "I", false)
  | 8 => ("LateChecks", "tickets", "I", false)
  | 9 => ("LateChecks", "failed", "I", false)
  | 10 => ("LateChecks", "failedInVain", "I", false)
  | _ => ("LateChecks", "failedByYielding", "I", false)
def tyX3 : Nat → FieldType := fun k => match k with
  | 0 => .object "LateChecks$Text"
  | 1 => .array .int
  | 2 => .array .int
  | 3 => .array (.object "LateChecks$Deal")
  | 4 => .array (.object "LateChecks$Entry")
  | 5 => .int
  | 6 => .int
  | 7 => .int
  | 8 => .int
  | 9 => .int
  | 10 => .int
  | _ => .int
abbrev wsX30 : List Cond := u_ws RX3 TX3 12
theorem nmX3 : ∀ a, a < 12 → ∀ b, b < 12 → a ≠ b → (TX3 a).2.1 ≠ (TX3 b).2.1 := by decide +kernel
theorem tyX3_ok : ∀ k, k < 12 → parseFieldDescriptor (TX3 k).2.2.1 = some (tyX3 k) := by decide +kernel
abbrev cX3_init : ByteArray := prog_1_method_1_code
def yX3_init : MethodName := ⟨RX3, "<init>", "()V"⟩
abbrev cX3_write : ByteArray := prog_1_method_2_code
def yX3_write : MethodName := ⟨RX3, "write", "(I)I"⟩
abbrev cX3_erase : ByteArray := prog_1_method_3_code
def yX3_erase : MethodName := ⟨RX3, "erase", "()I"⟩
abbrev cX3_fault : ByteArray := prog_1_method_4_code
def yX3_fault : MethodName := ⟨RX3, "fault", "()I"⟩
abbrev cX3_tell : ByteArray := prog_1_method_5_code
def yX3_tell : MethodName := ⟨RX3, "tell", "()I"⟩
abbrev cX3_item : ByteArray := prog_1_method_6_code
def yX3_item : MethodName := ⟨RX3, "item", "(II)I"⟩
abbrev cX3_put : ByteArray := prog_1_method_7_code
def yX3_put : MethodName := ⟨RX3, "put", "(II)I"⟩
abbrev cX3_limit : ByteArray := prog_1_method_8_code
def yX3_limit : MethodName := ⟨RX3, "limit", "(I)I"⟩
abbrev cX3_begin : ByteArray := prog_1_method_9_code
def yX3_begin : MethodName := ⟨RX3, "begin", "(I)I"⟩
abbrev cX3_retry : ByteArray := prog_1_method_10_code
def yX3_retry : MethodName := ⟨RX3, "retry", "(I)I"⟩
abbrev cX3_read : ByteArray := prog_1_method_11_code
def yX3_read : MethodName := ⟨RX3, "read", "(II)I"⟩
abbrev cX3_lay : ByteArray := prog_1_method_12_code
def yX3_lay : MethodName := ⟨RX3, "lay", "(III)I"⟩
abbrev cX3_commit : ByteArray := prog_1_method_13_code
def yX3_commit : MethodName := ⟨RX3, "commit", "(II)I"⟩
abbrev cX3_peek : ByteArray := prog_1_method_14_code
def yX3_peek : MethodName := ⟨RX3, "peek", "(II)I"⟩
abbrev cX3_abort : ByteArray := prog_1_method_15_code
def yX3_abort : MethodName := ⟨RX3, "abort", "(I)I"⟩
abbrev cX3_sweep : ByteArray := prog_1_method_16_code
def yX3_sweep : MethodName := ⟨RX3, "sweep", "()I"⟩
abbrev cX3_send : ByteArray := prog_1_method_17_code
def yX3_send : MethodName := ⟨RX3, "send", "(I)I"⟩
abbrev cX3_vote : ByteArray := prog_1_method_18_code
def yX3_vote : MethodName := ⟨RX3, "vote", "(I)I"⟩
abbrev cX3_settle : ByteArray := prog_1_method_19_code
def yX3_settle : MethodName := ⟨RX3, "settle", "()I"⟩
abbrev cX3_deal : ByteArray := prog_1_method_20_code
def yX3_deal : MethodName := ⟨RX3, "deal", "(II)I"⟩
abbrev cX3_noted : ByteArray := prog_1_method_21_code
def yX3_noted : MethodName := ⟨RX3, "noted", "(III)I"⟩
abbrev cX3_sent : ByteArray := prog_1_method_22_code
def yX3_sent : MethodName := ⟨RX3, "sent", "(I)I"⟩
abbrev cX3_ballot : ByteArray := prog_1_method_23_code
def yX3_ballot : MethodName := ⟨RX3, "ballot", "(II)I"⟩
abbrev cX3_log : ByteArray := prog_1_method_24_code
def yX3_log : MethodName := ⟨RX3, "log", "(II)I"⟩
abbrev cX3_logged : ByteArray := prog_1_method_25_code
def yX3_logged : MethodName := ⟨RX3, "logged", "(III)I"⟩
abbrev cX3_behind : ByteArray := prog_1_method_26_code
def yX3_behind : MethodName := ⟨RX3, "behind", "(II)I"⟩
abbrev cX3_count : ByteArray := prog_1_method_27_code
def yX3_count : MethodName := ⟨RX3, "count", "(I)I"⟩
abbrev cX3_startAnew : ByteArray := prog_1_method_28_code
def yX3_startAnew : MethodName := ⟨RX3, "startAnew", "()V"⟩
abbrev cX3_doClause : ByteArray := prog_1_method_29_code
def yX3_doClause : MethodName := ⟨RX3, "doClause", "(I)V"⟩
abbrev cX3_isItem : ByteArray := prog_1_method_30_code
def yX3_isItem : MethodName := ⟨RX3, "isItem", "(I)Z"⟩
abbrev cX3_isDeal : ByteArray := prog_1_method_31_code
def yX3_isDeal : MethodName := ⟨RX3, "isDeal", "(I)Z"⟩
abbrev cX3_isValidator : ByteArray := prog_1_method_32_code
def yX3_isValidator : MethodName := ⟨RX3, "isValidator", "(I)Z"⟩
abbrev cX3_isValue : ByteArray := prog_1_method_33_code
def yX3_isValue : MethodName := ⟨RX3, "isValue", "(I)Z"⟩
abbrev cX3_bit : ByteArray := prog_1_method_34_code
def yX3_bit : MethodName := ⟨RX3, "bit", "(I)I"⟩
abbrev cX3_has : ByteArray := prog_1_method_35_code
def yX3_has : MethodName := ⟨RX3, "has", "(II)Z"⟩
abbrev cX3_howMany : ByteArray := prog_1_method_36_code
def yX3_howMany : MethodName := ⟨RX3, "howMany", "(I)I"⟩
abbrev cX3_allValues : ByteArray := prog_1_method_37_code
def yX3_allValues : MethodName := ⟨RX3, "allValues", "()I"⟩
abbrev cX3_isStubborn : ByteArray := prog_1_method_38_code
def yX3_isStubborn : MethodName := ⟨RX3, "isStubborn", "(LLateChecks$Deal;)Z"⟩
abbrev cX3_staleOf : ByteArray := prog_1_method_39_code
def yX3_staleOf : MethodName := ⟨RX3, "staleOf", "(LLateChecks$Deal;)I"⟩
abbrev cX3_crossedOf : ByteArray := prog_1_method_40_code
def yX3_crossedOf : MethodName := ⟨RX3, "crossedOf", "(LLateChecks$Deal;)I"⟩
abbrev cX3_rivalsOf : ByteArray := prog_1_method_41_code
def yX3_rivalsOf : MethodName := ⟨RX3, "rivalsOf", "(LLateChecks$Deal;)I"⟩
abbrev cX3_foretell : ByteArray := prog_1_method_42_code
def yX3_foretell : MethodName := ⟨RX3, "foretell", "(LLateChecks$Deal;I)I"⟩
abbrev cX3_isFailure : ByteArray := prog_1_method_43_code
def yX3_isFailure : MethodName := ⟨RX3, "isFailure", "(I)Z"⟩
abbrev cX3_mustYield : ByteArray := prog_1_method_44_code
def yX3_mustYield : MethodName := ⟨RX3, "mustYield", "(LLateChecks$Deal;)Z"⟩
abbrev cX3_goesFirst : ByteArray := prog_1_method_45_code
def yX3_goesFirst : MethodName := ⟨RX3, "goesFirst", "(LLateChecks$Deal;LLateChecks$Deal;)Z"⟩
abbrev cX3_doomAll : ByteArray := prog_1_method_46_code
def yX3_doomAll : MethodName := ⟨RX3, "doomAll", "(I)V"⟩
abbrev cX3_lose : ByteArray := prog_1_method_47_code
def yX3_lose : MethodName := ⟨RX3, "lose", "(LLateChecks$Deal;I)I"⟩
abbrev cX3_keep : ByteArray := prog_1_method_48_code
def yX3_keep : MethodName := ⟨RX3, "keep", "(LLateChecks$Deal;I)I"⟩
abbrev cX3_change : ByteArray := prog_1_method_49_code
def yX3_change : MethodName := ⟨RX3, "change", "(II)V"⟩
abbrev cX3_sentAt : ByteArray := prog_1_method_50_code
def yX3_sentAt : MethodName := ⟨RX3, "sentAt", "(I)I"⟩
abbrev cX3_sentBefore : ByteArray := prog_1_method_51_code
def yX3_sentBefore : MethodName := ⟨RX3, "sentBefore", "(LLateChecks$Deal;)I"⟩
abbrev cX3_firstWithoutVote : ByteArray := prog_1_method_52_code
def yX3_firstWithoutVote : MethodName := ⟨RX3, "firstWithoutVote", "(I)I"⟩
abbrev cX3_opinion : ByteArray := prog_1_method_53_code
def yX3_opinion : MethodName := ⟨RX3, "opinion", "(ILLateChecks$Deal;)I"⟩
abbrev cX3_promisedBefore : ByteArray := prog_1_method_54_code
def yX3_promisedBefore : MethodName := ⟨RX3, "promisedBefore", "(ILLateChecks$Deal;)I"⟩
abbrev cX3_itemsOf : ByteArray := prog_1_method_55_code
def yX3_itemsOf : MethodName := ⟨RX3, "itemsOf", "(I)I"⟩
abbrev cX3_entryOf : ByteArray := prog_1_method_56_code
def yX3_entryOf : MethodName := ⟨RX3, "entryOf", "(I)LLateChecks$Entry;"⟩
abbrev cX3_nextEntry : ByteArray := prog_1_method_57_code
def yX3_nextEntry : MethodName := ⟨RX3, "nextEntry", "()LLateChecks$Entry;"⟩
def RX4 : String := "LateChecksModel"
def TX4 : u_T := fun k => match k with
  | 0 => ("LateChecksModel", "values", "[I", true)
  | 1 => ("LateChecksModel", "stamps", "[I", true)
  | 2 => ("LateChecksModel", "commits", "I", false)
  | 3 => ("LateChecksModel", "log", "[I", true)
  | 4 => ("LateChecksModel", "states", "[I", true)
  | 5 => ("LateChecksModel", "starts", "[I", true)
  | 6 => ("LateChecksModel", "ages", "[I", true)
  | 7 => ("LateChecksModel", "tries", "[I", true)
  | 8 => ("LateChecksModel", "isLost", "[Z", true)
  | 9 => ("LateChecksModel", "reads", "[I", true)
  | 10 => ("LateChecksModel", "writes", "[I", true)
  | 11 => ("LateChecksModel", "notedValues", "[I", true)
  | 12 => ("LateChecksModel", "notedStamps", "[I", true)
  | 13 => ("LateChecksModel", "laid", "[I", true)
  | 14 => ("LateChecksModel", "tickets", "[I", true)
  | 15 => ("LateChecksModel", "votes", "[I", true)
  | 16 => ("LateChecksModel", "limit", "I", false)
  | 17 => ("LateChecksModel", "ticket", "I", false)
  | 18 => ("LateChecksModel", "begun", "I", false)
  | 19 => ("LateChecksModel", "failed", "I", false)
  | 20 => ("LateChecksModel", "vain", "I", false)
  | 21 => ("LateChecksModel", "yields", "I", false)
  | 22 => ("LateChecksModel", "text", "[I", true)
  | 23 => ("LateChecksModel", "length", "I", false)
  | 24 => ("LateChecksModel", "first", "I", false)
  | 25 => ("LateChecksModel", "behind", "I", false)
  | 26 => ("LateChecksModel", "clauses", "I", false)
  | 27 => ("LateChecksModel", "doing", "Z", false)
  | 28 => ("LateChecksModel", "numbers", "[I", true)
  | _ => ("LateChecksModel", "words", "[I", true)
def tyX4 : Nat → FieldType := fun k => match k with
  | 0 => .array .int
  | 1 => .array .int
  | 2 => .int
  | 3 => .array .int
  | 4 => .array .int
  | 5 => .array .int
  | 6 => .array .int
  | 7 => .array .int
  | 8 => .array .boolean
  | 9 => .array .int
  | 10 => .array .int
  | 11 => .array .int
  | 12 => .array .int
  | 13 => .array .int
  | 14 => .array .int
  | 15 => .array .int
  | 16 => .int
  | 17 => .int
  | 18 => .int
  | 19 => .int
  | 20 => .int
  | 21 => .int
  | 22 => .array .int
  | 23 => .int
  | 24 => .int
  | 25 => .int
  | 26 => .int
  | 27 => .boolean
  | 28 => .array .int
  | _ => .array .int
abbrev wsX40 : List Cond := u_ws RX4 TX4 30
theorem nmX4 : ∀ a, a < 30 → ∀ b, b < 30 → a ≠ b → (TX4 a).2.1 ≠ (TX4 b).2.1 := by decide +kernel
theorem tyX4_ok : ∀ k, k < 30 → parseFieldDescriptor (TX4 k).2.2.1 = some (tyX4 k) := by decide +kernel
abbrev cX4_init : ByteArray := prog_6_method_1_code
def yX4_init : MethodName := ⟨RX4, "<init>", "()V"⟩
abbrev cX4_in : ByteArray := prog_6_method_2_code
def yX4_in : MethodName := ⟨RX4, "in", "(JJJ)Z"⟩
abbrev cX4_isItem : ByteArray := prog_6_method_3_code
def yX4_isItem : MethodName := ⟨RX4, "isItem", "(I)Z"⟩
abbrev cX4_isDeal : ByteArray := prog_6_method_4_code
def yX4_isDeal : MethodName := ⟨RX4, "isDeal", "(I)Z"⟩
abbrev cX4_has : ByteArray := prog_6_method_5_code
def yX4_has : MethodName := ⟨RX4, "has", "(II)Z"⟩
abbrev cX4_ones : ByteArray := prog_6_method_6_code
def yX4_ones : MethodName := ⟨RX4, "ones", "(I)I"⟩
abbrev cX4_allAnew : ByteArray := prog_6_method_7_code
def yX4_allAnew : MethodName := ⟨RX4, "allAnew", "()V"⟩
abbrev cX4_frees : ByteArray := prog_6_method_8_code
def yX4_frees : MethodName := ⟨RX4, "frees", "(IZ)V"⟩
abbrev cX4_opens : ByteArray := prog_6_method_9_code
def yX4_opens : MethodName := ⟨RX4, "opens", "(I)V"⟩
abbrev cX4_inState : ByteArray := prog_6_method_10_code
def yX4_inState : MethodName := ⟨RX4, "inState", "(I)I"⟩
abbrev cX4_write : ByteArray := prog_6_method_11_code
def yX4_write : MethodName := ⟨RX4, "write", "(I)I"⟩
abbrev cX4_erase : ByteArray := prog_6_method_12_code
def yX4_erase : MethodName := ⟨RX4, "erase", "()I"⟩
abbrev cX4_isSmall : ByteArray := prog_6_method_13_code
def yX4_isSmall : MethodName := ⟨RX4, "isSmall", "(I)Z"⟩
abbrev cX4_isDigit : ByteArray := prog_6_method_14_code
def yX4_isDigit : MethodName := ⟨RX4, "isDigit", "(I)Z"⟩
abbrev cX4_next : ByteArray := prog_6_method_15_code
def yX4_next : MethodName := ⟨RX4, "next", "()V"⟩
abbrev cX4_wordHere : ByteArray := prog_6_method_16_code
def yX4_wordHere : MethodName := ⟨RX4, "wordHere", "()I"⟩
abbrev cX4_reads : ByteArray := prog_6_method_17_code
def yX4_reads : MethodName := ⟨RX4, "reads", "(III)Z"⟩
abbrev cX4_readsRest : ByteArray := prog_6_method_18_code
def yX4_readsRest : MethodName := ⟨RX4, "readsRest", "(I)Z"⟩
abbrev cX4_does : ByteArray := prog_6_method_19_code
def yX4_does : MethodName := ⟨RX4, "does", "(I)V"⟩
abbrev cX4_readsClause : ByteArray := prog_6_method_20_code
def yX4_readsClause : MethodName := ⟨RX4, "readsClause", "()Z"⟩
abbrev cX4_readsAll : ByteArray := prog_6_method_21_code
def yX4_readsAll : MethodName := ⟨RX4, "readsAll", "(Z)Z"⟩
abbrev cX4_fault : ByteArray := prog_6_method_22_code
def yX4_fault : MethodName := ⟨RX4, "fault", "()I"⟩
abbrev cX4_tell : ByteArray := prog_6_method_23_code
def yX4_tell : MethodName := ⟨RX4, "tell", "()I"⟩
abbrev cX4_item : ByteArray := prog_6_method_24_code
def yX4_item : MethodName := ⟨RX4, "item", "(II)I"⟩
abbrev cX4_logs : ByteArray := prog_6_method_25_code
def yX4_logs : MethodName := ⟨RX4, "logs", "(II)I"⟩
abbrev cX4_puts : ByteArray := prog_6_method_26_code
def yX4_puts : MethodName := ⟨RX4, "puts", "(II)V"⟩
abbrev cX4_put : ByteArray := prog_6_method_27_code
def yX4_put : MethodName := ⟨RX4, "put", "(II)I"⟩
abbrev cX4_limit : ByteArray := prog_6_method_28_code
def yX4_limit : MethodName := ⟨RX4, "limit", "(I)I"⟩
abbrev cX4_begin : ByteArray := prog_6_method_29_code
def yX4_begin : MethodName := ⟨RX4, "begin", "(I)I"⟩
abbrev cX4_retry : ByteArray := prog_6_method_30_code
def yX4_retry : MethodName := ⟨RX4, "retry", "(I)I"⟩
abbrev cX4_read : ByteArray := prog_6_method_31_code
def yX4_read : MethodName := ⟨RX4, "read", "(II)I"⟩
abbrev cX4_lay : ByteArray := prog_6_method_32_code
def yX4_lay : MethodName := ⟨RX4, "lay", "(III)I"⟩
abbrev cX4_stale : ByteArray := prog_6_method_33_code
def yX4_stale : MethodName := ⟨RX4, "stale", "(I)I"⟩
abbrev cX4_crossed : ByteArray := prog_6_method_34_code
def yX4_crossed : MethodName := ⟨RX4, "crossed", "(I)I"⟩
abbrev cX4_rivals : ByteArray := prog_6_method_35_code
def yX4_rivals : MethodName := ⟨RX4, "rivals", "(I)I"⟩
abbrev cX4_isStubborn : ByteArray := prog_6_method_36_code
def yX4_isStubborn : MethodName := ⟨RX4, "isStubborn", "(I)Z"⟩
abbrev cX4_isWeaker : ByteArray := prog_6_method_37_code
def yX4_isWeaker : MethodName := ⟨RX4, "isWeaker", "(II)Z"⟩
abbrev cX4_checks : ByteArray := prog_6_method_38_code
def yX4_checks : MethodName := ⟨RX4, "checks", "(II)I"⟩
abbrev cX4_fails : ByteArray := prog_6_method_39_code
def yX4_fails : MethodName := ⟨RX4, "fails", "(II)V"⟩
abbrev cX4_commits : ByteArray := prog_6_method_40_code
def yX4_commits : MethodName := ⟨RX4, "commits", "(II)I"⟩
abbrev cX4_refused : ByteArray := prog_6_method_41_code
def yX4_refused : MethodName := ⟨RX4, "refused", "(II)I"⟩
abbrev cX4_commit : ByteArray := prog_6_method_42_code
def yX4_commit : MethodName := ⟨RX4, "commit", "(II)I"⟩
abbrev cX4_peek : ByteArray := prog_6_method_43_code
def yX4_peek : MethodName := ⟨RX4, "peek", "(II)I"⟩
abbrev cX4_abort : ByteArray := prog_6_method_44_code
def yX4_abort : MethodName := ⟨RX4, "abort", "(I)I"⟩
abbrev cX4_sweep : ByteArray := prog_6_method_45_code
def yX4_sweep : MethodName := ⟨RX4, "sweep", "()I"⟩
abbrev cX4_send : ByteArray := prog_6_method_46_code
def yX4_send : MethodName := ⟨RX4, "send", "(I)I"⟩
abbrev cX4_firstSent : ByteArray := prog_6_method_47_code
def yX4_firstSent : MethodName := ⟨RX4, "firstSent", "(I)I"⟩
abbrev cX4_vote : ByteArray := prog_6_method_48_code
def yX4_vote : MethodName := ⟨RX4, "vote", "(I)I"⟩
abbrev cX4_settle : ByteArray := prog_6_method_49_code
def yX4_settle : MethodName := ⟨RX4, "settle", "()I"⟩
abbrev cX4_deal : ByteArray := prog_6_method_50_code
def yX4_deal : MethodName := ⟨RX4, "deal", "(II)I"⟩
abbrev cX4_noted : ByteArray := prog_6_method_51_code
def yX4_noted : MethodName := ⟨RX4, "noted", "(III)I"⟩
abbrev cX4_sent : ByteArray := prog_6_method_52_code
def yX4_sent : MethodName := ⟨RX4, "sent", "(I)I"⟩
abbrev cX4_ballot : ByteArray := prog_6_method_53_code
def yX4_ballot : MethodName := ⟨RX4, "ballot", "(II)I"⟩
abbrev cX4_isCommit : ByteArray := prog_6_method_54_code
def yX4_isCommit : MethodName := ⟨RX4, "isCommit", "(I)Z"⟩
abbrev cX4_log : ByteArray := prog_6_method_55_code
def yX4_log : MethodName := ⟨RX4, "log", "(II)I"⟩
abbrev cX4_logged : ByteArray := prog_6_method_56_code
def yX4_logged : MethodName := ⟨RX4, "logged", "(III)I"⟩
abbrev cX4_behind : ByteArray := prog_6_method_57_code
def yX4_behind : MethodName := ⟨RX4, "behind", "(II)I"⟩
abbrev cX4_allValues : ByteArray := prog_6_method_58_code
def yX4_allValues : MethodName := ⟨RX4, "allValues", "()I"⟩
abbrev cX4_count : ByteArray := prog_6_method_59_code
def yX4_count : MethodName := ⟨RX4, "count", "(I)I"⟩
def RJ6 : String := "java/lang/Integer"
def TJ6 : u_T := fun k => match k with
  | _ => ("", "", "", false)
def tyJ6 : Nat → FieldType := fun k => match k with
  | _ => .int
abbrev wsJ60 : List Cond := u_ws RJ6 TJ6 0
theorem nmJ6 : ∀ a, a < 0 → ∀ b, b < 0 → a ≠ b → (TJ6 a).2.1 ≠ (TJ6 b).2.1 := by decide +kernel
theorem tyJ6_ok : ∀ k, k < 0 → parseFieldDescriptor (TJ6 k).2.2.1 = some (tyJ6 k) := by decide +kernel
abbrev cJ6_bitCount_0f7a4 : ByteArray := prog_7_method_49_code
def yJ6_bitCount_0f7a4 : MethodName := ⟨RJ6, "bitCount", "(I)I"⟩
def RJ0 : String := "java/lang/String"
def TJ0 : u_T := fun k => match k with
  | _ => ("", "", "", false)
def tyJ0 : Nat → FieldType := fun k => match k with
  | _ => .int
abbrev wsJ00 : List Cond := u_ws RJ0 TJ0 0
theorem nmJ0 : ∀ a, a < 0 → ∀ b, b < 0 → a ≠ b → (TJ0 a).2.1 ≠ (TJ0 b).2.1 := by decide +kernel
theorem tyJ0_ok : ∀ k, k < 0 → parseFieldDescriptor (TJ0 k).2.2.1 = some (tyJ0 k) := by decide +kernel
abbrev cJ0_length_8abf5 : ByteArray := prog_8_method_54_code
def yJ0_length_8abf5 : MethodName := ⟨RJ0, "length", "()I"⟩
abbrev cJ0_charAt_5068e : ByteArray := prog_8_method_56_code
def yJ0_charAt_5068e : MethodName := ⟨RJ0, "charAt", "(I)C"⟩
abbrev cJ0_coder_7d493 : ByteArray := prog_8_method_152_code
def yJ0_coder_7d493 : MethodName := ⟨RJ0, "coder", "()B"⟩
abbrev cJ0_isLatin1_aae02 : ByteArray := prog_8_method_154_code
def yJ0_isLatin1_aae02 : MethodName := ⟨RJ0, "isLatin1", "()Z"⟩
abbrev cJ0_checkIndex_df160 : ByteArray := prog_8_method_155_code
def yJ0_checkIndex_df160 : MethodName := ⟨RJ0, "checkIndex", "(II)V"⟩
def RJ1 : String := "java/lang/StringLatin1"
def TJ1 : u_T := fun k => match k with
  | _ => ("", "", "", false)
def tyJ1 : Nat → FieldType := fun k => match k with
  | _ => .int
abbrev wsJ10 : List Cond := u_ws RJ1 TJ1 0
theorem nmJ1 : ∀ a, a < 0 → ∀ b, b < 0 → a ≠ b → (TJ1 a).2.1 ≠ (TJ1 b).2.1 := by decide +kernel
theorem tyJ1_ok : ∀ k, k < 0 → parseFieldDescriptor (TJ1 k).2.2.1 = some (tyJ1 k) := by decide +kernel
abbrev cJ1_charAt_3b067 : ByteArray := prog_9_method_2_code
def yJ1_charAt_3b067 : MethodName := ⟨RJ1, "charAt", "([BI)C"⟩
def RJ2 : String := "java/lang/StringUTF16"
def TJ2 : u_T := fun k => match k with
  | _ => ("", "", "", false)
def tyJ2 : Nat → FieldType := fun k => match k with
  | _ => .int
abbrev wsJ20 : List Cond := u_ws RJ2 TJ2 0
theorem nmJ2 : ∀ a, a < 0 → ∀ b, b < 0 → a ≠ b → (TJ2 a).2.1 ≠ (TJ2 b).2.1 := by decide +kernel
theorem tyJ2_ok : ∀ k, k < 0 → parseFieldDescriptor (TJ2 k).2.2.1 = some (tyJ2 k) := by decide +kernel
abbrev cJ2_getChar_3b067 : ByteArray := prog_10_method_5_code
def yJ2_getChar_3b067 : MethodName := ⟨RJ2, "getChar", "([BI)C"⟩
abbrev cJ2_length_9d52b : ByteArray := prog_10_method_6_code
def yJ2_length_9d52b : MethodName := ⟨RJ2, "length", "([B)I"⟩
abbrev cJ2_charAt_3b067 : ByteArray := prog_10_method_83_code
def yJ2_charAt_3b067 : MethodName := ⟨RJ2, "charAt", "([BI)C"⟩
abbrev cJ2_checkIndex_2214a : ByteArray := prog_10_method_91_code
def yJ2_checkIndex_2214a : MethodName := ⟨RJ2, "checkIndex", "(I[B)V"⟩
def RJ3 : String := "jdk/internal/util/Preconditions"
def TJ3 : u_T := fun k => match k with
  | _ => ("", "", "", false)
def tyJ3 : Nat → FieldType := fun k => match k with
  | _ => .int
abbrev wsJ30 : List Cond := u_ws RJ3 TJ3 0
theorem nmJ3 : ∀ a, a < 0 → ∀ b, b < 0 → a ≠ b → (TJ3 a).2.1 ≠ (TJ3 b).2.1 := by decide +kernel
theorem tyJ3_ok : ∀ k, k < 0 → parseFieldDescriptor (TJ3 k).2.2.1 = some (tyJ3 k) := by decide +kernel
abbrev cJ3_checkIndex_8e157 : ByteArray := prog_11_method_11_code
def yJ3_checkIndex_8e157 : MethodName := ⟨RJ3, "checkIndex", "(IILjava/util/function/BiFunction;)I"⟩
def RL : String := "LateChecksLaw"
abbrev cL_law : ByteArray := code
def yL_law : MethodName := ⟨RL, "law", "([I)Z"⟩
abbrev vwCl : List vw_C := [(RX0, TX0, 13), (RX1, TX1, 8), (RX2, TX2, 7), (RX3, TX3, 12), (RX4, TX4, 30)]
/-- the tables' words that a call keeps -/
def gW : List Cond := lw_tbl.filter goodWord
theorem gW_tbl {w : Cond} {i : Nat} (h : tables_1[i]? = some w) (hg : goodWord w = true) : w ∈ gW := List.mem_filter.mpr ⟨List.mem_append_right _ (List.mem_of_getElem? h), hg⟩
theorem gW_sel {w : Cond} {i : Nat} (h : (k2_sels lw_privs)[i]? = some w) (hg : goodWord w = true) : w ∈ gW := List.mem_filter.mpr ⟨List.mem_append_left _ (List.mem_of_getElem? h), hg⟩
theorem gW_good : ∀ w ∈ gW, (w.onTables && w.keeps) = true ∨ ∃ ty, w = .arrayClass ty := fun _ h => good_of_word (List.mem_filter.mp h).2
theorem gW_in : ∀ w ∈ gW, w ∈ lw_tbl := fun _ h => (List.mem_filter.mp h).1
theorem q0 : (Cond.initialized "LateChecksLaw") ∈ gW := gW_tbl (i := 0) (by decide +kernel) rfl
theorem q1 : (Cond.initialized "LateChecks") ∈ gW := gW_tbl (i := 1) (by decide +kernel) rfl
theorem q2 : (Cond.initialized "LateChecks$Text") ∈ gW := gW_tbl (i := 2) (by decide +kernel) rfl
theorem q3 : (Cond.initialized "LateChecks$Deal") ∈ gW := gW_tbl (i := 3) (by decide +kernel) rfl
theorem q4 : (Cond.initialized "LateChecksModel") ∈ gW := gW_tbl (i := 4) (by decide +kernel) rfl
theorem q5 : (Cond.initialized "java/lang/String") ∈ gW := gW_tbl (i := 5) (by decide +kernel) rfl
theorem q6 : (Cond.initialized "java/lang/StringLatin1") ∈ gW := gW_tbl (i := 6) (by decide +kernel) rfl
theorem q7 : (Cond.initialized "jdk/internal/util/Preconditions") ∈ gW := gW_tbl (i := 7) (by decide +kernel) rfl
theorem q8 : (Cond.initialized "java/lang/StringUTF16") ∈ gW := gW_tbl (i := 8) (by decide +kernel) rfl
theorem q9 : (Cond.initialized "LateChecks$Entry") ∈ gW := gW_tbl (i := 9) (by decide +kernel) rfl
theorem q10 : (Cond.initialized "java/lang/Integer") ∈ gW := gW_tbl (i := 10) (by decide +kernel) rfl
theorem q11 : (Cond.classLink "LateChecksLaw" (7 : Nat) "LateChecks") ∈ gW := gW_tbl (i := 11) (by decide +kernel) rfl
theorem q12 : (Cond.instantiable "LateChecks" (12 : Nat)) ∈ gW := gW_tbl (i := 12) (by decide +kernel) rfl
theorem q13 : (Cond.methodLink "LateChecksLaw" (9 : Nat) ({ cls := "LateChecks", name := "<init>", desc := "()V" } : Jvm.MethodName)) ∈ gW := gW_tbl (i := 13) (by decide +kernel) rfl
theorem q14 : (Cond.instanceMethod ({ cls := "LateChecks", name := "<init>", desc := "()V" } : Jvm.MethodName)) ∈ gW := gW_tbl (i := 14) (by decide +kernel) rfl
theorem q15 : (Cond.code ({ cls := "LateChecks", name := "<init>", desc := "()V" } : Jvm.MethodName) prog_1_method_1_code (2 : Nat) (Option.none : Option Jvm.ClassFile.FieldType)) ∈ gW := gW_tbl (i := 15) (by decide +kernel) rfl
theorem q16 : (Cond.methodLink "LateChecks" (1 : Nat) ({ cls := "java/lang/Object", name := "<init>", desc := "()V" } : Jvm.MethodName)) ∈ gW := gW_tbl (i := 16) (by decide +kernel) rfl
theorem q17 : (Cond.instanceMethod ({ cls := "java/lang/Object", name := "<init>", desc := "()V" } : Jvm.MethodName)) ∈ gW := gW_tbl (i := 17) (by decide +kernel) rfl
theorem q18 : (Cond.code ({ cls := "java/lang/Object", name := "<init>", desc := "()V" } : Jvm.MethodName) object_method_1_code (1 : Nat) (Option.none : Option Jvm.ClassFile.FieldType)) ∈ gW := gW_tbl (i := 18) (by decide +kernel) rfl
theorem q19 : (Cond.classLink "LateChecks" (7 : Nat) "LateChecks$Text") ∈ gW := gW_tbl (i := 19) (by decide +kernel) rfl
theorem q20 : (Cond.instantiable "LateChecks$Text" (7 : Nat)) ∈ gW := gW_tbl (i := 20) (by decide +kernel) rfl
theorem q21 : (Cond.methodLinkNest "LateChecks" (9 : Nat) ({ cls := "LateChecks$Text", name := "<init>", desc := "()V" } : Jvm.MethodName) "LateChecks") ∈ lw_tbl := List.mem_append_right _ (List.mem_of_getElem? (i := 21) (by decide +kernel))
theorem q22 : (Cond.instanceMethod ({ cls := "LateChecks$Text", name := "<init>", desc := "()V" } : Jvm.MethodName)) ∈ gW := gW_tbl (i := 22) (by decide +kernel) rfl
theorem q23 : (Cond.code ({ cls := "LateChecks$Text", name := "<init>", desc := "()V" } : Jvm.MethodName) prog_4_method_1_code (1 : Nat) (Option.none : Option Jvm.ClassFile.FieldType)) ∈ gW := gW_tbl (i := 23) (by decide +kernel) rfl
theorem q24 : (Cond.methodLink "LateChecks$Text" (3 : Nat) ({ cls := "java/lang/Object", name := "<init>", desc := "()V" } : Jvm.MethodName)) ∈ gW := gW_tbl (i := 24) (by decide +kernel) rfl
theorem q25 : (Cond.fieldLink "LateChecks$Text" (11 : Nat) "LateChecks$Text" "letters" "[I") ∈ gW := gW_tbl (i := 25) (by decide +kernel) rfl
theorem q26 : (Cond.fieldLink "LateChecks$Text" (21 : Nat) "LateChecks$Text" "length" "I") ∈ gW := gW_tbl (i := 26) (by decide +kernel) rfl
theorem q27 : (Cond.fieldLink "LateChecks" (41 : Nat) "LateChecks$Text" "length" "I") ∈ gW := gW_tbl (i := 27) (by decide +kernel) rfl
theorem q28 : (Cond.fieldLink "LateChecks$Text" (15 : Nat) "LateChecks$Text" "kinds" "[I") ∈ gW := gW_tbl (i := 28) (by decide +kernel) rfl
theorem q29 : (Cond.fieldLink "LateChecks$Text" (18 : Nat) "LateChecks$Text" "numbers" "[I") ∈ gW := gW_tbl (i := 29) (by decide +kernel) rfl
theorem q30 : (Cond.fieldLink "LateChecks$Text" (25 : Nat) "LateChecks$Text" "clauses" "I") ∈ gW := gW_tbl (i := 30) (by decide +kernel) rfl
theorem q31 : (Cond.fieldLink "LateChecks" (52 : Nat) "LateChecks$Text" "clauses" "I") ∈ gW := gW_tbl (i := 31) (by decide +kernel) rfl
theorem q32 : (Cond.fieldLink "LateChecks$Text" (38 : Nat) "LateChecks$Text" "tokenStart" "I") ∈ gW := gW_tbl (i := 32) (by decide +kernel) rfl
theorem q33 : (Cond.fieldLink "LateChecks$Text" (28 : Nat) "LateChecks$Text" "tokenEnd" "I") ∈ gW := gW_tbl (i := 33) (by decide +kernel) rfl
theorem q49 : (Cond.arrayClass Jvm.ClassFile.FieldType.int) ∈ gW := gW_tbl (i := 49) (by decide +kernel) rfl
theorem q50 : (Cond.classLink "LateChecks" (23 : Nat) "LateChecks$Deal") ∈ gW := gW_tbl (i := 50) (by decide +kernel) rfl
theorem q51 : (Cond.arrayOver (Jvm.ClassFile.FieldType.object "LateChecks$Deal")) ∈ lw_tbl := List.mem_append_right _ (List.mem_of_getElem? (i := 51) (by decide +kernel))
theorem q52 : (Cond.classLink "LateChecks" (29 : Nat) "LateChecks$Entry") ∈ gW := gW_tbl (i := 52) (by decide +kernel) rfl
theorem q53 : (Cond.arrayOver (Jvm.ClassFile.FieldType.object "LateChecks$Entry")) ∈ lw_tbl := List.mem_append_right _ (List.mem_of_getElem? (i := 53) (by decide +kernel))
theorem q54 : (Cond.instantiable "LateChecks$Deal" (13 : Nat)) ∈ gW := gW_tbl (i := 54) (by decide +kernel) rfl
theorem q55 : (Cond.methodLink "LateChecks" (35 : Nat) ({ cls := "LateChecks$Deal", name := "<init>", desc := "(I)V" } : Jvm.MethodName)) ∈ gW := gW_tbl (i := 55) (by decide +kernel) rfl
theorem q56 : (Cond.instanceMethod ({ cls := "LateChecks$Deal", name := "<init>", desc := "(I)V" } : Jvm.MethodName)) ∈ gW := gW_tbl (i := 56) (by decide +kernel) rfl
theorem q57 : (Cond.code ({ cls := "LateChecks$Deal", name := "<init>", desc := "(I)V" } : Jvm.MethodName) prog_2_method_1_code (2 : Nat) (Option.none : Option Jvm.ClassFile.FieldType)) ∈ gW := gW_tbl (i := 57) (by decide +kernel) rfl
theorem q58 : (Cond.methodLink "LateChecks$Deal" (3 : Nat) ({ cls := "java/lang/Object", name := "<init>", desc := "()V" } : Jvm.MethodName)) ∈ gW := gW_tbl (i := 58) (by decide +kernel) rfl
theorem q59 : (Cond.fieldLink "LateChecks$Deal" (24 : Nat) "LateChecks$Deal" "number" "I") ∈ gW := gW_tbl (i := 59) (by decide +kernel) rfl
theorem q60 : (Cond.fieldLink "LateChecks$Entry" (18 : Nat) "LateChecks$Deal" "number" "I") ∈ gW := gW_tbl (i := 60) (by decide +kernel) rfl
theorem q61 : (Cond.fieldLink "LateChecks" (265 : Nat) "LateChecks$Deal" "number" "I") ∈ gW := gW_tbl (i := 61) (by decide +kernel) rfl
theorem q62 : (Cond.fieldLink "LateChecks$Deal" (28 : Nat) "LateChecks$Deal" "state" "I") ∈ gW := gW_tbl (i := 62) (by decide +kernel) rfl
theorem q63 : (Cond.fieldLink "LateChecks" (89 : Nat) "LateChecks$Deal" "state" "I") ∈ gW := gW_tbl (i := 63) (by decide +kernel) rfl
theorem q64 : (Cond.fieldLink "LateChecks$Deal" (35 : Nat) "LateChecks$Deal" "start" "I") ∈ gW := gW_tbl (i := 64) (by decide +kernel) rfl
theorem q65 : (Cond.fieldLink "LateChecks" (191 : Nat) "LateChecks$Deal" "start" "I") ∈ gW := gW_tbl (i := 65) (by decide +kernel) rfl
theorem q66 : (Cond.fieldLink "LateChecks$Entry" (27 : Nat) "LateChecks$Deal" "age" "I") ∈ gW := gW_tbl (i := 66) (by decide +kernel) rfl
theorem q67 : (Cond.fieldLink "LateChecks$Deal" (47 : Nat) "LateChecks$Deal" "age" "I") ∈ gW := gW_tbl (i := 67) (by decide +kernel) rfl
theorem q68 : (Cond.fieldLink "LateChecks" (99 : Nat) "LateChecks$Deal" "age" "I") ∈ gW := gW_tbl (i := 68) (by decide +kernel) rfl
theorem q69 : (Cond.fieldLink "LateChecks$Entry" (31 : Nat) "LateChecks$Deal" "tries" "I") ∈ gW := gW_tbl (i := 69) (by decide +kernel) rfl
theorem q70 : (Cond.fieldLink "LateChecks$Deal" (50 : Nat) "LateChecks$Deal" "tries" "I") ∈ gW := gW_tbl (i := 70) (by decide +kernel) rfl
theorem q71 : (Cond.fieldLink "LateChecks" (106 : Nat) "LateChecks$Deal" "tries" "I") ∈ gW := gW_tbl (i := 71) (by decide +kernel) rfl
theorem q72 : (Cond.fieldLink "LateChecks$Deal" (38 : Nat) "LateChecks$Deal" "reads" "I") ∈ gW := gW_tbl (i := 72) (by decide +kernel) rfl
theorem q73 : (Cond.fieldLink "LateChecks$Entry" (35 : Nat) "LateChecks$Deal" "reads" "I") ∈ gW := gW_tbl (i := 73) (by decide +kernel) rfl
theorem q74 : (Cond.fieldLink "LateChecks" (119 : Nat) "LateChecks$Deal" "reads" "I") ∈ gW := gW_tbl (i := 74) (by decide +kernel) rfl
theorem q75 : (Cond.fieldLink "LateChecks$Deal" (41 : Nat) "LateChecks$Deal" "writes" "I") ∈ gW := gW_tbl (i := 75) (by decide +kernel) rfl
theorem q76 : (Cond.fieldLink "LateChecks$Entry" (39 : Nat) "LateChecks$Deal" "writes" "I") ∈ gW := gW_tbl (i := 76) (by decide +kernel) rfl
theorem q77 : (Cond.fieldLink "LateChecks" (109 : Nat) "LateChecks$Deal" "writes" "I") ∈ gW := gW_tbl (i := 77) (by decide +kernel) rfl
theorem q78 : (Cond.fieldLink "LateChecks$Deal" (44 : Nat) "LateChecks$Deal" "ticket" "I") ∈ gW := gW_tbl (i := 78) (by decide +kernel) rfl
theorem q79 : (Cond.fieldLink "LateChecks" (165 : Nat) "LateChecks$Deal" "ticket" "I") ∈ gW := gW_tbl (i := 79) (by decide +kernel) rfl
theorem q80 : (Cond.fieldLink "LateChecks$Deal" (31 : Nat) "LateChecks$Deal" "lost" "Z") ∈ gW := gW_tbl (i := 80) (by decide +kernel) rfl
theorem q81 : (Cond.fieldLink "LateChecks" (102 : Nat) "LateChecks$Deal" "lost" "Z") ∈ gW := gW_tbl (i := 81) (by decide +kernel) rfl
theorem q82 : (Cond.fieldLink "LateChecks$Deal" (9 : Nat) "LateChecks$Deal" "notedValues" "[I") ∈ gW := gW_tbl (i := 82) (by decide +kernel) rfl
theorem q83 : (Cond.fieldLink "LateChecks" (125 : Nat) "LateChecks$Deal" "notedValues" "[I") ∈ gW := gW_tbl (i := 83) (by decide +kernel) rfl
theorem q84 : (Cond.fieldLink "LateChecks$Deal" (15 : Nat) "LateChecks$Deal" "notedStamps" "[I") ∈ gW := gW_tbl (i := 84) (by decide +kernel) rfl
theorem q85 : (Cond.fieldLink "LateChecks$Entry" (46 : Nat) "LateChecks$Deal" "notedStamps" "[I") ∈ gW := gW_tbl (i := 85) (by decide +kernel) rfl
theorem q86 : (Cond.fieldLink "LateChecks" (201 : Nat) "LateChecks$Deal" "notedStamps" "[I") ∈ gW := gW_tbl (i := 86) (by decide +kernel) rfl
theorem q87 : (Cond.fieldLink "LateChecks$Deal" (18 : Nat) "LateChecks$Deal" "writtenValues" "[I") ∈ gW := gW_tbl (i := 87) (by decide +kernel) rfl
theorem q88 : (Cond.fieldLink "LateChecks$Entry" (47 : Nat) "LateChecks$Deal" "writtenValues" "[I") ∈ gW := gW_tbl (i := 88) (by decide +kernel) rfl
theorem q89 : (Cond.fieldLink "LateChecks" (116 : Nat) "LateChecks$Deal" "writtenValues" "[I") ∈ gW := gW_tbl (i := 89) (by decide +kernel) rfl
theorem q90 : (Cond.fieldLink "LateChecks$Deal" (21 : Nat) "LateChecks$Deal" "votes" "[I") ∈ gW := gW_tbl (i := 90) (by decide +kernel) rfl
theorem q91 : (Cond.fieldLink "LateChecks" (174 : Nat) "LateChecks$Deal" "votes" "[I") ∈ gW := gW_tbl (i := 91) (by decide +kernel) rfl
theorem q119 : (Cond.methodLink "LateChecks" (38 : Nat) ({ cls := "LateChecks", name := "startAnew", desc := "()V" } : Jvm.MethodName)) ∈ gW := gW_tbl (i := 119) (by decide +kernel) rfl
theorem q121 : (Cond.instanceMethod ({ cls := "LateChecks", name := "startAnew", desc := "()V" } : Jvm.MethodName)) ∈ gW := gW_tbl (i := 121) (by decide +kernel) rfl
theorem q122 : (Cond.code ({ cls := "LateChecks", name := "startAnew", desc := "()V" } : Jvm.MethodName) prog_1_method_28_code (5 : Nat) (Option.none : Option Jvm.ClassFile.FieldType)) ∈ gW := gW_tbl (i := 122) (by decide +kernel) rfl
theorem q123 : (Cond.methodLink "LateChecks" (235 : Nat) ({ cls := "LateChecks$Deal", name := "becomeFree", desc := "(Z)V" } : Jvm.MethodName)) ∈ gW := gW_tbl (i := 123) (by decide +kernel) rfl
theorem q124 : (Cond.instanceMethod ({ cls := "LateChecks$Deal", name := "becomeFree", desc := "(Z)V" } : Jvm.MethodName)) ∈ gW := gW_tbl (i := 124) (by decide +kernel) rfl
theorem q125 : (Cond.selects "LateChecks$Deal" ({ cls := "LateChecks$Deal", name := "becomeFree", desc := "(Z)V" } : Jvm.MethodName) ({ cls := "LateChecks$Deal", name := "becomeFree", desc := "(Z)V" } : Jvm.MethodName)) ∈ gW := gW_tbl (i := 125) (by decide +kernel) rfl
theorem q126 : (Cond.code ({ cls := "LateChecks$Deal", name := "becomeFree", desc := "(Z)V" } : Jvm.MethodName) prog_2_method_2_code (2 : Nat) (Option.none : Option Jvm.ClassFile.FieldType)) ∈ gW := gW_tbl (i := 126) (by decide +kernel) rfl
theorem q127 : (Cond.fieldLink "LateChecks" (10 : Nat) "LateChecks" "text" "LLateChecks$Text;") ∈ gW := gW_tbl (i := 127) (by decide +kernel) rfl
theorem q128 : (Cond.fieldLink "LateChecks" (16 : Nat) "LateChecks" "values" "[I") ∈ gW := gW_tbl (i := 128) (by decide +kernel) rfl
theorem q129 : (Cond.fieldLink "LateChecks" (20 : Nat) "LateChecks" "stamps" "[I") ∈ gW := gW_tbl (i := 129) (by decide +kernel) rfl
theorem q130 : (Cond.fieldLink "LateChecks" (25 : Nat) "LateChecks" "deals" "[LLateChecks$Deal;") ∈ gW := gW_tbl (i := 130) (by decide +kernel) rfl
theorem q131 : (Cond.fieldLink "LateChecks" (31 : Nat) "LateChecks" "entries" "[LLateChecks$Entry;") ∈ gW := gW_tbl (i := 131) (by decide +kernel) rfl
theorem q132 : (Cond.fieldLink "LateChecks" (69 : Nat) "LateChecks" "commits" "I") ∈ gW := gW_tbl (i := 132) (by decide +kernel) rfl
theorem q133 : (Cond.fieldLink "LateChecks" (83 : Nat) "LateChecks" "triesLimit" "I") ∈ gW := gW_tbl (i := 133) (by decide +kernel) rfl
theorem q134 : (Cond.fieldLink "LateChecks" (92 : Nat) "LateChecks" "begun" "I") ∈ gW := gW_tbl (i := 134) (by decide +kernel) rfl
theorem q135 : (Cond.fieldLink "LateChecks" (159 : Nat) "LateChecks" "tickets" "I") ∈ gW := gW_tbl (i := 135) (by decide +kernel) rfl
theorem q136 : (Cond.fieldLink "LateChecks" (223 : Nat) "LateChecks" "failed" "I") ∈ gW := gW_tbl (i := 136) (by decide +kernel) rfl
theorem q137 : (Cond.fieldLink "LateChecks" (226 : Nat) "LateChecks" "failedInVain" "I") ∈ gW := gW_tbl (i := 137) (by decide +kernel) rfl
theorem q138 : (Cond.fieldLink "LateChecks" (229 : Nat) "LateChecks" "failedByYielding" "I") ∈ gW := gW_tbl (i := 138) (by decide +kernel) rfl
theorem q164 : (Cond.methodLink "LateChecksLaw" (13 : Nat) ({ cls := "LateChecks", name := "write", desc := "(I)I" } : Jvm.MethodName)) ∈ gW := gW_tbl (i := 164) (by decide +kernel) rfl
theorem q165 : (Cond.instanceMethod ({ cls := "LateChecks", name := "write", desc := "(I)I" } : Jvm.MethodName)) ∈ gW := gW_tbl (i := 165) (by decide +kernel) rfl
theorem q166 : (Cond.selects "LateChecks" ({ cls := "LateChecks", name := "write", desc := "(I)I" } : Jvm.MethodName) ({ cls := "LateChecks", name := "write", desc := "(I)I" } : Jvm.MethodName)) ∈ gW := gW_tbl (i := 166) (by decide +kernel) rfl
theorem q167 : (Cond.code ({ cls := "LateChecks", name := "write", desc := "(I)I" } : Jvm.MethodName) prog_1_method_2_code (2 : Nat) (Option.some Jvm.ClassFile.FieldType.int)) ∈ gW := gW_tbl (i := 167) (by decide +kernel) rfl
theorem q168 : (Cond.methodLink "LateChecks" (45 : Nat) ({ cls := "LateChecks$Text", name := "append", desc := "(I)V" } : Jvm.MethodName)) ∈ gW := gW_tbl (i := 168) (by decide +kernel) rfl
theorem q169 : (Cond.instanceMethod ({ cls := "LateChecks$Text", name := "append", desc := "(I)V" } : Jvm.MethodName)) ∈ gW := gW_tbl (i := 169) (by decide +kernel) rfl
theorem q170 : (Cond.selects "LateChecks$Text" ({ cls := "LateChecks$Text", name := "append", desc := "(I)V" } : Jvm.MethodName) ({ cls := "LateChecks$Text", name := "append", desc := "(I)V" } : Jvm.MethodName)) ∈ gW := gW_tbl (i := 170) (by decide +kernel) rfl
theorem q171 : (Cond.code ({ cls := "LateChecks$Text", name := "append", desc := "(I)V" } : Jvm.MethodName) prog_4_method_2_code (2 : Nat) (Option.none : Option Jvm.ClassFile.FieldType)) ∈ gW := gW_tbl (i := 171) (by decide +kernel) rfl
theorem q172 : (Cond.methodLink "LateChecksLaw" (18 : Nat) ({ cls := "LateChecks", name := "erase", desc := "()I" } : Jvm.MethodName)) ∈ gW := gW_tbl (i := 172) (by decide +kernel) rfl
theorem q173 : (Cond.instanceMethod ({ cls := "LateChecks", name := "erase", desc := "()I" } : Jvm.MethodName)) ∈ gW := gW_tbl (i := 173) (by decide +kernel) rfl
theorem q174 : (Cond.selects "LateChecks" ({ cls := "LateChecks", name := "erase", desc := "()I" } : Jvm.MethodName) ({ cls := "LateChecks", name := "erase", desc := "()I" } : Jvm.MethodName)) ∈ gW := gW_tbl (i := 174) (by decide +kernel) rfl
theorem q175 : (Cond.code ({ cls := "LateChecks", name := "erase", desc := "()I" } : Jvm.MethodName) prog_1_method_3_code (2 : Nat) (Option.some Jvm.ClassFile.FieldType.int)) ∈ gW := gW_tbl (i := 175) (by decide +kernel) rfl
theorem q176 : (Cond.methodLink "LateChecksLaw" (23 : Nat) ({ cls := "LateChecks", name := "fault", desc := "()I" } : Jvm.MethodName)) ∈ gW := gW_tbl (i := 176) (by decide +kernel) rfl
theorem q177 : (Cond.instanceMethod ({ cls := "LateChecks", name := "fault", desc := "()I" } : Jvm.MethodName)) ∈ gW := gW_tbl (i := 177) (by decide +kernel) rfl
theorem q178 : (Cond.selects "LateChecks" ({ cls := "LateChecks", name := "fault", desc := "()I" } : Jvm.MethodName) ({ cls := "LateChecks", name := "fault", desc := "()I" } : Jvm.MethodName)) ∈ gW := gW_tbl (i := 178) (by decide +kernel) rfl
theorem q179 : (Cond.code ({ cls := "LateChecks", name := "fault", desc := "()I" } : Jvm.MethodName) prog_1_method_4_code (1 : Nat) (Option.some Jvm.ClassFile.FieldType.int)) ∈ gW := gW_tbl (i := 179) (by decide +kernel) rfl
theorem q180 : (Cond.methodLink "LateChecks" (48 : Nat) ({ cls := "LateChecks$Text", name := "parse", desc := "()I" } : Jvm.MethodName)) ∈ gW := gW_tbl (i := 180) (by decide +kernel) rfl
theorem q181 : (Cond.instanceMethod ({ cls := "LateChecks$Text", name := "parse", desc := "()I" } : Jvm.MethodName)) ∈ gW := gW_tbl (i := 181) (by decide +kernel) rfl
theorem q182 : (Cond.selects "LateChecks$Text" ({ cls := "LateChecks$Text", name := "parse", desc := "()I" } : Jvm.MethodName) ({ cls := "LateChecks$Text", name := "parse", desc := "()I" } : Jvm.MethodName)) ∈ gW := gW_tbl (i := 182) (by decide +kernel) rfl
theorem q183 : (Cond.code ({ cls := "LateChecks$Text", name := "parse", desc := "()I" } : Jvm.MethodName) prog_4_method_5_code (2 : Nat) (Option.some Jvm.ClassFile.FieldType.int)) ∈ gW := gW_tbl (i := 183) (by decide +kernel) rfl
theorem q184 : (Cond.methodLink "LateChecks$Text" (31 : Nat) ({ cls := "LateChecks$Text", name := "nextToken", desc := "()V" } : Jvm.MethodName)) ∈ gW := gW_tbl (i := 184) (by decide +kernel) rfl
theorem q185 : (Cond.instanceMethod ({ cls := "LateChecks$Text", name := "nextToken", desc := "()V" } : Jvm.MethodName)) ∈ gW := gW_tbl (i := 185) (by decide +kernel) rfl
theorem q186 : (Cond.selects "LateChecks$Text" ({ cls := "LateChecks$Text", name := "nextToken", desc := "()V" } : Jvm.MethodName) ({ cls := "LateChecks$Text", name := "nextToken", desc := "()V" } : Jvm.MethodName)) ∈ gW := gW_tbl (i := 186) (by decide +kernel) rfl
theorem q187 : (Cond.code ({ cls := "LateChecks$Text", name := "nextToken", desc := "()V" } : Jvm.MethodName) prog_4_method_10_code (2 : Nat) (Option.none : Option Jvm.ClassFile.FieldType)) ∈ gW := gW_tbl (i := 187) (by decide +kernel) rfl
theorem q188 : (Cond.methodLink "LateChecks$Text" (41 : Nat) ({ cls := "LateChecks$Text", name := "letterAt", desc := "(I)I" } : Jvm.MethodName)) ∈ gW := gW_tbl (i := 188) (by decide +kernel) rfl
theorem q189 : (Cond.instanceMethod ({ cls := "LateChecks$Text", name := "letterAt", desc := "(I)I" } : Jvm.MethodName)) ∈ gW := gW_tbl (i := 189) (by decide +kernel) rfl
theorem q190 : (Cond.selects "LateChecks$Text" ({ cls := "LateChecks$Text", name := "letterAt", desc := "(I)I" } : Jvm.MethodName) ({ cls := "LateChecks$Text", name := "letterAt", desc := "(I)I" } : Jvm.MethodName)) ∈ gW := gW_tbl (i := 190) (by decide +kernel) rfl
theorem q191 : (Cond.code ({ cls := "LateChecks$Text", name := "letterAt", desc := "(I)I" } : Jvm.MethodName) prog_4_method_11_code (2 : Nat) (Option.some Jvm.ClassFile.FieldType.int)) ∈ gW := gW_tbl (i := 191) (by decide +kernel) rfl
theorem q192 : (Cond.methodLink "LateChecks$Text" (81 : Nat) ({ cls := "LateChecks$Text", name := "areOfOneRow", desc := "(II)Z" } : Jvm.MethodName)) ∈ gW := gW_tbl (i := 192) (by decide +kernel) rfl
theorem q193 : (Cond.static ({ cls := "LateChecks$Text", name := "areOfOneRow", desc := "(II)Z" } : Jvm.MethodName)) ∈ gW := gW_tbl (i := 193) (by decide +kernel) rfl
theorem q194 : (Cond.code ({ cls := "LateChecks$Text", name := "areOfOneRow", desc := "(II)Z" } : Jvm.MethodName) prog_4_method_12_code (2 : Nat) (Option.some Jvm.ClassFile.FieldType.boolean)) ∈ gW := gW_tbl (i := 194) (by decide +kernel) rfl
theorem q195 : (Cond.methodLink "LateChecks$Text" (78 : Nat) ({ cls := "LateChecks$Text", name := "isDigit", desc := "(I)Z" } : Jvm.MethodName)) ∈ gW := gW_tbl (i := 195) (by decide +kernel) rfl
theorem q196 : (Cond.static ({ cls := "LateChecks$Text", name := "isDigit", desc := "(I)Z" } : Jvm.MethodName)) ∈ gW := gW_tbl (i := 196) (by decide +kernel) rfl
theorem q197 : (Cond.code ({ cls := "LateChecks$Text", name := "isDigit", desc := "(I)Z" } : Jvm.MethodName) prog_4_method_13_code (1 : Nat) (Option.some Jvm.ClassFile.FieldType.boolean)) ∈ gW := gW_tbl (i := 197) (by decide +kernel) rfl
theorem q198 : (Cond.methodLink "LateChecks$Text" (85 : Nat) ({ cls := "LateChecks$Text", name := "isSmall", desc := "(I)Z" } : Jvm.MethodName)) ∈ gW := gW_tbl (i := 198) (by decide +kernel) rfl
theorem q199 : (Cond.static ({ cls := "LateChecks$Text", name := "isSmall", desc := "(I)Z" } : Jvm.MethodName)) ∈ gW := gW_tbl (i := 199) (by decide +kernel) rfl
theorem q200 : (Cond.code ({ cls := "LateChecks$Text", name := "isSmall", desc := "(I)Z" } : Jvm.MethodName) prog_4_method_14_code (1 : Nat) (Option.some Jvm.ClassFile.FieldType.boolean)) ∈ gW := gW_tbl (i := 200) (by decide +kernel) rfl
theorem q201 : (Cond.methodLink "LateChecks$Text" (34 : Nat) ({ cls := "LateChecks$Text", name := "takeClause", desc := "(I)Z" } : Jvm.MethodName)) ∈ gW := gW_tbl (i := 201) (by decide +kernel) rfl
theorem q202 : (Cond.instanceMethod ({ cls := "LateChecks$Text", name := "takeClause", desc := "(I)Z" } : Jvm.MethodName)) ∈ gW := gW_tbl (i := 202) (by decide +kernel) rfl
theorem q203 : (Cond.selects "LateChecks$Text" ({ cls := "LateChecks$Text", name := "takeClause", desc := "(I)Z" } : Jvm.MethodName) ({ cls := "LateChecks$Text", name := "takeClause", desc := "(I)Z" } : Jvm.MethodName)) ∈ gW := gW_tbl (i := 203) (by decide +kernel) rfl
theorem q204 : (Cond.code ({ cls := "LateChecks$Text", name := "takeClause", desc := "(I)Z" } : Jvm.MethodName) prog_4_method_6_code (6 : Nat) (Option.some Jvm.ClassFile.FieldType.boolean)) ∈ gW := gW_tbl (i := 204) (by decide +kernel) rfl
theorem q205 : (Cond.methodLink "LateChecks$Text" (45 : Nat) ({ cls := "LateChecks$Text", name := "kindOfToken", desc := "()I" } : Jvm.MethodName)) ∈ gW := gW_tbl (i := 205) (by decide +kernel) rfl
theorem q206 : (Cond.instanceMethod ({ cls := "LateChecks$Text", name := "kindOfToken", desc := "()I" } : Jvm.MethodName)) ∈ gW := gW_tbl (i := 206) (by decide +kernel) rfl
theorem q207 : (Cond.selects "LateChecks$Text" ({ cls := "LateChecks$Text", name := "kindOfToken", desc := "()I" } : Jvm.MethodName) ({ cls := "LateChecks$Text", name := "kindOfToken", desc := "()I" } : Jvm.MethodName)) ∈ gW := gW_tbl (i := 207) (by decide +kernel) rfl
theorem q208 : (Cond.code ({ cls := "LateChecks$Text", name := "kindOfToken", desc := "()I" } : Jvm.MethodName) prog_4_method_7_code (2 : Nat) (Option.some Jvm.ClassFile.FieldType.int)) ∈ gW := gW_tbl (i := 208) (by decide +kernel) rfl
theorem q209 : (Cond.methodLink "LateChecks$Text" (71 : Nat) ({ cls := "LateChecks$Text", name := "wordOf", desc := "(I)Ljava/lang/String;" } : Jvm.MethodName)) ∈ gW := gW_tbl (i := 209) (by decide +kernel) rfl
theorem q210 : (Cond.static ({ cls := "LateChecks$Text", name := "wordOf", desc := "(I)Ljava/lang/String;" } : Jvm.MethodName)) ∈ gW := gW_tbl (i := 210) (by decide +kernel) rfl
theorem q211 : (Cond.code ({ cls := "LateChecks$Text", name := "wordOf", desc := "(I)Ljava/lang/String;" } : Jvm.MethodName) prog_4_method_15_code (1 : Nat) (Option.some (Jvm.ClassFile.FieldType.object "java/lang/String"))) ∈ gW := gW_tbl (i := 211) (by decide +kernel) rfl
theorem q212 : (Cond.stringRef "LateChecks$Text" (88 : Nat) "all") ∈ lw_tbl := List.mem_append_right _ (List.mem_of_getElem? (i := 212) (by decide +kernel))
theorem q213 : (Cond.stringRef "LateChecks$Text" (90 : Nat) "item") ∈ lw_tbl := List.mem_append_right _ (List.mem_of_getElem? (i := 213) (by decide +kernel))
theorem q214 : (Cond.stringRef "LateChecks$Text" (92 : Nat) "limit") ∈ lw_tbl := List.mem_append_right _ (List.mem_of_getElem? (i := 214) (by decide +kernel))
theorem q215 : (Cond.stringRef "LateChecks$Text" (94 : Nat) "begin") ∈ lw_tbl := List.mem_append_right _ (List.mem_of_getElem? (i := 215) (by decide +kernel))
theorem q216 : (Cond.stringRef "LateChecks$Text" (96 : Nat) "read") ∈ lw_tbl := List.mem_append_right _ (List.mem_of_getElem? (i := 216) (by decide +kernel))
theorem q217 : (Cond.stringRef "LateChecks$Text" (98 : Nat) "write") ∈ lw_tbl := List.mem_append_right _ (List.mem_of_getElem? (i := 217) (by decide +kernel))
theorem q218 : (Cond.stringRef "LateChecks$Text" (100 : Nat) "send") ∈ lw_tbl := List.mem_append_right _ (List.mem_of_getElem? (i := 218) (by decide +kernel))
theorem q219 : (Cond.methodLink "LateChecks$Text" (74 : Nat) ({ cls := "LateChecks$Text", name := "tokenIs", desc := "(Ljava/lang/String;)Z" } : Jvm.MethodName)) ∈ gW := gW_tbl (i := 219) (by decide +kernel) rfl
theorem q220 : (Cond.instanceMethod ({ cls := "LateChecks$Text", name := "tokenIs", desc := "(Ljava/lang/String;)Z" } : Jvm.MethodName)) ∈ gW := gW_tbl (i := 220) (by decide +kernel) rfl
theorem q221 : (Cond.selects "LateChecks$Text" ({ cls := "LateChecks$Text", name := "tokenIs", desc := "(Ljava/lang/String;)Z" } : Jvm.MethodName) ({ cls := "LateChecks$Text", name := "tokenIs", desc := "(Ljava/lang/String;)Z" } : Jvm.MethodName)) ∈ gW := gW_tbl (i := 221) (by decide +kernel) rfl
theorem q222 : (Cond.code ({ cls := "LateChecks$Text", name := "tokenIs", desc := "(Ljava/lang/String;)Z" } : Jvm.MethodName) prog_4_method_8_code (3 : Nat) (Option.some Jvm.ClassFile.FieldType.boolean)) ∈ gW := gW_tbl (i := 222) (by decide +kernel) rfl
theorem q223 : (Cond.methodLink "LateChecks$Text" (53 : Nat) ({ cls := "java/lang/String", name := "length", desc := "()I" } : Jvm.MethodName)) ∈ gW := gW_tbl (i := 223) (by decide +kernel) rfl
theorem q224 : (Cond.instanceMethod ({ cls := "java/lang/String", name := "length", desc := "()I" } : Jvm.MethodName)) ∈ gW := gW_tbl (i := 224) (by decide +kernel) rfl
theorem q225 : (Cond.selects "java/lang/String" ({ cls := "java/lang/String", name := "length", desc := "()I" } : Jvm.MethodName) ({ cls := "java/lang/String", name := "length", desc := "()I" } : Jvm.MethodName)) ∈ gW := gW_tbl (i := 225) (by decide +kernel) rfl
theorem q226 : (Cond.code ({ cls := "java/lang/String", name := "length", desc := "()I" } : Jvm.MethodName) prog_8_method_54_code (1 : Nat) (Option.some Jvm.ClassFile.FieldType.int)) ∈ gW := gW_tbl (i := 226) (by decide +kernel) rfl
theorem q227 : (Cond.methodLink "java/lang/String" (335 : Nat) ({ cls := "java/lang/String", name := "coder", desc := "()B" } : Jvm.MethodName)) ∈ gW := gW_tbl (i := 227) (by decide +kernel) rfl
theorem q228 : (Cond.instanceMethod ({ cls := "java/lang/String", name := "coder", desc := "()B" } : Jvm.MethodName)) ∈ gW := gW_tbl (i := 228) (by decide +kernel) rfl
theorem q229 : (Cond.selects "java/lang/String" ({ cls := "java/lang/String", name := "coder", desc := "()B" } : Jvm.MethodName) ({ cls := "java/lang/String", name := "coder", desc := "()B" } : Jvm.MethodName)) ∈ gW := gW_tbl (i := 229) (by decide +kernel) rfl
theorem q230 : (Cond.code ({ cls := "java/lang/String", name := "coder", desc := "()B" } : Jvm.MethodName) prog_8_method_152_code (1 : Nat) (Option.some Jvm.ClassFile.FieldType.byte)) ∈ gW := gW_tbl (i := 230) (by decide +kernel) rfl
theorem q231 : (Cond.fieldLink "java/lang/String" (38 : Nat) "java/lang/String" "COMPACT_STRINGS" "Z") ∈ gW := gW_tbl (i := 231) (by decide +kernel) rfl
theorem q232 : (Cond.laysStatic "java/lang/String" "COMPACT_STRINGS" "Z") ∈ lw_tbl := List.mem_append_right _ (List.mem_of_getElem? (i := 232) (by decide +kernel))
theorem q233 : (Cond.methodLink "LateChecks$Text" (60 : Nat) ({ cls := "java/lang/String", name := "charAt", desc := "(I)C" } : Jvm.MethodName)) ∈ gW := gW_tbl (i := 233) (by decide +kernel) rfl
theorem q234 : (Cond.instanceMethod ({ cls := "java/lang/String", name := "charAt", desc := "(I)C" } : Jvm.MethodName)) ∈ gW := gW_tbl (i := 234) (by decide +kernel) rfl
theorem q235 : (Cond.selects "java/lang/String" ({ cls := "java/lang/String", name := "charAt", desc := "(I)C" } : Jvm.MethodName) ({ cls := "java/lang/String", name := "charAt", desc := "(I)C" } : Jvm.MethodName)) ∈ gW := gW_tbl (i := 235) (by decide +kernel) rfl
theorem q236 : (Cond.code ({ cls := "java/lang/String", name := "charAt", desc := "(I)C" } : Jvm.MethodName) prog_8_method_56_code (2 : Nat) (Option.some Jvm.ClassFile.FieldType.char)) ∈ gW := gW_tbl (i := 236) (by decide +kernel) rfl
theorem q237 : (Cond.methodLink "java/lang/String" (492 : Nat) ({ cls := "java/lang/String", name := "isLatin1", desc := "()Z" } : Jvm.MethodName)) ∈ gW := gW_tbl (i := 237) (by decide +kernel) rfl
theorem q238 : (Cond.instanceMethod ({ cls := "java/lang/String", name := "isLatin1", desc := "()Z" } : Jvm.MethodName)) ∈ gW := gW_tbl (i := 238) (by decide +kernel) rfl
theorem q239 : (Cond.selects "java/lang/String" ({ cls := "java/lang/String", name := "isLatin1", desc := "()Z" } : Jvm.MethodName) ({ cls := "java/lang/String", name := "isLatin1", desc := "()Z" } : Jvm.MethodName)) ∈ gW := gW_tbl (i := 239) (by decide +kernel) rfl
theorem q240 : (Cond.code ({ cls := "java/lang/String", name := "isLatin1", desc := "()Z" } : Jvm.MethodName) prog_8_method_154_code (1 : Nat) (Option.some Jvm.ClassFile.FieldType.boolean)) ∈ gW := gW_tbl (i := 240) (by decide +kernel) rfl
theorem q241 : (Cond.methodLink "java/lang/String" (495 : Nat) ({ cls := "java/lang/StringLatin1", name := "charAt", desc := "([BI)C" } : Jvm.MethodName)) ∈ gW := gW_tbl (i := 241) (by decide +kernel) rfl
theorem q242 : (Cond.static ({ cls := "java/lang/StringLatin1", name := "charAt", desc := "([BI)C" } : Jvm.MethodName)) ∈ gW := gW_tbl (i := 242) (by decide +kernel) rfl
theorem q243 : (Cond.code ({ cls := "java/lang/StringLatin1", name := "charAt", desc := "([BI)C" } : Jvm.MethodName) prog_9_method_2_code (2 : Nat) (Option.some Jvm.ClassFile.FieldType.char)) ∈ gW := gW_tbl (i := 243) (by decide +kernel) rfl
theorem q244 : (Cond.methodLink "java/lang/StringLatin1" (9 : Nat) ({ cls := "java/lang/String", name := "checkIndex", desc := "(II)V" } : Jvm.MethodName)) ∈ gW := gW_tbl (i := 244) (by decide +kernel) rfl
theorem q245 : (Cond.static ({ cls := "java/lang/String", name := "checkIndex", desc := "(II)V" } : Jvm.MethodName)) ∈ gW := gW_tbl (i := 245) (by decide +kernel) rfl
theorem q246 : (Cond.code ({ cls := "java/lang/String", name := "checkIndex", desc := "(II)V" } : Jvm.MethodName) prog_8_method_155_code (2 : Nat) (Option.none : Option Jvm.ClassFile.FieldType)) ∈ gW := gW_tbl (i := 246) (by decide +kernel) rfl
theorem q247 : (Cond.fieldLink "java/lang/String" (1053 : Nat) "jdk/internal/util/Preconditions" "SIOOBE_FORMATTER" "Ljava/util/function/BiFunction;") ∈ gW := gW_tbl (i := 247) (by decide +kernel) rfl
theorem q248 : (Cond.laysStatic "jdk/internal/util/Preconditions" "SIOOBE_FORMATTER" "Ljava/util/function/BiFunction;") ∈ lw_tbl := List.mem_append_right _ (List.mem_of_getElem? (i := 248) (by decide +kernel))
theorem q249 : (Cond.methodLink "java/lang/String" (1059 : Nat) ({ cls := "jdk/internal/util/Preconditions", name := "checkIndex", desc := "(IILjava/util/function/BiFunction;)I" } : Jvm.MethodName)) ∈ gW := gW_tbl (i := 249) (by decide +kernel) rfl
theorem q250 : (Cond.static ({ cls := "jdk/internal/util/Preconditions", name := "checkIndex", desc := "(IILjava/util/function/BiFunction;)I" } : Jvm.MethodName)) ∈ gW := gW_tbl (i := 250) (by decide +kernel) rfl
theorem q251 : (Cond.code ({ cls := "jdk/internal/util/Preconditions", name := "checkIndex", desc := "(IILjava/util/function/BiFunction;)I" } : Jvm.MethodName) prog_11_method_11_code (3 : Nat) (Option.some Jvm.ClassFile.FieldType.int)) ∈ gW := gW_tbl (i := 251) (by decide +kernel) rfl
theorem q252 : (Cond.methodLink "java/lang/String" (498 : Nat) ({ cls := "java/lang/StringUTF16", name := "charAt", desc := "([BI)C" } : Jvm.MethodName)) ∈ gW := gW_tbl (i := 252) (by decide +kernel) rfl
theorem q253 : (Cond.static ({ cls := "java/lang/StringUTF16", name := "charAt", desc := "([BI)C" } : Jvm.MethodName)) ∈ gW := gW_tbl (i := 253) (by decide +kernel) rfl
theorem q254 : (Cond.code ({ cls := "java/lang/StringUTF16", name := "charAt", desc := "([BI)C" } : Jvm.MethodName) prog_10_method_83_code (2 : Nat) (Option.some Jvm.ClassFile.FieldType.char)) ∈ gW := gW_tbl (i := 254) (by decide +kernel) rfl
theorem q255 : (Cond.methodLink "java/lang/StringUTF16" (67 : Nat) ({ cls := "java/lang/StringUTF16", name := "checkIndex", desc := "(I[B)V" } : Jvm.MethodName)) ∈ gW := gW_tbl (i := 255) (by decide +kernel) rfl
theorem q256 : (Cond.static ({ cls := "java/lang/StringUTF16", name := "checkIndex", desc := "(I[B)V" } : Jvm.MethodName)) ∈ gW := gW_tbl (i := 256) (by decide +kernel) rfl
theorem q257 : (Cond.code ({ cls := "java/lang/StringUTF16", name := "checkIndex", desc := "(I[B)V" } : Jvm.MethodName) prog_10_method_91_code (2 : Nat) (Option.none : Option Jvm.ClassFile.FieldType)) ∈ gW := gW_tbl (i := 257) (by decide +kernel) rfl
theorem q258 : (Cond.methodLink "java/lang/StringUTF16" (48 : Nat) ({ cls := "java/lang/StringUTF16", name := "length", desc := "([B)I" } : Jvm.MethodName)) ∈ gW := gW_tbl (i := 258) (by decide +kernel) rfl
theorem q259 : (Cond.static ({ cls := "java/lang/StringUTF16", name := "length", desc := "([B)I" } : Jvm.MethodName)) ∈ gW := gW_tbl (i := 259) (by decide +kernel) rfl
theorem q260 : (Cond.code ({ cls := "java/lang/StringUTF16", name := "length", desc := "([B)I" } : Jvm.MethodName) prog_10_method_6_code (1 : Nat) (Option.some Jvm.ClassFile.FieldType.int)) ∈ gW := gW_tbl (i := 260) (by decide +kernel) rfl
theorem q261 : (Cond.methodLink "java/lang/StringUTF16" (414 : Nat) ({ cls := "java/lang/String", name := "checkIndex", desc := "(II)V" } : Jvm.MethodName)) ∈ gW := gW_tbl (i := 261) (by decide +kernel) rfl
theorem q262 : (Cond.methodLink "java/lang/StringUTF16" (71 : Nat) ({ cls := "java/lang/StringUTF16", name := "getChar", desc := "([BI)C" } : Jvm.MethodName)) ∈ gW := gW_tbl (i := 262) (by decide +kernel) rfl
theorem q263 : (Cond.static ({ cls := "java/lang/StringUTF16", name := "getChar", desc := "([BI)C" } : Jvm.MethodName)) ∈ gW := gW_tbl (i := 263) (by decide +kernel) rfl
theorem q264 : (Cond.code ({ cls := "java/lang/StringUTF16", name := "getChar", desc := "([BI)C" } : Jvm.MethodName) prog_10_method_5_code (2 : Nat) (Option.some Jvm.ClassFile.FieldType.char)) ∈ gW := gW_tbl (i := 264) (by decide +kernel) rfl
theorem q265 : (Cond.fieldLink "java/lang/StringUTF16" (44 : Nat) "java/lang/StringUTF16" "$assertionsDisabled" "Z") ∈ gW := gW_tbl (i := 265) (by decide +kernel) rfl
theorem q266 : (Cond.laysStatic "java/lang/StringUTF16" "$assertionsDisabled" "Z") ∈ lw_tbl := List.mem_append_right _ (List.mem_of_getElem? (i := 266) (by decide +kernel))
theorem q267 : (Cond.fieldLink "java/lang/StringUTF16" (59 : Nat) "java/lang/StringUTF16" "HI_BYTE_SHIFT" "I") ∈ gW := gW_tbl (i := 267) (by decide +kernel) rfl
theorem q268 : (Cond.laysStatic "java/lang/StringUTF16" "HI_BYTE_SHIFT" "I") ∈ lw_tbl := List.mem_append_right _ (List.mem_of_getElem? (i := 268) (by decide +kernel))
theorem q269 : (Cond.fieldLink "java/lang/StringUTF16" (63 : Nat) "java/lang/StringUTF16" "LO_BYTE_SHIFT" "I") ∈ gW := gW_tbl (i := 269) (by decide +kernel) rfl
theorem q270 : (Cond.laysStatic "java/lang/StringUTF16" "LO_BYTE_SHIFT" "I") ∈ lw_tbl := List.mem_append_right _ (List.mem_of_getElem? (i := 270) (by decide +kernel))
theorem q271 : (Cond.methodLink "LateChecks$Text" (49 : Nat) ({ cls := "LateChecks$Text", name := "formOf", desc := "(I)Ljava/lang/String;" } : Jvm.MethodName)) ∈ gW := gW_tbl (i := 271) (by decide +kernel) rfl
theorem q272 : (Cond.static ({ cls := "LateChecks$Text", name := "formOf", desc := "(I)Ljava/lang/String;" } : Jvm.MethodName)) ∈ gW := gW_tbl (i := 272) (by decide +kernel) rfl
theorem q273 : (Cond.code ({ cls := "LateChecks$Text", name := "formOf", desc := "(I)Ljava/lang/String;" } : Jvm.MethodName) prog_4_method_16_code (1 : Nat) (Option.some (Jvm.ClassFile.FieldType.object "java/lang/String"))) ∈ gW := gW_tbl (i := 273) (by decide +kernel) rfl
theorem q274 : (Cond.stringRef "LateChecks$Text" (102 : Nat) "") ∈ lw_tbl := List.mem_append_right _ (List.mem_of_getElem? (i := 274) (by decide +kernel))
theorem q275 : (Cond.stringRef "LateChecks$Text" (104 : Nat) "IV") ∈ lw_tbl := List.mem_append_right _ (List.mem_of_getElem? (i := 275) (by decide +kernel))
theorem q276 : (Cond.stringRef "LateChecks$Text" (106 : Nat) "N") ∈ lw_tbl := List.mem_append_right _ (List.mem_of_getElem? (i := 276) (by decide +kernel))
theorem q277 : (Cond.stringRef "LateChecks$Text" (108 : Nat) "D") ∈ lw_tbl := List.mem_append_right _ (List.mem_of_getElem? (i := 277) (by decide +kernel))
theorem q278 : (Cond.stringRef "LateChecks$Text" (110 : Nat) "DI") ∈ lw_tbl := List.mem_append_right _ (List.mem_of_getElem? (i := 278) (by decide +kernel))
theorem q279 : (Cond.stringRef "LateChecks$Text" (112 : Nat) "DIV") ∈ lw_tbl := List.mem_append_right _ (List.mem_of_getElem? (i := 279) (by decide +kernel))
theorem q280 : (Cond.methodLink "LateChecks$Text" (57 : Nat) ({ cls := "LateChecks$Text", name := "numberOfToken", desc := "()I" } : Jvm.MethodName)) ∈ gW := gW_tbl (i := 280) (by decide +kernel) rfl
theorem q281 : (Cond.instanceMethod ({ cls := "LateChecks$Text", name := "numberOfToken", desc := "()I" } : Jvm.MethodName)) ∈ gW := gW_tbl (i := 281) (by decide +kernel) rfl
theorem q282 : (Cond.selects "LateChecks$Text" ({ cls := "LateChecks$Text", name := "numberOfToken", desc := "()I" } : Jvm.MethodName) ({ cls := "LateChecks$Text", name := "numberOfToken", desc := "()I" } : Jvm.MethodName)) ∈ gW := gW_tbl (i := 282) (by decide +kernel) rfl
theorem q283 : (Cond.code ({ cls := "LateChecks$Text", name := "numberOfToken", desc := "()I" } : Jvm.MethodName) prog_4_method_9_code (3 : Nat) (Option.some Jvm.ClassFile.FieldType.int)) ∈ gW := gW_tbl (i := 283) (by decide +kernel) rfl
theorem q284 : (Cond.methodLink "LateChecks$Text" (64 : Nat) ({ cls := "LateChecks$Text", name := "leastOf", desc := "(C)I" } : Jvm.MethodName)) ∈ gW := gW_tbl (i := 284) (by decide +kernel) rfl
theorem q285 : (Cond.static ({ cls := "LateChecks$Text", name := "leastOf", desc := "(C)I" } : Jvm.MethodName)) ∈ gW := gW_tbl (i := 285) (by decide +kernel) rfl
theorem q286 : (Cond.code ({ cls := "LateChecks$Text", name := "leastOf", desc := "(C)I" } : Jvm.MethodName) prog_4_method_17_code (1 : Nat) (Option.some Jvm.ClassFile.FieldType.int)) ∈ gW := gW_tbl (i := 286) (by decide +kernel) rfl
theorem q287 : (Cond.methodLink "LateChecks$Text" (68 : Nat) ({ cls := "LateChecks$Text", name := "mostOf", desc := "(C)I" } : Jvm.MethodName)) ∈ gW := gW_tbl (i := 287) (by decide +kernel) rfl
theorem q288 : (Cond.static ({ cls := "LateChecks$Text", name := "mostOf", desc := "(C)I" } : Jvm.MethodName)) ∈ gW := gW_tbl (i := 288) (by decide +kernel) rfl
theorem q289 : (Cond.code ({ cls := "LateChecks$Text", name := "mostOf", desc := "(C)I" } : Jvm.MethodName) prog_4_method_18_code (1 : Nat) (Option.some Jvm.ClassFile.FieldType.int)) ∈ gW := gW_tbl (i := 289) (by decide +kernel) rfl
theorem q290 : (Cond.arrayClass Jvm.ClassFile.FieldType.byte) ∈ gW := gW_tbl (i := 290) (by decide +kernel) rfl
theorem q291 : (Cond.methodLink "LateChecksLaw" (27 : Nat) ({ cls := "LateChecks", name := "tell", desc := "()I" } : Jvm.MethodName)) ∈ gW := gW_tbl (i := 291) (by decide +kernel) rfl
theorem q292 : (Cond.instanceMethod ({ cls := "LateChecks", name := "tell", desc := "()I" } : Jvm.MethodName)) ∈ gW := gW_tbl (i := 292) (by decide +kernel) rfl
theorem q293 : (Cond.selects "LateChecks" ({ cls := "LateChecks", name := "tell", desc := "()I" } : Jvm.MethodName) ({ cls := "LateChecks", name := "tell", desc := "()I" } : Jvm.MethodName)) ∈ gW := gW_tbl (i := 293) (by decide +kernel) rfl
theorem q294 : (Cond.code ({ cls := "LateChecks", name := "tell", desc := "()I" } : Jvm.MethodName) prog_1_method_5_code (3 : Nat) (Option.some Jvm.ClassFile.FieldType.int)) ∈ gW := gW_tbl (i := 294) (by decide +kernel) rfl
theorem q295 : (Cond.methodLink "LateChecks" (55 : Nat) ({ cls := "LateChecks", name := "doClause", desc := "(I)V" } : Jvm.MethodName)) ∈ gW := gW_tbl (i := 295) (by decide +kernel) rfl
theorem q297 : (Cond.instanceMethod ({ cls := "LateChecks", name := "doClause", desc := "(I)V" } : Jvm.MethodName)) ∈ gW := gW_tbl (i := 297) (by decide +kernel) rfl
theorem q298 : (Cond.code ({ cls := "LateChecks", name := "doClause", desc := "(I)V" } : Jvm.MethodName) prog_1_method_29_code (5 : Nat) (Option.none : Option Jvm.ClassFile.FieldType)) ∈ gW := gW_tbl (i := 298) (by decide +kernel) rfl
theorem q299 : (Cond.methodLink "LateChecks" (239 : Nat) ({ cls := "LateChecks$Text", name := "numberOf", desc := "(II)I" } : Jvm.MethodName)) ∈ gW := gW_tbl (i := 299) (by decide +kernel) rfl
theorem q300 : (Cond.instanceMethod ({ cls := "LateChecks$Text", name := "numberOf", desc := "(II)I" } : Jvm.MethodName)) ∈ gW := gW_tbl (i := 300) (by decide +kernel) rfl
theorem q301 : (Cond.selects "LateChecks$Text" ({ cls := "LateChecks$Text", name := "numberOf", desc := "(II)I" } : Jvm.MethodName) ({ cls := "LateChecks$Text", name := "numberOf", desc := "(II)I" } : Jvm.MethodName)) ∈ gW := gW_tbl (i := 301) (by decide +kernel) rfl
theorem q302 : (Cond.code ({ cls := "LateChecks$Text", name := "numberOf", desc := "(II)I" } : Jvm.MethodName) prog_4_method_4_code (4 : Nat) (Option.some Jvm.ClassFile.FieldType.int)) ∈ gW := gW_tbl (i := 302) (by decide +kernel) rfl
theorem q303 : (Cond.methodLink "LateChecks" (243 : Nat) ({ cls := "LateChecks$Text", name := "kindOf", desc := "(I)I" } : Jvm.MethodName)) ∈ gW := gW_tbl (i := 303) (by decide +kernel) rfl
theorem q304 : (Cond.instanceMethod ({ cls := "LateChecks$Text", name := "kindOf", desc := "(I)I" } : Jvm.MethodName)) ∈ gW := gW_tbl (i := 304) (by decide +kernel) rfl
theorem q305 : (Cond.selects "LateChecks$Text" ({ cls := "LateChecks$Text", name := "kindOf", desc := "(I)I" } : Jvm.MethodName) ({ cls := "LateChecks$Text", name := "kindOf", desc := "(I)I" } : Jvm.MethodName)) ∈ gW := gW_tbl (i := 305) (by decide +kernel) rfl
theorem q306 : (Cond.code ({ cls := "LateChecks$Text", name := "kindOf", desc := "(I)I" } : Jvm.MethodName) prog_4_method_3_code (2 : Nat) (Option.some Jvm.ClassFile.FieldType.int)) ∈ gW := gW_tbl (i := 306) (by decide +kernel) rfl
theorem q307 : (Cond.methodLink "LateChecks" (246 : Nat) ({ cls := "LateChecks", name := "put", desc := "(II)I" } : Jvm.MethodName)) ∈ gW := gW_tbl (i := 307) (by decide +kernel) rfl
theorem q308 : (Cond.instanceMethod ({ cls := "LateChecks", name := "put", desc := "(II)I" } : Jvm.MethodName)) ∈ gW := gW_tbl (i := 308) (by decide +kernel) rfl
theorem q309 : (Cond.selects "LateChecks" ({ cls := "LateChecks", name := "put", desc := "(II)I" } : Jvm.MethodName) ({ cls := "LateChecks", name := "put", desc := "(II)I" } : Jvm.MethodName)) ∈ gW := gW_tbl (i := 309) (by decide +kernel) rfl
theorem q310 : (Cond.code ({ cls := "LateChecks", name := "put", desc := "(II)I" } : Jvm.MethodName) prog_1_method_7_code (3 : Nat) (Option.some Jvm.ClassFile.FieldType.int)) ∈ gW := gW_tbl (i := 310) (by decide +kernel) rfl
theorem q311 : (Cond.methodLink "LateChecks" (58 : Nat) ({ cls := "LateChecks", name := "isItem", desc := "(I)Z" } : Jvm.MethodName)) ∈ gW := gW_tbl (i := 311) (by decide +kernel) rfl
theorem q312 : (Cond.static ({ cls := "LateChecks", name := "isItem", desc := "(I)Z" } : Jvm.MethodName)) ∈ gW := gW_tbl (i := 312) (by decide +kernel) rfl
theorem q313 : (Cond.code ({ cls := "LateChecks", name := "isItem", desc := "(I)Z" } : Jvm.MethodName) prog_1_method_30_code (1 : Nat) (Option.some Jvm.ClassFile.FieldType.boolean)) ∈ gW := gW_tbl (i := 313) (by decide +kernel) rfl
theorem q314 : (Cond.methodLink "LateChecks" (62 : Nat) ({ cls := "LateChecks", name := "isValue", desc := "(I)Z" } : Jvm.MethodName)) ∈ gW := gW_tbl (i := 314) (by decide +kernel) rfl
theorem q315 : (Cond.static ({ cls := "LateChecks", name := "isValue", desc := "(I)Z" } : Jvm.MethodName)) ∈ gW := gW_tbl (i := 315) (by decide +kernel) rfl
theorem q316 : (Cond.code ({ cls := "LateChecks", name := "isValue", desc := "(I)Z" } : Jvm.MethodName) prog_1_method_33_code (1 : Nat) (Option.some Jvm.ClassFile.FieldType.boolean)) ∈ gW := gW_tbl (i := 316) (by decide +kernel) rfl
theorem q317 : (Cond.methodLink "LateChecks" (65 : Nat) ({ cls := "LateChecks", name := "howMany", desc := "(I)I" } : Jvm.MethodName)) ∈ gW := gW_tbl (i := 317) (by decide +kernel) rfl
theorem q319 : (Cond.instanceMethod ({ cls := "LateChecks", name := "howMany", desc := "(I)I" } : Jvm.MethodName)) ∈ gW := gW_tbl (i := 319) (by decide +kernel) rfl
theorem q320 : (Cond.code ({ cls := "LateChecks", name := "howMany", desc := "(I)I" } : Jvm.MethodName) prog_1_method_36_code (7 : Nat) (Option.some Jvm.ClassFile.FieldType.int)) ∈ gW := gW_tbl (i := 320) (by decide +kernel) rfl
theorem q321 : (Cond.methodLink "LateChecks" (72 : Nat) ({ cls := "LateChecks", name := "nextEntry", desc := "()LLateChecks$Entry;" } : Jvm.MethodName)) ∈ gW := gW_tbl (i := 321) (by decide +kernel) rfl
theorem q323 : (Cond.instanceMethod ({ cls := "LateChecks", name := "nextEntry", desc := "()LLateChecks$Entry;" } : Jvm.MethodName)) ∈ gW := gW_tbl (i := 323) (by decide +kernel) rfl
theorem q324 : (Cond.code ({ cls := "LateChecks", name := "nextEntry", desc := "()LLateChecks$Entry;" } : Jvm.MethodName) prog_1_method_57_code (2 : Nat) (Option.some (Jvm.ClassFile.FieldType.object "LateChecks$Entry"))) ∈ gW := gW_tbl (i := 324) (by decide +kernel) rfl
theorem q325 : (Cond.instantiable "LateChecks$Entry" (8 : Nat)) ∈ gW := gW_tbl (i := 325) (by decide +kernel) rfl
theorem q326 : (Cond.methodLinkNest "LateChecks" (288 : Nat) ({ cls := "LateChecks$Entry", name := "<init>", desc := "()V" } : Jvm.MethodName) "LateChecks") ∈ lw_tbl := List.mem_append_right _ (List.mem_of_getElem? (i := 326) (by decide +kernel))
theorem q327 : (Cond.instanceMethod ({ cls := "LateChecks$Entry", name := "<init>", desc := "()V" } : Jvm.MethodName)) ∈ gW := gW_tbl (i := 327) (by decide +kernel) rfl
theorem q328 : (Cond.code ({ cls := "LateChecks$Entry", name := "<init>", desc := "()V" } : Jvm.MethodName) prog_3_method_1_code (1 : Nat) (Option.none : Option Jvm.ClassFile.FieldType)) ∈ gW := gW_tbl (i := 328) (by decide +kernel) rfl
theorem q329 : (Cond.methodLink "LateChecks$Entry" (3 : Nat) ({ cls := "java/lang/Object", name := "<init>", desc := "()V" } : Jvm.MethodName)) ∈ gW := gW_tbl (i := 329) (by decide +kernel) rfl
theorem q330 : (Cond.fieldLink "LateChecks$Entry" (24 : Nat) "LateChecks$Entry" "dealNumber" "I") ∈ gW := gW_tbl (i := 330) (by decide +kernel) rfl
theorem q331 : (Cond.fieldLink "LateChecks" (208 : Nat) "LateChecks$Entry" "dealNumber" "I") ∈ gW := gW_tbl (i := 331) (by decide +kernel) rfl
theorem q332 : (Cond.fieldLink "LateChecks$Entry" (30 : Nat) "LateChecks$Entry" "age" "I") ∈ gW := gW_tbl (i := 332) (by decide +kernel) rfl
theorem q333 : (Cond.fieldLink "LateChecks" (211 : Nat) "LateChecks$Entry" "age" "I") ∈ gW := gW_tbl (i := 333) (by decide +kernel) rfl
theorem q334 : (Cond.fieldLink "LateChecks$Entry" (34 : Nat) "LateChecks$Entry" "tries" "I") ∈ gW := gW_tbl (i := 334) (by decide +kernel) rfl
theorem q335 : (Cond.fieldLink "LateChecks" (212 : Nat) "LateChecks$Entry" "tries" "I") ∈ gW := gW_tbl (i := 335) (by decide +kernel) rfl
theorem q336 : (Cond.fieldLink "LateChecks$Entry" (38 : Nat) "LateChecks$Entry" "reads" "I") ∈ gW := gW_tbl (i := 336) (by decide +kernel) rfl
theorem q337 : (Cond.fieldLink "LateChecks" (213 : Nat) "LateChecks$Entry" "reads" "I") ∈ gW := gW_tbl (i := 337) (by decide +kernel) rfl
theorem q338 : (Cond.fieldLink "LateChecks$Entry" (42 : Nat) "LateChecks$Entry" "writes" "I") ∈ gW := gW_tbl (i := 338) (by decide +kernel) rfl
theorem q339 : (Cond.fieldLink "LateChecks" (214 : Nat) "LateChecks$Entry" "writes" "I") ∈ gW := gW_tbl (i := 339) (by decide +kernel) rfl
theorem q340 : (Cond.fieldLink "LateChecks$Entry" (43 : Nat) "LateChecks$Entry" "way" "I") ∈ gW := gW_tbl (i := 340) (by decide +kernel) rfl
theorem q341 : (Cond.fieldLink "LateChecks" (215 : Nat) "LateChecks$Entry" "way" "I") ∈ gW := gW_tbl (i := 341) (by decide +kernel) rfl
theorem q342 : (Cond.fieldLink "LateChecks$Entry" (9 : Nat) "LateChecks$Entry" "notedStamps" "[I") ∈ gW := gW_tbl (i := 342) (by decide +kernel) rfl
theorem q343 : (Cond.fieldLink "LateChecks" (218 : Nat) "LateChecks$Entry" "notedStamps" "[I") ∈ gW := gW_tbl (i := 343) (by decide +kernel) rfl
theorem q344 : (Cond.fieldLink "LateChecks$Entry" (15 : Nat) "LateChecks$Entry" "writtenValues" "[I") ∈ gW := gW_tbl (i := 344) (by decide +kernel) rfl
theorem q345 : (Cond.fieldLink "LateChecks" (219 : Nat) "LateChecks$Entry" "writtenValues" "[I") ∈ gW := gW_tbl (i := 345) (by decide +kernel) rfl
theorem q363 : (Cond.methodLink "LateChecks" (76 : Nat) ({ cls := "LateChecks$Entry", name := "keepWrite", desc := "(II)V" } : Jvm.MethodName)) ∈ gW := gW_tbl (i := 363) (by decide +kernel) rfl
theorem q364 : (Cond.instanceMethod ({ cls := "LateChecks$Entry", name := "keepWrite", desc := "(II)V" } : Jvm.MethodName)) ∈ gW := gW_tbl (i := 364) (by decide +kernel) rfl
theorem q365 : (Cond.selects "LateChecks$Entry" ({ cls := "LateChecks$Entry", name := "keepWrite", desc := "(II)V" } : Jvm.MethodName) ({ cls := "LateChecks$Entry", name := "keepWrite", desc := "(II)V" } : Jvm.MethodName)) ∈ gW := gW_tbl (i := 365) (by decide +kernel) rfl
theorem q366 : (Cond.code ({ cls := "LateChecks$Entry", name := "keepWrite", desc := "(II)V" } : Jvm.MethodName) prog_3_method_3_code (3 : Nat) (Option.none : Option Jvm.ClassFile.FieldType)) ∈ gW := gW_tbl (i := 366) (by decide +kernel) rfl
theorem q367 : (Cond.methodLinkNest "LateChecks$Entry" (48 : Nat) ({ cls := "LateChecks", name := "bit", desc := "(I)I" } : Jvm.MethodName) "LateChecks") ∈ lw_tbl := List.mem_append_right _ (List.mem_of_getElem? (i := 367) (by decide +kernel))
theorem q368 : (Cond.static ({ cls := "LateChecks", name := "bit", desc := "(I)I" } : Jvm.MethodName)) ∈ gW := gW_tbl (i := 368) (by decide +kernel) rfl
theorem q369 : (Cond.code ({ cls := "LateChecks", name := "bit", desc := "(I)I" } : Jvm.MethodName) prog_1_method_34_code (1 : Nat) (Option.some Jvm.ClassFile.FieldType.int)) ∈ gW := gW_tbl (i := 369) (by decide +kernel) rfl
theorem q370 : (Cond.methodLink "LateChecks" (80 : Nat) ({ cls := "LateChecks", name := "change", desc := "(II)V" } : Jvm.MethodName)) ∈ gW := gW_tbl (i := 370) (by decide +kernel) rfl
theorem q372 : (Cond.instanceMethod ({ cls := "LateChecks", name := "change", desc := "(II)V" } : Jvm.MethodName)) ∈ gW := gW_tbl (i := 372) (by decide +kernel) rfl
theorem q373 : (Cond.code ({ cls := "LateChecks", name := "change", desc := "(II)V" } : Jvm.MethodName) prog_1_method_49_code (3 : Nat) (Option.none : Option Jvm.ClassFile.FieldType)) ∈ gW := gW_tbl (i := 373) (by decide +kernel) rfl
theorem q374 : (Cond.methodLink "LateChecks" (249 : Nat) ({ cls := "LateChecks", name := "limit", desc := "(I)I" } : Jvm.MethodName)) ∈ gW := gW_tbl (i := 374) (by decide +kernel) rfl
theorem q375 : (Cond.instanceMethod ({ cls := "LateChecks", name := "limit", desc := "(I)I" } : Jvm.MethodName)) ∈ gW := gW_tbl (i := 375) (by decide +kernel) rfl
theorem q376 : (Cond.selects "LateChecks" ({ cls := "LateChecks", name := "limit", desc := "(I)I" } : Jvm.MethodName) ({ cls := "LateChecks", name := "limit", desc := "(I)I" } : Jvm.MethodName)) ∈ gW := gW_tbl (i := 376) (by decide +kernel) rfl
theorem q377 : (Cond.code ({ cls := "LateChecks", name := "limit", desc := "(I)I" } : Jvm.MethodName) prog_1_method_8_code (3 : Nat) (Option.some Jvm.ClassFile.FieldType.int)) ∈ gW := gW_tbl (i := 377) (by decide +kernel) rfl
theorem q378 : (Cond.methodLink "LateChecks" (252 : Nat) ({ cls := "LateChecks", name := "begin", desc := "(I)I" } : Jvm.MethodName)) ∈ gW := gW_tbl (i := 378) (by decide +kernel) rfl
theorem q379 : (Cond.instanceMethod ({ cls := "LateChecks", name := "begin", desc := "(I)I" } : Jvm.MethodName)) ∈ gW := gW_tbl (i := 379) (by decide +kernel) rfl
theorem q380 : (Cond.selects "LateChecks" ({ cls := "LateChecks", name := "begin", desc := "(I)I" } : Jvm.MethodName) ({ cls := "LateChecks", name := "begin", desc := "(I)I" } : Jvm.MethodName)) ∈ gW := gW_tbl (i := 380) (by decide +kernel) rfl
theorem q381 : (Cond.code ({ cls := "LateChecks", name := "begin", desc := "(I)I" } : Jvm.MethodName) prog_1_method_9_code (3 : Nat) (Option.some Jvm.ClassFile.FieldType.int)) ∈ gW := gW_tbl (i := 381) (by decide +kernel) rfl
theorem q382 : (Cond.methodLink "LateChecks" (86 : Nat) ({ cls := "LateChecks", name := "isDeal", desc := "(I)Z" } : Jvm.MethodName)) ∈ gW := gW_tbl (i := 382) (by decide +kernel) rfl
theorem q383 : (Cond.static ({ cls := "LateChecks", name := "isDeal", desc := "(I)Z" } : Jvm.MethodName)) ∈ gW := gW_tbl (i := 383) (by decide +kernel) rfl
theorem q384 : (Cond.code ({ cls := "LateChecks", name := "isDeal", desc := "(I)Z" } : Jvm.MethodName) prog_1_method_31_code (1 : Nat) (Option.some Jvm.ClassFile.FieldType.boolean)) ∈ gW := gW_tbl (i := 384) (by decide +kernel) rfl
theorem q385 : (Cond.methodLink "LateChecks" (95 : Nat) ({ cls := "LateChecks$Deal", name := "becomeOpen", desc := "(III)V" } : Jvm.MethodName)) ∈ gW := gW_tbl (i := 385) (by decide +kernel) rfl
theorem q386 : (Cond.instanceMethod ({ cls := "LateChecks$Deal", name := "becomeOpen", desc := "(III)V" } : Jvm.MethodName)) ∈ gW := gW_tbl (i := 386) (by decide +kernel) rfl
theorem q387 : (Cond.selects "LateChecks$Deal" ({ cls := "LateChecks$Deal", name := "becomeOpen", desc := "(III)V" } : Jvm.MethodName) ({ cls := "LateChecks$Deal", name := "becomeOpen", desc := "(III)V" } : Jvm.MethodName)) ∈ gW := gW_tbl (i := 387) (by decide +kernel) rfl
theorem q388 : (Cond.code ({ cls := "LateChecks$Deal", name := "becomeOpen", desc := "(III)V" } : Jvm.MethodName) prog_2_method_3_code (4 : Nat) (Option.none : Option Jvm.ClassFile.FieldType)) ∈ gW := gW_tbl (i := 388) (by decide +kernel) rfl
theorem q389 : (Cond.methodLink "LateChecks" (255 : Nat) ({ cls := "LateChecks", name := "read", desc := "(II)I" } : Jvm.MethodName)) ∈ gW := gW_tbl (i := 389) (by decide +kernel) rfl
theorem q390 : (Cond.instanceMethod ({ cls := "LateChecks", name := "read", desc := "(II)I" } : Jvm.MethodName)) ∈ gW := gW_tbl (i := 390) (by decide +kernel) rfl
theorem q391 : (Cond.selects "LateChecks" ({ cls := "LateChecks", name := "read", desc := "(II)I" } : Jvm.MethodName) ({ cls := "LateChecks", name := "read", desc := "(II)I" } : Jvm.MethodName)) ∈ gW := gW_tbl (i := 391) (by decide +kernel) rfl
theorem q392 : (Cond.code ({ cls := "LateChecks", name := "read", desc := "(II)I" } : Jvm.MethodName) prog_1_method_11_code (4 : Nat) (Option.some Jvm.ClassFile.FieldType.int)) ∈ gW := gW_tbl (i := 392) (by decide +kernel) rfl
theorem q393 : (Cond.methodLink "LateChecks" (112 : Nat) ({ cls := "LateChecks", name := "has", desc := "(II)Z" } : Jvm.MethodName)) ∈ gW := gW_tbl (i := 393) (by decide +kernel) rfl
theorem q394 : (Cond.static ({ cls := "LateChecks", name := "has", desc := "(II)Z" } : Jvm.MethodName)) ∈ gW := gW_tbl (i := 394) (by decide +kernel) rfl
theorem q395 : (Cond.code ({ cls := "LateChecks", name := "has", desc := "(II)Z" } : Jvm.MethodName) prog_1_method_35_code (2 : Nat) (Option.some Jvm.ClassFile.FieldType.boolean)) ∈ gW := gW_tbl (i := 395) (by decide +kernel) rfl
theorem q396 : (Cond.methodLink "LateChecks" (128 : Nat) ({ cls := "LateChecks", name := "bit", desc := "(I)I" } : Jvm.MethodName)) ∈ gW := gW_tbl (i := 396) (by decide +kernel) rfl
theorem q397 : (Cond.methodLink "LateChecks" (122 : Nat) ({ cls := "LateChecks$Deal", name := "note", desc := "(III)V" } : Jvm.MethodName)) ∈ gW := gW_tbl (i := 397) (by decide +kernel) rfl
theorem q398 : (Cond.instanceMethod ({ cls := "LateChecks$Deal", name := "note", desc := "(III)V" } : Jvm.MethodName)) ∈ gW := gW_tbl (i := 398) (by decide +kernel) rfl
theorem q399 : (Cond.selects "LateChecks$Deal" ({ cls := "LateChecks$Deal", name := "note", desc := "(III)V" } : Jvm.MethodName) ({ cls := "LateChecks$Deal", name := "note", desc := "(III)V" } : Jvm.MethodName)) ∈ gW := gW_tbl (i := 399) (by decide +kernel) rfl
theorem q400 : (Cond.code ({ cls := "LateChecks$Deal", name := "note", desc := "(III)V" } : Jvm.MethodName) prog_2_method_5_code (4 : Nat) (Option.none : Option Jvm.ClassFile.FieldType)) ∈ gW := gW_tbl (i := 400) (by decide +kernel) rfl
theorem q401 : (Cond.methodLinkNest "LateChecks$Deal" (53 : Nat) ({ cls := "LateChecks", name := "bit", desc := "(I)I" } : Jvm.MethodName) "LateChecks") ∈ lw_tbl := List.mem_append_right _ (List.mem_of_getElem? (i := 401) (by decide +kernel))
theorem q402 : (Cond.methodLink "LateChecks" (258 : Nat) ({ cls := "LateChecks", name := "lay", desc := "(III)I" } : Jvm.MethodName)) ∈ gW := gW_tbl (i := 402) (by decide +kernel) rfl
theorem q403 : (Cond.instanceMethod ({ cls := "LateChecks", name := "lay", desc := "(III)I" } : Jvm.MethodName)) ∈ gW := gW_tbl (i := 403) (by decide +kernel) rfl
theorem q404 : (Cond.selects "LateChecks" ({ cls := "LateChecks", name := "lay", desc := "(III)I" } : Jvm.MethodName) ({ cls := "LateChecks", name := "lay", desc := "(III)I" } : Jvm.MethodName)) ∈ gW := gW_tbl (i := 404) (by decide +kernel) rfl
theorem q405 : (Cond.code ({ cls := "LateChecks", name := "lay", desc := "(III)I" } : Jvm.MethodName) prog_1_method_12_code (5 : Nat) (Option.some Jvm.ClassFile.FieldType.int)) ∈ gW := gW_tbl (i := 405) (by decide +kernel) rfl
theorem q406 : (Cond.methodLink "LateChecks" (131 : Nat) ({ cls := "java/lang/Integer", name := "bitCount", desc := "(I)I" } : Jvm.MethodName)) ∈ gW := gW_tbl (i := 406) (by decide +kernel) rfl
theorem q407 : (Cond.static ({ cls := "java/lang/Integer", name := "bitCount", desc := "(I)I" } : Jvm.MethodName)) ∈ gW := gW_tbl (i := 407) (by decide +kernel) rfl
theorem q408 : (Cond.code ({ cls := "java/lang/Integer", name := "bitCount", desc := "(I)I" } : Jvm.MethodName) prog_7_method_49_code (1 : Nat) (Option.some Jvm.ClassFile.FieldType.int)) ∈ gW := gW_tbl (i := 408) (by decide +kernel) rfl
theorem q409 : (Cond.constant "java/lang/Integer" (265 : Nat) (1431655765 : Int32)) ∈ gW := gW_tbl (i := 409) (by decide +kernel) rfl
theorem q410 : (Cond.constant "java/lang/Integer" (266 : Nat) (858993459 : Int32)) ∈ gW := gW_tbl (i := 410) (by decide +kernel) rfl
theorem q411 : (Cond.constant "java/lang/Integer" (267 : Nat) (252645135 : Int32)) ∈ gW := gW_tbl (i := 411) (by decide +kernel) rfl
theorem q412 : (Cond.methodLink "LateChecks" (262 : Nat) ({ cls := "LateChecks", name := "send", desc := "(I)I" } : Jvm.MethodName)) ∈ gW := gW_tbl (i := 412) (by decide +kernel) rfl
theorem q413 : (Cond.instanceMethod ({ cls := "LateChecks", name := "send", desc := "(I)I" } : Jvm.MethodName)) ∈ gW := gW_tbl (i := 413) (by decide +kernel) rfl
theorem q414 : (Cond.selects "LateChecks" ({ cls := "LateChecks", name := "send", desc := "(I)I" } : Jvm.MethodName) ({ cls := "LateChecks", name := "send", desc := "(I)I" } : Jvm.MethodName)) ∈ gW := gW_tbl (i := 414) (by decide +kernel) rfl
theorem q415 : (Cond.code ({ cls := "LateChecks", name := "send", desc := "(I)I" } : Jvm.MethodName) prog_1_method_17_code (3 : Nat) (Option.some Jvm.ClassFile.FieldType.int)) ∈ gW := gW_tbl (i := 415) (by decide +kernel) rfl
theorem q416 : (Cond.methodLink "LateChecks" (162 : Nat) ({ cls := "LateChecks$Deal", name := "becomeSent", desc := "(I)V" } : Jvm.MethodName)) ∈ gW := gW_tbl (i := 416) (by decide +kernel) rfl
theorem q417 : (Cond.instanceMethod ({ cls := "LateChecks$Deal", name := "becomeSent", desc := "(I)V" } : Jvm.MethodName)) ∈ gW := gW_tbl (i := 417) (by decide +kernel) rfl
theorem q418 : (Cond.selects "LateChecks$Deal" ({ cls := "LateChecks$Deal", name := "becomeSent", desc := "(I)V" } : Jvm.MethodName) ({ cls := "LateChecks$Deal", name := "becomeSent", desc := "(I)V" } : Jvm.MethodName)) ∈ gW := gW_tbl (i := 418) (by decide +kernel) rfl
theorem q419 : (Cond.code ({ cls := "LateChecks$Deal", name := "becomeSent", desc := "(I)V" } : Jvm.MethodName) prog_2_method_4_code (3 : Nat) (Option.none : Option Jvm.ClassFile.FieldType)) ∈ gW := gW_tbl (i := 419) (by decide +kernel) rfl
theorem q420 : (Cond.methodLink "LateChecksLaw" (31 : Nat) ({ cls := "LateChecks", name := "item", desc := "(II)I" } : Jvm.MethodName)) ∈ gW := gW_tbl (i := 420) (by decide +kernel) rfl
theorem q421 : (Cond.instanceMethod ({ cls := "LateChecks", name := "item", desc := "(II)I" } : Jvm.MethodName)) ∈ gW := gW_tbl (i := 421) (by decide +kernel) rfl
theorem q422 : (Cond.selects "LateChecks" ({ cls := "LateChecks", name := "item", desc := "(II)I" } : Jvm.MethodName) ({ cls := "LateChecks", name := "item", desc := "(II)I" } : Jvm.MethodName)) ∈ gW := gW_tbl (i := 422) (by decide +kernel) rfl
theorem q423 : (Cond.code ({ cls := "LateChecks", name := "item", desc := "(II)I" } : Jvm.MethodName) prog_1_method_6_code (3 : Nat) (Option.some Jvm.ClassFile.FieldType.int)) ∈ gW := gW_tbl (i := 423) (by decide +kernel) rfl
theorem q424 : (Cond.methodLink "LateChecksLaw" (36 : Nat) ({ cls := "LateChecks", name := "put", desc := "(II)I" } : Jvm.MethodName)) ∈ gW := gW_tbl (i := 424) (by decide +kernel) rfl
theorem q425 : (Cond.methodLink "LateChecksLaw" (40 : Nat) ({ cls := "LateChecks", name := "limit", desc := "(I)I" } : Jvm.MethodName)) ∈ gW := gW_tbl (i := 425) (by decide +kernel) rfl
theorem q426 : (Cond.methodLink "LateChecksLaw" (44 : Nat) ({ cls := "LateChecks", name := "begin", desc := "(I)I" } : Jvm.MethodName)) ∈ gW := gW_tbl (i := 426) (by decide +kernel) rfl
theorem q427 : (Cond.methodLink "LateChecksLaw" (48 : Nat) ({ cls := "LateChecks", name := "retry", desc := "(I)I" } : Jvm.MethodName)) ∈ gW := gW_tbl (i := 427) (by decide +kernel) rfl
theorem q428 : (Cond.instanceMethod ({ cls := "LateChecks", name := "retry", desc := "(I)I" } : Jvm.MethodName)) ∈ gW := gW_tbl (i := 428) (by decide +kernel) rfl
theorem q429 : (Cond.selects "LateChecks" ({ cls := "LateChecks", name := "retry", desc := "(I)I" } : Jvm.MethodName) ({ cls := "LateChecks", name := "retry", desc := "(I)I" } : Jvm.MethodName)) ∈ gW := gW_tbl (i := 429) (by decide +kernel) rfl
theorem q430 : (Cond.code ({ cls := "LateChecks", name := "retry", desc := "(I)I" } : Jvm.MethodName) prog_1_method_10_code (3 : Nat) (Option.some Jvm.ClassFile.FieldType.int)) ∈ gW := gW_tbl (i := 430) (by decide +kernel) rfl
theorem q431 : (Cond.methodLink "LateChecksLaw" (52 : Nat) ({ cls := "LateChecks", name := "read", desc := "(II)I" } : Jvm.MethodName)) ∈ gW := gW_tbl (i := 431) (by decide +kernel) rfl
theorem q432 : (Cond.methodLink "LateChecksLaw" (56 : Nat) ({ cls := "LateChecks", name := "lay", desc := "(III)I" } : Jvm.MethodName)) ∈ gW := gW_tbl (i := 432) (by decide +kernel) rfl
theorem q433 : (Cond.methodLink "LateChecksLaw" (61 : Nat) ({ cls := "LateChecks", name := "commit", desc := "(II)I" } : Jvm.MethodName)) ∈ gW := gW_tbl (i := 433) (by decide +kernel) rfl
theorem q434 : (Cond.instanceMethod ({ cls := "LateChecks", name := "commit", desc := "(II)I" } : Jvm.MethodName)) ∈ gW := gW_tbl (i := 434) (by decide +kernel) rfl
theorem q435 : (Cond.selects "LateChecks" ({ cls := "LateChecks", name := "commit", desc := "(II)I" } : Jvm.MethodName) ({ cls := "LateChecks", name := "commit", desc := "(II)I" } : Jvm.MethodName)) ∈ gW := gW_tbl (i := 435) (by decide +kernel) rfl
theorem q436 : (Cond.code ({ cls := "LateChecks", name := "commit", desc := "(II)I" } : Jvm.MethodName) prog_1_method_13_code (5 : Nat) (Option.some Jvm.ClassFile.FieldType.int)) ∈ gW := gW_tbl (i := 436) (by decide +kernel) rfl
theorem q437 : (Cond.methodLink "LateChecks" (136 : Nat) ({ cls := "LateChecks", name := "foretell", desc := "(LLateChecks$Deal;I)I" } : Jvm.MethodName)) ∈ gW := gW_tbl (i := 437) (by decide +kernel) rfl
theorem q439 : (Cond.instanceMethod ({ cls := "LateChecks", name := "foretell", desc := "(LLateChecks$Deal;I)I" } : Jvm.MethodName)) ∈ gW := gW_tbl (i := 439) (by decide +kernel) rfl
theorem q440 : (Cond.code ({ cls := "LateChecks", name := "foretell", desc := "(LLateChecks$Deal;I)I" } : Jvm.MethodName) prog_1_method_42_code (3 : Nat) (Option.some Jvm.ClassFile.FieldType.int)) ∈ gW := gW_tbl (i := 440) (by decide +kernel) rfl
theorem q441 : (Cond.methodLink "LateChecks" (156 : Nat) ({ cls := "LateChecks", name := "staleOf", desc := "(LLateChecks$Deal;)I" } : Jvm.MethodName)) ∈ gW := gW_tbl (i := 441) (by decide +kernel) rfl
theorem q443 : (Cond.instanceMethod ({ cls := "LateChecks", name := "staleOf", desc := "(LLateChecks$Deal;)I" } : Jvm.MethodName)) ∈ gW := gW_tbl (i := 443) (by decide +kernel) rfl
theorem q444 : (Cond.code ({ cls := "LateChecks", name := "staleOf", desc := "(LLateChecks$Deal;)I" } : Jvm.MethodName) prog_1_method_39_code (4 : Nat) (Option.some Jvm.ClassFile.FieldType.int)) ∈ gW := gW_tbl (i := 444) (by decide +kernel) rfl
theorem q445 : (Cond.methodLink "LateChecks" (198 : Nat) ({ cls := "LateChecks", name := "crossedOf", desc := "(LLateChecks$Deal;)I" } : Jvm.MethodName)) ∈ gW := gW_tbl (i := 445) (by decide +kernel) rfl
theorem q447 : (Cond.instanceMethod ({ cls := "LateChecks", name := "crossedOf", desc := "(LLateChecks$Deal;)I" } : Jvm.MethodName)) ∈ gW := gW_tbl (i := 447) (by decide +kernel) rfl
theorem q448 : (Cond.code ({ cls := "LateChecks", name := "crossedOf", desc := "(LLateChecks$Deal;)I" } : Jvm.MethodName) prog_1_method_40_code (4 : Nat) (Option.some Jvm.ClassFile.FieldType.int)) ∈ gW := gW_tbl (i := 448) (by decide +kernel) rfl
theorem q449 : (Cond.methodLink "LateChecks" (268 : Nat) ({ cls := "LateChecks", name := "mustYield", desc := "(LLateChecks$Deal;)Z" } : Jvm.MethodName)) ∈ gW := gW_tbl (i := 449) (by decide +kernel) rfl
theorem q451 : (Cond.instanceMethod ({ cls := "LateChecks", name := "mustYield", desc := "(LLateChecks$Deal;)Z" } : Jvm.MethodName)) ∈ gW := gW_tbl (i := 451) (by decide +kernel) rfl
theorem q452 : (Cond.code ({ cls := "LateChecks", name := "mustYield", desc := "(LLateChecks$Deal;)Z" } : Jvm.MethodName) prog_1_method_44_code (7 : Nat) (Option.some Jvm.ClassFile.FieldType.boolean)) ∈ gW := gW_tbl (i := 452) (by decide +kernel) rfl
theorem q453 : (Cond.methodLink "LateChecks" (146 : Nat) ({ cls := "LateChecks", name := "rivalsOf", desc := "(LLateChecks$Deal;)I" } : Jvm.MethodName)) ∈ gW := gW_tbl (i := 453) (by decide +kernel) rfl
theorem q455 : (Cond.instanceMethod ({ cls := "LateChecks", name := "rivalsOf", desc := "(LLateChecks$Deal;)I" } : Jvm.MethodName)) ∈ gW := gW_tbl (i := 455) (by decide +kernel) rfl
theorem q456 : (Cond.code ({ cls := "LateChecks", name := "rivalsOf", desc := "(LLateChecks$Deal;)I" } : Jvm.MethodName) prog_1_method_41_code (7 : Nat) (Option.some Jvm.ClassFile.FieldType.int)) ∈ gW := gW_tbl (i := 456) (by decide +kernel) rfl
theorem q457 : (Cond.methodLink "LateChecks" (271 : Nat) ({ cls := "LateChecks", name := "goesFirst", desc := "(LLateChecks$Deal;LLateChecks$Deal;)Z" } : Jvm.MethodName)) ∈ gW := gW_tbl (i := 457) (by decide +kernel) rfl
theorem q459 : (Cond.instanceMethod ({ cls := "LateChecks", name := "goesFirst", desc := "(LLateChecks$Deal;LLateChecks$Deal;)Z" } : Jvm.MethodName)) ∈ gW := gW_tbl (i := 459) (by decide +kernel) rfl
theorem q460 : (Cond.code ({ cls := "LateChecks", name := "goesFirst", desc := "(LLateChecks$Deal;LLateChecks$Deal;)Z" } : Jvm.MethodName) prog_1_method_45_code (3 : Nat) (Option.some Jvm.ClassFile.FieldType.boolean)) ∈ gW := gW_tbl (i := 460) (by decide +kernel) rfl
theorem q461 : (Cond.methodLink "LateChecks" (194 : Nat) ({ cls := "LateChecks", name := "isStubborn", desc := "(LLateChecks$Deal;)Z" } : Jvm.MethodName)) ∈ gW := gW_tbl (i := 461) (by decide +kernel) rfl
theorem q463 : (Cond.instanceMethod ({ cls := "LateChecks", name := "isStubborn", desc := "(LLateChecks$Deal;)Z" } : Jvm.MethodName)) ∈ gW := gW_tbl (i := 463) (by decide +kernel) rfl
theorem q464 : (Cond.code ({ cls := "LateChecks", name := "isStubborn", desc := "(LLateChecks$Deal;)Z" } : Jvm.MethodName) prog_1_method_38_code (2 : Nat) (Option.some Jvm.ClassFile.FieldType.boolean)) ∈ gW := gW_tbl (i := 464) (by decide +kernel) rfl
theorem q465 : (Cond.methodLink "LateChecks" (140 : Nat) ({ cls := "LateChecks", name := "isFailure", desc := "(I)Z" } : Jvm.MethodName)) ∈ gW := gW_tbl (i := 465) (by decide +kernel) rfl
theorem q466 : (Cond.static ({ cls := "LateChecks", name := "isFailure", desc := "(I)Z" } : Jvm.MethodName)) ∈ gW := gW_tbl (i := 466) (by decide +kernel) rfl
theorem q467 : (Cond.code ({ cls := "LateChecks", name := "isFailure", desc := "(I)Z" } : Jvm.MethodName) prog_1_method_43_code (1 : Nat) (Option.some Jvm.ClassFile.FieldType.boolean)) ∈ gW := gW_tbl (i := 467) (by decide +kernel) rfl
theorem q468 : (Cond.methodLink "LateChecks" (143 : Nat) ({ cls := "LateChecks", name := "lose", desc := "(LLateChecks$Deal;I)I" } : Jvm.MethodName)) ∈ gW := gW_tbl (i := 468) (by decide +kernel) rfl
theorem q470 : (Cond.instanceMethod ({ cls := "LateChecks", name := "lose", desc := "(LLateChecks$Deal;I)I" } : Jvm.MethodName)) ∈ gW := gW_tbl (i := 470) (by decide +kernel) rfl
theorem q471 : (Cond.code ({ cls := "LateChecks", name := "lose", desc := "(LLateChecks$Deal;I)I" } : Jvm.MethodName) prog_1_method_47_code (3 : Nat) (Option.some Jvm.ClassFile.FieldType.int)) ∈ gW := gW_tbl (i := 471) (by decide +kernel) rfl
theorem q472 : (Cond.methodLink "LateChecks" (150 : Nat) ({ cls := "LateChecks", name := "doomAll", desc := "(I)V" } : Jvm.MethodName)) ∈ gW := gW_tbl (i := 472) (by decide +kernel) rfl
theorem q474 : (Cond.instanceMethod ({ cls := "LateChecks", name := "doomAll", desc := "(I)V" } : Jvm.MethodName)) ∈ gW := gW_tbl (i := 474) (by decide +kernel) rfl
theorem q475 : (Cond.code ({ cls := "LateChecks", name := "doomAll", desc := "(I)V" } : Jvm.MethodName) prog_1_method_46_code (6 : Nat) (Option.none : Option Jvm.ClassFile.FieldType)) ∈ gW := gW_tbl (i := 475) (by decide +kernel) rfl
theorem q476 : (Cond.methodLink "LateChecks" (153 : Nat) ({ cls := "LateChecks", name := "keep", desc := "(LLateChecks$Deal;I)I" } : Jvm.MethodName)) ∈ gW := gW_tbl (i := 476) (by decide +kernel) rfl
theorem q478 : (Cond.instanceMethod ({ cls := "LateChecks", name := "keep", desc := "(LLateChecks$Deal;I)I" } : Jvm.MethodName)) ∈ gW := gW_tbl (i := 478) (by decide +kernel) rfl
theorem q479 : (Cond.code ({ cls := "LateChecks", name := "keep", desc := "(LLateChecks$Deal;I)I" } : Jvm.MethodName) prog_1_method_48_code (4 : Nat) (Option.some Jvm.ClassFile.FieldType.int)) ∈ gW := gW_tbl (i := 479) (by decide +kernel) rfl
theorem q480 : (Cond.methodLink "LateChecks" (275 : Nat) ({ cls := "LateChecks$Entry", name := "keepDeal", desc := "(LLateChecks$Deal;I)V" } : Jvm.MethodName)) ∈ gW := gW_tbl (i := 480) (by decide +kernel) rfl
theorem q481 : (Cond.instanceMethod ({ cls := "LateChecks$Entry", name := "keepDeal", desc := "(LLateChecks$Deal;I)V" } : Jvm.MethodName)) ∈ gW := gW_tbl (i := 481) (by decide +kernel) rfl
theorem q482 : (Cond.selects "LateChecks$Entry" ({ cls := "LateChecks$Entry", name := "keepDeal", desc := "(LLateChecks$Deal;I)V" } : Jvm.MethodName) ({ cls := "LateChecks$Entry", name := "keepDeal", desc := "(LLateChecks$Deal;I)V" } : Jvm.MethodName)) ∈ gW := gW_tbl (i := 482) (by decide +kernel) rfl
theorem q483 : (Cond.code ({ cls := "LateChecks$Entry", name := "keepDeal", desc := "(LLateChecks$Deal;I)V" } : Jvm.MethodName) prog_3_method_2_code (4 : Nat) (Option.none : Option Jvm.ClassFile.FieldType)) ∈ gW := gW_tbl (i := 483) (by decide +kernel) rfl
theorem q484 : (Cond.methodLink "LateChecksLaw" (65 : Nat) ({ cls := "LateChecks", name := "peek", desc := "(II)I" } : Jvm.MethodName)) ∈ gW := gW_tbl (i := 484) (by decide +kernel) rfl
theorem q485 : (Cond.instanceMethod ({ cls := "LateChecks", name := "peek", desc := "(II)I" } : Jvm.MethodName)) ∈ gW := gW_tbl (i := 485) (by decide +kernel) rfl
theorem q486 : (Cond.selects "LateChecks" ({ cls := "LateChecks", name := "peek", desc := "(II)I" } : Jvm.MethodName) ({ cls := "LateChecks", name := "peek", desc := "(II)I" } : Jvm.MethodName)) ∈ gW := gW_tbl (i := 486) (by decide +kernel) rfl
theorem q487 : (Cond.code ({ cls := "LateChecks", name := "peek", desc := "(II)I" } : Jvm.MethodName) prog_1_method_14_code (3 : Nat) (Option.some Jvm.ClassFile.FieldType.int)) ∈ gW := gW_tbl (i := 487) (by decide +kernel) rfl
theorem q488 : (Cond.methodLink "LateChecksLaw" (69 : Nat) ({ cls := "LateChecks", name := "abort", desc := "(I)I" } : Jvm.MethodName)) ∈ gW := gW_tbl (i := 488) (by decide +kernel) rfl
theorem q489 : (Cond.instanceMethod ({ cls := "LateChecks", name := "abort", desc := "(I)I" } : Jvm.MethodName)) ∈ gW := gW_tbl (i := 489) (by decide +kernel) rfl
theorem q490 : (Cond.selects "LateChecks" ({ cls := "LateChecks", name := "abort", desc := "(I)I" } : Jvm.MethodName) ({ cls := "LateChecks", name := "abort", desc := "(I)I" } : Jvm.MethodName)) ∈ gW := gW_tbl (i := 490) (by decide +kernel) rfl
theorem q491 : (Cond.code ({ cls := "LateChecks", name := "abort", desc := "(I)I" } : Jvm.MethodName) prog_1_method_15_code (3 : Nat) (Option.some Jvm.ClassFile.FieldType.int)) ∈ gW := gW_tbl (i := 491) (by decide +kernel) rfl
theorem q492 : (Cond.methodLink "LateChecksLaw" (73 : Nat) ({ cls := "LateChecks", name := "sweep", desc := "()I" } : Jvm.MethodName)) ∈ gW := gW_tbl (i := 492) (by decide +kernel) rfl
theorem q493 : (Cond.instanceMethod ({ cls := "LateChecks", name := "sweep", desc := "()I" } : Jvm.MethodName)) ∈ gW := gW_tbl (i := 493) (by decide +kernel) rfl
theorem q494 : (Cond.selects "LateChecks" ({ cls := "LateChecks", name := "sweep", desc := "()I" } : Jvm.MethodName) ({ cls := "LateChecks", name := "sweep", desc := "()I" } : Jvm.MethodName)) ∈ gW := gW_tbl (i := 494) (by decide +kernel) rfl
theorem q495 : (Cond.code ({ cls := "LateChecks", name := "sweep", desc := "()I" } : Jvm.MethodName) prog_1_method_16_code (6 : Nat) (Option.some Jvm.ClassFile.FieldType.int)) ∈ gW := gW_tbl (i := 495) (by decide +kernel) rfl
theorem q496 : (Cond.methodLink "LateChecksLaw" (77 : Nat) ({ cls := "LateChecks", name := "send", desc := "(I)I" } : Jvm.MethodName)) ∈ gW := gW_tbl (i := 496) (by decide +kernel) rfl
theorem q497 : (Cond.methodLink "LateChecksLaw" (81 : Nat) ({ cls := "LateChecks", name := "vote", desc := "(I)I" } : Jvm.MethodName)) ∈ gW := gW_tbl (i := 497) (by decide +kernel) rfl
theorem q498 : (Cond.instanceMethod ({ cls := "LateChecks", name := "vote", desc := "(I)I" } : Jvm.MethodName)) ∈ gW := gW_tbl (i := 498) (by decide +kernel) rfl
theorem q499 : (Cond.selects "LateChecks" ({ cls := "LateChecks", name := "vote", desc := "(I)I" } : Jvm.MethodName) ({ cls := "LateChecks", name := "vote", desc := "(I)I" } : Jvm.MethodName)) ∈ gW := gW_tbl (i := 499) (by decide +kernel) rfl
theorem q500 : (Cond.code ({ cls := "LateChecks", name := "vote", desc := "(I)I" } : Jvm.MethodName) prog_1_method_18_code (4 : Nat) (Option.some Jvm.ClassFile.FieldType.int)) ∈ gW := gW_tbl (i := 500) (by decide +kernel) rfl
theorem q501 : (Cond.methodLink "LateChecks" (168 : Nat) ({ cls := "LateChecks", name := "isValidator", desc := "(I)Z" } : Jvm.MethodName)) ∈ gW := gW_tbl (i := 501) (by decide +kernel) rfl
theorem q502 : (Cond.static ({ cls := "LateChecks", name := "isValidator", desc := "(I)Z" } : Jvm.MethodName)) ∈ gW := gW_tbl (i := 502) (by decide +kernel) rfl
theorem q503 : (Cond.code ({ cls := "LateChecks", name := "isValidator", desc := "(I)Z" } : Jvm.MethodName) prog_1_method_32_code (1 : Nat) (Option.some Jvm.ClassFile.FieldType.boolean)) ∈ gW := gW_tbl (i := 503) (by decide +kernel) rfl
theorem q504 : (Cond.methodLink "LateChecks" (171 : Nat) ({ cls := "LateChecks", name := "firstWithoutVote", desc := "(I)I" } : Jvm.MethodName)) ∈ gW := gW_tbl (i := 504) (by decide +kernel) rfl
theorem q506 : (Cond.instanceMethod ({ cls := "LateChecks", name := "firstWithoutVote", desc := "(I)I" } : Jvm.MethodName)) ∈ gW := gW_tbl (i := 506) (by decide +kernel) rfl
theorem q507 : (Cond.code ({ cls := "LateChecks", name := "firstWithoutVote", desc := "(I)I" } : Jvm.MethodName) prog_1_method_52_code (4 : Nat) (Option.some Jvm.ClassFile.FieldType.int)) ∈ gW := gW_tbl (i := 507) (by decide +kernel) rfl
theorem q508 : (Cond.methodLink "LateChecks" (181 : Nat) ({ cls := "LateChecks", name := "sentAt", desc := "(I)I" } : Jvm.MethodName)) ∈ gW := gW_tbl (i := 508) (by decide +kernel) rfl
theorem q510 : (Cond.instanceMethod ({ cls := "LateChecks", name := "sentAt", desc := "(I)I" } : Jvm.MethodName)) ∈ gW := gW_tbl (i := 510) (by decide +kernel) rfl
theorem q511 : (Cond.code ({ cls := "LateChecks", name := "sentAt", desc := "(I)I" } : Jvm.MethodName) prog_1_method_50_code (6 : Nat) (Option.some Jvm.ClassFile.FieldType.int)) ∈ gW := gW_tbl (i := 511) (by decide +kernel) rfl
theorem q512 : (Cond.methodLink "LateChecks" (279 : Nat) ({ cls := "LateChecks", name := "sentBefore", desc := "(LLateChecks$Deal;)I" } : Jvm.MethodName)) ∈ gW := gW_tbl (i := 512) (by decide +kernel) rfl
theorem q514 : (Cond.instanceMethod ({ cls := "LateChecks", name := "sentBefore", desc := "(LLateChecks$Deal;)I" } : Jvm.MethodName)) ∈ gW := gW_tbl (i := 514) (by decide +kernel) rfl
theorem q515 : (Cond.code ({ cls := "LateChecks", name := "sentBefore", desc := "(LLateChecks$Deal;)I" } : Jvm.MethodName) prog_1_method_51_code (7 : Nat) (Option.some Jvm.ClassFile.FieldType.int)) ∈ gW := gW_tbl (i := 515) (by decide +kernel) rfl
theorem q516 : (Cond.methodLink "LateChecks" (177 : Nat) ({ cls := "LateChecks", name := "opinion", desc := "(ILLateChecks$Deal;)I" } : Jvm.MethodName)) ∈ gW := gW_tbl (i := 516) (by decide +kernel) rfl
theorem q518 : (Cond.instanceMethod ({ cls := "LateChecks", name := "opinion", desc := "(ILLateChecks$Deal;)I" } : Jvm.MethodName)) ∈ gW := gW_tbl (i := 518) (by decide +kernel) rfl
theorem q519 : (Cond.code ({ cls := "LateChecks", name := "opinion", desc := "(ILLateChecks$Deal;)I" } : Jvm.MethodName) prog_1_method_53_code (4 : Nat) (Option.some Jvm.ClassFile.FieldType.int)) ∈ gW := gW_tbl (i := 519) (by decide +kernel) rfl
theorem q520 : (Cond.methodLink "LateChecks" (282 : Nat) ({ cls := "LateChecks", name := "promisedBefore", desc := "(ILLateChecks$Deal;)I" } : Jvm.MethodName)) ∈ gW := gW_tbl (i := 520) (by decide +kernel) rfl
theorem q522 : (Cond.instanceMethod ({ cls := "LateChecks", name := "promisedBefore", desc := "(ILLateChecks$Deal;)I" } : Jvm.MethodName)) ∈ gW := gW_tbl (i := 522) (by decide +kernel) rfl
theorem q523 : (Cond.code ({ cls := "LateChecks", name := "promisedBefore", desc := "(ILLateChecks$Deal;)I" } : Jvm.MethodName) prog_1_method_54_code (8 : Nat) (Option.some Jvm.ClassFile.FieldType.int)) ∈ gW := gW_tbl (i := 523) (by decide +kernel) rfl
theorem q524 : (Cond.methodLink "LateChecks" (285 : Nat) ({ cls := "LateChecks", name := "itemsOf", desc := "(I)I" } : Jvm.MethodName)) ∈ gW := gW_tbl (i := 524) (by decide +kernel) rfl
theorem q525 : (Cond.static ({ cls := "LateChecks", name := "itemsOf", desc := "(I)I" } : Jvm.MethodName)) ∈ gW := gW_tbl (i := 525) (by decide +kernel) rfl
theorem q526 : (Cond.code ({ cls := "LateChecks", name := "itemsOf", desc := "(I)I" } : Jvm.MethodName) prog_1_method_55_code (2 : Nat) (Option.some Jvm.ClassFile.FieldType.int)) ∈ gW := gW_tbl (i := 526) (by decide +kernel) rfl
theorem q527 : (Cond.methodLink "LateChecksLaw" (85 : Nat) ({ cls := "LateChecks", name := "settle", desc := "()I" } : Jvm.MethodName)) ∈ gW := gW_tbl (i := 527) (by decide +kernel) rfl
theorem q528 : (Cond.instanceMethod ({ cls := "LateChecks", name := "settle", desc := "()I" } : Jvm.MethodName)) ∈ gW := gW_tbl (i := 528) (by decide +kernel) rfl
theorem q529 : (Cond.selects "LateChecks" ({ cls := "LateChecks", name := "settle", desc := "()I" } : Jvm.MethodName) ({ cls := "LateChecks", name := "settle", desc := "()I" } : Jvm.MethodName)) ∈ gW := gW_tbl (i := 529) (by decide +kernel) rfl
theorem q530 : (Cond.code ({ cls := "LateChecks", name := "settle", desc := "()I" } : Jvm.MethodName) prog_1_method_19_code (3 : Nat) (Option.some Jvm.ClassFile.FieldType.int)) ∈ gW := gW_tbl (i := 530) (by decide +kernel) rfl
theorem q531 : (Cond.methodLink "LateChecks" (184 : Nat) ({ cls := "LateChecks$Deal", name := "hasAllVotes", desc := "()Z" } : Jvm.MethodName)) ∈ gW := gW_tbl (i := 531) (by decide +kernel) rfl
theorem q532 : (Cond.instanceMethod ({ cls := "LateChecks$Deal", name := "hasAllVotes", desc := "()Z" } : Jvm.MethodName)) ∈ gW := gW_tbl (i := 532) (by decide +kernel) rfl
theorem q533 : (Cond.selects "LateChecks$Deal" ({ cls := "LateChecks$Deal", name := "hasAllVotes", desc := "()Z" } : Jvm.MethodName) ({ cls := "LateChecks$Deal", name := "hasAllVotes", desc := "()Z" } : Jvm.MethodName)) ∈ gW := gW_tbl (i := 533) (by decide +kernel) rfl
theorem q534 : (Cond.code ({ cls := "LateChecks$Deal", name := "hasAllVotes", desc := "()Z" } : Jvm.MethodName) prog_2_method_6_code (5 : Nat) (Option.some Jvm.ClassFile.FieldType.boolean)) ∈ gW := gW_tbl (i := 534) (by decide +kernel) rfl
theorem q535 : (Cond.methodLink "LateChecks" (188 : Nat) ({ cls := "LateChecks$Deal", name := "hasOnlyYes", desc := "()Z" } : Jvm.MethodName)) ∈ gW := gW_tbl (i := 535) (by decide +kernel) rfl
theorem q536 : (Cond.instanceMethod ({ cls := "LateChecks$Deal", name := "hasOnlyYes", desc := "()Z" } : Jvm.MethodName)) ∈ gW := gW_tbl (i := 536) (by decide +kernel) rfl
theorem q537 : (Cond.selects "LateChecks$Deal" ({ cls := "LateChecks$Deal", name := "hasOnlyYes", desc := "()Z" } : Jvm.MethodName) ({ cls := "LateChecks$Deal", name := "hasOnlyYes", desc := "()Z" } : Jvm.MethodName)) ∈ gW := gW_tbl (i := 537) (by decide +kernel) rfl
theorem q538 : (Cond.code ({ cls := "LateChecks$Deal", name := "hasOnlyYes", desc := "()Z" } : Jvm.MethodName) prog_2_method_7_code (5 : Nat) (Option.some Jvm.ClassFile.FieldType.boolean)) ∈ gW := gW_tbl (i := 538) (by decide +kernel) rfl
theorem q539 : (Cond.methodLink "LateChecksLaw" (89 : Nat) ({ cls := "LateChecks", name := "deal", desc := "(II)I" } : Jvm.MethodName)) ∈ gW := gW_tbl (i := 539) (by decide +kernel) rfl
theorem q540 : (Cond.instanceMethod ({ cls := "LateChecks", name := "deal", desc := "(II)I" } : Jvm.MethodName)) ∈ gW := gW_tbl (i := 540) (by decide +kernel) rfl
theorem q541 : (Cond.selects "LateChecks" ({ cls := "LateChecks", name := "deal", desc := "(II)I" } : Jvm.MethodName) ({ cls := "LateChecks", name := "deal", desc := "(II)I" } : Jvm.MethodName)) ∈ gW := gW_tbl (i := 541) (by decide +kernel) rfl
theorem q542 : (Cond.code ({ cls := "LateChecks", name := "deal", desc := "(II)I" } : Jvm.MethodName) prog_1_method_20_code (4 : Nat) (Option.some Jvm.ClassFile.FieldType.int)) ∈ gW := gW_tbl (i := 542) (by decide +kernel) rfl
theorem q543 : (Cond.methodLink "LateChecksLaw" (93 : Nat) ({ cls := "LateChecks", name := "noted", desc := "(III)I" } : Jvm.MethodName)) ∈ gW := gW_tbl (i := 543) (by decide +kernel) rfl
theorem q544 : (Cond.instanceMethod ({ cls := "LateChecks", name := "noted", desc := "(III)I" } : Jvm.MethodName)) ∈ gW := gW_tbl (i := 544) (by decide +kernel) rfl
theorem q545 : (Cond.selects "LateChecks" ({ cls := "LateChecks", name := "noted", desc := "(III)I" } : Jvm.MethodName) ({ cls := "LateChecks", name := "noted", desc := "(III)I" } : Jvm.MethodName)) ∈ gW := gW_tbl (i := 545) (by decide +kernel) rfl
theorem q546 : (Cond.code ({ cls := "LateChecks", name := "noted", desc := "(III)I" } : Jvm.MethodName) prog_1_method_21_code (5 : Nat) (Option.some Jvm.ClassFile.FieldType.int)) ∈ gW := gW_tbl (i := 546) (by decide +kernel) rfl
theorem q547 : (Cond.methodLink "LateChecksLaw" (97 : Nat) ({ cls := "LateChecks", name := "sent", desc := "(I)I" } : Jvm.MethodName)) ∈ gW := gW_tbl (i := 547) (by decide +kernel) rfl
theorem q548 : (Cond.instanceMethod ({ cls := "LateChecks", name := "sent", desc := "(I)I" } : Jvm.MethodName)) ∈ gW := gW_tbl (i := 548) (by decide +kernel) rfl
theorem q549 : (Cond.selects "LateChecks" ({ cls := "LateChecks", name := "sent", desc := "(I)I" } : Jvm.MethodName) ({ cls := "LateChecks", name := "sent", desc := "(I)I" } : Jvm.MethodName)) ∈ gW := gW_tbl (i := 549) (by decide +kernel) rfl
theorem q550 : (Cond.code ({ cls := "LateChecks", name := "sent", desc := "(I)I" } : Jvm.MethodName) prog_1_method_22_code (3 : Nat) (Option.some Jvm.ClassFile.FieldType.int)) ∈ gW := gW_tbl (i := 550) (by decide +kernel) rfl
theorem q551 : (Cond.methodLink "LateChecksLaw" (101 : Nat) ({ cls := "LateChecks", name := "ballot", desc := "(II)I" } : Jvm.MethodName)) ∈ gW := gW_tbl (i := 551) (by decide +kernel) rfl
theorem q552 : (Cond.instanceMethod ({ cls := "LateChecks", name := "ballot", desc := "(II)I" } : Jvm.MethodName)) ∈ gW := gW_tbl (i := 552) (by decide +kernel) rfl
theorem q553 : (Cond.selects "LateChecks" ({ cls := "LateChecks", name := "ballot", desc := "(II)I" } : Jvm.MethodName) ({ cls := "LateChecks", name := "ballot", desc := "(II)I" } : Jvm.MethodName)) ∈ gW := gW_tbl (i := 553) (by decide +kernel) rfl
theorem q554 : (Cond.code ({ cls := "LateChecks", name := "ballot", desc := "(II)I" } : Jvm.MethodName) prog_1_method_23_code (4 : Nat) (Option.some Jvm.ClassFile.FieldType.int)) ∈ gW := gW_tbl (i := 554) (by decide +kernel) rfl
theorem q555 : (Cond.methodLink "LateChecksLaw" (105 : Nat) ({ cls := "LateChecks", name := "log", desc := "(II)I" } : Jvm.MethodName)) ∈ gW := gW_tbl (i := 555) (by decide +kernel) rfl
theorem q556 : (Cond.instanceMethod ({ cls := "LateChecks", name := "log", desc := "(II)I" } : Jvm.MethodName)) ∈ gW := gW_tbl (i := 556) (by decide +kernel) rfl
theorem q557 : (Cond.selects "LateChecks" ({ cls := "LateChecks", name := "log", desc := "(II)I" } : Jvm.MethodName) ({ cls := "LateChecks", name := "log", desc := "(II)I" } : Jvm.MethodName)) ∈ gW := gW_tbl (i := 557) (by decide +kernel) rfl
theorem q558 : (Cond.code ({ cls := "LateChecks", name := "log", desc := "(II)I" } : Jvm.MethodName) prog_1_method_24_code (4 : Nat) (Option.some Jvm.ClassFile.FieldType.int)) ∈ gW := gW_tbl (i := 558) (by decide +kernel) rfl
theorem q559 : (Cond.methodLink "LateChecks" (204 : Nat) ({ cls := "LateChecks", name := "entryOf", desc := "(I)LLateChecks$Entry;" } : Jvm.MethodName)) ∈ gW := gW_tbl (i := 559) (by decide +kernel) rfl
theorem q561 : (Cond.instanceMethod ({ cls := "LateChecks", name := "entryOf", desc := "(I)LLateChecks$Entry;" } : Jvm.MethodName)) ∈ gW := gW_tbl (i := 561) (by decide +kernel) rfl
theorem q562 : (Cond.code ({ cls := "LateChecks", name := "entryOf", desc := "(I)LLateChecks$Entry;" } : Jvm.MethodName) prog_1_method_56_code (2 : Nat) (Option.some (Jvm.ClassFile.FieldType.object "LateChecks$Entry"))) ∈ gW := gW_tbl (i := 562) (by decide +kernel) rfl
theorem q563 : (Cond.methodLink "LateChecksLaw" (109 : Nat) ({ cls := "LateChecks", name := "logged", desc := "(III)I" } : Jvm.MethodName)) ∈ gW := gW_tbl (i := 563) (by decide +kernel) rfl
theorem q564 : (Cond.instanceMethod ({ cls := "LateChecks", name := "logged", desc := "(III)I" } : Jvm.MethodName)) ∈ gW := gW_tbl (i := 564) (by decide +kernel) rfl
theorem q565 : (Cond.selects "LateChecks" ({ cls := "LateChecks", name := "logged", desc := "(III)I" } : Jvm.MethodName) ({ cls := "LateChecks", name := "logged", desc := "(III)I" } : Jvm.MethodName)) ∈ gW := gW_tbl (i := 565) (by decide +kernel) rfl
theorem q566 : (Cond.code ({ cls := "LateChecks", name := "logged", desc := "(III)I" } : Jvm.MethodName) prog_1_method_25_code (5 : Nat) (Option.some Jvm.ClassFile.FieldType.int)) ∈ gW := gW_tbl (i := 566) (by decide +kernel) rfl
theorem q567 : (Cond.methodLink "LateChecksLaw" (113 : Nat) ({ cls := "LateChecks", name := "behind", desc := "(II)I" } : Jvm.MethodName)) ∈ gW := gW_tbl (i := 567) (by decide +kernel) rfl
theorem q568 : (Cond.instanceMethod ({ cls := "LateChecks", name := "behind", desc := "(II)I" } : Jvm.MethodName)) ∈ gW := gW_tbl (i := 568) (by decide +kernel) rfl
theorem q569 : (Cond.selects "LateChecks" ({ cls := "LateChecks", name := "behind", desc := "(II)I" } : Jvm.MethodName) ({ cls := "LateChecks", name := "behind", desc := "(II)I" } : Jvm.MethodName)) ∈ gW := gW_tbl (i := 569) (by decide +kernel) rfl
theorem q570 : (Cond.code ({ cls := "LateChecks", name := "behind", desc := "(II)I" } : Jvm.MethodName) prog_1_method_26_code (6 : Nat) (Option.some Jvm.ClassFile.FieldType.int)) ∈ gW := gW_tbl (i := 570) (by decide +kernel) rfl
theorem q571 : (Cond.methodLink "LateChecks" (220 : Nat) ({ cls := "LateChecks$Entry", name := "hasNoted", desc := "(I)Z" } : Jvm.MethodName)) ∈ gW := gW_tbl (i := 571) (by decide +kernel) rfl
theorem q572 : (Cond.instanceMethod ({ cls := "LateChecks$Entry", name := "hasNoted", desc := "(I)Z" } : Jvm.MethodName)) ∈ gW := gW_tbl (i := 572) (by decide +kernel) rfl
theorem q573 : (Cond.selects "LateChecks$Entry" ({ cls := "LateChecks$Entry", name := "hasNoted", desc := "(I)Z" } : Jvm.MethodName) ({ cls := "LateChecks$Entry", name := "hasNoted", desc := "(I)Z" } : Jvm.MethodName)) ∈ gW := gW_tbl (i := 573) (by decide +kernel) rfl
theorem q574 : (Cond.code ({ cls := "LateChecks$Entry", name := "hasNoted", desc := "(I)Z" } : Jvm.MethodName) prog_3_method_4_code (3 : Nat) (Option.some Jvm.ClassFile.FieldType.boolean)) ∈ gW := gW_tbl (i := 574) (by decide +kernel) rfl
theorem q575 : (Cond.methodLinkNest "LateChecks$Entry" (52 : Nat) ({ cls := "LateChecks", name := "has", desc := "(II)Z" } : Jvm.MethodName) "LateChecks") ∈ lw_tbl := List.mem_append_right _ (List.mem_of_getElem? (i := 575) (by decide +kernel))
theorem q576 : (Cond.methodLink "LateChecksLaw" (117 : Nat) ({ cls := "LateChecks", name := "count", desc := "(I)I" } : Jvm.MethodName)) ∈ gW := gW_tbl (i := 576) (by decide +kernel) rfl
theorem q577 : (Cond.instanceMethod ({ cls := "LateChecks", name := "count", desc := "(I)I" } : Jvm.MethodName)) ∈ gW := gW_tbl (i := 577) (by decide +kernel) rfl
theorem q578 : (Cond.selects "LateChecks" ({ cls := "LateChecks", name := "count", desc := "(I)I" } : Jvm.MethodName) ({ cls := "LateChecks", name := "count", desc := "(I)I" } : Jvm.MethodName)) ∈ gW := gW_tbl (i := 578) (by decide +kernel) rfl
theorem q579 : (Cond.code ({ cls := "LateChecks", name := "count", desc := "(I)I" } : Jvm.MethodName) prog_1_method_27_code (2 : Nat) (Option.some Jvm.ClassFile.FieldType.int)) ∈ gW := gW_tbl (i := 579) (by decide +kernel) rfl
theorem q580 : (Cond.methodLink "LateChecks" (232 : Nat) ({ cls := "LateChecks", name := "allValues", desc := "()I" } : Jvm.MethodName)) ∈ gW := gW_tbl (i := 580) (by decide +kernel) rfl
theorem q582 : (Cond.instanceMethod ({ cls := "LateChecks", name := "allValues", desc := "()I" } : Jvm.MethodName)) ∈ gW := gW_tbl (i := 582) (by decide +kernel) rfl
theorem q583 : (Cond.code ({ cls := "LateChecks", name := "allValues", desc := "()I" } : Jvm.MethodName) prog_1_method_37_code (6 : Nat) (Option.some Jvm.ClassFile.FieldType.int)) ∈ gW := gW_tbl (i := 583) (by decide +kernel) rfl
theorem q584 : (Cond.classLink "LateChecksLaw" (10 : Nat) "LateChecksModel") ∈ gW := gW_tbl (i := 584) (by decide +kernel) rfl
theorem q585 : (Cond.instantiable "LateChecksModel" (30 : Nat)) ∈ gW := gW_tbl (i := 585) (by decide +kernel) rfl
theorem q586 : (Cond.methodLink "LateChecksLaw" (12 : Nat) ({ cls := "LateChecksModel", name := "<init>", desc := "()V" } : Jvm.MethodName)) ∈ gW := gW_tbl (i := 586) (by decide +kernel) rfl
theorem q587 : (Cond.instanceMethod ({ cls := "LateChecksModel", name := "<init>", desc := "()V" } : Jvm.MethodName)) ∈ gW := gW_tbl (i := 587) (by decide +kernel) rfl
theorem q588 : (Cond.code ({ cls := "LateChecksModel", name := "<init>", desc := "()V" } : Jvm.MethodName) prog_6_method_1_code (1 : Nat) (Option.none : Option Jvm.ClassFile.FieldType)) ∈ gW := gW_tbl (i := 588) (by decide +kernel) rfl
theorem q589 : (Cond.methodLink "LateChecksModel" (1 : Nat) ({ cls := "java/lang/Object", name := "<init>", desc := "()V" } : Jvm.MethodName)) ∈ gW := gW_tbl (i := 589) (by decide +kernel) rfl
theorem q590 : (Cond.fieldLink "LateChecksModel" (7 : Nat) "LateChecksModel" "values" "[I") ∈ gW := gW_tbl (i := 590) (by decide +kernel) rfl
theorem q591 : (Cond.fieldLink "LateChecksModel" (13 : Nat) "LateChecksModel" "stamps" "[I") ∈ gW := gW_tbl (i := 591) (by decide +kernel) rfl
theorem q592 : (Cond.fieldLink "LateChecksModel" (81 : Nat) "LateChecksModel" "commits" "I") ∈ gW := gW_tbl (i := 592) (by decide +kernel) rfl
theorem q593 : (Cond.fieldLink "LateChecksModel" (16 : Nat) "LateChecksModel" "log" "[I") ∈ gW := gW_tbl (i := 593) (by decide +kernel) rfl
theorem q594 : (Cond.fieldLink "LateChecksModel" (19 : Nat) "LateChecksModel" "states" "[I") ∈ gW := gW_tbl (i := 594) (by decide +kernel) rfl
theorem q595 : (Cond.fieldLink "LateChecksModel" (22 : Nat) "LateChecksModel" "starts" "[I") ∈ gW := gW_tbl (i := 595) (by decide +kernel) rfl
theorem q596 : (Cond.fieldLink "LateChecksModel" (25 : Nat) "LateChecksModel" "ages" "[I") ∈ gW := gW_tbl (i := 596) (by decide +kernel) rfl
theorem q597 : (Cond.fieldLink "LateChecksModel" (28 : Nat) "LateChecksModel" "tries" "[I") ∈ gW := gW_tbl (i := 597) (by decide +kernel) rfl
theorem q598 : (Cond.fieldLink "LateChecksModel" (31 : Nat) "LateChecksModel" "isLost" "[Z") ∈ gW := gW_tbl (i := 598) (by decide +kernel) rfl
theorem q599 : (Cond.fieldLink "LateChecksModel" (35 : Nat) "LateChecksModel" "reads" "[I") ∈ gW := gW_tbl (i := 599) (by decide +kernel) rfl
theorem q600 : (Cond.fieldLink "LateChecksModel" (38 : Nat) "LateChecksModel" "writes" "[I") ∈ gW := gW_tbl (i := 600) (by decide +kernel) rfl
theorem q601 : (Cond.fieldLink "LateChecksModel" (41 : Nat) "LateChecksModel" "notedValues" "[I") ∈ gW := gW_tbl (i := 601) (by decide +kernel) rfl
theorem q602 : (Cond.fieldLink "LateChecksModel" (44 : Nat) "LateChecksModel" "notedStamps" "[I") ∈ gW := gW_tbl (i := 602) (by decide +kernel) rfl
theorem q603 : (Cond.fieldLink "LateChecksModel" (47 : Nat) "LateChecksModel" "laid" "[I") ∈ gW := gW_tbl (i := 603) (by decide +kernel) rfl
theorem q604 : (Cond.fieldLink "LateChecksModel" (50 : Nat) "LateChecksModel" "tickets" "[I") ∈ gW := gW_tbl (i := 604) (by decide +kernel) rfl
theorem q605 : (Cond.fieldLink "LateChecksModel" (53 : Nat) "LateChecksModel" "votes" "[I") ∈ gW := gW_tbl (i := 605) (by decide +kernel) rfl
theorem q606 : (Cond.fieldLink "LateChecksModel" (56 : Nat) "LateChecksModel" "limit" "I") ∈ gW := gW_tbl (i := 606) (by decide +kernel) rfl
theorem q607 : (Cond.fieldLink "LateChecksModel" (84 : Nat) "LateChecksModel" "ticket" "I") ∈ gW := gW_tbl (i := 607) (by decide +kernel) rfl
theorem q608 : (Cond.fieldLink "LateChecksModel" (87 : Nat) "LateChecksModel" "begun" "I") ∈ gW := gW_tbl (i := 608) (by decide +kernel) rfl
theorem q609 : (Cond.fieldLink "LateChecksModel" (90 : Nat) "LateChecksModel" "failed" "I") ∈ gW := gW_tbl (i := 609) (by decide +kernel) rfl
theorem q610 : (Cond.fieldLink "LateChecksModel" (93 : Nat) "LateChecksModel" "vain" "I") ∈ gW := gW_tbl (i := 610) (by decide +kernel) rfl
theorem q611 : (Cond.fieldLink "LateChecksModel" (96 : Nat) "LateChecksModel" "yields" "I") ∈ gW := gW_tbl (i := 611) (by decide +kernel) rfl
theorem q612 : (Cond.fieldLink "LateChecksModel" (60 : Nat) "LateChecksModel" "text" "[I") ∈ gW := gW_tbl (i := 612) (by decide +kernel) rfl
theorem q613 : (Cond.fieldLink "LateChecksModel" (101 : Nat) "LateChecksModel" "length" "I") ∈ gW := gW_tbl (i := 613) (by decide +kernel) rfl
theorem q614 : (Cond.fieldLink "LateChecksModel" (115 : Nat) "LateChecksModel" "first" "I") ∈ gW := gW_tbl (i := 614) (by decide +kernel) rfl
theorem q615 : (Cond.fieldLink "LateChecksModel" (112 : Nat) "LateChecksModel" "behind" "I") ∈ gW := gW_tbl (i := 615) (by decide +kernel) rfl
theorem q616 : (Cond.fieldLink "LateChecksModel" (169 : Nat) "LateChecksModel" "clauses" "I") ∈ gW := gW_tbl (i := 616) (by decide +kernel) rfl
theorem q617 : (Cond.fieldLink "LateChecksModel" (161 : Nat) "LateChecksModel" "doing" "Z") ∈ gW := gW_tbl (i := 617) (by decide +kernel) rfl
theorem q618 : (Cond.fieldLink "LateChecksModel" (63 : Nat) "LateChecksModel" "numbers" "[I") ∈ gW := gW_tbl (i := 618) (by decide +kernel) rfl
theorem q619 : (Cond.fieldLink "LateChecksModel" (66 : Nat) "LateChecksModel" "words" "[I") ∈ gW := gW_tbl (i := 619) (by decide +kernel) rfl
theorem q681 : (Cond.arrayClass Jvm.ClassFile.FieldType.boolean) ∈ gW := gW_tbl (i := 681) (by decide +kernel) rfl
theorem q682 : (Cond.methodLink "LateChecksLaw" (17 : Nat) ({ cls := "LateChecksModel", name := "write", desc := "(I)I" } : Jvm.MethodName)) ∈ gW := gW_tbl (i := 682) (by decide +kernel) rfl
theorem q683 : (Cond.instanceMethod ({ cls := "LateChecksModel", name := "write", desc := "(I)I" } : Jvm.MethodName)) ∈ gW := gW_tbl (i := 683) (by decide +kernel) rfl
theorem q684 : (Cond.selects "LateChecksModel" ({ cls := "LateChecksModel", name := "write", desc := "(I)I" } : Jvm.MethodName) ({ cls := "LateChecksModel", name := "write", desc := "(I)I" } : Jvm.MethodName)) ∈ gW := gW_tbl (i := 684) (by decide +kernel) rfl
theorem q685 : (Cond.code ({ cls := "LateChecksModel", name := "write", desc := "(I)I" } : Jvm.MethodName) prog_6_method_11_code (2 : Nat) (Option.some Jvm.ClassFile.FieldType.int)) ∈ gW := gW_tbl (i := 685) (by decide +kernel) rfl
theorem q686 : (Cond.constantLong "LateChecksModel" (99 : Nat) (255 : Int64)) ∈ gW := gW_tbl (i := 686) (by decide +kernel) rfl
theorem q687 : (Cond.methodLink "LateChecksModel" (71 : Nat) ({ cls := "LateChecksModel", name := "in", desc := "(JJJ)Z" } : Jvm.MethodName)) ∈ gW := gW_tbl (i := 687) (by decide +kernel) rfl
theorem q688 : (Cond.static ({ cls := "LateChecksModel", name := "in", desc := "(JJJ)Z" } : Jvm.MethodName)) ∈ gW := gW_tbl (i := 688) (by decide +kernel) rfl
theorem q689 : (Cond.code ({ cls := "LateChecksModel", name := "in", desc := "(JJJ)Z" } : Jvm.MethodName) prog_6_method_2_code (6 : Nat) (Option.some Jvm.ClassFile.FieldType.boolean)) ∈ gW := gW_tbl (i := 689) (by decide +kernel) rfl
theorem q690 : (Cond.methodLink "LateChecksLaw" (22 : Nat) ({ cls := "LateChecksModel", name := "erase", desc := "()I" } : Jvm.MethodName)) ∈ gW := gW_tbl (i := 690) (by decide +kernel) rfl
theorem q691 : (Cond.instanceMethod ({ cls := "LateChecksModel", name := "erase", desc := "()I" } : Jvm.MethodName)) ∈ gW := gW_tbl (i := 691) (by decide +kernel) rfl
theorem q692 : (Cond.selects "LateChecksModel" ({ cls := "LateChecksModel", name := "erase", desc := "()I" } : Jvm.MethodName) ({ cls := "LateChecksModel", name := "erase", desc := "()I" } : Jvm.MethodName)) ∈ gW := gW_tbl (i := 692) (by decide +kernel) rfl
theorem q693 : (Cond.code ({ cls := "LateChecksModel", name := "erase", desc := "()I" } : Jvm.MethodName) prog_6_method_12_code (2 : Nat) (Option.some Jvm.ClassFile.FieldType.int)) ∈ gW := gW_tbl (i := 693) (by decide +kernel) rfl
theorem q694 : (Cond.methodLink "LateChecksLaw" (26 : Nat) ({ cls := "LateChecksModel", name := "fault", desc := "()I" } : Jvm.MethodName)) ∈ gW := gW_tbl (i := 694) (by decide +kernel) rfl
theorem q695 : (Cond.instanceMethod ({ cls := "LateChecksModel", name := "fault", desc := "()I" } : Jvm.MethodName)) ∈ gW := gW_tbl (i := 695) (by decide +kernel) rfl
theorem q696 : (Cond.selects "LateChecksModel" ({ cls := "LateChecksModel", name := "fault", desc := "()I" } : Jvm.MethodName) ({ cls := "LateChecksModel", name := "fault", desc := "()I" } : Jvm.MethodName)) ∈ gW := gW_tbl (i := 696) (by decide +kernel) rfl
theorem q697 : (Cond.code ({ cls := "LateChecksModel", name := "fault", desc := "()I" } : Jvm.MethodName) prog_6_method_22_code (1 : Nat) (Option.some Jvm.ClassFile.FieldType.int)) ∈ gW := gW_tbl (i := 697) (by decide +kernel) rfl
theorem q698 : (Cond.methodLink "LateChecksModel" (176 : Nat) ({ cls := "LateChecksModel", name := "readsAll", desc := "(Z)Z" } : Jvm.MethodName)) ∈ gW := gW_tbl (i := 698) (by decide +kernel) rfl
theorem q700 : (Cond.instanceMethod ({ cls := "LateChecksModel", name := "readsAll", desc := "(Z)Z" } : Jvm.MethodName)) ∈ gW := gW_tbl (i := 700) (by decide +kernel) rfl
theorem q701 : (Cond.code ({ cls := "LateChecksModel", name := "readsAll", desc := "(Z)Z" } : Jvm.MethodName) prog_6_method_21_code (3 : Nat) (Option.some Jvm.ClassFile.FieldType.boolean)) ∈ gW := gW_tbl (i := 701) (by decide +kernel) rfl
theorem q702 : (Cond.methodLink "LateChecksModel" (125 : Nat) ({ cls := "LateChecksModel", name := "next", desc := "()V" } : Jvm.MethodName)) ∈ gW := gW_tbl (i := 702) (by decide +kernel) rfl
theorem q704 : (Cond.instanceMethod ({ cls := "LateChecksModel", name := "next", desc := "()V" } : Jvm.MethodName)) ∈ gW := gW_tbl (i := 704) (by decide +kernel) rfl
theorem q705 : (Cond.code ({ cls := "LateChecksModel", name := "next", desc := "()V" } : Jvm.MethodName) prog_6_method_15_code (3 : Nat) (Option.none : Option Jvm.ClassFile.FieldType)) ∈ gW := gW_tbl (i := 705) (by decide +kernel) rfl
theorem q706 : (Cond.methodLink "LateChecksModel" (118 : Nat) ({ cls := "LateChecksModel", name := "isSmall", desc := "(I)Z" } : Jvm.MethodName)) ∈ gW := gW_tbl (i := 706) (by decide +kernel) rfl
theorem q707 : (Cond.static ({ cls := "LateChecksModel", name := "isSmall", desc := "(I)Z" } : Jvm.MethodName)) ∈ gW := gW_tbl (i := 707) (by decide +kernel) rfl
theorem q708 : (Cond.code ({ cls := "LateChecksModel", name := "isSmall", desc := "(I)Z" } : Jvm.MethodName) prog_6_method_13_code (1 : Nat) (Option.some Jvm.ClassFile.FieldType.boolean)) ∈ gW := gW_tbl (i := 708) (by decide +kernel) rfl
theorem q709 : (Cond.constantLong "LateChecksModel" (104 : Nat) (97 : Int64)) ∈ gW := gW_tbl (i := 709) (by decide +kernel) rfl
theorem q710 : (Cond.constantLong "LateChecksModel" (106 : Nat) (122 : Int64)) ∈ gW := gW_tbl (i := 710) (by decide +kernel) rfl
theorem q711 : (Cond.methodLink "LateChecksModel" (122 : Nat) ({ cls := "LateChecksModel", name := "isDigit", desc := "(I)Z" } : Jvm.MethodName)) ∈ gW := gW_tbl (i := 711) (by decide +kernel) rfl
theorem q712 : (Cond.static ({ cls := "LateChecksModel", name := "isDigit", desc := "(I)Z" } : Jvm.MethodName)) ∈ gW := gW_tbl (i := 712) (by decide +kernel) rfl
theorem q713 : (Cond.code ({ cls := "LateChecksModel", name := "isDigit", desc := "(I)Z" } : Jvm.MethodName) prog_6_method_14_code (1 : Nat) (Option.some Jvm.ClassFile.FieldType.boolean)) ∈ gW := gW_tbl (i := 713) (by decide +kernel) rfl
theorem q714 : (Cond.constantLong "LateChecksModel" (108 : Nat) (48 : Int64)) ∈ gW := gW_tbl (i := 714) (by decide +kernel) rfl
theorem q715 : (Cond.constantLong "LateChecksModel" (110 : Nat) (57 : Int64)) ∈ gW := gW_tbl (i := 715) (by decide +kernel) rfl
theorem q716 : (Cond.methodLink "LateChecksModel" (172 : Nat) ({ cls := "LateChecksModel", name := "readsClause", desc := "()Z" } : Jvm.MethodName)) ∈ gW := gW_tbl (i := 716) (by decide +kernel) rfl
theorem q718 : (Cond.instanceMethod ({ cls := "LateChecksModel", name := "readsClause", desc := "()Z" } : Jvm.MethodName)) ∈ gW := gW_tbl (i := 718) (by decide +kernel) rfl
theorem q719 : (Cond.code ({ cls := "LateChecksModel", name := "readsClause", desc := "()Z" } : Jvm.MethodName) prog_6_method_20_code (2 : Nat) (Option.some Jvm.ClassFile.FieldType.boolean)) ∈ gW := gW_tbl (i := 719) (by decide +kernel) rfl
theorem q720 : (Cond.methodLink "LateChecksModel" (154 : Nat) ({ cls := "LateChecksModel", name := "wordHere", desc := "()I" } : Jvm.MethodName)) ∈ gW := gW_tbl (i := 720) (by decide +kernel) rfl
theorem q722 : (Cond.instanceMethod ({ cls := "LateChecksModel", name := "wordHere", desc := "()I" } : Jvm.MethodName)) ∈ gW := gW_tbl (i := 722) (by decide +kernel) rfl
theorem q723 : (Cond.code ({ cls := "LateChecksModel", name := "wordHere", desc := "()I" } : Jvm.MethodName) prog_6_method_16_code (4 : Nat) (Option.some Jvm.ClassFile.FieldType.int)) ∈ gW := gW_tbl (i := 723) (by decide +kernel) rfl
theorem q724 : (Cond.methodLink "LateChecksModel" (158 : Nat) ({ cls := "LateChecksModel", name := "readsRest", desc := "(I)Z" } : Jvm.MethodName)) ∈ gW := gW_tbl (i := 724) (by decide +kernel) rfl
theorem q726 : (Cond.instanceMethod ({ cls := "LateChecksModel", name := "readsRest", desc := "(I)Z" } : Jvm.MethodName)) ∈ gW := gW_tbl (i := 726) (by decide +kernel) rfl
theorem q727 : (Cond.code ({ cls := "LateChecksModel", name := "readsRest", desc := "(I)Z" } : Jvm.MethodName) prog_6_method_18_code (2 : Nat) (Option.some Jvm.ClassFile.FieldType.boolean)) ∈ gW := gW_tbl (i := 727) (by decide +kernel) rfl
theorem q728 : (Cond.methodLink "LateChecksModel" (128 : Nat) ({ cls := "LateChecksModel", name := "reads", desc := "(III)Z" } : Jvm.MethodName)) ∈ gW := gW_tbl (i := 728) (by decide +kernel) rfl
theorem q730 : (Cond.instanceMethod ({ cls := "LateChecksModel", name := "reads", desc := "(III)Z" } : Jvm.MethodName)) ∈ gW := gW_tbl (i := 730) (by decide +kernel) rfl
theorem q731 : (Cond.code ({ cls := "LateChecksModel", name := "reads", desc := "(III)Z" } : Jvm.MethodName) prog_6_method_17_code (6 : Nat) (Option.some Jvm.ClassFile.FieldType.boolean)) ∈ gW := gW_tbl (i := 731) (by decide +kernel) rfl
theorem q732 : (Cond.methodLink "LateChecksModel" (165 : Nat) ({ cls := "LateChecksModel", name := "does", desc := "(I)V" } : Jvm.MethodName)) ∈ gW := gW_tbl (i := 732) (by decide +kernel) rfl
theorem q734 : (Cond.instanceMethod ({ cls := "LateChecksModel", name := "does", desc := "(I)V" } : Jvm.MethodName)) ∈ gW := gW_tbl (i := 734) (by decide +kernel) rfl
theorem q735 : (Cond.code ({ cls := "LateChecksModel", name := "does", desc := "(I)V" } : Jvm.MethodName) prog_6_method_19_code (2 : Nat) (Option.none : Option Jvm.ClassFile.FieldType)) ∈ gW := gW_tbl (i := 735) (by decide +kernel) rfl
theorem q736 : (Cond.methodLink "LateChecksModel" (131 : Nat) ({ cls := "LateChecksModel", name := "allAnew", desc := "()V" } : Jvm.MethodName)) ∈ gW := gW_tbl (i := 736) (by decide +kernel) rfl
theorem q738 : (Cond.instanceMethod ({ cls := "LateChecksModel", name := "allAnew", desc := "()V" } : Jvm.MethodName)) ∈ gW := gW_tbl (i := 738) (by decide +kernel) rfl
theorem q739 : (Cond.code ({ cls := "LateChecksModel", name := "allAnew", desc := "()V" } : Jvm.MethodName) prog_6_method_7_code (2 : Nat) (Option.none : Option Jvm.ClassFile.FieldType)) ∈ gW := gW_tbl (i := 739) (by decide +kernel) rfl
theorem q740 : (Cond.methodLink "LateChecksModel" (77 : Nat) ({ cls := "LateChecksModel", name := "frees", desc := "(IZ)V" } : Jvm.MethodName)) ∈ gW := gW_tbl (i := 740) (by decide +kernel) rfl
theorem q742 : (Cond.instanceMethod ({ cls := "LateChecksModel", name := "frees", desc := "(IZ)V" } : Jvm.MethodName)) ∈ gW := gW_tbl (i := 742) (by decide +kernel) rfl
theorem q743 : (Cond.code ({ cls := "LateChecksModel", name := "frees", desc := "(IZ)V" } : Jvm.MethodName) prog_6_method_8_code (3 : Nat) (Option.none : Option Jvm.ClassFile.FieldType)) ∈ gW := gW_tbl (i := 743) (by decide +kernel) rfl
theorem q744 : (Cond.methodLink "LateChecksModel" (134 : Nat) ({ cls := "LateChecksModel", name := "put", desc := "(II)I" } : Jvm.MethodName)) ∈ gW := gW_tbl (i := 744) (by decide +kernel) rfl
theorem q745 : (Cond.instanceMethod ({ cls := "LateChecksModel", name := "put", desc := "(II)I" } : Jvm.MethodName)) ∈ gW := gW_tbl (i := 745) (by decide +kernel) rfl
theorem q746 : (Cond.selects "LateChecksModel" ({ cls := "LateChecksModel", name := "put", desc := "(II)I" } : Jvm.MethodName) ({ cls := "LateChecksModel", name := "put", desc := "(II)I" } : Jvm.MethodName)) ∈ gW := gW_tbl (i := 746) (by decide +kernel) rfl
theorem q747 : (Cond.code ({ cls := "LateChecksModel", name := "put", desc := "(II)I" } : Jvm.MethodName) prog_6_method_27_code (4 : Nat) (Option.some Jvm.ClassFile.FieldType.int)) ∈ gW := gW_tbl (i := 747) (by decide +kernel) rfl
theorem q748 : (Cond.methodLink "LateChecksModel" (180 : Nat) ({ cls := "LateChecksModel", name := "isItem", desc := "(I)Z" } : Jvm.MethodName)) ∈ gW := gW_tbl (i := 748) (by decide +kernel) rfl
theorem q749 : (Cond.static ({ cls := "LateChecksModel", name := "isItem", desc := "(I)Z" } : Jvm.MethodName)) ∈ gW := gW_tbl (i := 749) (by decide +kernel) rfl
theorem q750 : (Cond.code ({ cls := "LateChecksModel", name := "isItem", desc := "(I)Z" } : Jvm.MethodName) prog_6_method_3_code (1 : Nat) (Option.some Jvm.ClassFile.FieldType.boolean)) ∈ gW := gW_tbl (i := 750) (by decide +kernel) rfl
theorem q751 : (Cond.constantLong "LateChecksModel" (69 : Nat) (7 : Int64)) ∈ gW := gW_tbl (i := 751) (by decide +kernel) rfl
theorem q752 : (Cond.constantLong "LateChecksModel" (187 : Nat) (9999 : Int64)) ∈ gW := gW_tbl (i := 752) (by decide +kernel) rfl
theorem q753 : (Cond.methodLink "LateChecksModel" (189 : Nat) ({ cls := "LateChecksModel", name := "inState", desc := "(I)I" } : Jvm.MethodName)) ∈ gW := gW_tbl (i := 753) (by decide +kernel) rfl
theorem q755 : (Cond.instanceMethod ({ cls := "LateChecksModel", name := "inState", desc := "(I)I" } : Jvm.MethodName)) ∈ gW := gW_tbl (i := 755) (by decide +kernel) rfl
theorem q756 : (Cond.code ({ cls := "LateChecksModel", name := "inState", desc := "(I)I" } : Jvm.MethodName) prog_6_method_10_code (4 : Nat) (Option.some Jvm.ClassFile.FieldType.int)) ∈ gW := gW_tbl (i := 756) (by decide +kernel) rfl
theorem q757 : (Cond.methodLink "LateChecksModel" (192 : Nat) ({ cls := "LateChecksModel", name := "logs", desc := "(II)I" } : Jvm.MethodName)) ∈ gW := gW_tbl (i := 757) (by decide +kernel) rfl
theorem q759 : (Cond.instanceMethod ({ cls := "LateChecksModel", name := "logs", desc := "(II)I" } : Jvm.MethodName)) ∈ gW := gW_tbl (i := 759) (by decide +kernel) rfl
theorem q760 : (Cond.code ({ cls := "LateChecksModel", name := "logs", desc := "(II)I" } : Jvm.MethodName) prog_6_method_25_code (5 : Nat) (Option.some Jvm.ClassFile.FieldType.int)) ∈ gW := gW_tbl (i := 760) (by decide +kernel) rfl
theorem q761 : (Cond.methodLink "LateChecksModel" (183 : Nat) ({ cls := "LateChecksModel", name := "has", desc := "(II)Z" } : Jvm.MethodName)) ∈ gW := gW_tbl (i := 761) (by decide +kernel) rfl
theorem q762 : (Cond.static ({ cls := "LateChecksModel", name := "has", desc := "(II)Z" } : Jvm.MethodName)) ∈ gW := gW_tbl (i := 762) (by decide +kernel) rfl
theorem q763 : (Cond.code ({ cls := "LateChecksModel", name := "has", desc := "(II)Z" } : Jvm.MethodName) prog_6_method_5_code (2 : Nat) (Option.some Jvm.ClassFile.FieldType.boolean)) ∈ gW := gW_tbl (i := 763) (by decide +kernel) rfl
theorem q764 : (Cond.methodLink "LateChecksModel" (195 : Nat) ({ cls := "LateChecksModel", name := "puts", desc := "(II)V" } : Jvm.MethodName)) ∈ gW := gW_tbl (i := 764) (by decide +kernel) rfl
theorem q766 : (Cond.instanceMethod ({ cls := "LateChecksModel", name := "puts", desc := "(II)V" } : Jvm.MethodName)) ∈ gW := gW_tbl (i := 766) (by decide +kernel) rfl
theorem q767 : (Cond.code ({ cls := "LateChecksModel", name := "puts", desc := "(II)V" } : Jvm.MethodName) prog_6_method_26_code (3 : Nat) (Option.none : Option Jvm.ClassFile.FieldType)) ∈ gW := gW_tbl (i := 767) (by decide +kernel) rfl
theorem q768 : (Cond.methodLink "LateChecksModel" (138 : Nat) ({ cls := "LateChecksModel", name := "limit", desc := "(I)I" } : Jvm.MethodName)) ∈ gW := gW_tbl (i := 768) (by decide +kernel) rfl
theorem q769 : (Cond.instanceMethod ({ cls := "LateChecksModel", name := "limit", desc := "(I)I" } : Jvm.MethodName)) ∈ gW := gW_tbl (i := 769) (by decide +kernel) rfl
theorem q770 : (Cond.selects "LateChecksModel" ({ cls := "LateChecksModel", name := "limit", desc := "(I)I" } : Jvm.MethodName) ({ cls := "LateChecksModel", name := "limit", desc := "(I)I" } : Jvm.MethodName)) ∈ gW := gW_tbl (i := 770) (by decide +kernel) rfl
theorem q771 : (Cond.code ({ cls := "LateChecksModel", name := "limit", desc := "(I)I" } : Jvm.MethodName) prog_6_method_28_code (3 : Nat) (Option.some Jvm.ClassFile.FieldType.int)) ∈ gW := gW_tbl (i := 771) (by decide +kernel) rfl
theorem q772 : (Cond.constantLong "LateChecksModel" (199 : Nat) (9 : Int64)) ∈ gW := gW_tbl (i := 772) (by decide +kernel) rfl
theorem q773 : (Cond.methodLink "LateChecksModel" (141 : Nat) ({ cls := "LateChecksModel", name := "begin", desc := "(I)I" } : Jvm.MethodName)) ∈ gW := gW_tbl (i := 773) (by decide +kernel) rfl
theorem q774 : (Cond.instanceMethod ({ cls := "LateChecksModel", name := "begin", desc := "(I)I" } : Jvm.MethodName)) ∈ gW := gW_tbl (i := 774) (by decide +kernel) rfl
theorem q775 : (Cond.selects "LateChecksModel" ({ cls := "LateChecksModel", name := "begin", desc := "(I)I" } : Jvm.MethodName) ({ cls := "LateChecksModel", name := "begin", desc := "(I)I" } : Jvm.MethodName)) ∈ gW := gW_tbl (i := 775) (by decide +kernel) rfl
theorem q776 : (Cond.code ({ cls := "LateChecksModel", name := "begin", desc := "(I)I" } : Jvm.MethodName) prog_6_method_29_code (2 : Nat) (Option.some Jvm.ClassFile.FieldType.int)) ∈ gW := gW_tbl (i := 776) (by decide +kernel) rfl
theorem q777 : (Cond.methodLink "LateChecksModel" (201 : Nat) ({ cls := "LateChecksModel", name := "isDeal", desc := "(I)Z" } : Jvm.MethodName)) ∈ gW := gW_tbl (i := 777) (by decide +kernel) rfl
theorem q778 : (Cond.static ({ cls := "LateChecksModel", name := "isDeal", desc := "(I)Z" } : Jvm.MethodName)) ∈ gW := gW_tbl (i := 778) (by decide +kernel) rfl
theorem q779 : (Cond.code ({ cls := "LateChecksModel", name := "isDeal", desc := "(I)Z" } : Jvm.MethodName) prog_6_method_4_code (1 : Nat) (Option.some Jvm.ClassFile.FieldType.boolean)) ∈ gW := gW_tbl (i := 779) (by decide +kernel) rfl
theorem q780 : (Cond.constantLong "LateChecksModel" (75 : Nat) (5 : Int64)) ∈ gW := gW_tbl (i := 780) (by decide +kernel) rfl
theorem q781 : (Cond.methodLink "LateChecksModel" (204 : Nat) ({ cls := "LateChecksModel", name := "opens", desc := "(I)V" } : Jvm.MethodName)) ∈ gW := gW_tbl (i := 781) (by decide +kernel) rfl
theorem q783 : (Cond.instanceMethod ({ cls := "LateChecksModel", name := "opens", desc := "(I)V" } : Jvm.MethodName)) ∈ gW := gW_tbl (i := 783) (by decide +kernel) rfl
theorem q784 : (Cond.code ({ cls := "LateChecksModel", name := "opens", desc := "(I)V" } : Jvm.MethodName) prog_6_method_9_code (2 : Nat) (Option.none : Option Jvm.ClassFile.FieldType)) ∈ gW := gW_tbl (i := 784) (by decide +kernel) rfl
theorem q785 : (Cond.methodLink "LateChecksModel" (144 : Nat) ({ cls := "LateChecksModel", name := "read", desc := "(II)I" } : Jvm.MethodName)) ∈ gW := gW_tbl (i := 785) (by decide +kernel) rfl
theorem q786 : (Cond.instanceMethod ({ cls := "LateChecksModel", name := "read", desc := "(II)I" } : Jvm.MethodName)) ∈ gW := gW_tbl (i := 786) (by decide +kernel) rfl
theorem q787 : (Cond.selects "LateChecksModel" ({ cls := "LateChecksModel", name := "read", desc := "(II)I" } : Jvm.MethodName) ({ cls := "LateChecksModel", name := "read", desc := "(II)I" } : Jvm.MethodName)) ∈ gW := gW_tbl (i := 787) (by decide +kernel) rfl
theorem q788 : (Cond.code ({ cls := "LateChecksModel", name := "read", desc := "(II)I" } : Jvm.MethodName) prog_6_method_31_code (4 : Nat) (Option.some Jvm.ClassFile.FieldType.int)) ∈ gW := gW_tbl (i := 788) (by decide +kernel) rfl
theorem q789 : (Cond.methodLink "LateChecksModel" (147 : Nat) ({ cls := "LateChecksModel", name := "lay", desc := "(III)I" } : Jvm.MethodName)) ∈ gW := gW_tbl (i := 789) (by decide +kernel) rfl
theorem q790 : (Cond.instanceMethod ({ cls := "LateChecksModel", name := "lay", desc := "(III)I" } : Jvm.MethodName)) ∈ gW := gW_tbl (i := 790) (by decide +kernel) rfl
theorem q791 : (Cond.selects "LateChecksModel" ({ cls := "LateChecksModel", name := "lay", desc := "(III)I" } : Jvm.MethodName) ({ cls := "LateChecksModel", name := "lay", desc := "(III)I" } : Jvm.MethodName)) ∈ gW := gW_tbl (i := 791) (by decide +kernel) rfl
theorem q792 : (Cond.code ({ cls := "LateChecksModel", name := "lay", desc := "(III)I" } : Jvm.MethodName) prog_6_method_32_code (4 : Nat) (Option.some Jvm.ClassFile.FieldType.int)) ∈ gW := gW_tbl (i := 792) (by decide +kernel) rfl
theorem q793 : (Cond.methodLink "LateChecksModel" (207 : Nat) ({ cls := "LateChecksModel", name := "ones", desc := "(I)I" } : Jvm.MethodName)) ∈ gW := gW_tbl (i := 793) (by decide +kernel) rfl
theorem q794 : (Cond.static ({ cls := "LateChecksModel", name := "ones", desc := "(I)I" } : Jvm.MethodName)) ∈ gW := gW_tbl (i := 794) (by decide +kernel) rfl
theorem q795 : (Cond.code ({ cls := "LateChecksModel", name := "ones", desc := "(I)I" } : Jvm.MethodName) prog_6_method_6_code (3 : Nat) (Option.some Jvm.ClassFile.FieldType.int)) ∈ gW := gW_tbl (i := 795) (by decide +kernel) rfl
theorem q796 : (Cond.methodLink "LateChecksModel" (151 : Nat) ({ cls := "LateChecksModel", name := "send", desc := "(I)I" } : Jvm.MethodName)) ∈ gW := gW_tbl (i := 796) (by decide +kernel) rfl
theorem q797 : (Cond.instanceMethod ({ cls := "LateChecksModel", name := "send", desc := "(I)I" } : Jvm.MethodName)) ∈ gW := gW_tbl (i := 797) (by decide +kernel) rfl
theorem q798 : (Cond.selects "LateChecksModel" ({ cls := "LateChecksModel", name := "send", desc := "(I)I" } : Jvm.MethodName) ({ cls := "LateChecksModel", name := "send", desc := "(I)I" } : Jvm.MethodName)) ∈ gW := gW_tbl (i := 798) (by decide +kernel) rfl
theorem q799 : (Cond.code ({ cls := "LateChecksModel", name := "send", desc := "(I)I" } : Jvm.MethodName) prog_6_method_46_code (2 : Nat) (Option.some Jvm.ClassFile.FieldType.int)) ∈ gW := gW_tbl (i := 799) (by decide +kernel) rfl
theorem q800 : (Cond.methodLink "LateChecksLaw" (30 : Nat) ({ cls := "LateChecksModel", name := "tell", desc := "()I" } : Jvm.MethodName)) ∈ gW := gW_tbl (i := 800) (by decide +kernel) rfl
theorem q801 : (Cond.instanceMethod ({ cls := "LateChecksModel", name := "tell", desc := "()I" } : Jvm.MethodName)) ∈ gW := gW_tbl (i := 801) (by decide +kernel) rfl
theorem q802 : (Cond.selects "LateChecksModel" ({ cls := "LateChecksModel", name := "tell", desc := "()I" } : Jvm.MethodName) ({ cls := "LateChecksModel", name := "tell", desc := "()I" } : Jvm.MethodName)) ∈ gW := gW_tbl (i := 802) (by decide +kernel) rfl
theorem q803 : (Cond.code ({ cls := "LateChecksModel", name := "tell", desc := "()I" } : Jvm.MethodName) prog_6_method_23_code (1 : Nat) (Option.some Jvm.ClassFile.FieldType.int)) ∈ gW := gW_tbl (i := 803) (by decide +kernel) rfl
theorem q804 : (Cond.methodLink "LateChecksLaw" (35 : Nat) ({ cls := "LateChecksModel", name := "item", desc := "(II)I" } : Jvm.MethodName)) ∈ gW := gW_tbl (i := 804) (by decide +kernel) rfl
theorem q805 : (Cond.instanceMethod ({ cls := "LateChecksModel", name := "item", desc := "(II)I" } : Jvm.MethodName)) ∈ gW := gW_tbl (i := 805) (by decide +kernel) rfl
theorem q806 : (Cond.selects "LateChecksModel" ({ cls := "LateChecksModel", name := "item", desc := "(II)I" } : Jvm.MethodName) ({ cls := "LateChecksModel", name := "item", desc := "(II)I" } : Jvm.MethodName)) ∈ gW := gW_tbl (i := 806) (by decide +kernel) rfl
theorem q807 : (Cond.code ({ cls := "LateChecksModel", name := "item", desc := "(II)I" } : Jvm.MethodName) prog_6_method_24_code (3 : Nat) (Option.some Jvm.ClassFile.FieldType.int)) ∈ gW := gW_tbl (i := 807) (by decide +kernel) rfl
theorem q808 : (Cond.methodLink "LateChecksLaw" (39 : Nat) ({ cls := "LateChecksModel", name := "put", desc := "(II)I" } : Jvm.MethodName)) ∈ gW := gW_tbl (i := 808) (by decide +kernel) rfl
theorem q809 : (Cond.methodLink "LateChecksLaw" (43 : Nat) ({ cls := "LateChecksModel", name := "limit", desc := "(I)I" } : Jvm.MethodName)) ∈ gW := gW_tbl (i := 809) (by decide +kernel) rfl
theorem q810 : (Cond.methodLink "LateChecksLaw" (47 : Nat) ({ cls := "LateChecksModel", name := "begin", desc := "(I)I" } : Jvm.MethodName)) ∈ gW := gW_tbl (i := 810) (by decide +kernel) rfl
theorem q811 : (Cond.methodLink "LateChecksLaw" (51 : Nat) ({ cls := "LateChecksModel", name := "retry", desc := "(I)I" } : Jvm.MethodName)) ∈ gW := gW_tbl (i := 811) (by decide +kernel) rfl
theorem q812 : (Cond.instanceMethod ({ cls := "LateChecksModel", name := "retry", desc := "(I)I" } : Jvm.MethodName)) ∈ gW := gW_tbl (i := 812) (by decide +kernel) rfl
theorem q813 : (Cond.selects "LateChecksModel" ({ cls := "LateChecksModel", name := "retry", desc := "(I)I" } : Jvm.MethodName) ({ cls := "LateChecksModel", name := "retry", desc := "(I)I" } : Jvm.MethodName)) ∈ gW := gW_tbl (i := 813) (by decide +kernel) rfl
theorem q814 : (Cond.code ({ cls := "LateChecksModel", name := "retry", desc := "(I)I" } : Jvm.MethodName) prog_6_method_30_code (2 : Nat) (Option.some Jvm.ClassFile.FieldType.int)) ∈ gW := gW_tbl (i := 814) (by decide +kernel) rfl
theorem q815 : (Cond.methodLink "LateChecksLaw" (55 : Nat) ({ cls := "LateChecksModel", name := "read", desc := "(II)I" } : Jvm.MethodName)) ∈ gW := gW_tbl (i := 815) (by decide +kernel) rfl
theorem q816 : (Cond.methodLink "LateChecksLaw" (60 : Nat) ({ cls := "LateChecksModel", name := "lay", desc := "(III)I" } : Jvm.MethodName)) ∈ gW := gW_tbl (i := 816) (by decide +kernel) rfl
theorem q817 : (Cond.methodLink "LateChecksLaw" (64 : Nat) ({ cls := "LateChecksModel", name := "commit", desc := "(II)I" } : Jvm.MethodName)) ∈ gW := gW_tbl (i := 817) (by decide +kernel) rfl
theorem q818 : (Cond.instanceMethod ({ cls := "LateChecksModel", name := "commit", desc := "(II)I" } : Jvm.MethodName)) ∈ gW := gW_tbl (i := 818) (by decide +kernel) rfl
theorem q819 : (Cond.selects "LateChecksModel" ({ cls := "LateChecksModel", name := "commit", desc := "(II)I" } : Jvm.MethodName) ({ cls := "LateChecksModel", name := "commit", desc := "(II)I" } : Jvm.MethodName)) ∈ gW := gW_tbl (i := 819) (by decide +kernel) rfl
theorem q820 : (Cond.code ({ cls := "LateChecksModel", name := "commit", desc := "(II)I" } : Jvm.MethodName) prog_6_method_42_code (7 : Nat) (Option.some Jvm.ClassFile.FieldType.int)) ∈ gW := gW_tbl (i := 820) (by decide +kernel) rfl
theorem q821 : (Cond.methodLink "LateChecksModel" (227 : Nat) ({ cls := "LateChecksModel", name := "refused", desc := "(II)I" } : Jvm.MethodName)) ∈ gW := gW_tbl (i := 821) (by decide +kernel) rfl
theorem q823 : (Cond.instanceMethod ({ cls := "LateChecksModel", name := "refused", desc := "(II)I" } : Jvm.MethodName)) ∈ gW := gW_tbl (i := 823) (by decide +kernel) rfl
theorem q824 : (Cond.code ({ cls := "LateChecksModel", name := "refused", desc := "(II)I" } : Jvm.MethodName) prog_6_method_41_code (3 : Nat) (Option.some Jvm.ClassFile.FieldType.int)) ∈ gW := gW_tbl (i := 824) (by decide +kernel) rfl
theorem q825 : (Cond.constantLong "LateChecksModel" (225 : Nat) (2 : Int64)) ∈ gW := gW_tbl (i := 825) (by decide +kernel) rfl
theorem q826 : (Cond.methodLink "LateChecksModel" (230 : Nat) ({ cls := "LateChecksModel", name := "checks", desc := "(II)I" } : Jvm.MethodName)) ∈ gW := gW_tbl (i := 826) (by decide +kernel) rfl
theorem q828 : (Cond.instanceMethod ({ cls := "LateChecksModel", name := "checks", desc := "(II)I" } : Jvm.MethodName)) ∈ gW := gW_tbl (i := 828) (by decide +kernel) rfl
theorem q829 : (Cond.code ({ cls := "LateChecksModel", name := "checks", desc := "(II)I" } : Jvm.MethodName) prog_6_method_38_code (4 : Nat) (Option.some Jvm.ClassFile.FieldType.int)) ∈ gW := gW_tbl (i := 829) (by decide +kernel) rfl
theorem q830 : (Cond.methodLink "LateChecksModel" (213 : Nat) ({ cls := "LateChecksModel", name := "stale", desc := "(I)I" } : Jvm.MethodName)) ∈ gW := gW_tbl (i := 830) (by decide +kernel) rfl
theorem q832 : (Cond.instanceMethod ({ cls := "LateChecksModel", name := "stale", desc := "(I)I" } : Jvm.MethodName)) ∈ gW := gW_tbl (i := 832) (by decide +kernel) rfl
theorem q833 : (Cond.code ({ cls := "LateChecksModel", name := "stale", desc := "(I)I" } : Jvm.MethodName) prog_6_method_33_code (4 : Nat) (Option.some Jvm.ClassFile.FieldType.int)) ∈ gW := gW_tbl (i := 833) (by decide +kernel) rfl
theorem q834 : (Cond.methodLink "LateChecksModel" (216 : Nat) ({ cls := "LateChecksModel", name := "crossed", desc := "(I)I" } : Jvm.MethodName)) ∈ gW := gW_tbl (i := 834) (by decide +kernel) rfl
theorem q836 : (Cond.instanceMethod ({ cls := "LateChecksModel", name := "crossed", desc := "(I)I" } : Jvm.MethodName)) ∈ gW := gW_tbl (i := 836) (by decide +kernel) rfl
theorem q837 : (Cond.code ({ cls := "LateChecksModel", name := "crossed", desc := "(I)I" } : Jvm.MethodName) prog_6_method_34_code (4 : Nat) (Option.some Jvm.ClassFile.FieldType.int)) ∈ gW := gW_tbl (i := 837) (by decide +kernel) rfl
theorem q838 : (Cond.methodLink "LateChecksModel" (219 : Nat) ({ cls := "LateChecksModel", name := "rivals", desc := "(I)I" } : Jvm.MethodName)) ∈ gW := gW_tbl (i := 838) (by decide +kernel) rfl
theorem q840 : (Cond.instanceMethod ({ cls := "LateChecksModel", name := "rivals", desc := "(I)I" } : Jvm.MethodName)) ∈ gW := gW_tbl (i := 840) (by decide +kernel) rfl
theorem q841 : (Cond.code ({ cls := "LateChecksModel", name := "rivals", desc := "(I)I" } : Jvm.MethodName) prog_6_method_35_code (4 : Nat) (Option.some Jvm.ClassFile.FieldType.int)) ∈ gW := gW_tbl (i := 841) (by decide +kernel) rfl
theorem q842 : (Cond.methodLink "LateChecksModel" (222 : Nat) ({ cls := "LateChecksModel", name := "isWeaker", desc := "(II)Z" } : Jvm.MethodName)) ∈ gW := gW_tbl (i := 842) (by decide +kernel) rfl
theorem q844 : (Cond.instanceMethod ({ cls := "LateChecksModel", name := "isWeaker", desc := "(II)Z" } : Jvm.MethodName)) ∈ gW := gW_tbl (i := 844) (by decide +kernel) rfl
theorem q845 : (Cond.code ({ cls := "LateChecksModel", name := "isWeaker", desc := "(II)Z" } : Jvm.MethodName) prog_6_method_37_code (6 : Nat) (Option.some Jvm.ClassFile.FieldType.boolean)) ∈ gW := gW_tbl (i := 845) (by decide +kernel) rfl
theorem q846 : (Cond.methodLink "LateChecksModel" (210 : Nat) ({ cls := "LateChecksModel", name := "isStubborn", desc := "(I)Z" } : Jvm.MethodName)) ∈ gW := gW_tbl (i := 846) (by decide +kernel) rfl
theorem q848 : (Cond.instanceMethod ({ cls := "LateChecksModel", name := "isStubborn", desc := "(I)Z" } : Jvm.MethodName)) ∈ gW := gW_tbl (i := 848) (by decide +kernel) rfl
theorem q849 : (Cond.code ({ cls := "LateChecksModel", name := "isStubborn", desc := "(I)Z" } : Jvm.MethodName) prog_6_method_36_code (2 : Nat) (Option.some Jvm.ClassFile.FieldType.boolean)) ∈ gW := gW_tbl (i := 849) (by decide +kernel) rfl
theorem q850 : (Cond.methodLink "LateChecksModel" (233 : Nat) ({ cls := "LateChecksModel", name := "fails", desc := "(II)V" } : Jvm.MethodName)) ∈ gW := gW_tbl (i := 850) (by decide +kernel) rfl
theorem q852 : (Cond.instanceMethod ({ cls := "LateChecksModel", name := "fails", desc := "(II)V" } : Jvm.MethodName)) ∈ gW := gW_tbl (i := 852) (by decide +kernel) rfl
theorem q853 : (Cond.code ({ cls := "LateChecksModel", name := "fails", desc := "(II)V" } : Jvm.MethodName) prog_6_method_39_code (3 : Nat) (Option.none : Option Jvm.ClassFile.FieldType)) ∈ gW := gW_tbl (i := 853) (by decide +kernel) rfl
theorem q854 : (Cond.methodLink "LateChecksModel" (236 : Nat) ({ cls := "LateChecksModel", name := "commits", desc := "(II)I" } : Jvm.MethodName)) ∈ gW := gW_tbl (i := 854) (by decide +kernel) rfl
theorem q856 : (Cond.instanceMethod ({ cls := "LateChecksModel", name := "commits", desc := "(II)I" } : Jvm.MethodName)) ∈ gW := gW_tbl (i := 856) (by decide +kernel) rfl
theorem q857 : (Cond.code ({ cls := "LateChecksModel", name := "commits", desc := "(II)I" } : Jvm.MethodName) prog_6_method_40_code (4 : Nat) (Option.some Jvm.ClassFile.FieldType.int)) ∈ gW := gW_tbl (i := 857) (by decide +kernel) rfl
theorem q858 : (Cond.methodLink "LateChecksLaw" (68 : Nat) ({ cls := "LateChecksModel", name := "peek", desc := "(II)I" } : Jvm.MethodName)) ∈ gW := gW_tbl (i := 858) (by decide +kernel) rfl
theorem q859 : (Cond.instanceMethod ({ cls := "LateChecksModel", name := "peek", desc := "(II)I" } : Jvm.MethodName)) ∈ gW := gW_tbl (i := 859) (by decide +kernel) rfl
theorem q860 : (Cond.selects "LateChecksModel" ({ cls := "LateChecksModel", name := "peek", desc := "(II)I" } : Jvm.MethodName) ({ cls := "LateChecksModel", name := "peek", desc := "(II)I" } : Jvm.MethodName)) ∈ gW := gW_tbl (i := 860) (by decide +kernel) rfl
theorem q861 : (Cond.code ({ cls := "LateChecksModel", name := "peek", desc := "(II)I" } : Jvm.MethodName) prog_6_method_43_code (5 : Nat) (Option.some Jvm.ClassFile.FieldType.int)) ∈ gW := gW_tbl (i := 861) (by decide +kernel) rfl
theorem q862 : (Cond.methodLink "LateChecksLaw" (72 : Nat) ({ cls := "LateChecksModel", name := "abort", desc := "(I)I" } : Jvm.MethodName)) ∈ gW := gW_tbl (i := 862) (by decide +kernel) rfl
theorem q863 : (Cond.instanceMethod ({ cls := "LateChecksModel", name := "abort", desc := "(I)I" } : Jvm.MethodName)) ∈ gW := gW_tbl (i := 863) (by decide +kernel) rfl
theorem q864 : (Cond.selects "LateChecksModel" ({ cls := "LateChecksModel", name := "abort", desc := "(I)I" } : Jvm.MethodName) ({ cls := "LateChecksModel", name := "abort", desc := "(I)I" } : Jvm.MethodName)) ∈ gW := gW_tbl (i := 864) (by decide +kernel) rfl
theorem q865 : (Cond.code ({ cls := "LateChecksModel", name := "abort", desc := "(I)I" } : Jvm.MethodName) prog_6_method_44_code (2 : Nat) (Option.some Jvm.ClassFile.FieldType.int)) ∈ gW := gW_tbl (i := 865) (by decide +kernel) rfl
theorem q866 : (Cond.methodLink "LateChecksLaw" (76 : Nat) ({ cls := "LateChecksModel", name := "sweep", desc := "()I" } : Jvm.MethodName)) ∈ gW := gW_tbl (i := 866) (by decide +kernel) rfl
theorem q867 : (Cond.instanceMethod ({ cls := "LateChecksModel", name := "sweep", desc := "()I" } : Jvm.MethodName)) ∈ gW := gW_tbl (i := 867) (by decide +kernel) rfl
theorem q868 : (Cond.selects "LateChecksModel" ({ cls := "LateChecksModel", name := "sweep", desc := "()I" } : Jvm.MethodName) ({ cls := "LateChecksModel", name := "sweep", desc := "()I" } : Jvm.MethodName)) ∈ gW := gW_tbl (i := 868) (by decide +kernel) rfl
theorem q869 : (Cond.code ({ cls := "LateChecksModel", name := "sweep", desc := "()I" } : Jvm.MethodName) prog_6_method_45_code (3 : Nat) (Option.some Jvm.ClassFile.FieldType.int)) ∈ gW := gW_tbl (i := 869) (by decide +kernel) rfl
theorem q870 : (Cond.methodLink "LateChecksLaw" (80 : Nat) ({ cls := "LateChecksModel", name := "send", desc := "(I)I" } : Jvm.MethodName)) ∈ gW := gW_tbl (i := 870) (by decide +kernel) rfl
theorem q871 : (Cond.methodLink "LateChecksLaw" (84 : Nat) ({ cls := "LateChecksModel", name := "vote", desc := "(I)I" } : Jvm.MethodName)) ∈ gW := gW_tbl (i := 871) (by decide +kernel) rfl
theorem q872 : (Cond.instanceMethod ({ cls := "LateChecksModel", name := "vote", desc := "(I)I" } : Jvm.MethodName)) ∈ gW := gW_tbl (i := 872) (by decide +kernel) rfl
theorem q873 : (Cond.selects "LateChecksModel" ({ cls := "LateChecksModel", name := "vote", desc := "(I)I" } : Jvm.MethodName) ({ cls := "LateChecksModel", name := "vote", desc := "(I)I" } : Jvm.MethodName)) ∈ gW := gW_tbl (i := 873) (by decide +kernel) rfl
theorem q874 : (Cond.code ({ cls := "LateChecksModel", name := "vote", desc := "(I)I" } : Jvm.MethodName) prog_6_method_48_code (6 : Nat) (Option.some Jvm.ClassFile.FieldType.int)) ∈ gW := gW_tbl (i := 874) (by decide +kernel) rfl
theorem q875 : (Cond.methodLink "LateChecksModel" (238 : Nat) ({ cls := "LateChecksModel", name := "firstSent", desc := "(I)I" } : Jvm.MethodName)) ∈ gW := gW_tbl (i := 875) (by decide +kernel) rfl
theorem q877 : (Cond.instanceMethod ({ cls := "LateChecksModel", name := "firstSent", desc := "(I)I" } : Jvm.MethodName)) ∈ gW := gW_tbl (i := 877) (by decide +kernel) rfl
theorem q878 : (Cond.code ({ cls := "LateChecksModel", name := "firstSent", desc := "(I)I" } : Jvm.MethodName) prog_6_method_47_code (5 : Nat) (Option.some Jvm.ClassFile.FieldType.int)) ∈ gW := gW_tbl (i := 878) (by decide +kernel) rfl
theorem q879 : (Cond.methodLink "LateChecksLaw" (88 : Nat) ({ cls := "LateChecksModel", name := "settle", desc := "()I" } : Jvm.MethodName)) ∈ gW := gW_tbl (i := 879) (by decide +kernel) rfl
theorem q880 : (Cond.instanceMethod ({ cls := "LateChecksModel", name := "settle", desc := "()I" } : Jvm.MethodName)) ∈ gW := gW_tbl (i := 880) (by decide +kernel) rfl
theorem q881 : (Cond.selects "LateChecksModel" ({ cls := "LateChecksModel", name := "settle", desc := "()I" } : Jvm.MethodName) ({ cls := "LateChecksModel", name := "settle", desc := "()I" } : Jvm.MethodName)) ∈ gW := gW_tbl (i := 881) (by decide +kernel) rfl
theorem q882 : (Cond.code ({ cls := "LateChecksModel", name := "settle", desc := "()I" } : Jvm.MethodName) prog_6_method_49_code (3 : Nat) (Option.some Jvm.ClassFile.FieldType.int)) ∈ gW := gW_tbl (i := 882) (by decide +kernel) rfl
theorem q883 : (Cond.methodLink "LateChecksLaw" (92 : Nat) ({ cls := "LateChecksModel", name := "deal", desc := "(II)I" } : Jvm.MethodName)) ∈ gW := gW_tbl (i := 883) (by decide +kernel) rfl
theorem q884 : (Cond.instanceMethod ({ cls := "LateChecksModel", name := "deal", desc := "(II)I" } : Jvm.MethodName)) ∈ gW := gW_tbl (i := 884) (by decide +kernel) rfl
theorem q885 : (Cond.selects "LateChecksModel" ({ cls := "LateChecksModel", name := "deal", desc := "(II)I" } : Jvm.MethodName) ({ cls := "LateChecksModel", name := "deal", desc := "(II)I" } : Jvm.MethodName)) ∈ gW := gW_tbl (i := 885) (by decide +kernel) rfl
theorem q886 : (Cond.code ({ cls := "LateChecksModel", name := "deal", desc := "(II)I" } : Jvm.MethodName) prog_6_method_50_code (3 : Nat) (Option.some Jvm.ClassFile.FieldType.int)) ∈ gW := gW_tbl (i := 886) (by decide +kernel) rfl
theorem q887 : (Cond.methodLink "LateChecksLaw" (96 : Nat) ({ cls := "LateChecksModel", name := "noted", desc := "(III)I" } : Jvm.MethodName)) ∈ gW := gW_tbl (i := 887) (by decide +kernel) rfl
theorem q888 : (Cond.instanceMethod ({ cls := "LateChecksModel", name := "noted", desc := "(III)I" } : Jvm.MethodName)) ∈ gW := gW_tbl (i := 888) (by decide +kernel) rfl
theorem q889 : (Cond.selects "LateChecksModel" ({ cls := "LateChecksModel", name := "noted", desc := "(III)I" } : Jvm.MethodName) ({ cls := "LateChecksModel", name := "noted", desc := "(III)I" } : Jvm.MethodName)) ∈ gW := gW_tbl (i := 889) (by decide +kernel) rfl
theorem q890 : (Cond.code ({ cls := "LateChecksModel", name := "noted", desc := "(III)I" } : Jvm.MethodName) prog_6_method_51_code (5 : Nat) (Option.some Jvm.ClassFile.FieldType.int)) ∈ gW := gW_tbl (i := 890) (by decide +kernel) rfl
theorem q891 : (Cond.methodLink "LateChecksLaw" (100 : Nat) ({ cls := "LateChecksModel", name := "sent", desc := "(I)I" } : Jvm.MethodName)) ∈ gW := gW_tbl (i := 891) (by decide +kernel) rfl
theorem q892 : (Cond.instanceMethod ({ cls := "LateChecksModel", name := "sent", desc := "(I)I" } : Jvm.MethodName)) ∈ gW := gW_tbl (i := 892) (by decide +kernel) rfl
theorem q893 : (Cond.selects "LateChecksModel" ({ cls := "LateChecksModel", name := "sent", desc := "(I)I" } : Jvm.MethodName) ({ cls := "LateChecksModel", name := "sent", desc := "(I)I" } : Jvm.MethodName)) ∈ gW := gW_tbl (i := 893) (by decide +kernel) rfl
theorem q894 : (Cond.code ({ cls := "LateChecksModel", name := "sent", desc := "(I)I" } : Jvm.MethodName) prog_6_method_52_code (5 : Nat) (Option.some Jvm.ClassFile.FieldType.int)) ∈ gW := gW_tbl (i := 894) (by decide +kernel) rfl
theorem q895 : (Cond.methodLink "LateChecksLaw" (104 : Nat) ({ cls := "LateChecksModel", name := "ballot", desc := "(II)I" } : Jvm.MethodName)) ∈ gW := gW_tbl (i := 895) (by decide +kernel) rfl
theorem q896 : (Cond.instanceMethod ({ cls := "LateChecksModel", name := "ballot", desc := "(II)I" } : Jvm.MethodName)) ∈ gW := gW_tbl (i := 896) (by decide +kernel) rfl
theorem q897 : (Cond.selects "LateChecksModel" ({ cls := "LateChecksModel", name := "ballot", desc := "(II)I" } : Jvm.MethodName) ({ cls := "LateChecksModel", name := "ballot", desc := "(II)I" } : Jvm.MethodName)) ∈ gW := gW_tbl (i := 897) (by decide +kernel) rfl
theorem q898 : (Cond.code ({ cls := "LateChecksModel", name := "ballot", desc := "(II)I" } : Jvm.MethodName) prog_6_method_53_code (3 : Nat) (Option.some Jvm.ClassFile.FieldType.int)) ∈ gW := gW_tbl (i := 898) (by decide +kernel) rfl
theorem q899 : (Cond.methodLink "LateChecksLaw" (108 : Nat) ({ cls := "LateChecksModel", name := "log", desc := "(II)I" } : Jvm.MethodName)) ∈ gW := gW_tbl (i := 899) (by decide +kernel) rfl
theorem q900 : (Cond.instanceMethod ({ cls := "LateChecksModel", name := "log", desc := "(II)I" } : Jvm.MethodName)) ∈ gW := gW_tbl (i := 900) (by decide +kernel) rfl
theorem q901 : (Cond.selects "LateChecksModel" ({ cls := "LateChecksModel", name := "log", desc := "(II)I" } : Jvm.MethodName) ({ cls := "LateChecksModel", name := "log", desc := "(II)I" } : Jvm.MethodName)) ∈ gW := gW_tbl (i := 901) (by decide +kernel) rfl
theorem q902 : (Cond.code ({ cls := "LateChecksModel", name := "log", desc := "(II)I" } : Jvm.MethodName) prog_6_method_55_code (3 : Nat) (Option.some Jvm.ClassFile.FieldType.int)) ∈ gW := gW_tbl (i := 902) (by decide +kernel) rfl
theorem q903 : (Cond.methodLink "LateChecksModel" (241 : Nat) ({ cls := "LateChecksModel", name := "isCommit", desc := "(I)Z" } : Jvm.MethodName)) ∈ gW := gW_tbl (i := 903) (by decide +kernel) rfl
theorem q905 : (Cond.instanceMethod ({ cls := "LateChecksModel", name := "isCommit", desc := "(I)Z" } : Jvm.MethodName)) ∈ gW := gW_tbl (i := 905) (by decide +kernel) rfl
theorem q906 : (Cond.code ({ cls := "LateChecksModel", name := "isCommit", desc := "(I)Z" } : Jvm.MethodName) prog_6_method_54_code (2 : Nat) (Option.some Jvm.ClassFile.FieldType.boolean)) ∈ gW := gW_tbl (i := 906) (by decide +kernel) rfl
theorem q907 : (Cond.methodLink "LateChecksLaw" (112 : Nat) ({ cls := "LateChecksModel", name := "logged", desc := "(III)I" } : Jvm.MethodName)) ∈ gW := gW_tbl (i := 907) (by decide +kernel) rfl
theorem q908 : (Cond.instanceMethod ({ cls := "LateChecksModel", name := "logged", desc := "(III)I" } : Jvm.MethodName)) ∈ gW := gW_tbl (i := 908) (by decide +kernel) rfl
theorem q909 : (Cond.selects "LateChecksModel" ({ cls := "LateChecksModel", name := "logged", desc := "(III)I" } : Jvm.MethodName) ({ cls := "LateChecksModel", name := "logged", desc := "(III)I" } : Jvm.MethodName)) ∈ gW := gW_tbl (i := 909) (by decide +kernel) rfl
theorem q910 : (Cond.code ({ cls := "LateChecksModel", name := "logged", desc := "(III)I" } : Jvm.MethodName) prog_6_method_56_code (5 : Nat) (Option.some Jvm.ClassFile.FieldType.int)) ∈ gW := gW_tbl (i := 910) (by decide +kernel) rfl
theorem q911 : (Cond.methodLink "LateChecksLaw" (116 : Nat) ({ cls := "LateChecksModel", name := "behind", desc := "(II)I" } : Jvm.MethodName)) ∈ gW := gW_tbl (i := 911) (by decide +kernel) rfl
theorem q912 : (Cond.instanceMethod ({ cls := "LateChecksModel", name := "behind", desc := "(II)I" } : Jvm.MethodName)) ∈ gW := gW_tbl (i := 912) (by decide +kernel) rfl
theorem q913 : (Cond.selects "LateChecksModel" ({ cls := "LateChecksModel", name := "behind", desc := "(II)I" } : Jvm.MethodName) ({ cls := "LateChecksModel", name := "behind", desc := "(II)I" } : Jvm.MethodName)) ∈ gW := gW_tbl (i := 913) (by decide +kernel) rfl
theorem q914 : (Cond.code ({ cls := "LateChecksModel", name := "behind", desc := "(II)I" } : Jvm.MethodName) prog_6_method_57_code (7 : Nat) (Option.some Jvm.ClassFile.FieldType.int)) ∈ gW := gW_tbl (i := 914) (by decide +kernel) rfl
theorem q915 : (Cond.methodLink "LateChecksLaw" (120 : Nat) ({ cls := "LateChecksModel", name := "count", desc := "(I)I" } : Jvm.MethodName)) ∈ gW := gW_tbl (i := 915) (by decide +kernel) rfl
theorem q916 : (Cond.instanceMethod ({ cls := "LateChecksModel", name := "count", desc := "(I)I" } : Jvm.MethodName)) ∈ gW := gW_tbl (i := 916) (by decide +kernel) rfl
theorem q917 : (Cond.selects "LateChecksModel" ({ cls := "LateChecksModel", name := "count", desc := "(I)I" } : Jvm.MethodName) ({ cls := "LateChecksModel", name := "count", desc := "(I)I" } : Jvm.MethodName)) ∈ gW := gW_tbl (i := 917) (by decide +kernel) rfl
theorem q918 : (Cond.code ({ cls := "LateChecksModel", name := "count", desc := "(I)I" } : Jvm.MethodName) prog_6_method_59_code (2 : Nat) (Option.some Jvm.ClassFile.FieldType.int)) ∈ gW := gW_tbl (i := 918) (by decide +kernel) rfl
theorem q919 : (Cond.methodLink "LateChecksModel" (244 : Nat) ({ cls := "LateChecksModel", name := "allValues", desc := "()I" } : Jvm.MethodName)) ∈ gW := gW_tbl (i := 919) (by decide +kernel) rfl
theorem q921 : (Cond.instanceMethod ({ cls := "LateChecksModel", name := "allValues", desc := "()I" } : Jvm.MethodName)) ∈ gW := gW_tbl (i := 921) (by decide +kernel) rfl
theorem q922 : (Cond.code ({ cls := "LateChecksModel", name := "allValues", desc := "()I" } : Jvm.MethodName) prog_6_method_58_code (3 : Nat) (Option.some Jvm.ClassFile.FieldType.int)) ∈ gW := gW_tbl (i := 922) (by decide +kernel) rfl
theorem q923 : (Cond.fieldLink "java/lang/String" (9 : Nat) "java/lang/String" "value" "[B") ∈ gW := gW_tbl (i := 923) (by decide +kernel) rfl
theorem q924 : (Cond.fieldLink "java/lang/String" (15 : Nat) "java/lang/String" "coder" "B") ∈ gW := gW_tbl (i := 924) (by decide +kernel) rfl
theorem qs0 : (Cond.selects "LateChecks" (⟨"LateChecks", "startAnew", "()V"⟩ : MethodName) (⟨"LateChecks", "startAnew", "()V"⟩ : MethodName)) ∈ gW := gW_sel (i := 0) (by decide +kernel) rfl
theorem qs1 : (Cond.selects "LateChecks" (⟨"LateChecks", "doClause", "(I)V"⟩ : MethodName) (⟨"LateChecks", "doClause", "(I)V"⟩ : MethodName)) ∈ gW := gW_sel (i := 1) (by decide +kernel) rfl
theorem qs2 : (Cond.selects "LateChecks" (⟨"LateChecks", "howMany", "(I)I"⟩ : MethodName) (⟨"LateChecks", "howMany", "(I)I"⟩ : MethodName)) ∈ gW := gW_sel (i := 2) (by decide +kernel) rfl
theorem qs3 : (Cond.selects "LateChecks" (⟨"LateChecks", "nextEntry", "()LLateChecks$Entry;"⟩ : MethodName) (⟨"LateChecks", "nextEntry", "()LLateChecks$Entry;"⟩ : MethodName)) ∈ gW := gW_sel (i := 3) (by decide +kernel) rfl
theorem qs4 : (Cond.selects "LateChecks" (⟨"LateChecks", "change", "(II)V"⟩ : MethodName) (⟨"LateChecks", "change", "(II)V"⟩ : MethodName)) ∈ gW := gW_sel (i := 4) (by decide +kernel) rfl
theorem qs5 : (Cond.selects "LateChecks" (⟨"LateChecks", "foretell", "(LLateChecks$Deal;I)I"⟩ : MethodName) (⟨"LateChecks", "foretell", "(LLateChecks$Deal;I)I"⟩ : MethodName)) ∈ gW := gW_sel (i := 5) (by decide +kernel) rfl
theorem qs6 : (Cond.selects "LateChecks" (⟨"LateChecks", "staleOf", "(LLateChecks$Deal;)I"⟩ : MethodName) (⟨"LateChecks", "staleOf", "(LLateChecks$Deal;)I"⟩ : MethodName)) ∈ gW := gW_sel (i := 6) (by decide +kernel) rfl
theorem qs7 : (Cond.selects "LateChecks" (⟨"LateChecks", "crossedOf", "(LLateChecks$Deal;)I"⟩ : MethodName) (⟨"LateChecks", "crossedOf", "(LLateChecks$Deal;)I"⟩ : MethodName)) ∈ gW := gW_sel (i := 7) (by decide +kernel) rfl
theorem qs8 : (Cond.selects "LateChecks" (⟨"LateChecks", "mustYield", "(LLateChecks$Deal;)Z"⟩ : MethodName) (⟨"LateChecks", "mustYield", "(LLateChecks$Deal;)Z"⟩ : MethodName)) ∈ gW := gW_sel (i := 8) (by decide +kernel) rfl
theorem qs9 : (Cond.selects "LateChecks" (⟨"LateChecks", "rivalsOf", "(LLateChecks$Deal;)I"⟩ : MethodName) (⟨"LateChecks", "rivalsOf", "(LLateChecks$Deal;)I"⟩ : MethodName)) ∈ gW := gW_sel (i := 9) (by decide +kernel) rfl
theorem qs10 : (Cond.selects "LateChecks" (⟨"LateChecks", "goesFirst", "(LLateChecks$Deal;LLateChecks$Deal;)Z"⟩ : MethodName) (⟨"LateChecks", "goesFirst", "(LLateChecks$Deal;LLateChecks$Deal;)Z"⟩ : MethodName)) ∈ gW := gW_sel (i := 10) (by decide +kernel) rfl
theorem qs11 : (Cond.selects "LateChecks" (⟨"LateChecks", "isStubborn", "(LLateChecks$Deal;)Z"⟩ : MethodName) (⟨"LateChecks", "isStubborn", "(LLateChecks$Deal;)Z"⟩ : MethodName)) ∈ gW := gW_sel (i := 11) (by decide +kernel) rfl
theorem qs12 : (Cond.selects "LateChecks" (⟨"LateChecks", "lose", "(LLateChecks$Deal;I)I"⟩ : MethodName) (⟨"LateChecks", "lose", "(LLateChecks$Deal;I)I"⟩ : MethodName)) ∈ gW := gW_sel (i := 12) (by decide +kernel) rfl
theorem qs13 : (Cond.selects "LateChecks" (⟨"LateChecks", "doomAll", "(I)V"⟩ : MethodName) (⟨"LateChecks", "doomAll", "(I)V"⟩ : MethodName)) ∈ gW := gW_sel (i := 13) (by decide +kernel) rfl
theorem qs14 : (Cond.selects "LateChecks" (⟨"LateChecks", "keep", "(LLateChecks$Deal;I)I"⟩ : MethodName) (⟨"LateChecks", "keep", "(LLateChecks$Deal;I)I"⟩ : MethodName)) ∈ gW := gW_sel (i := 14) (by decide +kernel) rfl
theorem qs15 : (Cond.selects "LateChecks" (⟨"LateChecks", "firstWithoutVote", "(I)I"⟩ : MethodName) (⟨"LateChecks", "firstWithoutVote", "(I)I"⟩ : MethodName)) ∈ gW := gW_sel (i := 15) (by decide +kernel) rfl
theorem qs16 : (Cond.selects "LateChecks" (⟨"LateChecks", "sentAt", "(I)I"⟩ : MethodName) (⟨"LateChecks", "sentAt", "(I)I"⟩ : MethodName)) ∈ gW := gW_sel (i := 16) (by decide +kernel) rfl
theorem qs17 : (Cond.selects "LateChecks" (⟨"LateChecks", "sentBefore", "(LLateChecks$Deal;)I"⟩ : MethodName) (⟨"LateChecks", "sentBefore", "(LLateChecks$Deal;)I"⟩ : MethodName)) ∈ gW := gW_sel (i := 17) (by decide +kernel) rfl
theorem qs18 : (Cond.selects "LateChecks" (⟨"LateChecks", "opinion", "(ILLateChecks$Deal;)I"⟩ : MethodName) (⟨"LateChecks", "opinion", "(ILLateChecks$Deal;)I"⟩ : MethodName)) ∈ gW := gW_sel (i := 18) (by decide +kernel) rfl
theorem qs19 : (Cond.selects "LateChecks" (⟨"LateChecks", "promisedBefore", "(ILLateChecks$Deal;)I"⟩ : MethodName) (⟨"LateChecks", "promisedBefore", "(ILLateChecks$Deal;)I"⟩ : MethodName)) ∈ gW := gW_sel (i := 19) (by decide +kernel) rfl
theorem qs20 : (Cond.selects "LateChecks" (⟨"LateChecks", "entryOf", "(I)LLateChecks$Entry;"⟩ : MethodName) (⟨"LateChecks", "entryOf", "(I)LLateChecks$Entry;"⟩ : MethodName)) ∈ gW := gW_sel (i := 20) (by decide +kernel) rfl
theorem qs21 : (Cond.selects "LateChecks" (⟨"LateChecks", "allValues", "()I"⟩ : MethodName) (⟨"LateChecks", "allValues", "()I"⟩ : MethodName)) ∈ gW := gW_sel (i := 21) (by decide +kernel) rfl
theorem qs22 : (Cond.selects "LateChecksModel" (⟨"LateChecksModel", "readsAll", "(Z)Z"⟩ : MethodName) (⟨"LateChecksModel", "readsAll", "(Z)Z"⟩ : MethodName)) ∈ gW := gW_sel (i := 22) (by decide +kernel) rfl
theorem qs23 : (Cond.selects "LateChecksModel" (⟨"LateChecksModel", "next", "()V"⟩ : MethodName) (⟨"LateChecksModel", "next", "()V"⟩ : MethodName)) ∈ gW := gW_sel (i := 23) (by decide +kernel) rfl
theorem qs24 : (Cond.selects "LateChecksModel" (⟨"LateChecksModel", "readsClause", "()Z"⟩ : MethodName) (⟨"LateChecksModel", "readsClause", "()Z"⟩ : MethodName)) ∈ gW := gW_sel (i := 24) (by decide +kernel) rfl
theorem qs25 : (Cond.selects "LateChecksModel" (⟨"LateChecksModel", "wordHere", "()I"⟩ : MethodName) (⟨"LateChecksModel", "wordHere", "()I"⟩ : MethodName)) ∈ gW := gW_sel (i := 25) (by decide +kernel) rfl
theorem qs26 : (Cond.selects "LateChecksModel" (⟨"LateChecksModel", "readsRest", "(I)Z"⟩ : MethodName) (⟨"LateChecksModel", "readsRest", "(I)Z"⟩ : MethodName)) ∈ gW := gW_sel (i := 26) (by decide +kernel) rfl
theorem qs27 : (Cond.selects "LateChecksModel" (⟨"LateChecksModel", "reads", "(III)Z"⟩ : MethodName) (⟨"LateChecksModel", "reads", "(III)Z"⟩ : MethodName)) ∈ gW := gW_sel (i := 27) (by decide +kernel) rfl
theorem qs28 : (Cond.selects "LateChecksModel" (⟨"LateChecksModel", "does", "(I)V"⟩ : MethodName) (⟨"LateChecksModel", "does", "(I)V"⟩ : MethodName)) ∈ gW := gW_sel (i := 28) (by decide +kernel) rfl
theorem qs29 : (Cond.selects "LateChecksModel" (⟨"LateChecksModel", "allAnew", "()V"⟩ : MethodName) (⟨"LateChecksModel", "allAnew", "()V"⟩ : MethodName)) ∈ gW := gW_sel (i := 29) (by decide +kernel) rfl
theorem qs30 : (Cond.selects "LateChecksModel" (⟨"LateChecksModel", "frees", "(IZ)V"⟩ : MethodName) (⟨"LateChecksModel", "frees", "(IZ)V"⟩ : MethodName)) ∈ gW := gW_sel (i := 30) (by decide +kernel) rfl
theorem qs31 : (Cond.selects "LateChecksModel" (⟨"LateChecksModel", "inState", "(I)I"⟩ : MethodName) (⟨"LateChecksModel", "inState", "(I)I"⟩ : MethodName)) ∈ gW := gW_sel (i := 31) (by decide +kernel) rfl
theorem qs32 : (Cond.selects "LateChecksModel" (⟨"LateChecksModel", "logs", "(II)I"⟩ : MethodName) (⟨"LateChecksModel", "logs", "(II)I"⟩ : MethodName)) ∈ gW := gW_sel (i := 32) (by decide +kernel) rfl
theorem qs33 : (Cond.selects "LateChecksModel" (⟨"LateChecksModel", "puts", "(II)V"⟩ : MethodName) (⟨"LateChecksModel", "puts", "(II)V"⟩ : MethodName)) ∈ gW := gW_sel (i := 33) (by decide +kernel) rfl
theorem qs34 : (Cond.selects "LateChecksModel" (⟨"LateChecksModel", "opens", "(I)V"⟩ : MethodName) (⟨"LateChecksModel", "opens", "(I)V"⟩ : MethodName)) ∈ gW := gW_sel (i := 34) (by decide +kernel) rfl
theorem qs35 : (Cond.selects "LateChecksModel" (⟨"LateChecksModel", "refused", "(II)I"⟩ : MethodName) (⟨"LateChecksModel", "refused", "(II)I"⟩ : MethodName)) ∈ gW := gW_sel (i := 35) (by decide +kernel) rfl
theorem qs36 : (Cond.selects "LateChecksModel" (⟨"LateChecksModel", "checks", "(II)I"⟩ : MethodName) (⟨"LateChecksModel", "checks", "(II)I"⟩ : MethodName)) ∈ gW := gW_sel (i := 36) (by decide +kernel) rfl
theorem qs37 : (Cond.selects "LateChecksModel" (⟨"LateChecksModel", "stale", "(I)I"⟩ : MethodName) (⟨"LateChecksModel", "stale", "(I)I"⟩ : MethodName)) ∈ gW := gW_sel (i := 37) (by decide +kernel) rfl
theorem qs38 : (Cond.selects "LateChecksModel" (⟨"LateChecksModel", "crossed", "(I)I"⟩ : MethodName) (⟨"LateChecksModel", "crossed", "(I)I"⟩ : MethodName)) ∈ gW := gW_sel (i := 38) (by decide +kernel) rfl
theorem qs39 : (Cond.selects "LateChecksModel" (⟨"LateChecksModel", "rivals", "(I)I"⟩ : MethodName) (⟨"LateChecksModel", "rivals", "(I)I"⟩ : MethodName)) ∈ gW := gW_sel (i := 39) (by decide +kernel) rfl
theorem qs40 : (Cond.selects "LateChecksModel" (⟨"LateChecksModel", "isWeaker", "(II)Z"⟩ : MethodName) (⟨"LateChecksModel", "isWeaker", "(II)Z"⟩ : MethodName)) ∈ gW := gW_sel (i := 40) (by decide +kernel) rfl
theorem qs41 : (Cond.selects "LateChecksModel" (⟨"LateChecksModel", "isStubborn", "(I)Z"⟩ : MethodName) (⟨"LateChecksModel", "isStubborn", "(I)Z"⟩ : MethodName)) ∈ gW := gW_sel (i := 41) (by decide +kernel) rfl
theorem qs42 : (Cond.selects "LateChecksModel" (⟨"LateChecksModel", "fails", "(II)V"⟩ : MethodName) (⟨"LateChecksModel", "fails", "(II)V"⟩ : MethodName)) ∈ gW := gW_sel (i := 42) (by decide +kernel) rfl
theorem qs43 : (Cond.selects "LateChecksModel" (⟨"LateChecksModel", "commits", "(II)I"⟩ : MethodName) (⟨"LateChecksModel", "commits", "(II)I"⟩ : MethodName)) ∈ gW := gW_sel (i := 43) (by decide +kernel) rfl
theorem qs44 : (Cond.selects "LateChecksModel" (⟨"LateChecksModel", "firstSent", "(I)I"⟩ : MethodName) (⟨"LateChecksModel", "firstSent", "(I)I"⟩ : MethodName)) ∈ gW := gW_sel (i := 44) (by decide +kernel) rfl
theorem qs45 : (Cond.selects "LateChecksModel" (⟨"LateChecksModel", "isCommit", "(I)Z"⟩ : MethodName) (⟨"LateChecksModel", "isCommit", "(I)Z"⟩ : MethodName)) ∈ gW := gW_sel (i := 45) (by decide +kernel) rfl
theorem qs46 : (Cond.selects "LateChecksModel" (⟨"LateChecksModel", "allValues", "()I"⟩ : MethodName) (⟨"LateChecksModel", "allValues", "()I"⟩ : MethodName)) ∈ gW := gW_sel (i := 46) (by decide +kernel) rfl
theorem lyX0 : wsX00 = [92, 94, 96, 98, 100, 102, 104, 106, 108, 110, 112, 114, 116].filterMap (fun i => tables_1[i]?) := by decide +kernel
theorem inX0 : ∀ w ∈ wsX00, w ∈ gW := by
  have hg : wsX00.all goodWord = true := by decide +kernel
  intro w h
  refine List.mem_filter.mpr ⟨?_, List.all_eq_true.mp hg w h⟩
  rw [lyX0] at h
  obtain ⟨i, -, hi⟩ := List.mem_filterMap.mp h
  exact List.mem_append_right _ (List.mem_of_getElem? hi)
theorem lyX1 : wsX10 = [346, 348, 350, 352, 354, 356, 358, 360].filterMap (fun i => tables_1[i]?) := by decide +kernel
theorem inX1 : ∀ w ∈ wsX10, w ∈ gW := by
  have hg : wsX10.all goodWord = true := by decide +kernel
  intro w h
  refine List.mem_filter.mpr ⟨?_, List.all_eq_true.mp hg w h⟩
  rw [lyX1] at h
  obtain ⟨i, -, hi⟩ := List.mem_filterMap.mp h
  exact List.mem_append_right _ (List.mem_of_getElem? hi)
theorem lyX2 : wsX20 = [34, 36, 38, 40, 42, 44, 46].filterMap (fun i => tables_1[i]?) := by decide +kernel
theorem inX2 : ∀ w ∈ wsX20, w ∈ gW := by
  have hg : wsX20.all goodWord = true := by decide +kernel
  intro w h
  refine List.mem_filter.mpr ⟨?_, List.all_eq_true.mp hg w h⟩
  rw [lyX2] at h
  obtain ⟨i, -, hi⟩ := List.mem_filterMap.mp h
  exact List.mem_append_right _ (List.mem_of_getElem? hi)
theorem lyX3 : wsX30 = [139, 141, 143, 145, 147, 149, 151, 153, 155, 157, 159, 161].filterMap (fun i => tables_1[i]?) := by decide +kernel
theorem inX3 : ∀ w ∈ wsX30, w ∈ gW := by
  have hg : wsX30.all goodWord = true := by decide +kernel
  intro w h
  refine List.mem_filter.mpr ⟨?_, List.all_eq_true.mp hg w h⟩
  rw [lyX3] at h
  obtain ⟨i, -, hi⟩ := List.mem_filterMap.mp h
  exact List.mem_append_right _ (List.mem_of_getElem? hi)
theorem lyX4 : wsX40 = [620, 622, 624, 626, 628, 630, 632, 634, 636, 638, 640, 642, 644, 646, 648, 650, 652, 654, 656, 658, 660, 662, 664, 666, 668, 670, 672, 674, 676, 678].filterMap (fun i => tables_1[i]?) := by decide +kernel
theorem inX4 : ∀ w ∈ wsX40, w ∈ gW := by
  have hg : wsX40.all goodWord = true := by decide +kernel
  intro w h
  refine List.mem_filter.mpr ⟨?_, List.all_eq_true.mp hg w h⟩
  rw [lyX4] at h
  obtain ⟨i, -, hi⟩ := List.mem_filterMap.mp h
  exact List.mem_append_right _ (List.mem_of_getElem? hi)
end
section
theorem dX0_init_0 : decode cX0_init 0 = .ok (.aload_n 0, 1) := by decide +kernel
theorem dX0_init_1 : decode cX0_init 1 = .ok (.invokespecial 3, 3) := by decide +kernel
theorem dX0_init_4 : decode cX0_init 4 = .ok (.aload_n 0, 1) := by decide +kernel
theorem dX0_init_5 : decode cX0_init 5 = .ok (.bipush 8, 2) := by decide +kernel
theorem dX0_init_7 : decode cX0_init 7 = .ok (.newarray .int, 2) := by decide +kernel
theorem dX0_init_9 : decode cX0_init 9 = .ok (.putfield 9, 3) := by decide +kernel
theorem dX0_init_12 : decode cX0_init 12 = .ok (.aload_n 0, 1) := by decide +kernel
theorem dX0_init_13 : decode cX0_init 13 = .ok (.bipush 8, 2) := by decide +kernel
theorem dX0_init_15 : decode cX0_init 15 = .ok (.newarray .int, 2) := by decide +kernel
theorem dX0_init_17 : decode cX0_init 17 = .ok (.putfield 15, 3) := by decide +kernel
theorem dX0_init_20 : decode cX0_init 20 = .ok (.aload_n 0, 1) := by decide +kernel
theorem dX0_init_21 : decode cX0_init 21 = .ok (.bipush 8, 2) := by decide +kernel
theorem dX0_init_23 : decode cX0_init 23 = .ok (.newarray .int, 2) := by decide +kernel
theorem dX0_init_25 : decode cX0_init 25 = .ok (.putfield 18, 3) := by decide +kernel
theorem dX0_init_28 : decode cX0_init 28 = .ok (.aload_n 0, 1) := by decide +kernel
theorem dX0_init_29 : decode cX0_init 29 = .ok (.iconst 2, 1) := by decide +kernel
theorem dX0_init_30 : decode cX0_init 30 = .ok (.newarray .int, 2) := by decide +kernel
theorem dX0_init_32 : decode cX0_init 32 = .ok (.putfield 21, 3) := by decide +kernel
theorem dX0_init_35 : decode cX0_init 35 = .ok (.aload_n 0, 1) := by decide +kernel
theorem dX0_init_36 : decode cX0_init 36 = .ok (.iload_n 1, 1) := by decide +kernel
theorem dX0_init_37 : decode cX0_init 37 = .ok (.putfield 24, 3) := by decide +kernel
theorem dX0_init_40 : decode cX0_init 40 = .ok (.return_, 1) := by decide +kernel
theorem dX0_becomeFree_0 : decode cX0_becomeFree 0 = .ok (.aload_n 0, 1) := by decide +kernel
theorem dX0_becomeFree_1 : decode cX0_becomeFree 1 = .ok (.iconst 0, 1) := by decide +kernel
theorem dX0_becomeFree_2 : decode cX0_becomeFree 2 = .ok (.putfield 28, 3) := by decide +kernel
theorem dX0_becomeFree_5 : decode cX0_becomeFree 5 = .ok (.aload_n 0, 1) := by decide +kernel
theorem dX0_becomeFree_6 : decode cX0_becomeFree 6 = .ok (.iload_n 1, 1) := by decide +kernel
theorem dX0_becomeFree_7 : decode cX0_becomeFree 7 = .ok (.putfield 31, 3) := by decide +kernel
theorem dX0_becomeFree_10 : decode cX0_becomeFree 10 = .ok (.aload_n 0, 1) := by decide +kernel
theorem dX0_becomeFree_11 : decode cX0_becomeFree 11 = .ok (.iconst 0, 1) := by decide +kernel
theorem dX0_becomeFree_12 : decode cX0_becomeFree 12 = .ok (.putfield 35, 3) := by decide +kernel
theorem dX0_becomeFree_15 : decode cX0_becomeFree 15 = .ok (.aload_n 0, 1) := by decide +kernel
theorem dX0_becomeFree_16 : decode cX0_becomeFree 16 = .ok (.iconst 0, 1) := by decide +kernel
theorem dX0_becomeFree_17 : decode cX0_becomeFree 17 = .ok (.putfield 38, 3) := by decide +kernel
theorem dX0_becomeFree_20 : decode cX0_becomeFree 20 = .ok (.aload_n 0, 1) := by decide +kernel
theorem dX0_becomeFree_21 : decode cX0_becomeFree 21 = .ok (.iconst 0, 1) := by decide +kernel
theorem dX0_becomeFree_22 : decode cX0_becomeFree 22 = .ok (.putfield 41, 3) := by decide +kernel
theorem dX0_becomeFree_25 : decode cX0_becomeFree 25 = .ok (.aload_n 0, 1) := by decide +kernel
theorem dX0_becomeFree_26 : decode cX0_becomeFree 26 = .ok (.iconst (-1), 1) := by decide +kernel
theorem dX0_becomeFree_27 : decode cX0_becomeFree 27 = .ok (.putfield 44, 3) := by decide +kernel
theorem dX0_becomeFree_30 : decode cX0_becomeFree 30 = .ok (.iload_n 1, 1) := by decide +kernel
theorem dX0_becomeFree_31 : decode cX0_becomeFree 31 = .ok (.ifCond .ne 13, 3) := by decide +kernel
theorem dX0_becomeFree_34 : decode cX0_becomeFree 34 = .ok (.aload_n 0, 1) := by decide +kernel
theorem dX0_becomeFree_35 : decode cX0_becomeFree 35 = .ok (.iconst 0, 1) := by decide +kernel
theorem dX0_becomeFree_36 : decode cX0_becomeFree 36 = .ok (.putfield 47, 3) := by decide +kernel
theorem dX0_becomeFree_39 : decode cX0_becomeFree 39 = .ok (.aload_n 0, 1) := by decide +kernel
theorem dX0_becomeFree_40 : decode cX0_becomeFree 40 = .ok (.iconst 0, 1) := by decide +kernel
theorem dX0_becomeFree_41 : decode cX0_becomeFree 41 = .ok (.putfield 50, 3) := by decide +kernel
theorem dX0_becomeFree_44 : decode cX0_becomeFree 44 = .ok (.return_, 1) := by decide +kernel
theorem dX0_becomeOpen_0 : decode cX0_becomeOpen 0 = .ok (.aload_n 0, 1) := by decide +kernel
theorem dX0_becomeOpen_1 : decode cX0_becomeOpen 1 = .ok (.iconst 1, 1) := by decide +kernel
theorem dX0_becomeOpen_2 : decode cX0_becomeOpen 2 = .ok (.putfield 28, 3) := by decide +kernel
theorem dX0_becomeOpen_5 : decode cX0_becomeOpen 5 = .ok (.aload_n 0, 1) := by decide +kernel
theorem dX0_becomeOpen_6 : decode cX0_becomeOpen 6 = .ok (.iconst 0, 1) := by decide +kernel
theorem dX0_becomeOpen_7 : decode cX0_becomeOpen 7 = .ok (.putfield 31, 3) := by decide +kernel
theorem dX0_becomeOpen_10 : decode cX0_becomeOpen 10 = .ok (.aload_n 0, 1) := by decide +kernel
theorem dX0_becomeOpen_11 : decode cX0_becomeOpen 11 = .ok (.iload_n 1, 1) := by decide +kernel
theorem dX0_becomeOpen_12 : decode cX0_becomeOpen 12 = .ok (.putfield 35, 3) := by decide +kernel
theorem dX0_becomeOpen_15 : decode cX0_becomeOpen 15 = .ok (.aload_n 0, 1) := by decide +kernel
theorem dX0_becomeOpen_16 : decode cX0_becomeOpen 16 = .ok (.iload_n 2, 1) := by decide +kernel
theorem dX0_becomeOpen_17 : decode cX0_becomeOpen 17 = .ok (.putfield 47, 3) := by decide +kernel
theorem dX0_becomeOpen_20 : decode cX0_becomeOpen 20 = .ok (.aload_n 0, 1) := by decide +kernel
theorem dX0_becomeOpen_21 : decode cX0_becomeOpen 21 = .ok (.iload_n 3, 1) := by decide +kernel
theorem dX0_becomeOpen_22 : decode cX0_becomeOpen 22 = .ok (.putfield 50, 3) := by decide +kernel
theorem dX0_becomeOpen_25 : decode cX0_becomeOpen 25 = .ok (.return_, 1) := by decide +kernel
theorem dX0_becomeSent_0 : decode cX0_becomeSent 0 = .ok (.aload_n 0, 1) := by decide +kernel
theorem dX0_becomeSent_1 : decode cX0_becomeSent 1 = .ok (.iconst 3, 1) := by decide +kernel
theorem dX0_becomeSent_2 : decode cX0_becomeSent 2 = .ok (.putfield 28, 3) := by decide +kernel
theorem dX0_becomeSent_5 : decode cX0_becomeSent 5 = .ok (.aload_n 0, 1) := by decide +kernel
theorem dX0_becomeSent_6 : decode cX0_becomeSent 6 = .ok (.iload_n 1, 1) := by decide +kernel
theorem dX0_becomeSent_7 : decode cX0_becomeSent 7 = .ok (.putfield 44, 3) := by decide +kernel
theorem dX0_becomeSent_10 : decode cX0_becomeSent 10 = .ok (.iconst 0, 1) := by decide +kernel
theorem dX0_becomeSent_11 : decode cX0_becomeSent 11 = .ok (.istore_n 2, 1) := by decide +kernel
theorem dX0_becomeSent_12 : decode cX0_becomeSent 12 = .ok (.iload_n 2, 1) := by decide +kernel
theorem dX0_becomeSent_13 : decode cX0_becomeSent 13 = .ok (.iconst 2, 1) := by decide +kernel
theorem dX0_becomeSent_14 : decode cX0_becomeSent 14 = .ok (.if_icmp .ge 16, 3) := by decide +kernel
theorem dX0_becomeSent_17 : decode cX0_becomeSent 17 = .ok (.aload_n 0, 1) := by decide +kernel
theorem dX0_becomeSent_18 : decode cX0_becomeSent 18 = .ok (.getfield 21, 3) := by decide +kernel
theorem dX0_becomeSent_21 : decode cX0_becomeSent 21 = .ok (.iload_n 2, 1) := by decide +kernel
theorem dX0_becomeSent_22 : decode cX0_becomeSent 22 = .ok (.iconst (-1), 1) := by decide +kernel
theorem dX0_becomeSent_23 : decode cX0_becomeSent 23 = .ok (.iastore, 1) := by decide +kernel
theorem dX0_becomeSent_24 : decode cX0_becomeSent 24 = .ok (.iinc 2 1, 3) := by decide +kernel
theorem dX0_becomeSent_27 : decode cX0_becomeSent 27 = .ok (.goto (-15), 3) := by decide +kernel
theorem dX0_becomeSent_30 : decode cX0_becomeSent 30 = .ok (.return_, 1) := by decide +kernel
theorem dX0_note_0 : decode cX0_note 0 = .ok (.aload_n 0, 1) := by decide +kernel
theorem dX0_note_1 : decode cX0_note 1 = .ok (.dup, 1) := by decide +kernel
theorem dX0_note_2 : decode cX0_note 2 = .ok (.getfield 38, 3) := by decide +kernel
theorem dX0_note_5 : decode cX0_note 5 = .ok (.iload_n 1, 1) := by decide +kernel
theorem dX0_note_6 : decode cX0_note 6 = .ok (.invokestatic 53, 3) := by decide +kernel
theorem dX0_note_9 : decode cX0_note 9 = .ok (.ior, 1) := by decide +kernel
theorem dX0_note_10 : decode cX0_note 10 = .ok (.putfield 38, 3) := by decide +kernel
theorem dX0_note_13 : decode cX0_note 13 = .ok (.aload_n 0, 1) := by decide +kernel
theorem dX0_note_14 : decode cX0_note 14 = .ok (.getfield 9, 3) := by decide +kernel
theorem dX0_note_17 : decode cX0_note 17 = .ok (.iload_n 1, 1) := by decide +kernel
theorem dX0_note_18 : decode cX0_note 18 = .ok (.iload_n 2, 1) := by decide +kernel
theorem dX0_note_19 : decode cX0_note 19 = .ok (.iastore, 1) := by decide +kernel
theorem dX0_note_20 : decode cX0_note 20 = .ok (.aload_n 0, 1) := by decide +kernel
theorem dX0_note_21 : decode cX0_note 21 = .ok (.getfield 15, 3) := by decide +kernel
theorem dX0_note_24 : decode cX0_note 24 = .ok (.iload_n 1, 1) := by decide +kernel
theorem dX0_note_25 : decode cX0_note 25 = .ok (.iload_n 3, 1) := by decide +kernel
theorem dX0_note_26 : decode cX0_note 26 = .ok (.iastore, 1) := by decide +kernel
theorem dX0_note_27 : decode cX0_note 27 = .ok (.return_, 1) := by decide +kernel
theorem dX0_hasAllVotes_0 : decode cX0_hasAllVotes 0 = .ok (.aload_n 0, 1) := by decide +kernel
theorem dX0_hasAllVotes_1 : decode cX0_hasAllVotes 1 = .ok (.getfield 21, 3) := by decide +kernel
theorem dX0_hasAllVotes_4 : decode cX0_hasAllVotes 4 = .ok (.astore_n 1, 1) := by decide +kernel
theorem dX0_hasAllVotes_5 : decode cX0_hasAllVotes 5 = .ok (.aload_n 1, 1) := by decide +kernel
theorem dX0_hasAllVotes_6 : decode cX0_hasAllVotes 6 = .ok (.arraylength, 1) := by decide +kernel
theorem dX0_hasAllVotes_7 : decode cX0_hasAllVotes 7 = .ok (.istore_n 2, 1) := by decide +kernel
theorem dX0_hasAllVotes_8 : decode cX0_hasAllVotes 8 = .ok (.iconst 0, 1) := by decide +kernel
theorem dX0_hasAllVotes_9 : decode cX0_hasAllVotes 9 = .ok (.istore_n 3, 1) := by decide +kernel
theorem dX0_hasAllVotes_10 : decode cX0_hasAllVotes 10 = .ok (.iload_n 3, 1) := by decide +kernel
theorem dX0_hasAllVotes_11 : decode cX0_hasAllVotes 11 = .ok (.iload_n 2, 1) := by decide +kernel
theorem dX0_hasAllVotes_12 : decode cX0_hasAllVotes 12 = .ok (.if_icmp .ge 22, 3) := by decide +kernel
theorem dX0_hasAllVotes_15 : decode cX0_hasAllVotes 15 = .ok (.aload_n 1, 1) := by decide +kernel
theorem dX0_hasAllVotes_16 : decode cX0_hasAllVotes 16 = .ok (.iload_n 3, 1) := by decide +kernel
theorem dX0_hasAllVotes_17 : decode cX0_hasAllVotes 17 = .ok (.iaload, 1) := by decide +kernel
theorem dX0_hasAllVotes_18 : decode cX0_hasAllVotes 18 = .ok (.istore 4, 2) := by decide +kernel
theorem dX0_hasAllVotes_20 : decode cX0_hasAllVotes 20 = .ok (.iload 4, 2) := by decide +kernel
theorem dX0_hasAllVotes_22 : decode cX0_hasAllVotes 22 = .ok (.iconst (-1), 1) := by decide +kernel
theorem dX0_hasAllVotes_23 : decode cX0_hasAllVotes 23 = .ok (.if_icmp .ne 5, 3) := by decide +kernel
theorem dX0_hasAllVotes_26 : decode cX0_hasAllVotes 26 = .ok (.iconst 0, 1) := by decide +kernel
theorem dX0_hasAllVotes_27 : decode cX0_hasAllVotes 27 = .ok (.ireturn, 1) := by decide +kernel
theorem dX0_hasAllVotes_28 : decode cX0_hasAllVotes 28 = .ok (.iinc 3 1, 3) := by decide +kernel
theorem dX0_hasAllVotes_31 : decode cX0_hasAllVotes 31 = .ok (.goto (-21), 3) := by decide +kernel
theorem dX0_hasAllVotes_34 : decode cX0_hasAllVotes 34 = .ok (.iconst 1, 1) := by decide +kernel
theorem dX0_hasAllVotes_35 : decode cX0_hasAllVotes 35 = .ok (.ireturn, 1) := by decide +kernel
theorem dX0_hasOnlyYes_0 : decode cX0_hasOnlyYes 0 = .ok (.aload_n 0, 1) := by decide +kernel
theorem dX0_hasOnlyYes_1 : decode cX0_hasOnlyYes 1 = .ok (.getfield 21, 3) := by decide +kernel
theorem dX0_hasOnlyYes_4 : decode cX0_hasOnlyYes 4 = .ok (.astore_n 1, 1) := by decide +kernel
theorem dX0_hasOnlyYes_5 : decode cX0_hasOnlyYes 5 = .ok (.aload_n 1, 1) := by decide +kernel
theorem dX0_hasOnlyYes_6 : decode cX0_hasOnlyYes 6 = .ok (.arraylength, 1) := by decide +kernel
theorem dX0_hasOnlyYes_7 : decode cX0_hasOnlyYes 7 = .ok (.istore_n 2, 1) := by decide +kernel
theorem dX0_hasOnlyYes_8 : decode cX0_hasOnlyYes 8 = .ok (.iconst 0, 1) := by decide +kernel
theorem dX0_hasOnlyYes_9 : decode cX0_hasOnlyYes 9 = .ok (.istore_n 3, 1) := by decide +kernel
theorem dX0_hasOnlyYes_10 : decode cX0_hasOnlyYes 10 = .ok (.iload_n 3, 1) := by decide +kernel
theorem dX0_hasOnlyYes_11 : decode cX0_hasOnlyYes 11 = .ok (.iload_n 2, 1) := by decide +kernel
theorem dX0_hasOnlyYes_12 : decode cX0_hasOnlyYes 12 = .ok (.if_icmp .ge 22, 3) := by decide +kernel
theorem dX0_hasOnlyYes_15 : decode cX0_hasOnlyYes 15 = .ok (.aload_n 1, 1) := by decide +kernel
theorem dX0_hasOnlyYes_16 : decode cX0_hasOnlyYes 16 = .ok (.iload_n 3, 1) := by decide +kernel
theorem dX0_hasOnlyYes_17 : decode cX0_hasOnlyYes 17 = .ok (.iaload, 1) := by decide +kernel
theorem dX0_hasOnlyYes_18 : decode cX0_hasOnlyYes 18 = .ok (.istore 4, 2) := by decide +kernel
theorem dX0_hasOnlyYes_20 : decode cX0_hasOnlyYes 20 = .ok (.iload 4, 2) := by decide +kernel
theorem dX0_hasOnlyYes_22 : decode cX0_hasOnlyYes 22 = .ok (.iconst 1, 1) := by decide +kernel
theorem dX0_hasOnlyYes_23 : decode cX0_hasOnlyYes 23 = .ok (.if_icmp .eq 5, 3) := by decide +kernel
theorem dX0_hasOnlyYes_26 : decode cX0_hasOnlyYes 26 = .ok (.iconst 0, 1) := by decide +kernel
theorem dX0_hasOnlyYes_27 : decode cX0_hasOnlyYes 27 = .ok (.ireturn, 1) := by decide +kernel
theorem dX0_hasOnlyYes_28 : decode cX0_hasOnlyYes 28 = .ok (.iinc 3 1, 3) := by decide +kernel
theorem dX0_hasOnlyYes_31 : decode cX0_hasOnlyYes 31 = .ok (.goto (-21), 3) := by decide +kernel
theorem dX0_hasOnlyYes_34 : decode cX0_hasOnlyYes 34 = .ok (.iconst 1, 1) := by decide +kernel
theorem dX0_hasOnlyYes_35 : decode cX0_hasOnlyYes 35 = .ok (.ireturn, 1) := by decide +kernel
theorem dX1_init_0 : decode cX1_init 0 = .ok (.aload_n 0, 1) := by decide +kernel
theorem dX1_init_1 : decode cX1_init 1 = .ok (.invokespecial 3, 3) := by decide +kernel
theorem dX1_init_4 : decode cX1_init 4 = .ok (.aload_n 0, 1) := by decide +kernel
theorem dX1_init_5 : decode cX1_init 5 = .ok (.bipush 8, 2) := by decide +kernel
theorem dX1_init_7 : decode cX1_init 7 = .ok (.newarray .int, 2) := by decide +kernel
theorem dX1_init_9 : decode cX1_init 9 = .ok (.putfield 9, 3) := by decide +kernel
theorem dX1_init_12 : decode cX1_init 12 = .ok (.aload_n 0, 1) := by decide +kernel
theorem dX1_init_13 : decode cX1_init 13 = .ok (.bipush 8, 2) := by decide +kernel
theorem dX1_init_15 : decode cX1_init 15 = .ok (.newarray .int, 2) := by decide +kernel
theorem dX1_init_17 : decode cX1_init 17 = .ok (.putfield 15, 3) := by decide +kernel
theorem dX1_init_20 : decode cX1_init 20 = .ok (.return_, 1) := by decide +kernel
theorem dX1_keepDeal_0 : decode cX1_keepDeal 0 = .ok (.aload_n 0, 1) := by decide +kernel
theorem dX1_keepDeal_1 : decode cX1_keepDeal 1 = .ok (.aload_n 1, 1) := by decide +kernel
theorem dX1_keepDeal_2 : decode cX1_keepDeal 2 = .ok (.getfield 18, 3) := by decide +kernel
theorem dX1_keepDeal_5 : decode cX1_keepDeal 5 = .ok (.putfield 24, 3) := by decide +kernel
theorem dX1_keepDeal_8 : decode cX1_keepDeal 8 = .ok (.aload_n 0, 1) := by decide +kernel
theorem dX1_keepDeal_9 : decode cX1_keepDeal 9 = .ok (.aload_n 1, 1) := by decide +kernel
theorem dX1_keepDeal_10 : decode cX1_keepDeal 10 = .ok (.getfield 27, 3) := by decide +kernel
theorem dX1_keepDeal_13 : decode cX1_keepDeal 13 = .ok (.putfield 30, 3) := by decide +kernel
theorem dX1_keepDeal_16 : decode cX1_keepDeal 16 = .ok (.aload_n 0, 1) := by decide +kernel
theorem dX1_keepDeal_17 : decode cX1_keepDeal 17 = .ok (.aload_n 1, 1) := by decide +kernel
theorem dX1_keepDeal_18 : decode cX1_keepDeal 18 = .ok (.getfield 31, 3) := by decide +kernel
theorem dX1_keepDeal_21 : decode cX1_keepDeal 21 = .ok (.putfield 34, 3) := by decide +kernel
theorem dX1_keepDeal_24 : decode cX1_keepDeal 24 = .ok (.aload_n 0, 1) := by decide +kernel
theorem dX1_keepDeal_25 : decode cX1_keepDeal 25 = .ok (.aload_n 1, 1) := by decide +kernel
theorem dX1_keepDeal_26 : decode cX1_keepDeal 26 = .ok (.getfield 35, 3) := by decide +kernel
theorem dX1_keepDeal_29 : decode cX1_keepDeal 29 = .ok (.putfield 38, 3) := by decide +kernel
theorem dX1_keepDeal_32 : decode cX1_keepDeal 32 = .ok (.aload_n 0, 1) := by decide +kernel
theorem dX1_keepDeal_33 : decode cX1_keepDeal 33 = .ok (.aload_n 1, 1) := by decide +kernel
theorem dX1_keepDeal_34 : decode cX1_keepDeal 34 = .ok (.getfield 39, 3) := by decide +kernel
theorem dX1_keepDeal_37 : decode cX1_keepDeal 37 = .ok (.putfield 42, 3) := by decide +kernel
theorem dX1_keepDeal_40 : decode cX1_keepDeal 40 = .ok (.aload_n 0, 1) := by decide +kernel
theorem dX1_keepDeal_41 : decode cX1_keepDeal 41 = .ok (.iload_n 2, 1) := by decide +kernel
theorem dX1_keepDeal_42 : decode cX1_keepDeal 42 = .ok (.putfield 43, 3) := by decide +kernel
theorem dX1_keepDeal_45 : decode cX1_keepDeal 45 = .ok (.iconst 0, 1) := by decide +kernel
theorem dX1_keepDeal_46 : decode cX1_keepDeal 46 = .ok (.istore_n 3, 1) := by decide +kernel
theorem dX1_keepDeal_47 : decode cX1_keepDeal 47 = .ok (.iload_n 3, 1) := by decide +kernel
theorem dX1_keepDeal_48 : decode cX1_keepDeal 48 = .ok (.bipush 8, 2) := by decide +kernel
theorem dX1_keepDeal_50 : decode cX1_keepDeal 50 = .ok (.if_icmp .ge 33, 3) := by decide +kernel
theorem dX1_keepDeal_53 : decode cX1_keepDeal 53 = .ok (.aload_n 0, 1) := by decide +kernel
theorem dX1_keepDeal_54 : decode cX1_keepDeal 54 = .ok (.getfield 9, 3) := by decide +kernel
theorem dX1_keepDeal_57 : decode cX1_keepDeal 57 = .ok (.iload_n 3, 1) := by decide +kernel
theorem dX1_keepDeal_58 : decode cX1_keepDeal 58 = .ok (.aload_n 1, 1) := by decide +kernel
theorem dX1_keepDeal_59 : decode cX1_keepDeal 59 = .ok (.getfield 46, 3) := by decide +kernel
theorem dX1_keepDeal_62 : decode cX1_keepDeal 62 = .ok (.iload_n 3, 1) := by decide +kernel
theorem dX1_keepDeal_63 : decode cX1_keepDeal 63 = .ok (.iaload, 1) := by decide +kernel
theorem dX1_keepDeal_64 : decode cX1_keepDeal 64 = .ok (.iastore, 1) := by decide +kernel
theorem dX1_keepDeal_65 : decode cX1_keepDeal 65 = .ok (.aload_n 0, 1) := by decide +kernel
theorem dX1_keepDeal_66 : decode cX1_keepDeal 66 = .ok (.getfield 15, 3) := by decide +kernel
theorem dX1_keepDeal_69 : decode cX1_keepDeal 69 = .ok (.iload_n 3, 1) := by decide +kernel
theorem dX1_keepDeal_70 : decode cX1_keepDeal 70 = .ok (.aload_n 1, 1) := by decide +kernel
theorem dX1_keepDeal_71 : decode cX1_keepDeal 71 = .ok (.getfield 47, 3) := by decide +kernel
theorem dX1_keepDeal_74 : decode cX1_keepDeal 74 = .ok (.iload_n 3, 1) := by decide +kernel
theorem dX1_keepDeal_75 : decode cX1_keepDeal 75 = .ok (.iaload, 1) := by decide +kernel
theorem dX1_keepDeal_76 : decode cX1_keepDeal 76 = .ok (.iastore, 1) := by decide +kernel
theorem dX1_keepDeal_77 : decode cX1_keepDeal 77 = .ok (.iinc 3 1, 3) := by decide +kernel
theorem dX1_keepDeal_80 : decode cX1_keepDeal 80 = .ok (.goto (-33), 3) := by decide +kernel
theorem dX1_keepDeal_83 : decode cX1_keepDeal 83 = .ok (.return_, 1) := by decide +kernel
theorem dX1_keepWrite_0 : decode cX1_keepWrite 0 = .ok (.aload_n 0, 1) := by decide +kernel
theorem dX1_keepWrite_1 : decode cX1_keepWrite 1 = .ok (.iconst (-1), 1) := by decide +kernel
theorem dX1_keepWrite_2 : decode cX1_keepWrite 2 = .ok (.putfield 24, 3) := by decide +kernel
theorem dX1_keepWrite_5 : decode cX1_keepWrite 5 = .ok (.aload_n 0, 1) := by decide +kernel
theorem dX1_keepWrite_6 : decode cX1_keepWrite 6 = .ok (.iconst 0, 1) := by decide +kernel
theorem dX1_keepWrite_7 : decode cX1_keepWrite 7 = .ok (.putfield 30, 3) := by decide +kernel
theorem dX1_keepWrite_10 : decode cX1_keepWrite 10 = .ok (.aload_n 0, 1) := by decide +kernel
theorem dX1_keepWrite_11 : decode cX1_keepWrite 11 = .ok (.iconst 0, 1) := by decide +kernel
theorem dX1_keepWrite_12 : decode cX1_keepWrite 12 = .ok (.putfield 34, 3) := by decide +kernel
theorem dX1_keepWrite_15 : decode cX1_keepWrite 15 = .ok (.aload_n 0, 1) := by decide +kernel
theorem dX1_keepWrite_16 : decode cX1_keepWrite 16 = .ok (.iconst 0, 1) := by decide +kernel
theorem dX1_keepWrite_17 : decode cX1_keepWrite 17 = .ok (.putfield 38, 3) := by decide +kernel
theorem dX1_keepWrite_20 : decode cX1_keepWrite 20 = .ok (.aload_n 0, 1) := by decide +kernel
theorem dX1_keepWrite_21 : decode cX1_keepWrite 21 = .ok (.iload_n 1, 1) := by decide +kernel
theorem dX1_keepWrite_22 : decode cX1_keepWrite 22 = .ok (.invokestatic 48, 3) := by decide +kernel
theorem dX1_keepWrite_25 : decode cX1_keepWrite 25 = .ok (.putfield 42, 3) := by decide +kernel
theorem dX1_keepWrite_28 : decode cX1_keepWrite 28 = .ok (.aload_n 0, 1) := by decide +kernel
theorem dX1_keepWrite_29 : decode cX1_keepWrite 29 = .ok (.iconst 4, 1) := by decide +kernel
theorem dX1_keepWrite_30 : decode cX1_keepWrite 30 = .ok (.putfield 43, 3) := by decide +kernel
theorem dX1_keepWrite_33 : decode cX1_keepWrite 33 = .ok (.aload_n 0, 1) := by decide +kernel
theorem dX1_keepWrite_34 : decode cX1_keepWrite 34 = .ok (.getfield 15, 3) := by decide +kernel
theorem dX1_keepWrite_37 : decode cX1_keepWrite 37 = .ok (.iload_n 1, 1) := by decide +kernel
theorem dX1_keepWrite_38 : decode cX1_keepWrite 38 = .ok (.iload_n 2, 1) := by decide +kernel
theorem dX1_keepWrite_39 : decode cX1_keepWrite 39 = .ok (.iastore, 1) := by decide +kernel
theorem dX1_keepWrite_40 : decode cX1_keepWrite 40 = .ok (.return_, 1) := by decide +kernel
theorem dX1_hasNoted_0 : decode cX1_hasNoted 0 = .ok (.iconst 0, 1) := by decide +kernel
theorem dX1_hasNoted_1 : decode cX1_hasNoted 1 = .ok (.istore_n 2, 1) := by decide +kernel
theorem dX1_hasNoted_2 : decode cX1_hasNoted 2 = .ok (.iload_n 2, 1) := by decide +kernel
theorem dX1_hasNoted_3 : decode cX1_hasNoted 3 = .ok (.bipush 8, 2) := by decide +kernel
theorem dX1_hasNoted_5 : decode cX1_hasNoted 5 = .ok (.if_icmp .ge 32, 3) := by decide +kernel
theorem dX1_hasNoted_8 : decode cX1_hasNoted 8 = .ok (.aload_n 0, 1) := by decide +kernel
theorem dX1_hasNoted_9 : decode cX1_hasNoted 9 = .ok (.getfield 38, 3) := by decide +kernel
theorem dX1_hasNoted_12 : decode cX1_hasNoted 12 = .ok (.iload_n 2, 1) := by decide +kernel
theorem dX1_hasNoted_13 : decode cX1_hasNoted 13 = .ok (.invokestatic 52, 3) := by decide +kernel
theorem dX1_hasNoted_16 : decode cX1_hasNoted 16 = .ok (.ifCond .eq 15, 3) := by decide +kernel
theorem dX1_hasNoted_19 : decode cX1_hasNoted 19 = .ok (.aload_n 0, 1) := by decide +kernel
theorem dX1_hasNoted_20 : decode cX1_hasNoted 20 = .ok (.getfield 9, 3) := by decide +kernel
theorem dX1_hasNoted_23 : decode cX1_hasNoted 23 = .ok (.iload_n 2, 1) := by decide +kernel
theorem dX1_hasNoted_24 : decode cX1_hasNoted 24 = .ok (.iaload, 1) := by decide +kernel
theorem dX1_hasNoted_25 : decode cX1_hasNoted 25 = .ok (.iload_n 1, 1) := by decide +kernel
theorem dX1_hasNoted_26 : decode cX1_hasNoted 26 = .ok (.if_icmp .ne 5, 3) := by decide +kernel
theorem dX1_hasNoted_29 : decode cX1_hasNoted 29 = .ok (.iconst 1, 1) := by decide +kernel
theorem dX1_hasNoted_30 : decode cX1_hasNoted 30 = .ok (.ireturn, 1) := by decide +kernel
theorem dX1_hasNoted_31 : decode cX1_hasNoted 31 = .ok (.iinc 2 1, 3) := by decide +kernel
theorem dX1_hasNoted_34 : decode cX1_hasNoted 34 = .ok (.goto (-32), 3) := by decide +kernel
theorem dX1_hasNoted_37 : decode cX1_hasNoted 37 = .ok (.iconst 0, 1) := by decide +kernel
theorem dX1_hasNoted_38 : decode cX1_hasNoted 38 = .ok (.ireturn, 1) := by decide +kernel
theorem dX2_init_0 : decode cX2_init 0 = .ok (.aload_n 0, 1) := by decide +kernel
theorem dX2_init_1 : decode cX2_init 1 = .ok (.invokespecial 3, 3) := by decide +kernel
theorem dX2_init_4 : decode cX2_init 4 = .ok (.aload_n 0, 1) := by decide +kernel
theorem dX2_init_5 : decode cX2_init 5 = .ok (.sipush 200, 3) := by decide +kernel
theorem dX2_init_8 : decode cX2_init 8 = .ok (.newarray .int, 2) := by decide +kernel
theorem dX2_init_10 : decode cX2_init 10 = .ok (.putfield 11, 3) := by decide +kernel
theorem dX2_init_13 : decode cX2_init 13 = .ok (.aload_n 0, 1) := by decide +kernel
theorem dX2_init_14 : decode cX2_init 14 = .ok (.bipush 24, 2) := by decide +kernel
theorem dX2_init_16 : decode cX2_init 16 = .ok (.newarray .int, 2) := by decide +kernel
theorem dX2_init_18 : decode cX2_init 18 = .ok (.putfield 15, 3) := by decide +kernel
theorem dX2_init_21 : decode cX2_init 21 = .ok (.aload_n 0, 1) := by decide +kernel
theorem dX2_init_22 : decode cX2_init 22 = .ok (.bipush 72, 2) := by decide +kernel
theorem dX2_init_24 : decode cX2_init 24 = .ok (.newarray .int, 2) := by decide +kernel
theorem dX2_init_26 : decode cX2_init 26 = .ok (.putfield 18, 3) := by decide +kernel
theorem dX2_init_29 : decode cX2_init 29 = .ok (.return_, 1) := by decide +kernel
theorem dX2_append_0 : decode cX2_append 0 = .ok (.aload_n 0, 1) := by decide +kernel
theorem dX2_append_1 : decode cX2_append 1 = .ok (.getfield 21, 3) := by decide +kernel
theorem dX2_append_4 : decode cX2_append 4 = .ok (.sipush 200, 3) := by decide +kernel
theorem dX2_append_7 : decode cX2_append 7 = .ok (.if_icmp .ge 23, 3) := by decide +kernel
theorem dX2_append_10 : decode cX2_append 10 = .ok (.aload_n 0, 1) := by decide +kernel
theorem dX2_append_11 : decode cX2_append 11 = .ok (.getfield 11, 3) := by decide +kernel
theorem dX2_append_14 : decode cX2_append 14 = .ok (.aload_n 0, 1) := by decide +kernel
theorem dX2_append_15 : decode cX2_append 15 = .ok (.getfield 21, 3) := by decide +kernel
theorem dX2_append_18 : decode cX2_append 18 = .ok (.iload_n 1, 1) := by decide +kernel
theorem dX2_append_19 : decode cX2_append 19 = .ok (.iastore, 1) := by decide +kernel
theorem dX2_append_20 : decode cX2_append 20 = .ok (.aload_n 0, 1) := by decide +kernel
theorem dX2_append_21 : decode cX2_append 21 = .ok (.dup, 1) := by decide +kernel
theorem dX2_append_22 : decode cX2_append 22 = .ok (.getfield 21, 3) := by decide +kernel
theorem dX2_append_25 : decode cX2_append 25 = .ok (.iconst 1, 1) := by decide +kernel
theorem dX2_append_26 : decode cX2_append 26 = .ok (.iadd, 1) := by decide +kernel
theorem dX2_append_27 : decode cX2_append 27 = .ok (.putfield 21, 3) := by decide +kernel
theorem dX2_append_30 : decode cX2_append 30 = .ok (.return_, 1) := by decide +kernel
theorem dX2_kindOf_0 : decode cX2_kindOf 0 = .ok (.iload_n 1, 1) := by decide +kernel
theorem dX2_kindOf_1 : decode cX2_kindOf 1 = .ok (.ifCond .lt 18, 3) := by decide +kernel
theorem dX2_kindOf_4 : decode cX2_kindOf 4 = .ok (.iload_n 1, 1) := by decide +kernel
theorem dX2_kindOf_5 : decode cX2_kindOf 5 = .ok (.bipush 24, 2) := by decide +kernel
theorem dX2_kindOf_7 : decode cX2_kindOf 7 = .ok (.if_icmp .ge 12, 3) := by decide +kernel
theorem dX2_kindOf_10 : decode cX2_kindOf 10 = .ok (.aload_n 0, 1) := by decide +kernel
theorem dX2_kindOf_11 : decode cX2_kindOf 11 = .ok (.getfield 15, 3) := by decide +kernel
theorem dX2_kindOf_14 : decode cX2_kindOf 14 = .ok (.iload_n 1, 1) := by decide +kernel
theorem dX2_kindOf_15 : decode cX2_kindOf 15 = .ok (.iaload, 1) := by decide +kernel
theorem dX2_kindOf_16 : decode cX2_kindOf 16 = .ok (.goto 4, 3) := by decide +kernel
theorem dX2_kindOf_19 : decode cX2_kindOf 19 = .ok (.iconst (-1), 1) := by decide +kernel
theorem dX2_kindOf_20 : decode cX2_kindOf 20 = .ok (.ireturn, 1) := by decide +kernel
theorem dX2_numberOf_0 : decode cX2_numberOf 0 = .ok (.iload_n 1, 1) := by decide +kernel
theorem dX2_numberOf_1 : decode cX2_numberOf 1 = .ok (.ifCond .lt 22, 3) := by decide +kernel
theorem dX2_numberOf_4 : decode cX2_numberOf 4 = .ok (.iload_n 1, 1) := by decide +kernel
theorem dX2_numberOf_5 : decode cX2_numberOf 5 = .ok (.bipush 24, 2) := by decide +kernel
theorem dX2_numberOf_7 : decode cX2_numberOf 7 = .ok (.if_icmp .ge 16, 3) := by decide +kernel
theorem dX2_numberOf_10 : decode cX2_numberOf 10 = .ok (.iload_n 2, 1) := by decide +kernel
theorem dX2_numberOf_11 : decode cX2_numberOf 11 = .ok (.ifCond .lt 12, 3) := by decide +kernel
theorem dX2_numberOf_14 : decode cX2_numberOf 14 = .ok (.iload_n 2, 1) := by decide +kernel
theorem dX2_numberOf_15 : decode cX2_numberOf 15 = .ok (.iconst 3, 1) := by decide +kernel
theorem dX2_numberOf_16 : decode cX2_numberOf 16 = .ok (.if_icmp .ge 7, 3) := by decide +kernel
theorem dX2_numberOf_19 : decode cX2_numberOf 19 = .ok (.iconst 1, 1) := by decide +kernel
theorem dX2_numberOf_20 : decode cX2_numberOf 20 = .ok (.goto 4, 3) := by decide +kernel
theorem dX2_numberOf_23 : decode cX2_numberOf 23 = .ok (.iconst 0, 1) := by decide +kernel
theorem dX2_numberOf_24 : decode cX2_numberOf 24 = .ok (.istore_n 3, 1) := by decide +kernel
theorem dX2_numberOf_25 : decode cX2_numberOf 25 = .ok (.iload_n 3, 1) := by decide +kernel
theorem dX2_numberOf_26 : decode cX2_numberOf 26 = .ok (.ifCond .eq 16, 3) := by decide +kernel
theorem dX2_numberOf_29 : decode cX2_numberOf 29 = .ok (.aload_n 0, 1) := by decide +kernel
theorem dX2_numberOf_30 : decode cX2_numberOf 30 = .ok (.getfield 18, 3) := by decide +kernel
theorem dX2_numberOf_33 : decode cX2_numberOf 33 = .ok (.iload_n 1, 1) := by decide +kernel
theorem dX2_numberOf_34 : decode cX2_numberOf 34 = .ok (.iconst 3, 1) := by decide +kernel
theorem dX2_numberOf_35 : decode cX2_numberOf 35 = .ok (.imul, 1) := by decide +kernel
theorem dX2_numberOf_36 : decode cX2_numberOf 36 = .ok (.iload_n 2, 1) := by decide +kernel
theorem dX2_numberOf_37 : decode cX2_numberOf 37 = .ok (.iadd, 1) := by decide +kernel
theorem dX2_numberOf_38 : decode cX2_numberOf 38 = .ok (.iaload, 1) := by decide +kernel
theorem dX2_numberOf_39 : decode cX2_numberOf 39 = .ok (.goto 4, 3) := by decide +kernel
theorem dX2_numberOf_42 : decode cX2_numberOf 42 = .ok (.iconst (-1), 1) := by decide +kernel
theorem dX2_numberOf_43 : decode cX2_numberOf 43 = .ok (.ireturn, 1) := by decide +kernel
theorem dX2_parse_0 : decode cX2_parse 0 = .ok (.aload_n 0, 1) := by decide +kernel
theorem dX2_parse_1 : decode cX2_parse 1 = .ok (.iconst 0, 1) := by decide +kernel
theorem dX2_parse_2 : decode cX2_parse 2 = .ok (.putfield 25, 3) := by decide +kernel
theorem dX2_parse_5 : decode cX2_parse 5 = .ok (.aload_n 0, 1) := by decide +kernel
theorem dX2_parse_6 : decode cX2_parse 6 = .ok (.iconst 0, 1) := by decide +kernel
theorem dX2_parse_7 : decode cX2_parse 7 = .ok (.putfield 28, 3) := by decide +kernel
theorem dX2_parse_10 : decode cX2_parse 10 = .ok (.aload_n 0, 1) := by decide +kernel
theorem dX2_parse_11 : decode cX2_parse 11 = .ok (.invokevirtual 31, 3) := by decide +kernel
theorem dX2_parse_14 : decode cX2_parse 14 = .ok (.iconst 0, 1) := by decide +kernel
theorem dX2_parse_15 : decode cX2_parse 15 = .ok (.istore_n 1, 1) := by decide +kernel
theorem dX2_parse_16 : decode cX2_parse 16 = .ok (.iload_n 1, 1) := by decide +kernel
theorem dX2_parse_17 : decode cX2_parse 17 = .ok (.bipush 24, 2) := by decide +kernel
theorem dX2_parse_19 : decode cX2_parse 19 = .ok (.if_icmp .ge 73, 3) := by decide +kernel
theorem dX2_parse_22 : decode cX2_parse 22 = .ok (.aload_n 0, 1) := by decide +kernel
theorem dX2_parse_23 : decode cX2_parse 23 = .ok (.iload_n 1, 1) := by decide +kernel
theorem dX2_parse_24 : decode cX2_parse 24 = .ok (.invokevirtual 34, 3) := by decide +kernel
theorem dX2_parse_27 : decode cX2_parse 27 = .ok (.ifCond .ne 8, 3) := by decide +kernel
theorem dX2_parse_30 : decode cX2_parse 30 = .ok (.aload_n 0, 1) := by decide +kernel
theorem dX2_parse_31 : decode cX2_parse 31 = .ok (.getfield 38, 3) := by decide +kernel
theorem dX2_parse_34 : decode cX2_parse 34 = .ok (.ireturn, 1) := by decide +kernel
theorem dX2_parse_35 : decode cX2_parse 35 = .ok (.aload_n 0, 1) := by decide +kernel
theorem dX2_parse_36 : decode cX2_parse 36 = .ok (.iload_n 1, 1) := by decide +kernel
theorem dX2_parse_37 : decode cX2_parse 37 = .ok (.iconst 1, 1) := by decide +kernel
theorem dX2_parse_38 : decode cX2_parse 38 = .ok (.iadd, 1) := by decide +kernel
theorem dX2_parse_39 : decode cX2_parse 39 = .ok (.putfield 25, 3) := by decide +kernel
theorem dX2_parse_42 : decode cX2_parse 42 = .ok (.aload_n 0, 1) := by decide +kernel
theorem dX2_parse_43 : decode cX2_parse 43 = .ok (.getfield 38, 3) := by decide +kernel
theorem dX2_parse_46 : decode cX2_parse 46 = .ok (.aload_n 0, 1) := by decide +kernel
theorem dX2_parse_47 : decode cX2_parse 47 = .ok (.getfield 21, 3) := by decide +kernel
theorem dX2_parse_50 : decode cX2_parse 50 = .ok (.if_icmp .lt 5, 3) := by decide +kernel
theorem dX2_parse_53 : decode cX2_parse 53 = .ok (.iconst (-1), 1) := by decide +kernel
theorem dX2_parse_54 : decode cX2_parse 54 = .ok (.ireturn, 1) := by decide +kernel
theorem dX2_parse_55 : decode cX2_parse 55 = .ok (.aload_n 0, 1) := by decide +kernel
theorem dX2_parse_56 : decode cX2_parse 56 = .ok (.aload_n 0, 1) := by decide +kernel
theorem dX2_parse_57 : decode cX2_parse 57 = .ok (.getfield 38, 3) := by decide +kernel
theorem dX2_parse_60 : decode cX2_parse 60 = .ok (.invokevirtual 41, 3) := by decide +kernel
theorem dX2_parse_63 : decode cX2_parse 63 = .ok (.bipush 59, 2) := by decide +kernel
theorem dX2_parse_65 : decode cX2_parse 65 = .ok (.if_icmp .ne 12, 3) := by decide +kernel
theorem dX2_parse_68 : decode cX2_parse 68 = .ok (.aload_n 0, 1) := by decide +kernel
theorem dX2_parse_69 : decode cX2_parse 69 = .ok (.getfield 25, 3) := by decide +kernel
theorem dX2_parse_72 : decode cX2_parse 72 = .ok (.bipush 24, 2) := by decide +kernel
theorem dX2_parse_74 : decode cX2_parse 74 = .ok (.if_icmp .ne 8, 3) := by decide +kernel
theorem dX2_parse_77 : decode cX2_parse 77 = .ok (.aload_n 0, 1) := by decide +kernel
theorem dX2_parse_78 : decode cX2_parse 78 = .ok (.getfield 38, 3) := by decide +kernel
theorem dX2_parse_81 : decode cX2_parse 81 = .ok (.ireturn, 1) := by decide +kernel
theorem dX2_parse_82 : decode cX2_parse 82 = .ok (.aload_n 0, 1) := by decide +kernel
theorem dX2_parse_83 : decode cX2_parse 83 = .ok (.invokevirtual 31, 3) := by decide +kernel
theorem dX2_parse_86 : decode cX2_parse 86 = .ok (.iinc 1 1, 3) := by decide +kernel
theorem dX2_parse_89 : decode cX2_parse 89 = .ok (.goto (-73), 3) := by decide +kernel
theorem dX2_parse_92 : decode cX2_parse 92 = .ok (.aload_n 0, 1) := by decide +kernel
theorem dX2_parse_93 : decode cX2_parse 93 = .ok (.getfield 38, 3) := by decide +kernel
theorem dX2_parse_96 : decode cX2_parse 96 = .ok (.ireturn, 1) := by decide +kernel
theorem dX2_takeClause_0 : decode cX2_takeClause 0 = .ok (.aload_n 0, 1) := by decide +kernel
theorem dX2_takeClause_1 : decode cX2_takeClause 1 = .ok (.invokevirtual 45, 3) := by decide +kernel
theorem dX2_takeClause_4 : decode cX2_takeClause 4 = .ok (.istore_n 2, 1) := by decide +kernel
theorem dX2_takeClause_5 : decode cX2_takeClause 5 = .ok (.iload_n 2, 1) := by decide +kernel
theorem dX2_takeClause_6 : decode cX2_takeClause 6 = .ok (.iconst (-1), 1) := by decide +kernel
theorem dX2_takeClause_7 : decode cX2_takeClause 7 = .ok (.if_icmp .eq 13, 3) := by decide +kernel
theorem dX2_takeClause_10 : decode cX2_takeClause 10 = .ok (.iload_n 1, 1) := by decide +kernel
theorem dX2_takeClause_11 : decode cX2_takeClause 11 = .ok (.ifCond .lt 9, 3) := by decide +kernel
theorem dX2_takeClause_14 : decode cX2_takeClause 14 = .ok (.iload_n 1, 1) := by decide +kernel
theorem dX2_takeClause_15 : decode cX2_takeClause 15 = .ok (.bipush 24, 2) := by decide +kernel
theorem dX2_takeClause_17 : decode cX2_takeClause 17 = .ok (.if_icmp .lt 5, 3) := by decide +kernel
theorem dX2_takeClause_20 : decode cX2_takeClause 20 = .ok (.iconst 0, 1) := by decide +kernel
theorem dX2_takeClause_21 : decode cX2_takeClause 21 = .ok (.ireturn, 1) := by decide +kernel
theorem dX2_takeClause_22 : decode cX2_takeClause 22 = .ok (.aload_n 0, 1) := by decide +kernel
theorem dX2_takeClause_23 : decode cX2_takeClause 23 = .ok (.getfield 15, 3) := by decide +kernel
theorem dX2_takeClause_26 : decode cX2_takeClause 26 = .ok (.iload_n 1, 1) := by decide +kernel
theorem dX2_takeClause_27 : decode cX2_takeClause 27 = .ok (.iload_n 2, 1) := by decide +kernel
theorem dX2_takeClause_28 : decode cX2_takeClause 28 = .ok (.iastore, 1) := by decide +kernel
theorem dX2_takeClause_29 : decode cX2_takeClause 29 = .ok (.aload_n 0, 1) := by decide +kernel
theorem dX2_takeClause_30 : decode cX2_takeClause 30 = .ok (.invokevirtual 31, 3) := by decide +kernel
theorem dX2_takeClause_33 : decode cX2_takeClause 33 = .ok (.iload_n 2, 1) := by decide +kernel
theorem dX2_takeClause_34 : decode cX2_takeClause 34 = .ok (.invokestatic 49, 3) := by decide +kernel
theorem dX2_takeClause_37 : decode cX2_takeClause 37 = .ok (.astore_n 3, 1) := by decide +kernel
theorem dX2_takeClause_38 : decode cX2_takeClause 38 = .ok (.iconst 0, 1) := by decide +kernel
theorem dX2_takeClause_39 : decode cX2_takeClause 39 = .ok (.istore 4, 2) := by decide +kernel
theorem dX2_takeClause_41 : decode cX2_takeClause 41 = .ok (.iload 4, 2) := by decide +kernel
theorem dX2_takeClause_43 : decode cX2_takeClause 43 = .ok (.aload_n 3, 1) := by decide +kernel
theorem dX2_takeClause_44 : decode cX2_takeClause 44 = .ok (.invokevirtual 53, 3) := by decide +kernel
theorem dX2_takeClause_47 : decode cX2_takeClause 47 = .ok (.if_icmp .ge 68, 3) := by decide +kernel
theorem dX2_takeClause_50 : decode cX2_takeClause 50 = .ok (.iload 4, 2) := by decide +kernel
theorem dX2_takeClause_52 : decode cX2_takeClause 52 = .ok (.iconst 3, 1) := by decide +kernel
theorem dX2_takeClause_53 : decode cX2_takeClause 53 = .ok (.if_icmp .ge 62, 3) := by decide +kernel
theorem dX2_takeClause_56 : decode cX2_takeClause 56 = .ok (.aload_n 0, 1) := by decide +kernel
theorem dX2_takeClause_57 : decode cX2_takeClause 57 = .ok (.invokevirtual 57, 3) := by decide +kernel
theorem dX2_takeClause_60 : decode cX2_takeClause 60 = .ok (.istore 5, 2) := by decide +kernel
theorem dX2_takeClause_62 : decode cX2_takeClause 62 = .ok (.iload 5, 2) := by decide +kernel
theorem dX2_takeClause_64 : decode cX2_takeClause 64 = .ok (.aload_n 3, 1) := by decide +kernel
theorem dX2_takeClause_65 : decode cX2_takeClause 65 = .ok (.iload 4, 2) := by decide +kernel
theorem dX2_takeClause_67 : decode cX2_takeClause 67 = .ok (.invokevirtual 60, 3) := by decide +kernel
theorem dX2_takeClause_70 : decode cX2_takeClause 70 = .ok (.invokestatic 64, 3) := by decide +kernel
theorem dX2_takeClause_73 : decode cX2_takeClause 73 = .ok (.if_icmp .lt 17, 3) := by decide +kernel
theorem dX2_takeClause_76 : decode cX2_takeClause 76 = .ok (.iload 5, 2) := by decide +kernel
theorem dX2_takeClause_78 : decode cX2_takeClause 78 = .ok (.aload_n 3, 1) := by decide +kernel
theorem dX2_takeClause_79 : decode cX2_takeClause 79 = .ok (.iload 4, 2) := by decide +kernel
theorem dX2_takeClause_81 : decode cX2_takeClause 81 = .ok (.invokevirtual 60, 3) := by decide +kernel
theorem dX2_takeClause_84 : decode cX2_takeClause 84 = .ok (.invokestatic 68, 3) := by decide +kernel
theorem dX2_takeClause_87 : decode cX2_takeClause 87 = .ok (.if_icmp .le 5, 3) := by decide +kernel
theorem dX2_takeClause_90 : decode cX2_takeClause 90 = .ok (.iconst 0, 1) := by decide +kernel
theorem dX2_takeClause_91 : decode cX2_takeClause 91 = .ok (.ireturn, 1) := by decide +kernel
theorem dX2_takeClause_92 : decode cX2_takeClause 92 = .ok (.aload_n 0, 1) := by decide +kernel
theorem dX2_takeClause_93 : decode cX2_takeClause 93 = .ok (.getfield 18, 3) := by decide +kernel
theorem dX2_takeClause_96 : decode cX2_takeClause 96 = .ok (.iload_n 1, 1) := by decide +kernel
theorem dX2_takeClause_97 : decode cX2_takeClause 97 = .ok (.iconst 3, 1) := by decide +kernel
theorem dX2_takeClause_98 : decode cX2_takeClause 98 = .ok (.imul, 1) := by decide +kernel
theorem dX2_takeClause_99 : decode cX2_takeClause 99 = .ok (.iload 4, 2) := by decide +kernel
theorem dX2_takeClause_101 : decode cX2_takeClause 101 = .ok (.iadd, 1) := by decide +kernel
theorem dX2_takeClause_102 : decode cX2_takeClause 102 = .ok (.iload 5, 2) := by decide +kernel
theorem dX2_takeClause_104 : decode cX2_takeClause 104 = .ok (.iastore, 1) := by decide +kernel
theorem dX2_takeClause_105 : decode cX2_takeClause 105 = .ok (.aload_n 0, 1) := by decide +kernel
theorem dX2_takeClause_106 : decode cX2_takeClause 106 = .ok (.invokevirtual 31, 3) := by decide +kernel
theorem dX2_takeClause_109 : decode cX2_takeClause 109 = .ok (.iinc 4 1, 3) := by decide +kernel
theorem dX2_takeClause_112 : decode cX2_takeClause 112 = .ok (.goto (-71), 3) := by decide +kernel
theorem dX2_takeClause_115 : decode cX2_takeClause 115 = .ok (.iconst 1, 1) := by decide +kernel
theorem dX2_takeClause_116 : decode cX2_takeClause 116 = .ok (.ireturn, 1) := by decide +kernel
theorem dX2_kindOfToken_0 : decode cX2_kindOfToken 0 = .ok (.iconst 0, 1) := by decide +kernel
theorem dX2_kindOfToken_1 : decode cX2_kindOfToken 1 = .ok (.istore_n 1, 1) := by decide +kernel
theorem dX2_kindOfToken_2 : decode cX2_kindOfToken 2 = .ok (.iload_n 1, 1) := by decide +kernel
theorem dX2_kindOfToken_3 : decode cX2_kindOfToken 3 = .ok (.bipush 7, 2) := by decide +kernel
theorem dX2_kindOfToken_5 : decode cX2_kindOfToken 5 = .ok (.if_icmp .ge 22, 3) := by decide +kernel
theorem dX2_kindOfToken_8 : decode cX2_kindOfToken 8 = .ok (.aload_n 0, 1) := by decide +kernel
theorem dX2_kindOfToken_9 : decode cX2_kindOfToken 9 = .ok (.iload_n 1, 1) := by decide +kernel
theorem dX2_kindOfToken_10 : decode cX2_kindOfToken 10 = .ok (.invokestatic 71, 3) := by decide +kernel
theorem dX2_kindOfToken_13 : decode cX2_kindOfToken 13 = .ok (.invokevirtual 74, 3) := by decide +kernel
theorem dX2_kindOfToken_16 : decode cX2_kindOfToken 16 = .ok (.ifCond .eq 5, 3) := by decide +kernel
theorem dX2_kindOfToken_19 : decode cX2_kindOfToken 19 = .ok (.iload_n 1, 1) := by decide +kernel
theorem dX2_kindOfToken_20 : decode cX2_kindOfToken 20 = .ok (.ireturn, 1) := by decide +kernel
theorem dX2_kindOfToken_21 : decode cX2_kindOfToken 21 = .ok (.iinc 1 1, 3) := by decide +kernel
theorem dX2_kindOfToken_24 : decode cX2_kindOfToken 24 = .ok (.goto (-22), 3) := by decide +kernel
theorem dX2_kindOfToken_27 : decode cX2_kindOfToken 27 = .ok (.iconst (-1), 1) := by decide +kernel
theorem dX2_kindOfToken_28 : decode cX2_kindOfToken 28 = .ok (.ireturn, 1) := by decide +kernel
theorem dX2_tokenIs_0 : decode cX2_tokenIs 0 = .ok (.aload_n 0, 1) := by decide +kernel
theorem dX2_tokenIs_1 : decode cX2_tokenIs 1 = .ok (.getfield 28, 3) := by decide +kernel
theorem dX2_tokenIs_4 : decode cX2_tokenIs 4 = .ok (.aload_n 0, 1) := by decide +kernel
theorem dX2_tokenIs_5 : decode cX2_tokenIs 5 = .ok (.getfield 38, 3) := by decide +kernel
theorem dX2_tokenIs_8 : decode cX2_tokenIs 8 = .ok (.isub, 1) := by decide +kernel
theorem dX2_tokenIs_9 : decode cX2_tokenIs 9 = .ok (.aload_n 1, 1) := by decide +kernel
theorem dX2_tokenIs_10 : decode cX2_tokenIs 10 = .ok (.invokevirtual 53, 3) := by decide +kernel
theorem dX2_tokenIs_13 : decode cX2_tokenIs 13 = .ok (.if_icmp .eq 5, 3) := by decide +kernel
theorem dX2_tokenIs_16 : decode cX2_tokenIs 16 = .ok (.iconst 0, 1) := by decide +kernel
theorem dX2_tokenIs_17 : decode cX2_tokenIs 17 = .ok (.ireturn, 1) := by decide +kernel
theorem dX2_tokenIs_18 : decode cX2_tokenIs 18 = .ok (.iconst 0, 1) := by decide +kernel
theorem dX2_tokenIs_19 : decode cX2_tokenIs 19 = .ok (.istore_n 2, 1) := by decide +kernel
theorem dX2_tokenIs_20 : decode cX2_tokenIs 20 = .ok (.iload_n 2, 1) := by decide +kernel
theorem dX2_tokenIs_21 : decode cX2_tokenIs 21 = .ok (.aload_n 1, 1) := by decide +kernel
theorem dX2_tokenIs_22 : decode cX2_tokenIs 22 = .ok (.invokevirtual 53, 3) := by decide +kernel
theorem dX2_tokenIs_25 : decode cX2_tokenIs 25 = .ok (.if_icmp .ge 29, 3) := by decide +kernel
theorem dX2_tokenIs_28 : decode cX2_tokenIs 28 = .ok (.aload_n 0, 1) := by decide +kernel
theorem dX2_tokenIs_29 : decode cX2_tokenIs 29 = .ok (.aload_n 0, 1) := by decide +kernel
theorem dX2_tokenIs_30 : decode cX2_tokenIs 30 = .ok (.getfield 38, 3) := by decide +kernel
theorem dX2_tokenIs_33 : decode cX2_tokenIs 33 = .ok (.iload_n 2, 1) := by decide +kernel
theorem dX2_tokenIs_34 : decode cX2_tokenIs 34 = .ok (.iadd, 1) := by decide +kernel
theorem dX2_tokenIs_35 : decode cX2_tokenIs 35 = .ok (.invokevirtual 41, 3) := by decide +kernel
theorem dX2_tokenIs_38 : decode cX2_tokenIs 38 = .ok (.aload_n 1, 1) := by decide +kernel
theorem dX2_tokenIs_39 : decode cX2_tokenIs 39 = .ok (.iload_n 2, 1) := by decide +kernel
theorem dX2_tokenIs_40 : decode cX2_tokenIs 40 = .ok (.invokevirtual 60, 3) := by decide +kernel
theorem dX2_tokenIs_43 : decode cX2_tokenIs 43 = .ok (.if_icmp .eq 5, 3) := by decide +kernel
theorem dX2_tokenIs_46 : decode cX2_tokenIs 46 = .ok (.iconst 0, 1) := by decide +kernel
theorem dX2_tokenIs_47 : decode cX2_tokenIs 47 = .ok (.ireturn, 1) := by decide +kernel
theorem dX2_tokenIs_48 : decode cX2_tokenIs 48 = .ok (.iinc 2 1, 3) := by decide +kernel
theorem dX2_tokenIs_51 : decode cX2_tokenIs 51 = .ok (.goto (-31), 3) := by decide +kernel
theorem dX2_tokenIs_54 : decode cX2_tokenIs 54 = .ok (.iconst 1, 1) := by decide +kernel
theorem dX2_tokenIs_55 : decode cX2_tokenIs 55 = .ok (.ireturn, 1) := by decide +kernel
theorem dX2_numberOfToken_0 : decode cX2_numberOfToken 0 = .ok (.aload_n 0, 1) := by decide +kernel
theorem dX2_numberOfToken_1 : decode cX2_numberOfToken 1 = .ok (.aload_n 0, 1) := by decide +kernel
theorem dX2_numberOfToken_2 : decode cX2_numberOfToken 2 = .ok (.getfield 38, 3) := by decide +kernel
theorem dX2_numberOfToken_5 : decode cX2_numberOfToken 5 = .ok (.invokevirtual 41, 3) := by decide +kernel
theorem dX2_numberOfToken_8 : decode cX2_numberOfToken 8 = .ok (.invokestatic 78, 3) := by decide +kernel
theorem dX2_numberOfToken_11 : decode cX2_numberOfToken 11 = .ok (.ifCond .eq 16, 3) := by decide +kernel
theorem dX2_numberOfToken_14 : decode cX2_numberOfToken 14 = .ok (.aload_n 0, 1) := by decide +kernel
theorem dX2_numberOfToken_15 : decode cX2_numberOfToken 15 = .ok (.getfield 28, 3) := by decide +kernel
theorem dX2_numberOfToken_18 : decode cX2_numberOfToken 18 = .ok (.aload_n 0, 1) := by decide +kernel
theorem dX2_numberOfToken_19 : decode cX2_numberOfToken 19 = .ok (.getfield 38, 3) := by decide +kernel
theorem dX2_numberOfToken_22 : decode cX2_numberOfToken 22 = .ok (.isub, 1) := by decide +kernel
theorem dX2_numberOfToken_23 : decode cX2_numberOfToken 23 = .ok (.iconst 4, 1) := by decide +kernel
theorem dX2_numberOfToken_24 : decode cX2_numberOfToken 24 = .ok (.if_icmp .le 5, 3) := by decide +kernel
theorem dX2_numberOfToken_27 : decode cX2_numberOfToken 27 = .ok (.iconst (-1), 1) := by decide +kernel
theorem dX2_numberOfToken_28 : decode cX2_numberOfToken 28 = .ok (.ireturn, 1) := by decide +kernel
theorem dX2_numberOfToken_29 : decode cX2_numberOfToken 29 = .ok (.iconst 0, 1) := by decide +kernel
theorem dX2_numberOfToken_30 : decode cX2_numberOfToken 30 = .ok (.istore_n 1, 1) := by decide +kernel
theorem dX2_numberOfToken_31 : decode cX2_numberOfToken 31 = .ok (.aload_n 0, 1) := by decide +kernel
theorem dX2_numberOfToken_32 : decode cX2_numberOfToken 32 = .ok (.getfield 38, 3) := by decide +kernel
theorem dX2_numberOfToken_35 : decode cX2_numberOfToken 35 = .ok (.istore_n 2, 1) := by decide +kernel
theorem dX2_numberOfToken_36 : decode cX2_numberOfToken 36 = .ok (.iload_n 2, 1) := by decide +kernel
theorem dX2_numberOfToken_37 : decode cX2_numberOfToken 37 = .ok (.aload_n 0, 1) := by decide +kernel
theorem dX2_numberOfToken_38 : decode cX2_numberOfToken 38 = .ok (.getfield 28, 3) := by decide +kernel
theorem dX2_numberOfToken_41 : decode cX2_numberOfToken 41 = .ok (.if_icmp .ge 23, 3) := by decide +kernel
theorem dX2_numberOfToken_44 : decode cX2_numberOfToken 44 = .ok (.iload_n 1, 1) := by decide +kernel
theorem dX2_numberOfToken_45 : decode cX2_numberOfToken 45 = .ok (.bipush 10, 2) := by decide +kernel
theorem dX2_numberOfToken_47 : decode cX2_numberOfToken 47 = .ok (.imul, 1) := by decide +kernel
theorem dX2_numberOfToken_48 : decode cX2_numberOfToken 48 = .ok (.aload_n 0, 1) := by decide +kernel
theorem dX2_numberOfToken_49 : decode cX2_numberOfToken 49 = .ok (.iload_n 2, 1) := by decide +kernel
theorem dX2_numberOfToken_50 : decode cX2_numberOfToken 50 = .ok (.invokevirtual 41, 3) := by decide +kernel
theorem dX2_numberOfToken_53 : decode cX2_numberOfToken 53 = .ok (.iadd, 1) := by decide +kernel
theorem dX2_numberOfToken_54 : decode cX2_numberOfToken 54 = .ok (.bipush 48, 2) := by decide +kernel
theorem dX2_numberOfToken_56 : decode cX2_numberOfToken 56 = .ok (.isub, 1) := by decide +kernel
theorem dX2_numberOfToken_57 : decode cX2_numberOfToken 57 = .ok (.istore_n 1, 1) := by decide +kernel
theorem dX2_numberOfToken_58 : decode cX2_numberOfToken 58 = .ok (.iinc 2 1, 3) := by decide +kernel
theorem dX2_numberOfToken_61 : decode cX2_numberOfToken 61 = .ok (.goto (-25), 3) := by decide +kernel
theorem dX2_numberOfToken_64 : decode cX2_numberOfToken 64 = .ok (.iload_n 1, 1) := by decide +kernel
theorem dX2_numberOfToken_65 : decode cX2_numberOfToken 65 = .ok (.ireturn, 1) := by decide +kernel
theorem dX2_nextToken_0 : decode cX2_nextToken 0 = .ok (.aload_n 0, 1) := by decide +kernel
theorem dX2_nextToken_1 : decode cX2_nextToken 1 = .ok (.getfield 28, 3) := by decide +kernel
theorem dX2_nextToken_4 : decode cX2_nextToken 4 = .ok (.istore_n 1, 1) := by decide +kernel
theorem dX2_nextToken_5 : decode cX2_nextToken 5 = .ok (.iload_n 1, 1) := by decide +kernel
theorem dX2_nextToken_6 : decode cX2_nextToken 6 = .ok (.aload_n 0, 1) := by decide +kernel
theorem dX2_nextToken_7 : decode cX2_nextToken 7 = .ok (.getfield 21, 3) := by decide +kernel
theorem dX2_nextToken_10 : decode cX2_nextToken 10 = .ok (.if_icmp .ge 19, 3) := by decide +kernel
theorem dX2_nextToken_13 : decode cX2_nextToken 13 = .ok (.aload_n 0, 1) := by decide +kernel
theorem dX2_nextToken_14 : decode cX2_nextToken 14 = .ok (.iload_n 1, 1) := by decide +kernel
theorem dX2_nextToken_15 : decode cX2_nextToken 15 = .ok (.invokevirtual 41, 3) := by decide +kernel
theorem dX2_nextToken_18 : decode cX2_nextToken 18 = .ok (.bipush 32, 2) := by decide +kernel
theorem dX2_nextToken_20 : decode cX2_nextToken 20 = .ok (.if_icmp .ne 9, 3) := by decide +kernel
theorem dX2_nextToken_23 : decode cX2_nextToken 23 = .ok (.iinc 1 1, 3) := by decide +kernel
theorem dX2_nextToken_26 : decode cX2_nextToken 26 = .ok (.goto (-21), 3) := by decide +kernel
theorem dX2_nextToken_29 : decode cX2_nextToken 29 = .ok (.aload_n 0, 1) := by decide +kernel
theorem dX2_nextToken_30 : decode cX2_nextToken 30 = .ok (.iload_n 1, 1) := by decide +kernel
theorem dX2_nextToken_31 : decode cX2_nextToken 31 = .ok (.putfield 38, 3) := by decide +kernel
theorem dX2_nextToken_34 : decode cX2_nextToken 34 = .ok (.iload_n 1, 1) := by decide +kernel
theorem dX2_nextToken_35 : decode cX2_nextToken 35 = .ok (.aload_n 0, 1) := by decide +kernel
theorem dX2_nextToken_36 : decode cX2_nextToken 36 = .ok (.getfield 21, 3) := by decide +kernel
theorem dX2_nextToken_39 : decode cX2_nextToken 39 = .ok (.if_icmp .ge 6, 3) := by decide +kernel
theorem dX2_nextToken_42 : decode cX2_nextToken 42 = .ok (.iinc 1 1, 3) := by decide +kernel
theorem dX2_nextToken_45 : decode cX2_nextToken 45 = .ok (.iload_n 1, 1) := by decide +kernel
theorem dX2_nextToken_46 : decode cX2_nextToken 46 = .ok (.aload_n 0, 1) := by decide +kernel
theorem dX2_nextToken_47 : decode cX2_nextToken 47 = .ok (.getfield 21, 3) := by decide +kernel
theorem dX2_nextToken_50 : decode cX2_nextToken 50 = .ok (.if_icmp .ge 28, 3) := by decide +kernel
theorem dX2_nextToken_53 : decode cX2_nextToken 53 = .ok (.aload_n 0, 1) := by decide +kernel
theorem dX2_nextToken_54 : decode cX2_nextToken 54 = .ok (.aload_n 0, 1) := by decide +kernel
theorem dX2_nextToken_55 : decode cX2_nextToken 55 = .ok (.getfield 38, 3) := by decide +kernel
theorem dX2_nextToken_58 : decode cX2_nextToken 58 = .ok (.invokevirtual 41, 3) := by decide +kernel
theorem dX2_nextToken_61 : decode cX2_nextToken 61 = .ok (.aload_n 0, 1) := by decide +kernel
theorem dX2_nextToken_62 : decode cX2_nextToken 62 = .ok (.iload_n 1, 1) := by decide +kernel
theorem dX2_nextToken_63 : decode cX2_nextToken 63 = .ok (.invokevirtual 41, 3) := by decide +kernel
theorem dX2_nextToken_66 : decode cX2_nextToken 66 = .ok (.invokestatic 81, 3) := by decide +kernel
theorem dX2_nextToken_69 : decode cX2_nextToken 69 = .ok (.ifCond .eq 9, 3) := by decide +kernel
theorem dX2_nextToken_72 : decode cX2_nextToken 72 = .ok (.iinc 1 1, 3) := by decide +kernel
theorem dX2_nextToken_75 : decode cX2_nextToken 75 = .ok (.goto (-30), 3) := by decide +kernel
theorem dX2_nextToken_78 : decode cX2_nextToken 78 = .ok (.aload_n 0, 1) := by decide +kernel
theorem dX2_nextToken_79 : decode cX2_nextToken 79 = .ok (.iload_n 1, 1) := by decide +kernel
theorem dX2_nextToken_80 : decode cX2_nextToken 80 = .ok (.putfield 28, 3) := by decide +kernel
theorem dX2_nextToken_83 : decode cX2_nextToken 83 = .ok (.return_, 1) := by decide +kernel
theorem dX2_letterAt_0 : decode cX2_letterAt 0 = .ok (.iload_n 1, 1) := by decide +kernel
theorem dX2_letterAt_1 : decode cX2_letterAt 1 = .ok (.ifCond .lt 27, 3) := by decide +kernel
theorem dX2_letterAt_4 : decode cX2_letterAt 4 = .ok (.iload_n 1, 1) := by decide +kernel
theorem dX2_letterAt_5 : decode cX2_letterAt 5 = .ok (.aload_n 0, 1) := by decide +kernel
theorem dX2_letterAt_6 : decode cX2_letterAt 6 = .ok (.getfield 21, 3) := by decide +kernel
theorem dX2_letterAt_9 : decode cX2_letterAt 9 = .ok (.if_icmp .ge 19, 3) := by decide +kernel
theorem dX2_letterAt_12 : decode cX2_letterAt 12 = .ok (.iload_n 1, 1) := by decide +kernel
theorem dX2_letterAt_13 : decode cX2_letterAt 13 = .ok (.sipush 200, 3) := by decide +kernel
theorem dX2_letterAt_16 : decode cX2_letterAt 16 = .ok (.if_icmp .ge 12, 3) := by decide +kernel
theorem dX2_letterAt_19 : decode cX2_letterAt 19 = .ok (.aload_n 0, 1) := by decide +kernel
theorem dX2_letterAt_20 : decode cX2_letterAt 20 = .ok (.getfield 11, 3) := by decide +kernel
theorem dX2_letterAt_23 : decode cX2_letterAt 23 = .ok (.iload_n 1, 1) := by decide +kernel
theorem dX2_letterAt_24 : decode cX2_letterAt 24 = .ok (.iaload, 1) := by decide +kernel
theorem dX2_letterAt_25 : decode cX2_letterAt 25 = .ok (.goto 4, 3) := by decide +kernel
theorem dX2_letterAt_28 : decode cX2_letterAt 28 = .ok (.iconst (-1), 1) := by decide +kernel
theorem dX2_letterAt_29 : decode cX2_letterAt 29 = .ok (.ireturn, 1) := by decide +kernel
theorem dX2_areOfOneRow_0 : decode cX2_areOfOneRow 0 = .ok (.iload_n 0, 1) := by decide +kernel
theorem dX2_areOfOneRow_1 : decode cX2_areOfOneRow 1 = .ok (.invokestatic 78, 3) := by decide +kernel
theorem dX2_areOfOneRow_4 : decode cX2_areOfOneRow 4 = .ok (.ifCond .eq 10, 3) := by decide +kernel
theorem dX2_areOfOneRow_7 : decode cX2_areOfOneRow 7 = .ok (.iload_n 1, 1) := by decide +kernel
theorem dX2_areOfOneRow_8 : decode cX2_areOfOneRow 8 = .ok (.invokestatic 78, 3) := by decide +kernel
theorem dX2_areOfOneRow_11 : decode cX2_areOfOneRow 11 = .ok (.ifCond .ne 17, 3) := by decide +kernel
theorem dX2_areOfOneRow_14 : decode cX2_areOfOneRow 14 = .ok (.iload_n 0, 1) := by decide +kernel
theorem dX2_areOfOneRow_15 : decode cX2_areOfOneRow 15 = .ok (.invokestatic 85, 3) := by decide +kernel
theorem dX2_areOfOneRow_18 : decode cX2_areOfOneRow 18 = .ok (.ifCond .eq 14, 3) := by decide +kernel
theorem dX2_areOfOneRow_21 : decode cX2_areOfOneRow 21 = .ok (.iload_n 1, 1) := by decide +kernel
theorem dX2_areOfOneRow_22 : decode cX2_areOfOneRow 22 = .ok (.invokestatic 85, 3) := by decide +kernel
theorem dX2_areOfOneRow_25 : decode cX2_areOfOneRow 25 = .ok (.ifCond .eq 7, 3) := by decide +kernel
theorem dX2_areOfOneRow_28 : decode cX2_areOfOneRow 28 = .ok (.iconst 1, 1) := by decide +kernel
theorem dX2_areOfOneRow_29 : decode cX2_areOfOneRow 29 = .ok (.goto 4, 3) := by decide +kernel
theorem dX2_areOfOneRow_32 : decode cX2_areOfOneRow 32 = .ok (.iconst 0, 1) := by decide +kernel
theorem dX2_areOfOneRow_33 : decode cX2_areOfOneRow 33 = .ok (.ireturn, 1) := by decide +kernel
theorem dX2_isDigit_0 : decode cX2_isDigit 0 = .ok (.iload_n 0, 1) := by decide +kernel
theorem dX2_isDigit_1 : decode cX2_isDigit 1 = .ok (.bipush 48, 2) := by decide +kernel
theorem dX2_isDigit_3 : decode cX2_isDigit 3 = .ok (.if_icmp .lt 13, 3) := by decide +kernel
theorem dX2_isDigit_6 : decode cX2_isDigit 6 = .ok (.iload_n 0, 1) := by decide +kernel
theorem dX2_isDigit_7 : decode cX2_isDigit 7 = .ok (.bipush 57, 2) := by decide +kernel
theorem dX2_isDigit_9 : decode cX2_isDigit 9 = .ok (.if_icmp .gt 7, 3) := by decide +kernel
theorem dX2_isDigit_12 : decode cX2_isDigit 12 = .ok (.iconst 1, 1) := by decide +kernel
theorem dX2_isDigit_13 : decode cX2_isDigit 13 = .ok (.goto 4, 3) := by decide +kernel
theorem dX2_isDigit_16 : decode cX2_isDigit 16 = .ok (.iconst 0, 1) := by decide +kernel
theorem dX2_isDigit_17 : decode cX2_isDigit 17 = .ok (.ireturn, 1) := by decide +kernel
theorem dX2_isSmall_0 : decode cX2_isSmall 0 = .ok (.iload_n 0, 1) := by decide +kernel
theorem dX2_isSmall_1 : decode cX2_isSmall 1 = .ok (.bipush 97, 2) := by decide +kernel
theorem dX2_isSmall_3 : decode cX2_isSmall 3 = .ok (.if_icmp .lt 13, 3) := by decide +kernel
theorem dX2_isSmall_6 : decode cX2_isSmall 6 = .ok (.iload_n 0, 1) := by decide +kernel
theorem dX2_isSmall_7 : decode cX2_isSmall 7 = .ok (.bipush 122, 2) := by decide +kernel
theorem dX2_isSmall_9 : decode cX2_isSmall 9 = .ok (.if_icmp .gt 7, 3) := by decide +kernel
theorem dX2_isSmall_12 : decode cX2_isSmall 12 = .ok (.iconst 1, 1) := by decide +kernel
theorem dX2_isSmall_13 : decode cX2_isSmall 13 = .ok (.goto 4, 3) := by decide +kernel
theorem dX2_isSmall_16 : decode cX2_isSmall 16 = .ok (.iconst 0, 1) := by decide +kernel
theorem dX2_isSmall_17 : decode cX2_isSmall 17 = .ok (.ireturn, 1) := by decide +kernel
theorem dX2_wordOf_0 : decode cX2_wordOf 0 = .ok (.iload_n 0, 1) := by decide +kernel
theorem dX2_wordOf_1 : decode cX2_wordOf 1 = .ok (.tableswitch 57 0 5 #[39, 42, 45, 48, 51, 54], 39) := by decide +kernel
theorem dX2_wordOf_40 : decode cX2_wordOf 40 = .ok (.ldc 88, 2) := by decide +kernel
theorem dX2_wordOf_42 : decode cX2_wordOf 42 = .ok (.areturn, 1) := by decide +kernel
theorem dX2_wordOf_43 : decode cX2_wordOf 43 = .ok (.ldc 90, 2) := by decide +kernel
theorem dX2_wordOf_45 : decode cX2_wordOf 45 = .ok (.areturn, 1) := by decide +kernel
theorem dX2_wordOf_46 : decode cX2_wordOf 46 = .ok (.ldc 92, 2) := by decide +kernel
theorem dX2_wordOf_48 : decode cX2_wordOf 48 = .ok (.areturn, 1) := by decide +kernel
theorem dX2_wordOf_49 : decode cX2_wordOf 49 = .ok (.ldc 94, 2) := by decide +kernel
theorem dX2_wordOf_51 : decode cX2_wordOf 51 = .ok (.areturn, 1) := by decide +kernel
theorem dX2_wordOf_52 : decode cX2_wordOf 52 = .ok (.ldc 96, 2) := by decide +kernel
theorem dX2_wordOf_54 : decode cX2_wordOf 54 = .ok (.areturn, 1) := by decide +kernel
theorem dX2_wordOf_55 : decode cX2_wordOf 55 = .ok (.ldc 98, 2) := by decide +kernel
theorem dX2_wordOf_57 : decode cX2_wordOf 57 = .ok (.areturn, 1) := by decide +kernel
theorem dX2_wordOf_58 : decode cX2_wordOf 58 = .ok (.ldc 100, 2) := by decide +kernel
theorem dX2_wordOf_60 : decode cX2_wordOf 60 = .ok (.areturn, 1) := by decide +kernel
theorem dX2_formOf_0 : decode cX2_formOf 0 = .ok (.iload_n 0, 1) := by decide +kernel
theorem dX2_formOf_1 : decode cX2_formOf 1 = .ok (.tableswitch 57 0 5 #[39, 42, 45, 48, 51, 54], 39) := by decide +kernel
theorem dX2_formOf_40 : decode cX2_formOf 40 = .ok (.ldc 102, 2) := by decide +kernel
theorem dX2_formOf_42 : decode cX2_formOf 42 = .ok (.areturn, 1) := by decide +kernel
theorem dX2_formOf_43 : decode cX2_formOf 43 = .ok (.ldc 104, 2) := by decide +kernel
theorem dX2_formOf_45 : decode cX2_formOf 45 = .ok (.areturn, 1) := by decide +kernel
theorem dX2_formOf_46 : decode cX2_formOf 46 = .ok (.ldc 106, 2) := by decide +kernel
theorem dX2_formOf_48 : decode cX2_formOf 48 = .ok (.areturn, 1) := by decide +kernel
theorem dX2_formOf_49 : decode cX2_formOf 49 = .ok (.ldc 108, 2) := by decide +kernel
theorem dX2_formOf_51 : decode cX2_formOf 51 = .ok (.areturn, 1) := by decide +kernel
theorem dX2_formOf_52 : decode cX2_formOf 52 = .ok (.ldc 110, 2) := by decide +kernel
theorem dX2_formOf_54 : decode cX2_formOf 54 = .ok (.areturn, 1) := by decide +kernel
theorem dX2_formOf_55 : decode cX2_formOf 55 = .ok (.ldc 112, 2) := by decide +kernel
theorem dX2_formOf_57 : decode cX2_formOf 57 = .ok (.areturn, 1) := by decide +kernel
theorem dX2_formOf_58 : decode cX2_formOf 58 = .ok (.ldc 108, 2) := by decide +kernel
theorem dX2_formOf_60 : decode cX2_formOf 60 = .ok (.areturn, 1) := by decide +kernel
theorem dX2_leastOf_0 : decode cX2_leastOf 0 = .ok (.iload_n 0, 1) := by decide +kernel
theorem dX2_leastOf_1 : decode cX2_leastOf 1 = .ok (.bipush 78, 2) := by decide +kernel
theorem dX2_leastOf_3 : decode cX2_leastOf 3 = .ok (.if_icmp .ne 7, 3) := by decide +kernel
theorem dX2_leastOf_6 : decode cX2_leastOf 6 = .ok (.iconst 1, 1) := by decide +kernel
theorem dX2_leastOf_7 : decode cX2_leastOf 7 = .ok (.goto 4, 3) := by decide +kernel
theorem dX2_leastOf_10 : decode cX2_leastOf 10 = .ok (.iconst 0, 1) := by decide +kernel
theorem dX2_leastOf_11 : decode cX2_leastOf 11 = .ok (.ireturn, 1) := by decide +kernel
theorem dX2_mostOf_0 : decode cX2_mostOf 0 = .ok (.iload_n 0, 1) := by decide +kernel
theorem dX2_mostOf_1 : decode cX2_mostOf 1 = .ok (.lookupswitch 45 #[(73, 35), (78, 42), (86, 38)], 35) := by decide +kernel
theorem dX2_mostOf_36 : decode cX2_mostOf 36 = .ok (.bipush 7, 2) := by decide +kernel
theorem dX2_mostOf_38 : decode cX2_mostOf 38 = .ok (.ireturn, 1) := by decide +kernel
theorem dX2_mostOf_39 : decode cX2_mostOf 39 = .ok (.sipush 9999, 3) := by decide +kernel
theorem dX2_mostOf_42 : decode cX2_mostOf 42 = .ok (.ireturn, 1) := by decide +kernel
theorem dX2_mostOf_43 : decode cX2_mostOf 43 = .ok (.bipush 9, 2) := by decide +kernel
theorem dX2_mostOf_45 : decode cX2_mostOf 45 = .ok (.ireturn, 1) := by decide +kernel
theorem dX2_mostOf_46 : decode cX2_mostOf 46 = .ok (.iconst 5, 1) := by decide +kernel
theorem dX2_mostOf_47 : decode cX2_mostOf 47 = .ok (.ireturn, 1) := by decide +kernel
theorem dX3_init_0 : decode cX3_init 0 = .ok (.aload_n 0, 1) := by decide +kernel
theorem dX3_init_1 : decode cX3_init 1 = .ok (.invokespecial 1, 3) := by decide +kernel
theorem dX3_init_4 : decode cX3_init 4 = .ok (.aload_n 0, 1) := by decide +kernel
theorem dX3_init_5 : decode cX3_init 5 = .ok (.new 7, 3) := by decide +kernel
theorem dX3_init_8 : decode cX3_init 8 = .ok (.dup, 1) := by decide +kernel
theorem dX3_init_9 : decode cX3_init 9 = .ok (.invokespecial 9, 3) := by decide +kernel
theorem dX3_init_12 : decode cX3_init 12 = .ok (.putfield 10, 3) := by decide +kernel
theorem dX3_init_15 : decode cX3_init 15 = .ok (.aload_n 0, 1) := by decide +kernel
theorem dX3_init_16 : decode cX3_init 16 = .ok (.bipush 8, 2) := by decide +kernel
theorem dX3_init_18 : decode cX3_init 18 = .ok (.newarray .int, 2) := by decide +kernel
theorem dX3_init_20 : decode cX3_init 20 = .ok (.putfield 16, 3) := by decide +kernel
theorem dX3_init_23 : decode cX3_init 23 = .ok (.aload_n 0, 1) := by decide +kernel
theorem dX3_init_24 : decode cX3_init 24 = .ok (.bipush 8, 2) := by decide +kernel
theorem dX3_init_26 : decode cX3_init 26 = .ok (.newarray .int, 2) := by decide +kernel
theorem dX3_init_28 : decode cX3_init 28 = .ok (.putfield 20, 3) := by decide +kernel
theorem dX3_init_31 : decode cX3_init 31 = .ok (.aload_n 0, 1) := by decide +kernel
theorem dX3_init_32 : decode cX3_init 32 = .ok (.bipush 6, 2) := by decide +kernel
theorem dX3_init_34 : decode cX3_init 34 = .ok (.anewarray 23, 3) := by decide +kernel
theorem dX3_init_37 : decode cX3_init 37 = .ok (.putfield 25, 3) := by decide +kernel
theorem dX3_init_40 : decode cX3_init 40 = .ok (.aload_n 0, 1) := by decide +kernel
theorem dX3_init_41 : decode cX3_init 41 = .ok (.sipush 512, 3) := by decide +kernel
theorem dX3_init_44 : decode cX3_init 44 = .ok (.anewarray 29, 3) := by decide +kernel
theorem dX3_init_47 : decode cX3_init 47 = .ok (.putfield 31, 3) := by decide +kernel
theorem dX3_init_50 : decode cX3_init 50 = .ok (.iconst 0, 1) := by decide +kernel
theorem dX3_init_51 : decode cX3_init 51 = .ok (.istore_n 1, 1) := by decide +kernel
theorem dX3_init_52 : decode cX3_init 52 = .ok (.iload_n 1, 1) := by decide +kernel
theorem dX3_init_53 : decode cX3_init 53 = .ok (.bipush 6, 2) := by decide +kernel
theorem dX3_init_55 : decode cX3_init 55 = .ok (.if_icmp .ge 23, 3) := by decide +kernel
theorem dX3_init_58 : decode cX3_init 58 = .ok (.aload_n 0, 1) := by decide +kernel
theorem dX3_init_59 : decode cX3_init 59 = .ok (.getfield 25, 3) := by decide +kernel
theorem dX3_init_62 : decode cX3_init 62 = .ok (.iload_n 1, 1) := by decide +kernel
theorem dX3_init_63 : decode cX3_init 63 = .ok (.new 23, 3) := by decide +kernel
theorem dX3_init_66 : decode cX3_init 66 = .ok (.dup, 1) := by decide +kernel
theorem dX3_init_67 : decode cX3_init 67 = .ok (.iload_n 1, 1) := by decide +kernel
theorem dX3_init_68 : decode cX3_init 68 = .ok (.invokespecial 35, 3) := by decide +kernel
theorem dX3_init_71 : decode cX3_init 71 = .ok (.aastore, 1) := by decide +kernel
theorem dX3_init_72 : decode cX3_init 72 = .ok (.iinc 1 1, 3) := by decide +kernel
theorem dX3_init_75 : decode cX3_init 75 = .ok (.goto (-23), 3) := by decide +kernel
theorem dX3_init_78 : decode cX3_init 78 = .ok (.aload_n 0, 1) := by decide +kernel
theorem dX3_init_79 : decode cX3_init 79 = .ok (.invokevirtual 38, 3) := by decide +kernel
theorem dX3_init_82 : decode cX3_init 82 = .ok (.return_, 1) := by decide +kernel
theorem dX3_write_0 : decode cX3_write 0 = .ok (.iload_n 1, 1) := by decide +kernel
theorem dX3_write_1 : decode cX3_write 1 = .ok (.ifCond .lt 10, 3) := by decide +kernel
theorem dX3_write_4 : decode cX3_write 4 = .ok (.iload_n 1, 1) := by decide +kernel
theorem dX3_write_5 : decode cX3_write 5 = .ok (.sipush 255, 3) := by decide +kernel
theorem dX3_write_8 : decode cX3_write 8 = .ok (.if_icmp .le 6, 3) := by decide +kernel
theorem dX3_write_11 : decode cX3_write 11 = .ok (.bipush (-3), 2) := by decide +kernel
theorem dX3_write_13 : decode cX3_write 13 = .ok (.ireturn, 1) := by decide +kernel
theorem dX3_write_14 : decode cX3_write 14 = .ok (.aload_n 0, 1) := by decide +kernel
theorem dX3_write_15 : decode cX3_write 15 = .ok (.getfield 10, 3) := by decide +kernel
theorem dX3_write_18 : decode cX3_write 18 = .ok (.getfield 41, 3) := by decide +kernel
theorem dX3_write_21 : decode cX3_write 21 = .ok (.sipush 200, 3) := by decide +kernel
theorem dX3_write_24 : decode cX3_write 24 = .ok (.if_icmp .lt 6, 3) := by decide +kernel
theorem dX3_write_27 : decode cX3_write 27 = .ok (.bipush (-5), 2) := by decide +kernel
theorem dX3_write_29 : decode cX3_write 29 = .ok (.ireturn, 1) := by decide +kernel
theorem dX3_write_30 : decode cX3_write 30 = .ok (.aload_n 0, 1) := by decide +kernel
theorem dX3_write_31 : decode cX3_write 31 = .ok (.getfield 10, 3) := by decide +kernel
theorem dX3_write_34 : decode cX3_write 34 = .ok (.iload_n 1, 1) := by decide +kernel
theorem dX3_write_35 : decode cX3_write 35 = .ok (.invokevirtual 45, 3) := by decide +kernel
theorem dX3_write_38 : decode cX3_write 38 = .ok (.aload_n 0, 1) := by decide +kernel
theorem dX3_write_39 : decode cX3_write 39 = .ok (.getfield 10, 3) := by decide +kernel
theorem dX3_write_42 : decode cX3_write 42 = .ok (.getfield 41, 3) := by decide +kernel
theorem dX3_write_45 : decode cX3_write 45 = .ok (.ireturn, 1) := by decide +kernel
theorem dX3_erase_0 : decode cX3_erase 0 = .ok (.aload_n 0, 1) := by decide +kernel
theorem dX3_erase_1 : decode cX3_erase 1 = .ok (.getfield 10, 3) := by decide +kernel
theorem dX3_erase_4 : decode cX3_erase 4 = .ok (.getfield 41, 3) := by decide +kernel
theorem dX3_erase_7 : decode cX3_erase 7 = .ok (.istore_n 1, 1) := by decide +kernel
theorem dX3_erase_8 : decode cX3_erase 8 = .ok (.aload_n 0, 1) := by decide +kernel
theorem dX3_erase_9 : decode cX3_erase 9 = .ok (.getfield 10, 3) := by decide +kernel
theorem dX3_erase_12 : decode cX3_erase 12 = .ok (.iconst 0, 1) := by decide +kernel
theorem dX3_erase_13 : decode cX3_erase 13 = .ok (.putfield 41, 3) := by decide +kernel
theorem dX3_erase_16 : decode cX3_erase 16 = .ok (.iload_n 1, 1) := by decide +kernel
theorem dX3_erase_17 : decode cX3_erase 17 = .ok (.ireturn, 1) := by decide +kernel
theorem dX3_fault_0 : decode cX3_fault 0 = .ok (.aload_n 0, 1) := by decide +kernel
theorem dX3_fault_1 : decode cX3_fault 1 = .ok (.getfield 10, 3) := by decide +kernel
theorem dX3_fault_4 : decode cX3_fault 4 = .ok (.invokevirtual 48, 3) := by decide +kernel
theorem dX3_fault_7 : decode cX3_fault 7 = .ok (.ireturn, 1) := by decide +kernel
theorem dX3_tell_0 : decode cX3_tell 0 = .ok (.aload_n 0, 1) := by decide +kernel
theorem dX3_tell_1 : decode cX3_tell 1 = .ok (.getfield 10, 3) := by decide +kernel
theorem dX3_tell_4 : decode cX3_tell 4 = .ok (.invokevirtual 48, 3) := by decide +kernel
theorem dX3_tell_7 : decode cX3_tell 7 = .ok (.iconst (-1), 1) := by decide +kernel
theorem dX3_tell_8 : decode cX3_tell 8 = .ok (.if_icmp .eq 6, 3) := by decide +kernel
theorem dX3_tell_11 : decode cX3_tell 11 = .ok (.bipush (-4), 2) := by decide +kernel
theorem dX3_tell_13 : decode cX3_tell 13 = .ok (.ireturn, 1) := by decide +kernel
theorem dX3_tell_14 : decode cX3_tell 14 = .ok (.aload_n 0, 1) := by decide +kernel
theorem dX3_tell_15 : decode cX3_tell 15 = .ok (.getfield 10, 3) := by decide +kernel
theorem dX3_tell_18 : decode cX3_tell 18 = .ok (.getfield 52, 3) := by decide +kernel
theorem dX3_tell_21 : decode cX3_tell 21 = .ok (.istore_n 1, 1) := by decide +kernel
theorem dX3_tell_22 : decode cX3_tell 22 = .ok (.iconst 0, 1) := by decide +kernel
theorem dX3_tell_23 : decode cX3_tell 23 = .ok (.istore_n 2, 1) := by decide +kernel
theorem dX3_tell_24 : decode cX3_tell 24 = .ok (.iload_n 2, 1) := by decide +kernel
theorem dX3_tell_25 : decode cX3_tell 25 = .ok (.iload_n 1, 1) := by decide +kernel
theorem dX3_tell_26 : decode cX3_tell 26 = .ok (.if_icmp .ge 14, 3) := by decide +kernel
theorem dX3_tell_29 : decode cX3_tell 29 = .ok (.aload_n 0, 1) := by decide +kernel
theorem dX3_tell_30 : decode cX3_tell 30 = .ok (.iload_n 2, 1) := by decide +kernel
theorem dX3_tell_31 : decode cX3_tell 31 = .ok (.invokevirtual 55, 3) := by decide +kernel
theorem dX3_tell_34 : decode cX3_tell 34 = .ok (.iinc 2 1, 3) := by decide +kernel
theorem dX3_tell_37 : decode cX3_tell 37 = .ok (.goto (-13), 3) := by decide +kernel
theorem dX3_tell_40 : decode cX3_tell 40 = .ok (.aload_n 0, 1) := by decide +kernel
theorem dX3_tell_41 : decode cX3_tell 41 = .ok (.getfield 10, 3) := by decide +kernel
theorem dX3_tell_44 : decode cX3_tell 44 = .ok (.iconst 0, 1) := by decide +kernel
theorem dX3_tell_45 : decode cX3_tell 45 = .ok (.putfield 41, 3) := by decide +kernel
theorem dX3_tell_48 : decode cX3_tell 48 = .ok (.iload_n 1, 1) := by decide +kernel
theorem dX3_tell_49 : decode cX3_tell 49 = .ok (.ireturn, 1) := by decide +kernel
theorem dX3_item_0 : decode cX3_item 0 = .ok (.iload_n 1, 1) := by decide +kernel
theorem dX3_item_1 : decode cX3_item 1 = .ok (.invokestatic 58, 3) := by decide +kernel
theorem dX3_item_4 : decode cX3_item 4 = .ok (.ifCond .ne 6, 3) := by decide +kernel
theorem dX3_item_7 : decode cX3_item 7 = .ok (.bipush (-2), 2) := by decide +kernel
theorem dX3_item_9 : decode cX3_item 9 = .ok (.ireturn, 1) := by decide +kernel
theorem dX3_item_10 : decode cX3_item 10 = .ok (.iload_n 2, 1) := by decide +kernel
theorem dX3_item_11 : decode cX3_item 11 = .ok (.lookupswitch 39 #[(0, 25), (1, 32)], 25) := by decide +kernel
theorem dX3_item_36 : decode cX3_item 36 = .ok (.aload_n 0, 1) := by decide +kernel
theorem dX3_item_37 : decode cX3_item 37 = .ok (.getfield 16, 3) := by decide +kernel
theorem dX3_item_40 : decode cX3_item 40 = .ok (.iload_n 1, 1) := by decide +kernel
theorem dX3_item_41 : decode cX3_item 41 = .ok (.iaload, 1) := by decide +kernel
theorem dX3_item_42 : decode cX3_item 42 = .ok (.ireturn, 1) := by decide +kernel
theorem dX3_item_43 : decode cX3_item 43 = .ok (.aload_n 0, 1) := by decide +kernel
theorem dX3_item_44 : decode cX3_item 44 = .ok (.getfield 20, 3) := by decide +kernel
theorem dX3_item_47 : decode cX3_item 47 = .ok (.iload_n 1, 1) := by decide +kernel
theorem dX3_item_48 : decode cX3_item 48 = .ok (.iaload, 1) := by decide +kernel
theorem dX3_item_49 : decode cX3_item 49 = .ok (.ireturn, 1) := by decide +kernel
theorem dX3_item_50 : decode cX3_item 50 = .ok (.bipush (-3), 2) := by decide +kernel
theorem dX3_item_52 : decode cX3_item 52 = .ok (.ireturn, 1) := by decide +kernel
theorem dX3_put_0 : decode cX3_put 0 = .ok (.iload_n 1, 1) := by decide +kernel
theorem dX3_put_1 : decode cX3_put 1 = .ok (.invokestatic 58, 3) := by decide +kernel
theorem dX3_put_4 : decode cX3_put 4 = .ok (.ifCond .ne 6, 3) := by decide +kernel
theorem dX3_put_7 : decode cX3_put 7 = .ok (.bipush (-2), 2) := by decide +kernel
theorem dX3_put_9 : decode cX3_put 9 = .ok (.ireturn, 1) := by decide +kernel
theorem dX3_put_10 : decode cX3_put 10 = .ok (.iload_n 2, 1) := by decide +kernel
theorem dX3_put_11 : decode cX3_put 11 = .ok (.invokestatic 62, 3) := by decide +kernel
theorem dX3_put_14 : decode cX3_put 14 = .ok (.ifCond .ne 6, 3) := by decide +kernel
theorem dX3_put_17 : decode cX3_put 17 = .ok (.bipush (-3), 2) := by decide +kernel
theorem dX3_put_19 : decode cX3_put 19 = .ok (.ireturn, 1) := by decide +kernel
theorem dX3_put_20 : decode cX3_put 20 = .ok (.aload_n 0, 1) := by decide +kernel
theorem dX3_put_21 : decode cX3_put 21 = .ok (.iconst 3, 1) := by decide +kernel
theorem dX3_put_22 : decode cX3_put 22 = .ok (.invokevirtual 65, 3) := by decide +kernel
theorem dX3_put_25 : decode cX3_put 25 = .ok (.ifCond .le 6, 3) := by decide +kernel
theorem dX3_put_28 : decode cX3_put 28 = .ok (.bipush (-4), 2) := by decide +kernel
theorem dX3_put_30 : decode cX3_put 30 = .ok (.ireturn, 1) := by decide +kernel
theorem dX3_put_31 : decode cX3_put 31 = .ok (.aload_n 0, 1) := by decide +kernel
theorem dX3_put_32 : decode cX3_put 32 = .ok (.getfield 69, 3) := by decide +kernel
theorem dX3_put_35 : decode cX3_put 35 = .ok (.sipush 512, 3) := by decide +kernel
theorem dX3_put_38 : decode cX3_put 38 = .ok (.if_icmp .lt 6, 3) := by decide +kernel
theorem dX3_put_41 : decode cX3_put 41 = .ok (.bipush (-5), 2) := by decide +kernel
theorem dX3_put_43 : decode cX3_put 43 = .ok (.ireturn, 1) := by decide +kernel
theorem dX3_put_44 : decode cX3_put 44 = .ok (.aload_n 0, 1) := by decide +kernel
theorem dX3_put_45 : decode cX3_put 45 = .ok (.invokevirtual 72, 3) := by decide +kernel
theorem dX3_put_48 : decode cX3_put 48 = .ok (.iload_n 1, 1) := by decide +kernel
theorem dX3_put_49 : decode cX3_put 49 = .ok (.iload_n 2, 1) := by decide +kernel
theorem dX3_put_50 : decode cX3_put 50 = .ok (.invokevirtual 76, 3) := by decide +kernel
theorem dX3_put_53 : decode cX3_put 53 = .ok (.aload_n 0, 1) := by decide +kernel
theorem dX3_put_54 : decode cX3_put 54 = .ok (.iload_n 1, 1) := by decide +kernel
theorem dX3_put_55 : decode cX3_put 55 = .ok (.iload_n 2, 1) := by decide +kernel
theorem dX3_put_56 : decode cX3_put 56 = .ok (.invokevirtual 80, 3) := by decide +kernel
theorem dX3_put_59 : decode cX3_put 59 = .ok (.aload_n 0, 1) := by decide +kernel
theorem dX3_put_60 : decode cX3_put 60 = .ok (.getfield 69, 3) := by decide +kernel
theorem dX3_put_63 : decode cX3_put 63 = .ok (.ireturn, 1) := by decide +kernel
theorem dX3_limit_0 : decode cX3_limit 0 = .ok (.iload_n 1, 1) := by decide +kernel
theorem dX3_limit_1 : decode cX3_limit 1 = .ok (.iconst 1, 1) := by decide +kernel
theorem dX3_limit_2 : decode cX3_limit 2 = .ok (.if_icmp .lt 9, 3) := by decide +kernel
theorem dX3_limit_5 : decode cX3_limit 5 = .ok (.iload_n 1, 1) := by decide +kernel
theorem dX3_limit_6 : decode cX3_limit 6 = .ok (.bipush 9, 2) := by decide +kernel
theorem dX3_limit_8 : decode cX3_limit 8 = .ok (.if_icmp .le 6, 3) := by decide +kernel
theorem dX3_limit_11 : decode cX3_limit 11 = .ok (.bipush (-3), 2) := by decide +kernel
theorem dX3_limit_13 : decode cX3_limit 13 = .ok (.ireturn, 1) := by decide +kernel
theorem dX3_limit_14 : decode cX3_limit 14 = .ok (.aload_n 0, 1) := by decide +kernel
theorem dX3_limit_15 : decode cX3_limit 15 = .ok (.getfield 83, 3) := by decide +kernel
theorem dX3_limit_18 : decode cX3_limit 18 = .ok (.istore_n 2, 1) := by decide +kernel
theorem dX3_limit_19 : decode cX3_limit 19 = .ok (.aload_n 0, 1) := by decide +kernel
theorem dX3_limit_20 : decode cX3_limit 20 = .ok (.iload_n 1, 1) := by decide +kernel
theorem dX3_limit_21 : decode cX3_limit 21 = .ok (.putfield 83, 3) := by decide +kernel
theorem dX3_limit_24 : decode cX3_limit 24 = .ok (.iload_n 2, 1) := by decide +kernel
theorem dX3_limit_25 : decode cX3_limit 25 = .ok (.ireturn, 1) := by decide +kernel
theorem dX3_begin_0 : decode cX3_begin 0 = .ok (.iload_n 1, 1) := by decide +kernel
theorem dX3_begin_1 : decode cX3_begin 1 = .ok (.invokestatic 86, 3) := by decide +kernel
theorem dX3_begin_4 : decode cX3_begin 4 = .ok (.ifCond .ne 6, 3) := by decide +kernel
theorem dX3_begin_7 : decode cX3_begin 7 = .ok (.bipush (-2), 2) := by decide +kernel
theorem dX3_begin_9 : decode cX3_begin 9 = .ok (.ireturn, 1) := by decide +kernel
theorem dX3_begin_10 : decode cX3_begin 10 = .ok (.aload_n 0, 1) := by decide +kernel
theorem dX3_begin_11 : decode cX3_begin 11 = .ok (.getfield 25, 3) := by decide +kernel
theorem dX3_begin_14 : decode cX3_begin 14 = .ok (.iload_n 1, 1) := by decide +kernel
theorem dX3_begin_15 : decode cX3_begin 15 = .ok (.aaload, 1) := by decide +kernel
theorem dX3_begin_16 : decode cX3_begin 16 = .ok (.astore_n 2, 1) := by decide +kernel
theorem dX3_begin_17 : decode cX3_begin 17 = .ok (.aload_n 2, 1) := by decide +kernel
theorem dX3_begin_18 : decode cX3_begin 18 = .ok (.getfield 89, 3) := by decide +kernel
theorem dX3_begin_21 : decode cX3_begin 21 = .ok (.ifCond .eq 6, 3) := by decide +kernel
theorem dX3_begin_24 : decode cX3_begin 24 = .ok (.bipush (-4), 2) := by decide +kernel
theorem dX3_begin_26 : decode cX3_begin 26 = .ok (.ireturn, 1) := by decide +kernel
theorem dX3_begin_27 : decode cX3_begin 27 = .ok (.aload_n 0, 1) := by decide +kernel
theorem dX3_begin_28 : decode cX3_begin 28 = .ok (.dup, 1) := by decide +kernel
theorem dX3_begin_29 : decode cX3_begin 29 = .ok (.getfield 92, 3) := by decide +kernel
theorem dX3_begin_32 : decode cX3_begin 32 = .ok (.iconst 1, 1) := by decide +kernel
theorem dX3_begin_33 : decode cX3_begin 33 = .ok (.iadd, 1) := by decide +kernel
theorem dX3_begin_34 : decode cX3_begin 34 = .ok (.putfield 92, 3) := by decide +kernel
theorem dX3_begin_37 : decode cX3_begin 37 = .ok (.aload_n 2, 1) := by decide +kernel
theorem dX3_begin_38 : decode cX3_begin 38 = .ok (.aload_n 0, 1) := by decide +kernel
theorem dX3_begin_39 : decode cX3_begin 39 = .ok (.getfield 69, 3) := by decide +kernel
theorem dX3_begin_42 : decode cX3_begin 42 = .ok (.aload_n 0, 1) := by decide +kernel
theorem dX3_begin_43 : decode cX3_begin 43 = .ok (.getfield 92, 3) := by decide +kernel
theorem dX3_begin_46 : decode cX3_begin 46 = .ok (.iconst 0, 1) := by decide +kernel
theorem dX3_begin_47 : decode cX3_begin 47 = .ok (.invokevirtual 95, 3) := by decide +kernel
theorem dX3_begin_50 : decode cX3_begin 50 = .ok (.aload_n 2, 1) := by decide +kernel
theorem dX3_begin_51 : decode cX3_begin 51 = .ok (.getfield 99, 3) := by decide +kernel
theorem dX3_begin_54 : decode cX3_begin 54 = .ok (.ireturn, 1) := by decide +kernel
theorem dX3_retry_0 : decode cX3_retry 0 = .ok (.iload_n 1, 1) := by decide +kernel
theorem dX3_retry_1 : decode cX3_retry 1 = .ok (.invokestatic 86, 3) := by decide +kernel
theorem dX3_retry_4 : decode cX3_retry 4 = .ok (.ifCond .ne 6, 3) := by decide +kernel
theorem dX3_retry_7 : decode cX3_retry 7 = .ok (.bipush (-2), 2) := by decide +kernel
theorem dX3_retry_9 : decode cX3_retry 9 = .ok (.ireturn, 1) := by decide +kernel
theorem dX3_retry_10 : decode cX3_retry 10 = .ok (.aload_n 0, 1) := by decide +kernel
theorem dX3_retry_11 : decode cX3_retry 11 = .ok (.getfield 25, 3) := by decide +kernel
theorem dX3_retry_14 : decode cX3_retry 14 = .ok (.iload_n 1, 1) := by decide +kernel
theorem dX3_retry_15 : decode cX3_retry 15 = .ok (.aaload, 1) := by decide +kernel
theorem dX3_retry_16 : decode cX3_retry 16 = .ok (.astore_n 2, 1) := by decide +kernel
theorem dX3_retry_17 : decode cX3_retry 17 = .ok (.aload_n 2, 1) := by decide +kernel
theorem dX3_retry_18 : decode cX3_retry 18 = .ok (.getfield 102, 3) := by decide +kernel
theorem dX3_retry_21 : decode cX3_retry 21 = .ok (.ifCond .ne 6, 3) := by decide +kernel
theorem dX3_retry_24 : decode cX3_retry 24 = .ok (.bipush (-4), 2) := by decide +kernel
theorem dX3_retry_26 : decode cX3_retry 26 = .ok (.ireturn, 1) := by decide +kernel
theorem dX3_retry_27 : decode cX3_retry 27 = .ok (.aload_n 2, 1) := by decide +kernel
theorem dX3_retry_28 : decode cX3_retry 28 = .ok (.aload_n 0, 1) := by decide +kernel
theorem dX3_retry_29 : decode cX3_retry 29 = .ok (.getfield 69, 3) := by decide +kernel
theorem dX3_retry_32 : decode cX3_retry 32 = .ok (.aload_n 2, 1) := by decide +kernel
theorem dX3_retry_33 : decode cX3_retry 33 = .ok (.getfield 99, 3) := by decide +kernel
theorem dX3_retry_36 : decode cX3_retry 36 = .ok (.aload_n 2, 1) := by decide +kernel
theorem dX3_retry_37 : decode cX3_retry 37 = .ok (.getfield 106, 3) := by decide +kernel
theorem dX3_retry_40 : decode cX3_retry 40 = .ok (.iconst 1, 1) := by decide +kernel
theorem dX3_retry_41 : decode cX3_retry 41 = .ok (.iadd, 1) := by decide +kernel
theorem dX3_retry_42 : decode cX3_retry 42 = .ok (.invokevirtual 95, 3) := by decide +kernel
theorem dX3_retry_45 : decode cX3_retry 45 = .ok (.aload_n 2, 1) := by decide +kernel
theorem dX3_retry_46 : decode cX3_retry 46 = .ok (.getfield 106, 3) := by decide +kernel
theorem dX3_retry_49 : decode cX3_retry 49 = .ok (.ireturn, 1) := by decide +kernel
theorem dX3_read_0 : decode cX3_read 0 = .ok (.iload_n 1, 1) := by decide +kernel
theorem dX3_read_1 : decode cX3_read 1 = .ok (.invokestatic 86, 3) := by decide +kernel
theorem dX3_read_4 : decode cX3_read 4 = .ok (.ifCond .eq 10, 3) := by decide +kernel
theorem dX3_read_7 : decode cX3_read 7 = .ok (.iload_n 2, 1) := by decide +kernel
theorem dX3_read_8 : decode cX3_read 8 = .ok (.invokestatic 58, 3) := by decide +kernel
theorem dX3_read_11 : decode cX3_read 11 = .ok (.ifCond .ne 6, 3) := by decide +kernel
theorem dX3_read_14 : decode cX3_read 14 = .ok (.bipush (-2), 2) := by decide +kernel
theorem dX3_read_16 : decode cX3_read 16 = .ok (.ireturn, 1) := by decide +kernel
theorem dX3_read_17 : decode cX3_read 17 = .ok (.aload_n 0, 1) := by decide +kernel
theorem dX3_read_18 : decode cX3_read 18 = .ok (.getfield 25, 3) := by decide +kernel
theorem dX3_read_21 : decode cX3_read 21 = .ok (.iload_n 1, 1) := by decide +kernel
theorem dX3_read_22 : decode cX3_read 22 = .ok (.aaload, 1) := by decide +kernel
theorem dX3_read_23 : decode cX3_read 23 = .ok (.astore_n 3, 1) := by decide +kernel
theorem dX3_read_24 : decode cX3_read 24 = .ok (.aload_n 3, 1) := by decide +kernel
theorem dX3_read_25 : decode cX3_read 25 = .ok (.getfield 89, 3) := by decide +kernel
theorem dX3_read_28 : decode cX3_read 28 = .ok (.iconst 1, 1) := by decide +kernel
theorem dX3_read_29 : decode cX3_read 29 = .ok (.if_icmp .eq 6, 3) := by decide +kernel
theorem dX3_read_32 : decode cX3_read 32 = .ok (.bipush (-4), 2) := by decide +kernel
theorem dX3_read_34 : decode cX3_read 34 = .ok (.ireturn, 1) := by decide +kernel
theorem dX3_read_35 : decode cX3_read 35 = .ok (.aload_n 3, 1) := by decide +kernel
theorem dX3_read_36 : decode cX3_read 36 = .ok (.getfield 109, 3) := by decide +kernel
theorem dX3_read_39 : decode cX3_read 39 = .ok (.iload_n 2, 1) := by decide +kernel
theorem dX3_read_40 : decode cX3_read 40 = .ok (.invokestatic 112, 3) := by decide +kernel
theorem dX3_read_43 : decode cX3_read 43 = .ok (.ifCond .eq 10, 3) := by decide +kernel
theorem dX3_read_46 : decode cX3_read 46 = .ok (.aload_n 3, 1) := by decide +kernel
theorem dX3_read_47 : decode cX3_read 47 = .ok (.getfield 116, 3) := by decide +kernel
theorem dX3_read_50 : decode cX3_read 50 = .ok (.iload_n 2, 1) := by decide +kernel
theorem dX3_read_51 : decode cX3_read 51 = .ok (.iaload, 1) := by decide +kernel
theorem dX3_read_52 : decode cX3_read 52 = .ok (.ireturn, 1) := by decide +kernel
theorem dX3_read_53 : decode cX3_read 53 = .ok (.aload_n 3, 1) := by decide +kernel
theorem dX3_read_54 : decode cX3_read 54 = .ok (.getfield 119, 3) := by decide +kernel
theorem dX3_read_57 : decode cX3_read 57 = .ok (.iload_n 2, 1) := by decide +kernel
theorem dX3_read_58 : decode cX3_read 58 = .ok (.invokestatic 112, 3) := by decide +kernel
theorem dX3_read_61 : decode cX3_read 61 = .ok (.ifCond .ne 20, 3) := by decide +kernel
theorem dX3_read_64 : decode cX3_read 64 = .ok (.aload_n 3, 1) := by decide +kernel
theorem dX3_read_65 : decode cX3_read 65 = .ok (.iload_n 2, 1) := by decide +kernel
theorem dX3_read_66 : decode cX3_read 66 = .ok (.aload_n 0, 1) := by decide +kernel
theorem dX3_read_67 : decode cX3_read 67 = .ok (.getfield 16, 3) := by decide +kernel
theorem dX3_read_70 : decode cX3_read 70 = .ok (.iload_n 2, 1) := by decide +kernel
theorem dX3_read_71 : decode cX3_read 71 = .ok (.iaload, 1) := by decide +kernel
theorem dX3_read_72 : decode cX3_read 72 = .ok (.aload_n 0, 1) := by decide +kernel
theorem dX3_read_73 : decode cX3_read 73 = .ok (.getfield 20, 3) := by decide +kernel
theorem dX3_read_76 : decode cX3_read 76 = .ok (.iload_n 2, 1) := by decide +kernel
theorem dX3_read_77 : decode cX3_read 77 = .ok (.iaload, 1) := by decide +kernel
theorem dX3_read_78 : decode cX3_read 78 = .ok (.invokevirtual 122, 3) := by decide +kernel
theorem dX3_read_81 : decode cX3_read 81 = .ok (.aload_n 3, 1) := by decide +kernel
theorem dX3_read_82 : decode cX3_read 82 = .ok (.getfield 125, 3) := by decide +kernel
theorem dX3_read_85 : decode cX3_read 85 = .ok (.iload_n 2, 1) := by decide +kernel
end
section
theorem dX3_read_86 : decode cX3_read 86 = .ok (.iaload, 1) := by decide +kernel
theorem dX3_read_87 : decode cX3_read 87 = .ok (.ireturn, 1) := by decide +kernel
theorem dX3_lay_0 : decode cX3_lay 0 = .ok (.iload_n 1, 1) := by decide +kernel
theorem dX3_lay_1 : decode cX3_lay 1 = .ok (.invokestatic 86, 3) := by decide +kernel
theorem dX3_lay_4 : decode cX3_lay 4 = .ok (.ifCond .eq 10, 3) := by decide +kernel
theorem dX3_lay_7 : decode cX3_lay 7 = .ok (.iload_n 2, 1) := by decide +kernel
theorem dX3_lay_8 : decode cX3_lay 8 = .ok (.invokestatic 58, 3) := by decide +kernel
theorem dX3_lay_11 : decode cX3_lay 11 = .ok (.ifCond .ne 6, 3) := by decide +kernel
theorem dX3_lay_14 : decode cX3_lay 14 = .ok (.bipush (-2), 2) := by decide +kernel
theorem dX3_lay_16 : decode cX3_lay 16 = .ok (.ireturn, 1) := by decide +kernel
theorem dX3_lay_17 : decode cX3_lay 17 = .ok (.iload_n 3, 1) := by decide +kernel
theorem dX3_lay_18 : decode cX3_lay 18 = .ok (.invokestatic 62, 3) := by decide +kernel
theorem dX3_lay_21 : decode cX3_lay 21 = .ok (.ifCond .ne 6, 3) := by decide +kernel
theorem dX3_lay_24 : decode cX3_lay 24 = .ok (.bipush (-3), 2) := by decide +kernel
theorem dX3_lay_26 : decode cX3_lay 26 = .ok (.ireturn, 1) := by decide +kernel
theorem dX3_lay_27 : decode cX3_lay 27 = .ok (.aload_n 0, 1) := by decide +kernel
theorem dX3_lay_28 : decode cX3_lay 28 = .ok (.getfield 25, 3) := by decide +kernel
theorem dX3_lay_31 : decode cX3_lay 31 = .ok (.iload_n 1, 1) := by decide +kernel
theorem dX3_lay_32 : decode cX3_lay 32 = .ok (.aaload, 1) := by decide +kernel
theorem dX3_lay_33 : decode cX3_lay 33 = .ok (.astore 4, 2) := by decide +kernel
theorem dX3_lay_35 : decode cX3_lay 35 = .ok (.aload 4, 2) := by decide +kernel
theorem dX3_lay_37 : decode cX3_lay 37 = .ok (.getfield 89, 3) := by decide +kernel
theorem dX3_lay_40 : decode cX3_lay 40 = .ok (.iconst 1, 1) := by decide +kernel
theorem dX3_lay_41 : decode cX3_lay 41 = .ok (.if_icmp .eq 6, 3) := by decide +kernel
theorem dX3_lay_44 : decode cX3_lay 44 = .ok (.bipush (-4), 2) := by decide +kernel
theorem dX3_lay_46 : decode cX3_lay 46 = .ok (.ireturn, 1) := by decide +kernel
theorem dX3_lay_47 : decode cX3_lay 47 = .ok (.aload 4, 2) := by decide +kernel
theorem dX3_lay_49 : decode cX3_lay 49 = .ok (.dup, 1) := by decide +kernel
theorem dX3_lay_50 : decode cX3_lay 50 = .ok (.getfield 109, 3) := by decide +kernel
theorem dX3_lay_53 : decode cX3_lay 53 = .ok (.iload_n 2, 1) := by decide +kernel
theorem dX3_lay_54 : decode cX3_lay 54 = .ok (.invokestatic 128, 3) := by decide +kernel
theorem dX3_lay_57 : decode cX3_lay 57 = .ok (.ior, 1) := by decide +kernel
theorem dX3_lay_58 : decode cX3_lay 58 = .ok (.putfield 109, 3) := by decide +kernel
theorem dX3_lay_61 : decode cX3_lay 61 = .ok (.aload 4, 2) := by decide +kernel
theorem dX3_lay_63 : decode cX3_lay 63 = .ok (.getfield 116, 3) := by decide +kernel
theorem dX3_lay_66 : decode cX3_lay 66 = .ok (.iload_n 2, 1) := by decide +kernel
theorem dX3_lay_67 : decode cX3_lay 67 = .ok (.iload_n 3, 1) := by decide +kernel
theorem dX3_lay_68 : decode cX3_lay 68 = .ok (.iastore, 1) := by decide +kernel
theorem dX3_lay_69 : decode cX3_lay 69 = .ok (.aload 4, 2) := by decide +kernel
theorem dX3_lay_71 : decode cX3_lay 71 = .ok (.getfield 109, 3) := by decide +kernel
theorem dX3_lay_74 : decode cX3_lay 74 = .ok (.invokestatic 131, 3) := by decide +kernel
theorem dX3_lay_77 : decode cX3_lay 77 = .ok (.ireturn, 1) := by decide +kernel
theorem dX3_commit_0 : decode cX3_commit 0 = .ok (.iload_n 1, 1) := by decide +kernel
theorem dX3_commit_1 : decode cX3_commit 1 = .ok (.invokestatic 86, 3) := by decide +kernel
theorem dX3_commit_4 : decode cX3_commit 4 = .ok (.ifCond .ne 6, 3) := by decide +kernel
theorem dX3_commit_7 : decode cX3_commit 7 = .ok (.bipush (-2), 2) := by decide +kernel
theorem dX3_commit_9 : decode cX3_commit 9 = .ok (.ireturn, 1) := by decide +kernel
theorem dX3_commit_10 : decode cX3_commit 10 = .ok (.aload_n 0, 1) := by decide +kernel
theorem dX3_commit_11 : decode cX3_commit 11 = .ok (.getfield 25, 3) := by decide +kernel
theorem dX3_commit_14 : decode cX3_commit 14 = .ok (.iload_n 1, 1) := by decide +kernel
theorem dX3_commit_15 : decode cX3_commit 15 = .ok (.aaload, 1) := by decide +kernel
theorem dX3_commit_16 : decode cX3_commit 16 = .ok (.astore_n 3, 1) := by decide +kernel
theorem dX3_commit_17 : decode cX3_commit 17 = .ok (.aload_n 0, 1) := by decide +kernel
theorem dX3_commit_18 : decode cX3_commit 18 = .ok (.aload_n 3, 1) := by decide +kernel
theorem dX3_commit_19 : decode cX3_commit 19 = .ok (.iload_n 2, 1) := by decide +kernel
theorem dX3_commit_20 : decode cX3_commit 20 = .ok (.invokevirtual 136, 3) := by decide +kernel
theorem dX3_commit_23 : decode cX3_commit 23 = .ok (.istore 4, 2) := by decide +kernel
theorem dX3_commit_25 : decode cX3_commit 25 = .ok (.iload 4, 2) := by decide +kernel
theorem dX3_commit_27 : decode cX3_commit 27 = .ok (.invokestatic 140, 3) := by decide +kernel
theorem dX3_commit_30 : decode cX3_commit 30 = .ok (.ifCond .eq 11, 3) := by decide +kernel
theorem dX3_commit_33 : decode cX3_commit 33 = .ok (.aload_n 0, 1) := by decide +kernel
theorem dX3_commit_34 : decode cX3_commit 34 = .ok (.aload_n 3, 1) := by decide +kernel
theorem dX3_commit_35 : decode cX3_commit 35 = .ok (.iload 4, 2) := by decide +kernel
theorem dX3_commit_37 : decode cX3_commit 37 = .ok (.invokevirtual 143, 3) := by decide +kernel
theorem dX3_commit_40 : decode cX3_commit 40 = .ok (.ireturn, 1) := by decide +kernel
theorem dX3_commit_41 : decode cX3_commit 41 = .ok (.iload 4, 2) := by decide +kernel
theorem dX3_commit_43 : decode cX3_commit 43 = .ok (.ifCond .ge 6, 3) := by decide +kernel
theorem dX3_commit_46 : decode cX3_commit 46 = .ok (.iload 4, 2) := by decide +kernel
theorem dX3_commit_48 : decode cX3_commit 48 = .ok (.ireturn, 1) := by decide +kernel
theorem dX3_commit_49 : decode cX3_commit 49 = .ok (.iload_n 2, 1) := by decide +kernel
theorem dX3_commit_50 : decode cX3_commit 50 = .ok (.iconst 2, 1) := by decide +kernel
theorem dX3_commit_51 : decode cX3_commit 51 = .ok (.if_icmp .ne 12, 3) := by decide +kernel
theorem dX3_commit_54 : decode cX3_commit 54 = .ok (.aload_n 0, 1) := by decide +kernel
theorem dX3_commit_55 : decode cX3_commit 55 = .ok (.aload_n 0, 1) := by decide +kernel
theorem dX3_commit_56 : decode cX3_commit 56 = .ok (.aload_n 3, 1) := by decide +kernel
theorem dX3_commit_57 : decode cX3_commit 57 = .ok (.invokevirtual 146, 3) := by decide +kernel
theorem dX3_commit_60 : decode cX3_commit 60 = .ok (.invokevirtual 150, 3) := by decide +kernel
theorem dX3_commit_63 : decode cX3_commit 63 = .ok (.aload_n 0, 1) := by decide +kernel
theorem dX3_commit_64 : decode cX3_commit 64 = .ok (.aload_n 3, 1) := by decide +kernel
theorem dX3_commit_65 : decode cX3_commit 65 = .ok (.iload_n 2, 1) := by decide +kernel
theorem dX3_commit_66 : decode cX3_commit 66 = .ok (.invokevirtual 153, 3) := by decide +kernel
theorem dX3_commit_69 : decode cX3_commit 69 = .ok (.ireturn, 1) := by decide +kernel
theorem dX3_peek_0 : decode cX3_peek 0 = .ok (.iload_n 1, 1) := by decide +kernel
theorem dX3_peek_1 : decode cX3_peek 1 = .ok (.invokestatic 86, 3) := by decide +kernel
theorem dX3_peek_4 : decode cX3_peek 4 = .ok (.ifCond .eq 17, 3) := by decide +kernel
theorem dX3_peek_7 : decode cX3_peek 7 = .ok (.aload_n 0, 1) := by decide +kernel
theorem dX3_peek_8 : decode cX3_peek 8 = .ok (.aload_n 0, 1) := by decide +kernel
theorem dX3_peek_9 : decode cX3_peek 9 = .ok (.getfield 25, 3) := by decide +kernel
theorem dX3_peek_12 : decode cX3_peek 12 = .ok (.iload_n 1, 1) := by decide +kernel
theorem dX3_peek_13 : decode cX3_peek 13 = .ok (.aaload, 1) := by decide +kernel
theorem dX3_peek_14 : decode cX3_peek 14 = .ok (.iload_n 2, 1) := by decide +kernel
theorem dX3_peek_15 : decode cX3_peek 15 = .ok (.invokevirtual 136, 3) := by decide +kernel
theorem dX3_peek_18 : decode cX3_peek 18 = .ok (.goto 5, 3) := by decide +kernel
theorem dX3_peek_21 : decode cX3_peek 21 = .ok (.bipush (-2), 2) := by decide +kernel
theorem dX3_peek_23 : decode cX3_peek 23 = .ok (.ireturn, 1) := by decide +kernel
theorem dX3_abort_0 : decode cX3_abort 0 = .ok (.iload_n 1, 1) := by decide +kernel
theorem dX3_abort_1 : decode cX3_abort 1 = .ok (.invokestatic 86, 3) := by decide +kernel
theorem dX3_abort_4 : decode cX3_abort 4 = .ok (.ifCond .ne 6, 3) := by decide +kernel
theorem dX3_abort_7 : decode cX3_abort 7 = .ok (.bipush (-2), 2) := by decide +kernel
theorem dX3_abort_9 : decode cX3_abort 9 = .ok (.ireturn, 1) := by decide +kernel
theorem dX3_abort_10 : decode cX3_abort 10 = .ok (.aload_n 0, 1) := by decide +kernel
theorem dX3_abort_11 : decode cX3_abort 11 = .ok (.getfield 25, 3) := by decide +kernel
theorem dX3_abort_14 : decode cX3_abort 14 = .ok (.iload_n 1, 1) := by decide +kernel
theorem dX3_abort_15 : decode cX3_abort 15 = .ok (.aaload, 1) := by decide +kernel
theorem dX3_abort_16 : decode cX3_abort 16 = .ok (.astore_n 2, 1) := by decide +kernel
theorem dX3_abort_17 : decode cX3_abort 17 = .ok (.aload_n 2, 1) := by decide +kernel
theorem dX3_abort_18 : decode cX3_abort 18 = .ok (.getfield 89, 3) := by decide +kernel
theorem dX3_abort_21 : decode cX3_abort 21 = .ok (.iconst 1, 1) := by decide +kernel
theorem dX3_abort_22 : decode cX3_abort 22 = .ok (.if_icmp .eq 14, 3) := by decide +kernel
theorem dX3_abort_25 : decode cX3_abort 25 = .ok (.aload_n 2, 1) := by decide +kernel
theorem dX3_abort_26 : decode cX3_abort 26 = .ok (.getfield 89, 3) := by decide +kernel
theorem dX3_abort_29 : decode cX3_abort 29 = .ok (.iconst 2, 1) := by decide +kernel
theorem dX3_abort_30 : decode cX3_abort 30 = .ok (.if_icmp .eq 6, 3) := by decide +kernel
theorem dX3_abort_33 : decode cX3_abort 33 = .ok (.bipush (-4), 2) := by decide +kernel
theorem dX3_abort_35 : decode cX3_abort 35 = .ok (.ireturn, 1) := by decide +kernel
theorem dX3_abort_36 : decode cX3_abort 36 = .ok (.aload_n 0, 1) := by decide +kernel
theorem dX3_abort_37 : decode cX3_abort 37 = .ok (.aload_n 2, 1) := by decide +kernel
theorem dX3_abort_38 : decode cX3_abort 38 = .ok (.iconst (-1), 1) := by decide +kernel
theorem dX3_abort_39 : decode cX3_abort 39 = .ok (.invokevirtual 143, 3) := by decide +kernel
theorem dX3_abort_42 : decode cX3_abort 42 = .ok (.pop, 1) := by decide +kernel
theorem dX3_abort_43 : decode cX3_abort 43 = .ok (.aload_n 0, 1) := by decide +kernel
theorem dX3_abort_44 : decode cX3_abort 44 = .ok (.iconst 1, 1) := by decide +kernel
theorem dX3_abort_45 : decode cX3_abort 45 = .ok (.invokevirtual 65, 3) := by decide +kernel
theorem dX3_abort_48 : decode cX3_abort 48 = .ok (.ireturn, 1) := by decide +kernel
theorem dX3_sweep_0 : decode cX3_sweep 0 = .ok (.iconst 0, 1) := by decide +kernel
theorem dX3_sweep_1 : decode cX3_sweep 1 = .ok (.istore_n 1, 1) := by decide +kernel
theorem dX3_sweep_2 : decode cX3_sweep 2 = .ok (.aload_n 0, 1) := by decide +kernel
theorem dX3_sweep_3 : decode cX3_sweep 3 = .ok (.getfield 25, 3) := by decide +kernel
theorem dX3_sweep_6 : decode cX3_sweep 6 = .ok (.astore_n 2, 1) := by decide +kernel
theorem dX3_sweep_7 : decode cX3_sweep 7 = .ok (.aload_n 2, 1) := by decide +kernel
theorem dX3_sweep_8 : decode cX3_sweep 8 = .ok (.arraylength, 1) := by decide +kernel
theorem dX3_sweep_9 : decode cX3_sweep 9 = .ok (.istore_n 3, 1) := by decide +kernel
theorem dX3_sweep_10 : decode cX3_sweep 10 = .ok (.iconst 0, 1) := by decide +kernel
theorem dX3_sweep_11 : decode cX3_sweep 11 = .ok (.istore 4, 2) := by decide +kernel
theorem dX3_sweep_13 : decode cX3_sweep 13 = .ok (.iload 4, 2) := by decide +kernel
theorem dX3_sweep_15 : decode cX3_sweep 15 = .ok (.iload_n 3, 1) := by decide +kernel
theorem dX3_sweep_16 : decode cX3_sweep 16 = .ok (.if_icmp .ge 45, 3) := by decide +kernel
theorem dX3_sweep_19 : decode cX3_sweep 19 = .ok (.aload_n 2, 1) := by decide +kernel
theorem dX3_sweep_20 : decode cX3_sweep 20 = .ok (.iload 4, 2) := by decide +kernel
theorem dX3_sweep_22 : decode cX3_sweep 22 = .ok (.aaload, 1) := by decide +kernel
theorem dX3_sweep_23 : decode cX3_sweep 23 = .ok (.astore 5, 2) := by decide +kernel
theorem dX3_sweep_25 : decode cX3_sweep 25 = .ok (.aload 5, 2) := by decide +kernel
theorem dX3_sweep_27 : decode cX3_sweep 27 = .ok (.getfield 89, 3) := by decide +kernel
theorem dX3_sweep_30 : decode cX3_sweep 30 = .ok (.iconst 1, 1) := by decide +kernel
theorem dX3_sweep_31 : decode cX3_sweep 31 = .ok (.if_icmp .ne 24, 3) := by decide +kernel
theorem dX3_sweep_34 : decode cX3_sweep 34 = .ok (.aload_n 0, 1) := by decide +kernel
theorem dX3_sweep_35 : decode cX3_sweep 35 = .ok (.aload 5, 2) := by decide +kernel
theorem dX3_sweep_37 : decode cX3_sweep 37 = .ok (.invokevirtual 156, 3) := by decide +kernel
theorem dX3_sweep_40 : decode cX3_sweep 40 = .ok (.ifCond .eq 15, 3) := by decide +kernel
theorem dX3_sweep_43 : decode cX3_sweep 43 = .ok (.aload_n 0, 1) := by decide +kernel
theorem dX3_sweep_44 : decode cX3_sweep 44 = .ok (.aload 5, 2) := by decide +kernel
theorem dX3_sweep_46 : decode cX3_sweep 46 = .ok (.bipush (-11), 2) := by decide +kernel
theorem dX3_sweep_48 : decode cX3_sweep 48 = .ok (.invokevirtual 143, 3) := by decide +kernel
theorem dX3_sweep_51 : decode cX3_sweep 51 = .ok (.pop, 1) := by decide +kernel
theorem dX3_sweep_52 : decode cX3_sweep 52 = .ok (.iinc 1 1, 3) := by decide +kernel
theorem dX3_sweep_55 : decode cX3_sweep 55 = .ok (.iinc 4 1, 3) := by decide +kernel
theorem dX3_sweep_58 : decode cX3_sweep 58 = .ok (.goto (-45), 3) := by decide +kernel
theorem dX3_sweep_61 : decode cX3_sweep 61 = .ok (.iload_n 1, 1) := by decide +kernel
theorem dX3_sweep_62 : decode cX3_sweep 62 = .ok (.ireturn, 1) := by decide +kernel
theorem dX3_send_0 : decode cX3_send 0 = .ok (.iload_n 1, 1) := by decide +kernel
theorem dX3_send_1 : decode cX3_send 1 = .ok (.invokestatic 86, 3) := by decide +kernel
theorem dX3_send_4 : decode cX3_send 4 = .ok (.ifCond .ne 6, 3) := by decide +kernel
theorem dX3_send_7 : decode cX3_send 7 = .ok (.bipush (-2), 2) := by decide +kernel
theorem dX3_send_9 : decode cX3_send 9 = .ok (.ireturn, 1) := by decide +kernel
theorem dX3_send_10 : decode cX3_send 10 = .ok (.aload_n 0, 1) := by decide +kernel
theorem dX3_send_11 : decode cX3_send 11 = .ok (.getfield 25, 3) := by decide +kernel
theorem dX3_send_14 : decode cX3_send 14 = .ok (.iload_n 1, 1) := by decide +kernel
theorem dX3_send_15 : decode cX3_send 15 = .ok (.aaload, 1) := by decide +kernel
theorem dX3_send_16 : decode cX3_send 16 = .ok (.astore_n 2, 1) := by decide +kernel
theorem dX3_send_17 : decode cX3_send 17 = .ok (.aload_n 2, 1) := by decide +kernel
theorem dX3_send_18 : decode cX3_send 18 = .ok (.getfield 89, 3) := by decide +kernel
theorem dX3_send_21 : decode cX3_send 21 = .ok (.iconst 1, 1) := by decide +kernel
theorem dX3_send_22 : decode cX3_send 22 = .ok (.if_icmp .eq 6, 3) := by decide +kernel
theorem dX3_send_25 : decode cX3_send 25 = .ok (.bipush (-4), 2) := by decide +kernel
theorem dX3_send_27 : decode cX3_send 27 = .ok (.ireturn, 1) := by decide +kernel
theorem dX3_send_28 : decode cX3_send 28 = .ok (.aload_n 0, 1) := by decide +kernel
theorem dX3_send_29 : decode cX3_send 29 = .ok (.dup, 1) := by decide +kernel
theorem dX3_send_30 : decode cX3_send 30 = .ok (.getfield 159, 3) := by decide +kernel
theorem dX3_send_33 : decode cX3_send 33 = .ok (.iconst 1, 1) := by decide +kernel
theorem dX3_send_34 : decode cX3_send 34 = .ok (.iadd, 1) := by decide +kernel
theorem dX3_send_35 : decode cX3_send 35 = .ok (.putfield 159, 3) := by decide +kernel
theorem dX3_send_38 : decode cX3_send 38 = .ok (.aload_n 2, 1) := by decide +kernel
theorem dX3_send_39 : decode cX3_send 39 = .ok (.aload_n 0, 1) := by decide +kernel
theorem dX3_send_40 : decode cX3_send 40 = .ok (.getfield 159, 3) := by decide +kernel
theorem dX3_send_43 : decode cX3_send 43 = .ok (.invokevirtual 162, 3) := by decide +kernel
theorem dX3_send_46 : decode cX3_send 46 = .ok (.aload_n 2, 1) := by decide +kernel
theorem dX3_send_47 : decode cX3_send 47 = .ok (.getfield 165, 3) := by decide +kernel
theorem dX3_send_50 : decode cX3_send 50 = .ok (.ireturn, 1) := by decide +kernel
theorem dX3_vote_0 : decode cX3_vote 0 = .ok (.iload_n 1, 1) := by decide +kernel
theorem dX3_vote_1 : decode cX3_vote 1 = .ok (.invokestatic 168, 3) := by decide +kernel
theorem dX3_vote_4 : decode cX3_vote 4 = .ok (.ifCond .ne 6, 3) := by decide +kernel
theorem dX3_vote_7 : decode cX3_vote 7 = .ok (.bipush (-2), 2) := by decide +kernel
theorem dX3_vote_9 : decode cX3_vote 9 = .ok (.ireturn, 1) := by decide +kernel
theorem dX3_vote_10 : decode cX3_vote 10 = .ok (.aload_n 0, 1) := by decide +kernel
theorem dX3_vote_11 : decode cX3_vote 11 = .ok (.iload_n 1, 1) := by decide +kernel
theorem dX3_vote_12 : decode cX3_vote 12 = .ok (.invokevirtual 171, 3) := by decide +kernel
theorem dX3_vote_15 : decode cX3_vote 15 = .ok (.istore_n 2, 1) := by decide +kernel
theorem dX3_vote_16 : decode cX3_vote 16 = .ok (.iload_n 2, 1) := by decide +kernel
theorem dX3_vote_17 : decode cX3_vote 17 = .ok (.invokestatic 86, 3) := by decide +kernel
theorem dX3_vote_20 : decode cX3_vote 20 = .ok (.ifCond .ne 6, 3) := by decide +kernel
theorem dX3_vote_23 : decode cX3_vote 23 = .ok (.bipush (-4), 2) := by decide +kernel
theorem dX3_vote_25 : decode cX3_vote 25 = .ok (.ireturn, 1) := by decide +kernel
theorem dX3_vote_26 : decode cX3_vote 26 = .ok (.aload_n 0, 1) := by decide +kernel
theorem dX3_vote_27 : decode cX3_vote 27 = .ok (.getfield 25, 3) := by decide +kernel
theorem dX3_vote_30 : decode cX3_vote 30 = .ok (.iload_n 2, 1) := by decide +kernel
theorem dX3_vote_31 : decode cX3_vote 31 = .ok (.aaload, 1) := by decide +kernel
theorem dX3_vote_32 : decode cX3_vote 32 = .ok (.astore_n 3, 1) := by decide +kernel
theorem dX3_vote_33 : decode cX3_vote 33 = .ok (.aload_n 3, 1) := by decide +kernel
theorem dX3_vote_34 : decode cX3_vote 34 = .ok (.getfield 174, 3) := by decide +kernel
theorem dX3_vote_37 : decode cX3_vote 37 = .ok (.iload_n 1, 1) := by decide +kernel
theorem dX3_vote_38 : decode cX3_vote 38 = .ok (.aload_n 0, 1) := by decide +kernel
theorem dX3_vote_39 : decode cX3_vote 39 = .ok (.iload_n 1, 1) := by decide +kernel
theorem dX3_vote_40 : decode cX3_vote 40 = .ok (.aload_n 3, 1) := by decide +kernel
theorem dX3_vote_41 : decode cX3_vote 41 = .ok (.invokevirtual 177, 3) := by decide +kernel
theorem dX3_vote_44 : decode cX3_vote 44 = .ok (.iastore, 1) := by decide +kernel
theorem dX3_vote_45 : decode cX3_vote 45 = .ok (.aload_n 3, 1) := by decide +kernel
theorem dX3_vote_46 : decode cX3_vote 46 = .ok (.getfield 174, 3) := by decide +kernel
theorem dX3_vote_49 : decode cX3_vote 49 = .ok (.iload_n 1, 1) := by decide +kernel
theorem dX3_vote_50 : decode cX3_vote 50 = .ok (.iaload, 1) := by decide +kernel
theorem dX3_vote_51 : decode cX3_vote 51 = .ok (.ireturn, 1) := by decide +kernel
theorem dX3_settle_0 : decode cX3_settle 0 = .ok (.aload_n 0, 1) := by decide +kernel
theorem dX3_settle_1 : decode cX3_settle 1 = .ok (.iconst 0, 1) := by decide +kernel
theorem dX3_settle_2 : decode cX3_settle 2 = .ok (.invokevirtual 181, 3) := by decide +kernel
theorem dX3_settle_5 : decode cX3_settle 5 = .ok (.istore_n 1, 1) := by decide +kernel
theorem dX3_settle_6 : decode cX3_settle 6 = .ok (.iload_n 1, 1) := by decide +kernel
theorem dX3_settle_7 : decode cX3_settle 7 = .ok (.invokestatic 86, 3) := by decide +kernel
theorem dX3_settle_10 : decode cX3_settle 10 = .ok (.ifCond .ne 6, 3) := by decide +kernel
theorem dX3_settle_13 : decode cX3_settle 13 = .ok (.bipush (-4), 2) := by decide +kernel
theorem dX3_settle_15 : decode cX3_settle 15 = .ok (.ireturn, 1) := by decide +kernel
theorem dX3_settle_16 : decode cX3_settle 16 = .ok (.aload_n 0, 1) := by decide +kernel
theorem dX3_settle_17 : decode cX3_settle 17 = .ok (.getfield 25, 3) := by decide +kernel
theorem dX3_settle_20 : decode cX3_settle 20 = .ok (.iload_n 1, 1) := by decide +kernel
theorem dX3_settle_21 : decode cX3_settle 21 = .ok (.aaload, 1) := by decide +kernel
theorem dX3_settle_22 : decode cX3_settle 22 = .ok (.astore_n 2, 1) := by decide +kernel
theorem dX3_settle_23 : decode cX3_settle 23 = .ok (.aload_n 2, 1) := by decide +kernel
theorem dX3_settle_24 : decode cX3_settle 24 = .ok (.invokevirtual 184, 3) := by decide +kernel
theorem dX3_settle_27 : decode cX3_settle 27 = .ok (.ifCond .ne 6, 3) := by decide +kernel
theorem dX3_settle_30 : decode cX3_settle 30 = .ok (.bipush (-4), 2) := by decide +kernel
theorem dX3_settle_32 : decode cX3_settle 32 = .ok (.ireturn, 1) := by decide +kernel
theorem dX3_settle_33 : decode cX3_settle 33 = .ok (.aload_n 2, 1) := by decide +kernel
theorem dX3_settle_34 : decode cX3_settle 34 = .ok (.invokevirtual 188, 3) := by decide +kernel
theorem dX3_settle_37 : decode cX3_settle 37 = .ok (.ifCond .ne 24, 3) := by decide +kernel
theorem dX3_settle_40 : decode cX3_settle 40 = .ok (.aload_n 0, 1) := by decide +kernel
theorem dX3_settle_41 : decode cX3_settle 41 = .ok (.aload_n 2, 1) := by decide +kernel
theorem dX3_settle_42 : decode cX3_settle 42 = .ok (.aload_n 0, 1) := by decide +kernel
theorem dX3_settle_43 : decode cX3_settle 43 = .ok (.aload_n 2, 1) := by decide +kernel
theorem dX3_settle_44 : decode cX3_settle 44 = .ok (.invokevirtual 156, 3) := by decide +kernel
theorem dX3_settle_47 : decode cX3_settle 47 = .ok (.ifCond .eq 8, 3) := by decide +kernel
theorem dX3_settle_50 : decode cX3_settle 50 = .ok (.bipush (-11), 2) := by decide +kernel
theorem dX3_settle_52 : decode cX3_settle 52 = .ok (.goto 5, 3) := by decide +kernel
theorem dX3_settle_55 : decode cX3_settle 55 = .ok (.bipush (-12), 2) := by decide +kernel
theorem dX3_settle_57 : decode cX3_settle 57 = .ok (.invokevirtual 143, 3) := by decide +kernel
theorem dX3_settle_60 : decode cX3_settle 60 = .ok (.ireturn, 1) := by decide +kernel
theorem dX3_settle_61 : decode cX3_settle 61 = .ok (.aload_n 0, 1) := by decide +kernel
theorem dX3_settle_62 : decode cX3_settle 62 = .ok (.getfield 69, 3) := by decide +kernel
theorem dX3_settle_65 : decode cX3_settle 65 = .ok (.sipush 512, 3) := by decide +kernel
theorem dX3_settle_68 : decode cX3_settle 68 = .ok (.if_icmp .ge 12, 3) := by decide +kernel
theorem dX3_settle_71 : decode cX3_settle 71 = .ok (.aload_n 0, 1) := by decide +kernel
theorem dX3_settle_72 : decode cX3_settle 72 = .ok (.aload_n 2, 1) := by decide +kernel
theorem dX3_settle_73 : decode cX3_settle 73 = .ok (.iconst 3, 1) := by decide +kernel
theorem dX3_settle_74 : decode cX3_settle 74 = .ok (.invokevirtual 153, 3) := by decide +kernel
theorem dX3_settle_77 : decode cX3_settle 77 = .ok (.goto 5, 3) := by decide +kernel
theorem dX3_settle_80 : decode cX3_settle 80 = .ok (.bipush (-5), 2) := by decide +kernel
theorem dX3_settle_82 : decode cX3_settle 82 = .ok (.ireturn, 1) := by decide +kernel
theorem dX3_deal_0 : decode cX3_deal 0 = .ok (.iload_n 1, 1) := by decide +kernel
theorem dX3_deal_1 : decode cX3_deal 1 = .ok (.invokestatic 86, 3) := by decide +kernel
theorem dX3_deal_4 : decode cX3_deal 4 = .ok (.ifCond .ne 6, 3) := by decide +kernel
theorem dX3_deal_7 : decode cX3_deal 7 = .ok (.bipush (-2), 2) := by decide +kernel
theorem dX3_deal_9 : decode cX3_deal 9 = .ok (.ireturn, 1) := by decide +kernel
theorem dX3_deal_10 : decode cX3_deal 10 = .ok (.aload_n 0, 1) := by decide +kernel
theorem dX3_deal_11 : decode cX3_deal 11 = .ok (.getfield 25, 3) := by decide +kernel
theorem dX3_deal_14 : decode cX3_deal 14 = .ok (.iload_n 1, 1) := by decide +kernel
theorem dX3_deal_15 : decode cX3_deal 15 = .ok (.aaload, 1) := by decide +kernel
theorem dX3_deal_16 : decode cX3_deal 16 = .ok (.astore_n 3, 1) := by decide +kernel
theorem dX3_deal_17 : decode cX3_deal 17 = .ok (.iload_n 2, 1) := by decide +kernel
theorem dX3_deal_18 : decode cX3_deal 18 = .ok (.tableswitch 142 0 11 #[62, 67, 72, 77, 82, 87, 92, 105, 119, 125, 131, 137], 62) := by decide +kernel
theorem dX3_deal_80 : decode cX3_deal 80 = .ok (.aload_n 3, 1) := by decide +kernel
theorem dX3_deal_81 : decode cX3_deal 81 = .ok (.getfield 89, 3) := by decide +kernel
theorem dX3_deal_84 : decode cX3_deal 84 = .ok (.ireturn, 1) := by decide +kernel
theorem dX3_deal_85 : decode cX3_deal 85 = .ok (.aload_n 3, 1) := by decide +kernel
theorem dX3_deal_86 : decode cX3_deal 86 = .ok (.getfield 191, 3) := by decide +kernel
theorem dX3_deal_89 : decode cX3_deal 89 = .ok (.ireturn, 1) := by decide +kernel
theorem dX3_deal_90 : decode cX3_deal 90 = .ok (.aload_n 3, 1) := by decide +kernel
theorem dX3_deal_91 : decode cX3_deal 91 = .ok (.getfield 99, 3) := by decide +kernel
theorem dX3_deal_94 : decode cX3_deal 94 = .ok (.ireturn, 1) := by decide +kernel
theorem dX3_deal_95 : decode cX3_deal 95 = .ok (.aload_n 3, 1) := by decide +kernel
theorem dX3_deal_96 : decode cX3_deal 96 = .ok (.getfield 106, 3) := by decide +kernel
theorem dX3_deal_99 : decode cX3_deal 99 = .ok (.ireturn, 1) := by decide +kernel
theorem dX3_deal_100 : decode cX3_deal 100 = .ok (.aload_n 3, 1) := by decide +kernel
theorem dX3_deal_101 : decode cX3_deal 101 = .ok (.getfield 119, 3) := by decide +kernel
theorem dX3_deal_104 : decode cX3_deal 104 = .ok (.ireturn, 1) := by decide +kernel
theorem dX3_deal_105 : decode cX3_deal 105 = .ok (.aload_n 3, 1) := by decide +kernel
theorem dX3_deal_106 : decode cX3_deal 106 = .ok (.getfield 109, 3) := by decide +kernel
theorem dX3_deal_109 : decode cX3_deal 109 = .ok (.ireturn, 1) := by decide +kernel
theorem dX3_deal_110 : decode cX3_deal 110 = .ok (.aload_n 3, 1) := by decide +kernel
theorem dX3_deal_111 : decode cX3_deal 111 = .ok (.getfield 102, 3) := by decide +kernel
theorem dX3_deal_114 : decode cX3_deal 114 = .ok (.ifCond .eq 7, 3) := by decide +kernel
theorem dX3_deal_117 : decode cX3_deal 117 = .ok (.iconst 1, 1) := by decide +kernel
theorem dX3_deal_118 : decode cX3_deal 118 = .ok (.goto 4, 3) := by decide +kernel
theorem dX3_deal_121 : decode cX3_deal 121 = .ok (.iconst 0, 1) := by decide +kernel
theorem dX3_deal_122 : decode cX3_deal 122 = .ok (.ireturn, 1) := by decide +kernel
theorem dX3_deal_123 : decode cX3_deal 123 = .ok (.aload_n 0, 1) := by decide +kernel
theorem dX3_deal_124 : decode cX3_deal 124 = .ok (.aload_n 3, 1) := by decide +kernel
theorem dX3_deal_125 : decode cX3_deal 125 = .ok (.invokevirtual 194, 3) := by decide +kernel
theorem dX3_deal_128 : decode cX3_deal 128 = .ok (.ifCond .eq 7, 3) := by decide +kernel
theorem dX3_deal_131 : decode cX3_deal 131 = .ok (.iconst 1, 1) := by decide +kernel
theorem dX3_deal_132 : decode cX3_deal 132 = .ok (.goto 4, 3) := by decide +kernel
theorem dX3_deal_135 : decode cX3_deal 135 = .ok (.iconst 0, 1) := by decide +kernel
theorem dX3_deal_136 : decode cX3_deal 136 = .ok (.ireturn, 1) := by decide +kernel
theorem dX3_deal_137 : decode cX3_deal 137 = .ok (.aload_n 0, 1) := by decide +kernel
theorem dX3_deal_138 : decode cX3_deal 138 = .ok (.aload_n 3, 1) := by decide +kernel
theorem dX3_deal_139 : decode cX3_deal 139 = .ok (.invokevirtual 156, 3) := by decide +kernel
theorem dX3_deal_142 : decode cX3_deal 142 = .ok (.ireturn, 1) := by decide +kernel
theorem dX3_deal_143 : decode cX3_deal 143 = .ok (.aload_n 0, 1) := by decide +kernel
theorem dX3_deal_144 : decode cX3_deal 144 = .ok (.aload_n 3, 1) := by decide +kernel
theorem dX3_deal_145 : decode cX3_deal 145 = .ok (.invokevirtual 198, 3) := by decide +kernel
theorem dX3_deal_148 : decode cX3_deal 148 = .ok (.ireturn, 1) := by decide +kernel
theorem dX3_deal_149 : decode cX3_deal 149 = .ok (.aload_n 0, 1) := by decide +kernel
theorem dX3_deal_150 : decode cX3_deal 150 = .ok (.aload_n 3, 1) := by decide +kernel
theorem dX3_deal_151 : decode cX3_deal 151 = .ok (.invokevirtual 146, 3) := by decide +kernel
theorem dX3_deal_154 : decode cX3_deal 154 = .ok (.ireturn, 1) := by decide +kernel
theorem dX3_deal_155 : decode cX3_deal 155 = .ok (.aload_n 3, 1) := by decide +kernel
theorem dX3_deal_156 : decode cX3_deal 156 = .ok (.getfield 165, 3) := by decide +kernel
theorem dX3_deal_159 : decode cX3_deal 159 = .ok (.ireturn, 1) := by decide +kernel
theorem dX3_deal_160 : decode cX3_deal 160 = .ok (.bipush (-3), 2) := by decide +kernel
theorem dX3_deal_162 : decode cX3_deal 162 = .ok (.ireturn, 1) := by decide +kernel
theorem dX3_noted_0 : decode cX3_noted 0 = .ok (.iload_n 1, 1) := by decide +kernel
theorem dX3_noted_1 : decode cX3_noted 1 = .ok (.invokestatic 86, 3) := by decide +kernel
theorem dX3_noted_4 : decode cX3_noted 4 = .ok (.ifCond .eq 10, 3) := by decide +kernel
theorem dX3_noted_7 : decode cX3_noted 7 = .ok (.iload_n 2, 1) := by decide +kernel
theorem dX3_noted_8 : decode cX3_noted 8 = .ok (.invokestatic 58, 3) := by decide +kernel
theorem dX3_noted_11 : decode cX3_noted 11 = .ok (.ifCond .ne 6, 3) := by decide +kernel
theorem dX3_noted_14 : decode cX3_noted 14 = .ok (.bipush (-2), 2) := by decide +kernel
theorem dX3_noted_16 : decode cX3_noted 16 = .ok (.ireturn, 1) := by decide +kernel
theorem dX3_noted_17 : decode cX3_noted 17 = .ok (.aload_n 0, 1) := by decide +kernel
theorem dX3_noted_18 : decode cX3_noted 18 = .ok (.getfield 25, 3) := by decide +kernel
theorem dX3_noted_21 : decode cX3_noted 21 = .ok (.iload_n 1, 1) := by decide +kernel
theorem dX3_noted_22 : decode cX3_noted 22 = .ok (.aaload, 1) := by decide +kernel
theorem dX3_noted_23 : decode cX3_noted 23 = .ok (.astore 4, 2) := by decide +kernel
theorem dX3_noted_25 : decode cX3_noted 25 = .ok (.iload_n 3, 1) := by decide +kernel
theorem dX3_noted_26 : decode cX3_noted 26 = .ok (.tableswitch 98 0 2 #[26, 50, 74], 26) := by decide +kernel
theorem dX3_noted_52 : decode cX3_noted 52 = .ok (.aload 4, 2) := by decide +kernel
theorem dX3_noted_54 : decode cX3_noted 54 = .ok (.getfield 119, 3) := by decide +kernel
theorem dX3_noted_57 : decode cX3_noted 57 = .ok (.iload_n 2, 1) := by decide +kernel
theorem dX3_noted_58 : decode cX3_noted 58 = .ok (.invokestatic 112, 3) := by decide +kernel
theorem dX3_noted_61 : decode cX3_noted 61 = .ok (.ifCond .eq 13, 3) := by decide +kernel
theorem dX3_noted_64 : decode cX3_noted 64 = .ok (.aload 4, 2) := by decide +kernel
theorem dX3_noted_66 : decode cX3_noted 66 = .ok (.getfield 125, 3) := by decide +kernel
theorem dX3_noted_69 : decode cX3_noted 69 = .ok (.iload_n 2, 1) := by decide +kernel
theorem dX3_noted_70 : decode cX3_noted 70 = .ok (.iaload, 1) := by decide +kernel
theorem dX3_noted_71 : decode cX3_noted 71 = .ok (.goto 4, 3) := by decide +kernel
theorem dX3_noted_74 : decode cX3_noted 74 = .ok (.iconst (-1), 1) := by decide +kernel
theorem dX3_noted_75 : decode cX3_noted 75 = .ok (.ireturn, 1) := by decide +kernel
theorem dX3_noted_76 : decode cX3_noted 76 = .ok (.aload 4, 2) := by decide +kernel
theorem dX3_noted_78 : decode cX3_noted 78 = .ok (.getfield 119, 3) := by decide +kernel
theorem dX3_noted_81 : decode cX3_noted 81 = .ok (.iload_n 2, 1) := by decide +kernel
theorem dX3_noted_82 : decode cX3_noted 82 = .ok (.invokestatic 112, 3) := by decide +kernel
theorem dX3_noted_85 : decode cX3_noted 85 = .ok (.ifCond .eq 13, 3) := by decide +kernel
theorem dX3_noted_88 : decode cX3_noted 88 = .ok (.aload 4, 2) := by decide +kernel
theorem dX3_noted_90 : decode cX3_noted 90 = .ok (.getfield 201, 3) := by decide +kernel
theorem dX3_noted_93 : decode cX3_noted 93 = .ok (.iload_n 2, 1) := by decide +kernel
theorem dX3_noted_94 : decode cX3_noted 94 = .ok (.iaload, 1) := by decide +kernel
theorem dX3_noted_95 : decode cX3_noted 95 = .ok (.goto 4, 3) := by decide +kernel
theorem dX3_noted_98 : decode cX3_noted 98 = .ok (.iconst (-1), 1) := by decide +kernel
theorem dX3_noted_99 : decode cX3_noted 99 = .ok (.ireturn, 1) := by decide +kernel
theorem dX3_noted_100 : decode cX3_noted 100 = .ok (.aload 4, 2) := by decide +kernel
theorem dX3_noted_102 : decode cX3_noted 102 = .ok (.getfield 109, 3) := by decide +kernel
theorem dX3_noted_105 : decode cX3_noted 105 = .ok (.iload_n 2, 1) := by decide +kernel
theorem dX3_noted_106 : decode cX3_noted 106 = .ok (.invokestatic 112, 3) := by decide +kernel
theorem dX3_noted_109 : decode cX3_noted 109 = .ok (.ifCond .eq 13, 3) := by decide +kernel
theorem dX3_noted_112 : decode cX3_noted 112 = .ok (.aload 4, 2) := by decide +kernel
theorem dX3_noted_114 : decode cX3_noted 114 = .ok (.getfield 116, 3) := by decide +kernel
theorem dX3_noted_117 : decode cX3_noted 117 = .ok (.iload_n 2, 1) := by decide +kernel
theorem dX3_noted_118 : decode cX3_noted 118 = .ok (.iaload, 1) := by decide +kernel
theorem dX3_noted_119 : decode cX3_noted 119 = .ok (.goto 4, 3) := by decide +kernel
theorem dX3_noted_122 : decode cX3_noted 122 = .ok (.iconst (-1), 1) := by decide +kernel
theorem dX3_noted_123 : decode cX3_noted 123 = .ok (.ireturn, 1) := by decide +kernel
theorem dX3_noted_124 : decode cX3_noted 124 = .ok (.bipush (-3), 2) := by decide +kernel
theorem dX3_noted_126 : decode cX3_noted 126 = .ok (.ireturn, 1) := by decide +kernel
theorem dX3_sent_0 : decode cX3_sent 0 = .ok (.aload_n 0, 1) := by decide +kernel
theorem dX3_sent_1 : decode cX3_sent 1 = .ok (.iload_n 1, 1) := by decide +kernel
theorem dX3_sent_2 : decode cX3_sent 2 = .ok (.invokevirtual 181, 3) := by decide +kernel
theorem dX3_sent_5 : decode cX3_sent 5 = .ok (.istore_n 2, 1) := by decide +kernel
theorem dX3_sent_6 : decode cX3_sent 6 = .ok (.iload_n 2, 1) := by decide +kernel
theorem dX3_sent_7 : decode cX3_sent 7 = .ok (.iconst (-1), 1) := by decide +kernel
theorem dX3_sent_8 : decode cX3_sent 8 = .ok (.if_icmp .eq 7, 3) := by decide +kernel
theorem dX3_sent_11 : decode cX3_sent 11 = .ok (.iload_n 2, 1) := by decide +kernel
theorem dX3_sent_12 : decode cX3_sent 12 = .ok (.goto 5, 3) := by decide +kernel
theorem dX3_sent_15 : decode cX3_sent 15 = .ok (.bipush (-2), 2) := by decide +kernel
theorem dX3_sent_17 : decode cX3_sent 17 = .ok (.ireturn, 1) := by decide +kernel
theorem dX3_ballot_0 : decode cX3_ballot 0 = .ok (.iload_n 1, 1) := by decide +kernel
theorem dX3_ballot_1 : decode cX3_ballot 1 = .ok (.invokestatic 168, 3) := by decide +kernel
theorem dX3_ballot_4 : decode cX3_ballot 4 = .ok (.ifCond .eq 10, 3) := by decide +kernel
theorem dX3_ballot_7 : decode cX3_ballot 7 = .ok (.iload_n 2, 1) := by decide +kernel
theorem dX3_ballot_8 : decode cX3_ballot 8 = .ok (.invokestatic 86, 3) := by decide +kernel
theorem dX3_ballot_11 : decode cX3_ballot 11 = .ok (.ifCond .ne 6, 3) := by decide +kernel
theorem dX3_ballot_14 : decode cX3_ballot 14 = .ok (.bipush (-2), 2) := by decide +kernel
theorem dX3_ballot_16 : decode cX3_ballot 16 = .ok (.ireturn, 1) := by decide +kernel
theorem dX3_ballot_17 : decode cX3_ballot 17 = .ok (.aload_n 0, 1) := by decide +kernel
theorem dX3_ballot_18 : decode cX3_ballot 18 = .ok (.getfield 25, 3) := by decide +kernel
theorem dX3_ballot_21 : decode cX3_ballot 21 = .ok (.iload_n 2, 1) := by decide +kernel
theorem dX3_ballot_22 : decode cX3_ballot 22 = .ok (.aaload, 1) := by decide +kernel
theorem dX3_ballot_23 : decode cX3_ballot 23 = .ok (.astore_n 3, 1) := by decide +kernel
theorem dX3_ballot_24 : decode cX3_ballot 24 = .ok (.aload_n 3, 1) := by decide +kernel
theorem dX3_ballot_25 : decode cX3_ballot 25 = .ok (.getfield 89, 3) := by decide +kernel
theorem dX3_ballot_28 : decode cX3_ballot 28 = .ok (.iconst 3, 1) := by decide +kernel
theorem dX3_ballot_29 : decode cX3_ballot 29 = .ok (.if_icmp .ne 12, 3) := by decide +kernel
theorem dX3_ballot_32 : decode cX3_ballot 32 = .ok (.aload_n 3, 1) := by decide +kernel
theorem dX3_ballot_33 : decode cX3_ballot 33 = .ok (.getfield 174, 3) := by decide +kernel
theorem dX3_ballot_36 : decode cX3_ballot 36 = .ok (.iload_n 1, 1) := by decide +kernel
theorem dX3_ballot_37 : decode cX3_ballot 37 = .ok (.iaload, 1) := by decide +kernel
theorem dX3_ballot_38 : decode cX3_ballot 38 = .ok (.goto 5, 3) := by decide +kernel
theorem dX3_ballot_41 : decode cX3_ballot 41 = .ok (.bipush (-4), 2) := by decide +kernel
theorem dX3_ballot_43 : decode cX3_ballot 43 = .ok (.ireturn, 1) := by decide +kernel
theorem dX3_log_0 : decode cX3_log 0 = .ok (.aload_n 0, 1) := by decide +kernel
theorem dX3_log_1 : decode cX3_log 1 = .ok (.iload_n 1, 1) := by decide +kernel
theorem dX3_log_2 : decode cX3_log 2 = .ok (.invokevirtual 204, 3) := by decide +kernel
theorem dX3_log_5 : decode cX3_log 5 = .ok (.astore_n 3, 1) := by decide +kernel
theorem dX3_log_6 : decode cX3_log 6 = .ok (.aload_n 3, 1) := by decide +kernel
theorem dX3_log_7 : decode cX3_log 7 = .ok (.ifnonnull 6, 3) := by decide +kernel
theorem dX3_log_10 : decode cX3_log 10 = .ok (.bipush (-2), 2) := by decide +kernel
theorem dX3_log_12 : decode cX3_log 12 = .ok (.ireturn, 1) := by decide +kernel
theorem dX3_log_13 : decode cX3_log 13 = .ok (.iload_n 2, 1) := by decide +kernel
theorem dX3_log_14 : decode cX3_log 14 = .ok (.tableswitch 68 0 5 #[38, 43, 48, 53, 58, 63], 38) := by decide +kernel
theorem dX3_log_52 : decode cX3_log 52 = .ok (.aload_n 3, 1) := by decide +kernel
theorem dX3_log_53 : decode cX3_log 53 = .ok (.getfield 208, 3) := by decide +kernel
theorem dX3_log_56 : decode cX3_log 56 = .ok (.ireturn, 1) := by decide +kernel
theorem dX3_log_57 : decode cX3_log 57 = .ok (.aload_n 3, 1) := by decide +kernel
theorem dX3_log_58 : decode cX3_log 58 = .ok (.getfield 211, 3) := by decide +kernel
theorem dX3_log_61 : decode cX3_log 61 = .ok (.ireturn, 1) := by decide +kernel
theorem dX3_log_62 : decode cX3_log 62 = .ok (.aload_n 3, 1) := by decide +kernel
theorem dX3_log_63 : decode cX3_log 63 = .ok (.getfield 212, 3) := by decide +kernel
theorem dX3_log_66 : decode cX3_log 66 = .ok (.ireturn, 1) := by decide +kernel
theorem dX3_log_67 : decode cX3_log 67 = .ok (.aload_n 3, 1) := by decide +kernel
theorem dX3_log_68 : decode cX3_log 68 = .ok (.getfield 213, 3) := by decide +kernel
theorem dX3_log_71 : decode cX3_log 71 = .ok (.ireturn, 1) := by decide +kernel
theorem dX3_log_72 : decode cX3_log 72 = .ok (.aload_n 3, 1) := by decide +kernel
theorem dX3_log_73 : decode cX3_log 73 = .ok (.getfield 214, 3) := by decide +kernel
theorem dX3_log_76 : decode cX3_log 76 = .ok (.ireturn, 1) := by decide +kernel
theorem dX3_log_77 : decode cX3_log 77 = .ok (.aload_n 3, 1) := by decide +kernel
theorem dX3_log_78 : decode cX3_log 78 = .ok (.getfield 215, 3) := by decide +kernel
theorem dX3_log_81 : decode cX3_log 81 = .ok (.ireturn, 1) := by decide +kernel
theorem dX3_log_82 : decode cX3_log 82 = .ok (.bipush (-3), 2) := by decide +kernel
theorem dX3_log_84 : decode cX3_log 84 = .ok (.ireturn, 1) := by decide +kernel
theorem dX3_logged_0 : decode cX3_logged 0 = .ok (.aload_n 0, 1) := by decide +kernel
theorem dX3_logged_1 : decode cX3_logged 1 = .ok (.iload_n 1, 1) := by decide +kernel
theorem dX3_logged_2 : decode cX3_logged 2 = .ok (.invokevirtual 204, 3) := by decide +kernel
theorem dX3_logged_5 : decode cX3_logged 5 = .ok (.astore 4, 2) := by decide +kernel
theorem dX3_logged_7 : decode cX3_logged 7 = .ok (.aload 4, 2) := by decide +kernel
theorem dX3_logged_9 : decode cX3_logged 9 = .ok (.ifnull 10, 3) := by decide +kernel
theorem dX3_logged_12 : decode cX3_logged 12 = .ok (.iload_n 2, 1) := by decide +kernel
theorem dX3_logged_13 : decode cX3_logged 13 = .ok (.invokestatic 58, 3) := by decide +kernel
theorem dX3_logged_16 : decode cX3_logged 16 = .ok (.ifCond .ne 6, 3) := by decide +kernel
theorem dX3_logged_19 : decode cX3_logged 19 = .ok (.bipush (-2), 2) := by decide +kernel
theorem dX3_logged_21 : decode cX3_logged 21 = .ok (.ireturn, 1) := by decide +kernel
theorem dX3_logged_22 : decode cX3_logged 22 = .ok (.iload_n 3, 1) := by decide +kernel
theorem dX3_logged_23 : decode cX3_logged 23 = .ok (.lookupswitch 73 #[(0, 25), (1, 49)], 25) := by decide +kernel
theorem dX3_logged_48 : decode cX3_logged 48 = .ok (.aload 4, 2) := by decide +kernel
theorem dX3_logged_50 : decode cX3_logged 50 = .ok (.getfield 213, 3) := by decide +kernel
theorem dX3_logged_53 : decode cX3_logged 53 = .ok (.iload_n 2, 1) := by decide +kernel
theorem dX3_logged_54 : decode cX3_logged 54 = .ok (.invokestatic 112, 3) := by decide +kernel
theorem dX3_logged_57 : decode cX3_logged 57 = .ok (.ifCond .eq 13, 3) := by decide +kernel
theorem dX3_logged_60 : decode cX3_logged 60 = .ok (.aload 4, 2) := by decide +kernel
theorem dX3_logged_62 : decode cX3_logged 62 = .ok (.getfield 218, 3) := by decide +kernel
theorem dX3_logged_65 : decode cX3_logged 65 = .ok (.iload_n 2, 1) := by decide +kernel
theorem dX3_logged_66 : decode cX3_logged 66 = .ok (.iaload, 1) := by decide +kernel
theorem dX3_logged_67 : decode cX3_logged 67 = .ok (.goto 4, 3) := by decide +kernel
theorem dX3_logged_70 : decode cX3_logged 70 = .ok (.iconst (-1), 1) := by decide +kernel
theorem dX3_logged_71 : decode cX3_logged 71 = .ok (.ireturn, 1) := by decide +kernel
theorem dX3_logged_72 : decode cX3_logged 72 = .ok (.aload 4, 2) := by decide +kernel
theorem dX3_logged_74 : decode cX3_logged 74 = .ok (.getfield 214, 3) := by decide +kernel
theorem dX3_logged_77 : decode cX3_logged 77 = .ok (.iload_n 2, 1) := by decide +kernel
theorem dX3_logged_78 : decode cX3_logged 78 = .ok (.invokestatic 112, 3) := by decide +kernel
theorem dX3_logged_81 : decode cX3_logged 81 = .ok (.ifCond .eq 13, 3) := by decide +kernel
theorem dX3_logged_84 : decode cX3_logged 84 = .ok (.aload 4, 2) := by decide +kernel
theorem dX3_logged_86 : decode cX3_logged 86 = .ok (.getfield 219, 3) := by decide +kernel
theorem dX3_logged_89 : decode cX3_logged 89 = .ok (.iload_n 2, 1) := by decide +kernel
theorem dX3_logged_90 : decode cX3_logged 90 = .ok (.iaload, 1) := by decide +kernel
theorem dX3_logged_91 : decode cX3_logged 91 = .ok (.goto 4, 3) := by decide +kernel
theorem dX3_logged_94 : decode cX3_logged 94 = .ok (.iconst (-1), 1) := by decide +kernel
theorem dX3_logged_95 : decode cX3_logged 95 = .ok (.ireturn, 1) := by decide +kernel
theorem dX3_logged_96 : decode cX3_logged 96 = .ok (.bipush (-3), 2) := by decide +kernel
theorem dX3_logged_98 : decode cX3_logged 98 = .ok (.ireturn, 1) := by decide +kernel
theorem dX3_behind_0 : decode cX3_behind 0 = .ok (.aload_n 0, 1) := by decide +kernel
theorem dX3_behind_1 : decode cX3_behind 1 = .ok (.iload_n 1, 1) := by decide +kernel
theorem dX3_behind_2 : decode cX3_behind 2 = .ok (.invokevirtual 204, 3) := by decide +kernel
theorem dX3_behind_5 : decode cX3_behind 5 = .ok (.astore_n 3, 1) := by decide +kernel
theorem dX3_behind_6 : decode cX3_behind 6 = .ok (.aload_n 0, 1) := by decide +kernel
theorem dX3_behind_7 : decode cX3_behind 7 = .ok (.iload_n 2, 1) := by decide +kernel
theorem dX3_behind_8 : decode cX3_behind 8 = .ok (.invokevirtual 204, 3) := by decide +kernel
theorem dX3_behind_11 : decode cX3_behind 11 = .ok (.astore 4, 2) := by decide +kernel
theorem dX3_behind_13 : decode cX3_behind 13 = .ok (.aload_n 3, 1) := by decide +kernel
theorem dX3_behind_14 : decode cX3_behind 14 = .ok (.ifnull 13, 3) := by decide +kernel
theorem dX3_behind_17 : decode cX3_behind 17 = .ok (.aload 4, 2) := by decide +kernel
theorem dX3_behind_19 : decode cX3_behind 19 = .ok (.ifnull 8, 3) := by decide +kernel
theorem dX3_behind_22 : decode cX3_behind 22 = .ok (.iload_n 2, 1) := by decide +kernel
theorem dX3_behind_23 : decode cX3_behind 23 = .ok (.iload_n 1, 1) := by decide +kernel
theorem dX3_behind_24 : decode cX3_behind 24 = .ok (.if_icmp .lt 6, 3) := by decide +kernel
theorem dX3_behind_27 : decode cX3_behind 27 = .ok (.bipush (-2), 2) := by decide +kernel
theorem dX3_behind_29 : decode cX3_behind 29 = .ok (.ireturn, 1) := by decide +kernel
theorem dX3_behind_30 : decode cX3_behind 30 = .ok (.aload_n 3, 1) := by decide +kernel
theorem dX3_behind_31 : decode cX3_behind 31 = .ok (.iload_n 2, 1) := by decide +kernel
theorem dX3_behind_32 : decode cX3_behind 32 = .ok (.invokevirtual 220, 3) := by decide +kernel
theorem dX3_behind_35 : decode cX3_behind 35 = .ok (.ifCond .eq 7, 3) := by decide +kernel
theorem dX3_behind_38 : decode cX3_behind 38 = .ok (.iconst 1, 1) := by decide +kernel
theorem dX3_behind_39 : decode cX3_behind 39 = .ok (.goto 4, 3) := by decide +kernel
theorem dX3_behind_42 : decode cX3_behind 42 = .ok (.iconst 0, 1) := by decide +kernel
theorem dX3_behind_43 : decode cX3_behind 43 = .ok (.istore 5, 2) := by decide +kernel
theorem dX3_behind_45 : decode cX3_behind 45 = .ok (.aload_n 3, 1) := by decide +kernel
theorem dX3_behind_46 : decode cX3_behind 46 = .ok (.getfield 214, 3) := by decide +kernel
theorem dX3_behind_49 : decode cX3_behind 49 = .ok (.aload 4, 2) := by decide +kernel
theorem dX3_behind_51 : decode cX3_behind 51 = .ok (.getfield 214, 3) := by decide +kernel
theorem dX3_behind_54 : decode cX3_behind 54 = .ok (.iand, 1) := by decide +kernel
theorem dX3_behind_55 : decode cX3_behind 55 = .ok (.ifCond .eq 9, 3) := by decide +kernel
theorem dX3_behind_58 : decode cX3_behind 58 = .ok (.iload 5, 2) := by decide +kernel
theorem dX3_behind_60 : decode cX3_behind 60 = .ok (.iconst 2, 1) := by decide +kernel
theorem dX3_behind_61 : decode cX3_behind 61 = .ok (.ior, 1) := by decide +kernel
theorem dX3_behind_62 : decode cX3_behind 62 = .ok (.istore 5, 2) := by decide +kernel
theorem dX3_behind_64 : decode cX3_behind 64 = .ok (.aload_n 3, 1) := by decide +kernel
theorem dX3_behind_65 : decode cX3_behind 65 = .ok (.getfield 214, 3) := by decide +kernel
theorem dX3_behind_68 : decode cX3_behind 68 = .ok (.aload 4, 2) := by decide +kernel
theorem dX3_behind_70 : decode cX3_behind 70 = .ok (.getfield 213, 3) := by decide +kernel
theorem dX3_behind_73 : decode cX3_behind 73 = .ok (.iand, 1) := by decide +kernel
theorem dX3_behind_74 : decode cX3_behind 74 = .ok (.ifCond .eq 9, 3) := by decide +kernel
theorem dX3_behind_77 : decode cX3_behind 77 = .ok (.iload 5, 2) := by decide +kernel
theorem dX3_behind_79 : decode cX3_behind 79 = .ok (.iconst 4, 1) := by decide +kernel
theorem dX3_behind_80 : decode cX3_behind 80 = .ok (.ior, 1) := by decide +kernel
theorem dX3_behind_81 : decode cX3_behind 81 = .ok (.istore 5, 2) := by decide +kernel
theorem dX3_behind_83 : decode cX3_behind 83 = .ok (.iload 5, 2) := by decide +kernel
theorem dX3_behind_85 : decode cX3_behind 85 = .ok (.ireturn, 1) := by decide +kernel
theorem dX3_count_0 : decode cX3_count 0 = .ok (.iload_n 1, 1) := by decide +kernel
theorem dX3_count_1 : decode cX3_count 1 = .ok (.tableswitch 120 0 10 #[59, 64, 70, 76, 82, 87, 92, 97, 102, 107, 115], 59) := by decide +kernel
theorem dX3_count_60 : decode cX3_count 60 = .ok (.aload_n 0, 1) := by decide +kernel
theorem dX3_count_61 : decode cX3_count 61 = .ok (.getfield 69, 3) := by decide +kernel
theorem dX3_count_64 : decode cX3_count 64 = .ok (.ireturn, 1) := by decide +kernel
theorem dX3_count_65 : decode cX3_count 65 = .ok (.aload_n 0, 1) := by decide +kernel
theorem dX3_count_66 : decode cX3_count 66 = .ok (.iconst 1, 1) := by decide +kernel
theorem dX3_count_67 : decode cX3_count 67 = .ok (.invokevirtual 65, 3) := by decide +kernel
theorem dX3_count_70 : decode cX3_count 70 = .ok (.ireturn, 1) := by decide +kernel
theorem dX3_count_71 : decode cX3_count 71 = .ok (.aload_n 0, 1) := by decide +kernel
theorem dX3_count_72 : decode cX3_count 72 = .ok (.iconst 3, 1) := by decide +kernel
theorem dX3_count_73 : decode cX3_count 73 = .ok (.invokevirtual 65, 3) := by decide +kernel
theorem dX3_count_76 : decode cX3_count 76 = .ok (.ireturn, 1) := by decide +kernel
theorem dX3_count_77 : decode cX3_count 77 = .ok (.aload_n 0, 1) := by decide +kernel
theorem dX3_count_78 : decode cX3_count 78 = .ok (.iconst 2, 1) := by decide +kernel
theorem dX3_count_79 : decode cX3_count 79 = .ok (.invokevirtual 65, 3) := by decide +kernel
theorem dX3_count_82 : decode cX3_count 82 = .ok (.ireturn, 1) := by decide +kernel
theorem dX3_count_83 : decode cX3_count 83 = .ok (.aload_n 0, 1) := by decide +kernel
theorem dX3_count_84 : decode cX3_count 84 = .ok (.getfield 223, 3) := by decide +kernel
theorem dX3_count_87 : decode cX3_count 87 = .ok (.ireturn, 1) := by decide +kernel
theorem dX3_count_88 : decode cX3_count 88 = .ok (.aload_n 0, 1) := by decide +kernel
theorem dX3_count_89 : decode cX3_count 89 = .ok (.getfield 226, 3) := by decide +kernel
theorem dX3_count_92 : decode cX3_count 92 = .ok (.ireturn, 1) := by decide +kernel
theorem dX3_count_93 : decode cX3_count 93 = .ok (.aload_n 0, 1) := by decide +kernel
theorem dX3_count_94 : decode cX3_count 94 = .ok (.getfield 229, 3) := by decide +kernel
theorem dX3_count_97 : decode cX3_count 97 = .ok (.ireturn, 1) := by decide +kernel
theorem dX3_count_98 : decode cX3_count 98 = .ok (.aload_n 0, 1) := by decide +kernel
theorem dX3_count_99 : decode cX3_count 99 = .ok (.getfield 92, 3) := by decide +kernel
theorem dX3_count_102 : decode cX3_count 102 = .ok (.ireturn, 1) := by decide +kernel
theorem dX3_count_103 : decode cX3_count 103 = .ok (.aload_n 0, 1) := by decide +kernel
theorem dX3_count_104 : decode cX3_count 104 = .ok (.getfield 83, 3) := by decide +kernel
theorem dX3_count_107 : decode cX3_count 107 = .ok (.ireturn, 1) := by decide +kernel
theorem dX3_count_108 : decode cX3_count 108 = .ok (.aload_n 0, 1) := by decide +kernel
theorem dX3_count_109 : decode cX3_count 109 = .ok (.getfield 10, 3) := by decide +kernel
theorem dX3_count_112 : decode cX3_count 112 = .ok (.getfield 41, 3) := by decide +kernel
theorem dX3_count_115 : decode cX3_count 115 = .ok (.ireturn, 1) := by decide +kernel
theorem dX3_count_116 : decode cX3_count 116 = .ok (.aload_n 0, 1) := by decide +kernel
theorem dX3_count_117 : decode cX3_count 117 = .ok (.invokevirtual 232, 3) := by decide +kernel
theorem dX3_count_120 : decode cX3_count 120 = .ok (.ireturn, 1) := by decide +kernel
theorem dX3_count_121 : decode cX3_count 121 = .ok (.bipush (-3), 2) := by decide +kernel
theorem dX3_count_123 : decode cX3_count 123 = .ok (.ireturn, 1) := by decide +kernel
theorem dX3_startAnew_0 : decode cX3_startAnew 0 = .ok (.iconst 0, 1) := by decide +kernel
theorem dX3_startAnew_1 : decode cX3_startAnew 1 = .ok (.istore_n 1, 1) := by decide +kernel
theorem dX3_startAnew_2 : decode cX3_startAnew 2 = .ok (.iload_n 1, 1) := by decide +kernel
theorem dX3_startAnew_3 : decode cX3_startAnew 3 = .ok (.bipush 8, 2) := by decide +kernel
theorem dX3_startAnew_5 : decode cX3_startAnew 5 = .ok (.if_icmp .ge 23, 3) := by decide +kernel
theorem dX3_startAnew_8 : decode cX3_startAnew 8 = .ok (.aload_n 0, 1) := by decide +kernel
theorem dX3_startAnew_9 : decode cX3_startAnew 9 = .ok (.getfield 16, 3) := by decide +kernel
theorem dX3_startAnew_12 : decode cX3_startAnew 12 = .ok (.iload_n 1, 1) := by decide +kernel
theorem dX3_startAnew_13 : decode cX3_startAnew 13 = .ok (.iconst 0, 1) := by decide +kernel
theorem dX3_startAnew_14 : decode cX3_startAnew 14 = .ok (.iastore, 1) := by decide +kernel
theorem dX3_startAnew_15 : decode cX3_startAnew 15 = .ok (.aload_n 0, 1) := by decide +kernel
theorem dX3_startAnew_16 : decode cX3_startAnew 16 = .ok (.getfield 20, 3) := by decide +kernel
theorem dX3_startAnew_19 : decode cX3_startAnew 19 = .ok (.iload_n 1, 1) := by decide +kernel
theorem dX3_startAnew_20 : decode cX3_startAnew 20 = .ok (.iconst 0, 1) := by decide +kernel
theorem dX3_startAnew_21 : decode cX3_startAnew 21 = .ok (.iastore, 1) := by decide +kernel
theorem dX3_startAnew_22 : decode cX3_startAnew 22 = .ok (.iinc 1 1, 3) := by decide +kernel
theorem dX3_startAnew_25 : decode cX3_startAnew 25 = .ok (.goto (-23), 3) := by decide +kernel
theorem dX3_startAnew_28 : decode cX3_startAnew 28 = .ok (.aload_n 0, 1) := by decide +kernel
theorem dX3_startAnew_29 : decode cX3_startAnew 29 = .ok (.getfield 25, 3) := by decide +kernel
theorem dX3_startAnew_32 : decode cX3_startAnew 32 = .ok (.astore_n 1, 1) := by decide +kernel
theorem dX3_startAnew_33 : decode cX3_startAnew 33 = .ok (.aload_n 1, 1) := by decide +kernel
theorem dX3_startAnew_34 : decode cX3_startAnew 34 = .ok (.arraylength, 1) := by decide +kernel
theorem dX3_startAnew_35 : decode cX3_startAnew 35 = .ok (.istore_n 2, 1) := by decide +kernel
theorem dX3_startAnew_36 : decode cX3_startAnew 36 = .ok (.iconst 0, 1) := by decide +kernel
theorem dX3_startAnew_37 : decode cX3_startAnew 37 = .ok (.istore_n 3, 1) := by decide +kernel
theorem dX3_startAnew_38 : decode cX3_startAnew 38 = .ok (.iload_n 3, 1) := by decide +kernel
theorem dX3_startAnew_39 : decode cX3_startAnew 39 = .ok (.iload_n 2, 1) := by decide +kernel
theorem dX3_startAnew_40 : decode cX3_startAnew 40 = .ok (.if_icmp .ge 20, 3) := by decide +kernel
theorem dX3_startAnew_43 : decode cX3_startAnew 43 = .ok (.aload_n 1, 1) := by decide +kernel
theorem dX3_startAnew_44 : decode cX3_startAnew 44 = .ok (.iload_n 3, 1) := by decide +kernel
theorem dX3_startAnew_45 : decode cX3_startAnew 45 = .ok (.aaload, 1) := by decide +kernel
theorem dX3_startAnew_46 : decode cX3_startAnew 46 = .ok (.astore 4, 2) := by decide +kernel
theorem dX3_startAnew_48 : decode cX3_startAnew 48 = .ok (.aload 4, 2) := by decide +kernel
theorem dX3_startAnew_50 : decode cX3_startAnew 50 = .ok (.iconst 0, 1) := by decide +kernel
theorem dX3_startAnew_51 : decode cX3_startAnew 51 = .ok (.invokevirtual 235, 3) := by decide +kernel
theorem dX3_startAnew_54 : decode cX3_startAnew 54 = .ok (.iinc 3 1, 3) := by decide +kernel
theorem dX3_startAnew_57 : decode cX3_startAnew 57 = .ok (.goto (-19), 3) := by decide +kernel
theorem dX3_startAnew_60 : decode cX3_startAnew 60 = .ok (.aload_n 0, 1) := by decide +kernel
theorem dX3_startAnew_61 : decode cX3_startAnew 61 = .ok (.iconst 0, 1) := by decide +kernel
theorem dX3_startAnew_62 : decode cX3_startAnew 62 = .ok (.putfield 69, 3) := by decide +kernel
theorem dX3_startAnew_65 : decode cX3_startAnew 65 = .ok (.aload_n 0, 1) := by decide +kernel
theorem dX3_startAnew_66 : decode cX3_startAnew 66 = .ok (.iconst 3, 1) := by decide +kernel
theorem dX3_startAnew_67 : decode cX3_startAnew 67 = .ok (.putfield 83, 3) := by decide +kernel
theorem dX3_startAnew_70 : decode cX3_startAnew 70 = .ok (.aload_n 0, 1) := by decide +kernel
theorem dX3_startAnew_71 : decode cX3_startAnew 71 = .ok (.iconst 0, 1) := by decide +kernel
theorem dX3_startAnew_72 : decode cX3_startAnew 72 = .ok (.putfield 92, 3) := by decide +kernel
theorem dX3_startAnew_75 : decode cX3_startAnew 75 = .ok (.aload_n 0, 1) := by decide +kernel
theorem dX3_startAnew_76 : decode cX3_startAnew 76 = .ok (.iconst 0, 1) := by decide +kernel
theorem dX3_startAnew_77 : decode cX3_startAnew 77 = .ok (.putfield 159, 3) := by decide +kernel
theorem dX3_startAnew_80 : decode cX3_startAnew 80 = .ok (.aload_n 0, 1) := by decide +kernel
theorem dX3_startAnew_81 : decode cX3_startAnew 81 = .ok (.iconst 0, 1) := by decide +kernel
theorem dX3_startAnew_82 : decode cX3_startAnew 82 = .ok (.putfield 223, 3) := by decide +kernel
theorem dX3_startAnew_85 : decode cX3_startAnew 85 = .ok (.aload_n 0, 1) := by decide +kernel
theorem dX3_startAnew_86 : decode cX3_startAnew 86 = .ok (.iconst 0, 1) := by decide +kernel
theorem dX3_startAnew_87 : decode cX3_startAnew 87 = .ok (.putfield 226, 3) := by decide +kernel
theorem dX3_startAnew_90 : decode cX3_startAnew 90 = .ok (.aload_n 0, 1) := by decide +kernel
theorem dX3_startAnew_91 : decode cX3_startAnew 91 = .ok (.iconst 0, 1) := by decide +kernel
theorem dX3_startAnew_92 : decode cX3_startAnew 92 = .ok (.putfield 229, 3) := by decide +kernel
theorem dX3_startAnew_95 : decode cX3_startAnew 95 = .ok (.return_, 1) := by decide +kernel
theorem dX3_doClause_0 : decode cX3_doClause 0 = .ok (.aload_n 0, 1) := by decide +kernel
theorem dX3_doClause_1 : decode cX3_doClause 1 = .ok (.getfield 10, 3) := by decide +kernel
theorem dX3_doClause_4 : decode cX3_doClause 4 = .ok (.iload_n 1, 1) := by decide +kernel
theorem dX3_doClause_5 : decode cX3_doClause 5 = .ok (.iconst 0, 1) := by decide +kernel
theorem dX3_doClause_6 : decode cX3_doClause 6 = .ok (.invokevirtual 239, 3) := by decide +kernel
theorem dX3_doClause_9 : decode cX3_doClause 9 = .ok (.istore_n 2, 1) := by decide +kernel
theorem dX3_doClause_10 : decode cX3_doClause 10 = .ok (.aload_n 0, 1) := by decide +kernel
theorem dX3_doClause_11 : decode cX3_doClause 11 = .ok (.getfield 10, 3) := by decide +kernel
theorem dX3_doClause_14 : decode cX3_doClause 14 = .ok (.iload_n 1, 1) := by decide +kernel
theorem dX3_doClause_15 : decode cX3_doClause 15 = .ok (.iconst 1, 1) := by decide +kernel
theorem dX3_doClause_16 : decode cX3_doClause 16 = .ok (.invokevirtual 239, 3) := by decide +kernel
theorem dX3_doClause_19 : decode cX3_doClause 19 = .ok (.istore_n 3, 1) := by decide +kernel
theorem dX3_doClause_20 : decode cX3_doClause 20 = .ok (.aload_n 0, 1) := by decide +kernel
theorem dX3_doClause_21 : decode cX3_doClause 21 = .ok (.getfield 10, 3) := by decide +kernel
theorem dX3_doClause_24 : decode cX3_doClause 24 = .ok (.iload_n 1, 1) := by decide +kernel
theorem dX3_doClause_25 : decode cX3_doClause 25 = .ok (.iconst 2, 1) := by decide +kernel
theorem dX3_doClause_26 : decode cX3_doClause 26 = .ok (.invokevirtual 239, 3) := by decide +kernel
theorem dX3_doClause_29 : decode cX3_doClause 29 = .ok (.istore 4, 2) := by decide +kernel
theorem dX3_doClause_31 : decode cX3_doClause 31 = .ok (.aload_n 0, 1) := by decide +kernel
theorem dX3_doClause_32 : decode cX3_doClause 32 = .ok (.getfield 10, 3) := by decide +kernel
theorem dX3_doClause_35 : decode cX3_doClause 35 = .ok (.iload_n 1, 1) := by decide +kernel
theorem dX3_doClause_36 : decode cX3_doClause 36 = .ok (.invokevirtual 243, 3) := by decide +kernel
theorem dX3_doClause_39 : decode cX3_doClause 39 = .ok (.tableswitch 107 0 6 #[41, 48, 58, 67, 76, 86, 98], 41) := by decide +kernel
theorem dX3_doClause_80 : decode cX3_doClause 80 = .ok (.aload_n 0, 1) := by decide +kernel
theorem dX3_doClause_81 : decode cX3_doClause 81 = .ok (.invokevirtual 38, 3) := by decide +kernel
theorem dX3_doClause_84 : decode cX3_doClause 84 = .ok (.goto 62, 3) := by decide +kernel
theorem dX3_doClause_87 : decode cX3_doClause 87 = .ok (.aload_n 0, 1) := by decide +kernel
theorem dX3_doClause_88 : decode cX3_doClause 88 = .ok (.iload_n 2, 1) := by decide +kernel
theorem dX3_doClause_89 : decode cX3_doClause 89 = .ok (.iload_n 3, 1) := by decide +kernel
theorem dX3_doClause_90 : decode cX3_doClause 90 = .ok (.invokevirtual 246, 3) := by decide +kernel
theorem dX3_doClause_93 : decode cX3_doClause 93 = .ok (.pop, 1) := by decide +kernel
theorem dX3_doClause_94 : decode cX3_doClause 94 = .ok (.goto 52, 3) := by decide +kernel
theorem dX3_doClause_97 : decode cX3_doClause 97 = .ok (.aload_n 0, 1) := by decide +kernel
theorem dX3_doClause_98 : decode cX3_doClause 98 = .ok (.iload_n 2, 1) := by decide +kernel
theorem dX3_doClause_99 : decode cX3_doClause 99 = .ok (.invokevirtual 249, 3) := by decide +kernel
theorem dX3_doClause_102 : decode cX3_doClause 102 = .ok (.pop, 1) := by decide +kernel
theorem dX3_doClause_103 : decode cX3_doClause 103 = .ok (.goto 43, 3) := by decide +kernel
theorem dX3_doClause_106 : decode cX3_doClause 106 = .ok (.aload_n 0, 1) := by decide +kernel
theorem dX3_doClause_107 : decode cX3_doClause 107 = .ok (.iload_n 2, 1) := by decide +kernel
theorem dX3_doClause_108 : decode cX3_doClause 108 = .ok (.invokevirtual 252, 3) := by decide +kernel
theorem dX3_doClause_111 : decode cX3_doClause 111 = .ok (.pop, 1) := by decide +kernel
theorem dX3_doClause_112 : decode cX3_doClause 112 = .ok (.goto 34, 3) := by decide +kernel
theorem dX3_doClause_115 : decode cX3_doClause 115 = .ok (.aload_n 0, 1) := by decide +kernel
theorem dX3_doClause_116 : decode cX3_doClause 116 = .ok (.iload_n 2, 1) := by decide +kernel
theorem dX3_doClause_117 : decode cX3_doClause 117 = .ok (.iload_n 3, 1) := by decide +kernel
theorem dX3_doClause_118 : decode cX3_doClause 118 = .ok (.invokevirtual 255, 3) := by decide +kernel
theorem dX3_doClause_121 : decode cX3_doClause 121 = .ok (.pop, 1) := by decide +kernel
theorem dX3_doClause_122 : decode cX3_doClause 122 = .ok (.goto 24, 3) := by decide +kernel
theorem dX3_doClause_125 : decode cX3_doClause 125 = .ok (.aload_n 0, 1) := by decide +kernel
theorem dX3_doClause_126 : decode cX3_doClause 126 = .ok (.iload_n 2, 1) := by decide +kernel
theorem dX3_doClause_127 : decode cX3_doClause 127 = .ok (.iload_n 3, 1) := by decide +kernel
theorem dX3_doClause_128 : decode cX3_doClause 128 = .ok (.iload 4, 2) := by decide +kernel
theorem dX3_doClause_130 : decode cX3_doClause 130 = .ok (.invokevirtual 258, 3) := by decide +kernel
theorem dX3_doClause_133 : decode cX3_doClause 133 = .ok (.pop, 1) := by decide +kernel
theorem dX3_doClause_134 : decode cX3_doClause 134 = .ok (.goto 12, 3) := by decide +kernel
theorem dX3_doClause_137 : decode cX3_doClause 137 = .ok (.aload_n 0, 1) := by decide +kernel
theorem dX3_doClause_138 : decode cX3_doClause 138 = .ok (.iload_n 2, 1) := by decide +kernel
theorem dX3_doClause_139 : decode cX3_doClause 139 = .ok (.invokevirtual 262, 3) := by decide +kernel
theorem dX3_doClause_142 : decode cX3_doClause 142 = .ok (.pop, 1) := by decide +kernel
theorem dX3_doClause_143 : decode cX3_doClause 143 = .ok (.goto 3, 3) := by decide +kernel
theorem dX3_doClause_146 : decode cX3_doClause 146 = .ok (.return_, 1) := by decide +kernel
theorem dX3_isItem_0 : decode cX3_isItem 0 = .ok (.iload_n 0, 1) := by decide +kernel
theorem dX3_isItem_1 : decode cX3_isItem 1 = .ok (.ifCond .lt 13, 3) := by decide +kernel
theorem dX3_isItem_4 : decode cX3_isItem 4 = .ok (.iload_n 0, 1) := by decide +kernel
theorem dX3_isItem_5 : decode cX3_isItem 5 = .ok (.bipush 8, 2) := by decide +kernel
theorem dX3_isItem_7 : decode cX3_isItem 7 = .ok (.if_icmp .ge 7, 3) := by decide +kernel
theorem dX3_isItem_10 : decode cX3_isItem 10 = .ok (.iconst 1, 1) := by decide +kernel
theorem dX3_isItem_11 : decode cX3_isItem 11 = .ok (.goto 4, 3) := by decide +kernel
theorem dX3_isItem_14 : decode cX3_isItem 14 = .ok (.iconst 0, 1) := by decide +kernel
theorem dX3_isItem_15 : decode cX3_isItem 15 = .ok (.ireturn, 1) := by decide +kernel
theorem dX3_isDeal_0 : decode cX3_isDeal 0 = .ok (.iload_n 0, 1) := by decide +kernel
theorem dX3_isDeal_1 : decode cX3_isDeal 1 = .ok (.ifCond .lt 13, 3) := by decide +kernel
theorem dX3_isDeal_4 : decode cX3_isDeal 4 = .ok (.iload_n 0, 1) := by decide +kernel
theorem dX3_isDeal_5 : decode cX3_isDeal 5 = .ok (.bipush 6, 2) := by decide +kernel
theorem dX3_isDeal_7 : decode cX3_isDeal 7 = .ok (.if_icmp .ge 7, 3) := by decide +kernel
theorem dX3_isDeal_10 : decode cX3_isDeal 10 = .ok (.iconst 1, 1) := by decide +kernel
theorem dX3_isDeal_11 : decode cX3_isDeal 11 = .ok (.goto 4, 3) := by decide +kernel
theorem dX3_isDeal_14 : decode cX3_isDeal 14 = .ok (.iconst 0, 1) := by decide +kernel
theorem dX3_isDeal_15 : decode cX3_isDeal 15 = .ok (.ireturn, 1) := by decide +kernel
theorem dX3_isValidator_0 : decode cX3_isValidator 0 = .ok (.iload_n 0, 1) := by decide +kernel
theorem dX3_isValidator_1 : decode cX3_isValidator 1 = .ok (.ifCond .lt 12, 3) := by decide +kernel
theorem dX3_isValidator_4 : decode cX3_isValidator 4 = .ok (.iload_n 0, 1) := by decide +kernel
theorem dX3_isValidator_5 : decode cX3_isValidator 5 = .ok (.iconst 2, 1) := by decide +kernel
theorem dX3_isValidator_6 : decode cX3_isValidator 6 = .ok (.if_icmp .ge 7, 3) := by decide +kernel
theorem dX3_isValidator_9 : decode cX3_isValidator 9 = .ok (.iconst 1, 1) := by decide +kernel
theorem dX3_isValidator_10 : decode cX3_isValidator 10 = .ok (.goto 4, 3) := by decide +kernel
theorem dX3_isValidator_13 : decode cX3_isValidator 13 = .ok (.iconst 0, 1) := by decide +kernel
theorem dX3_isValidator_14 : decode cX3_isValidator 14 = .ok (.ireturn, 1) := by decide +kernel
theorem dX3_isValue_0 : decode cX3_isValue 0 = .ok (.iload_n 0, 1) := by decide +kernel
theorem dX3_isValue_1 : decode cX3_isValue 1 = .ok (.ifCond .lt 14, 3) := by decide +kernel
theorem dX3_isValue_4 : decode cX3_isValue 4 = .ok (.iload_n 0, 1) := by decide +kernel
theorem dX3_isValue_5 : decode cX3_isValue 5 = .ok (.sipush 9999, 3) := by decide +kernel
theorem dX3_isValue_8 : decode cX3_isValue 8 = .ok (.if_icmp .gt 7, 3) := by decide +kernel
theorem dX3_isValue_11 : decode cX3_isValue 11 = .ok (.iconst 1, 1) := by decide +kernel
theorem dX3_isValue_12 : decode cX3_isValue 12 = .ok (.goto 4, 3) := by decide +kernel
theorem dX3_isValue_15 : decode cX3_isValue 15 = .ok (.iconst 0, 1) := by decide +kernel
theorem dX3_isValue_16 : decode cX3_isValue 16 = .ok (.ireturn, 1) := by decide +kernel
theorem dX3_bit_0 : decode cX3_bit 0 = .ok (.iconst 1, 1) := by decide +kernel
theorem dX3_bit_1 : decode cX3_bit 1 = .ok (.iload_n 0, 1) := by decide +kernel
theorem dX3_bit_2 : decode cX3_bit 2 = .ok (.ishl, 1) := by decide +kernel
theorem dX3_bit_3 : decode cX3_bit 3 = .ok (.ireturn, 1) := by decide +kernel
theorem dX3_has_0 : decode cX3_has 0 = .ok (.iload_n 0, 1) := by decide +kernel
theorem dX3_has_1 : decode cX3_has 1 = .ok (.iload_n 1, 1) := by decide +kernel
theorem dX3_has_2 : decode cX3_has 2 = .ok (.invokestatic 128, 3) := by decide +kernel
theorem dX3_has_5 : decode cX3_has 5 = .ok (.iand, 1) := by decide +kernel
theorem dX3_has_6 : decode cX3_has 6 = .ok (.ifCond .eq 7, 3) := by decide +kernel
theorem dX3_has_9 : decode cX3_has 9 = .ok (.iconst 1, 1) := by decide +kernel
theorem dX3_has_10 : decode cX3_has 10 = .ok (.goto 4, 3) := by decide +kernel
theorem dX3_has_13 : decode cX3_has 13 = .ok (.iconst 0, 1) := by decide +kernel
theorem dX3_has_14 : decode cX3_has 14 = .ok (.ireturn, 1) := by decide +kernel
theorem dX3_howMany_0 : decode cX3_howMany 0 = .ok (.iconst 0, 1) := by decide +kernel
theorem dX3_howMany_1 : decode cX3_howMany 1 = .ok (.istore_n 2, 1) := by decide +kernel
theorem dX3_howMany_2 : decode cX3_howMany 2 = .ok (.aload_n 0, 1) := by decide +kernel
theorem dX3_howMany_3 : decode cX3_howMany 3 = .ok (.getfield 25, 3) := by decide +kernel
theorem dX3_howMany_6 : decode cX3_howMany 6 = .ok (.astore_n 3, 1) := by decide +kernel
theorem dX3_howMany_7 : decode cX3_howMany 7 = .ok (.aload_n 3, 1) := by decide +kernel
theorem dX3_howMany_8 : decode cX3_howMany 8 = .ok (.arraylength, 1) := by decide +kernel
theorem dX3_howMany_9 : decode cX3_howMany 9 = .ok (.istore 4, 2) := by decide +kernel
theorem dX3_howMany_11 : decode cX3_howMany 11 = .ok (.iconst 0, 1) := by decide +kernel
theorem dX3_howMany_12 : decode cX3_howMany 12 = .ok (.istore 5, 2) := by decide +kernel
theorem dX3_howMany_14 : decode cX3_howMany 14 = .ok (.iload 5, 2) := by decide +kernel
theorem dX3_howMany_16 : decode cX3_howMany 16 = .ok (.iload 4, 2) := by decide +kernel
theorem dX3_howMany_18 : decode cX3_howMany 18 = .ok (.if_icmp .ge 27, 3) := by decide +kernel
theorem dX3_howMany_21 : decode cX3_howMany 21 = .ok (.aload_n 3, 1) := by decide +kernel
theorem dX3_howMany_22 : decode cX3_howMany 22 = .ok (.iload 5, 2) := by decide +kernel
theorem dX3_howMany_24 : decode cX3_howMany 24 = .ok (.aaload, 1) := by decide +kernel
theorem dX3_howMany_25 : decode cX3_howMany 25 = .ok (.astore 6, 2) := by decide +kernel
theorem dX3_howMany_27 : decode cX3_howMany 27 = .ok (.aload 6, 2) := by decide +kernel
theorem dX3_howMany_29 : decode cX3_howMany 29 = .ok (.getfield 89, 3) := by decide +kernel
theorem dX3_howMany_32 : decode cX3_howMany 32 = .ok (.iload_n 1, 1) := by decide +kernel
theorem dX3_howMany_33 : decode cX3_howMany 33 = .ok (.if_icmp .ne 6, 3) := by decide +kernel
theorem dX3_howMany_36 : decode cX3_howMany 36 = .ok (.iinc 2 1, 3) := by decide +kernel
theorem dX3_howMany_39 : decode cX3_howMany 39 = .ok (.iinc 5 1, 3) := by decide +kernel
theorem dX3_howMany_42 : decode cX3_howMany 42 = .ok (.goto (-28), 3) := by decide +kernel
theorem dX3_howMany_45 : decode cX3_howMany 45 = .ok (.iload_n 2, 1) := by decide +kernel
theorem dX3_howMany_46 : decode cX3_howMany 46 = .ok (.ireturn, 1) := by decide +kernel
theorem dX3_allValues_0 : decode cX3_allValues 0 = .ok (.iconst 0, 1) := by decide +kernel
theorem dX3_allValues_1 : decode cX3_allValues 1 = .ok (.istore_n 1, 1) := by decide +kernel
theorem dX3_allValues_2 : decode cX3_allValues 2 = .ok (.aload_n 0, 1) := by decide +kernel
theorem dX3_allValues_3 : decode cX3_allValues 3 = .ok (.getfield 16, 3) := by decide +kernel
theorem dX3_allValues_6 : decode cX3_allValues 6 = .ok (.astore_n 2, 1) := by decide +kernel
theorem dX3_allValues_7 : decode cX3_allValues 7 = .ok (.aload_n 2, 1) := by decide +kernel
theorem dX3_allValues_8 : decode cX3_allValues 8 = .ok (.arraylength, 1) := by decide +kernel
theorem dX3_allValues_9 : decode cX3_allValues 9 = .ok (.istore_n 3, 1) := by decide +kernel
theorem dX3_allValues_10 : decode cX3_allValues 10 = .ok (.iconst 0, 1) := by decide +kernel
theorem dX3_allValues_11 : decode cX3_allValues 11 = .ok (.istore 4, 2) := by decide +kernel
theorem dX3_allValues_13 : decode cX3_allValues 13 = .ok (.iload 4, 2) := by decide +kernel
theorem dX3_allValues_15 : decode cX3_allValues 15 = .ok (.iload_n 3, 1) := by decide +kernel
theorem dX3_allValues_16 : decode cX3_allValues 16 = .ok (.if_icmp .ge 20, 3) := by decide +kernel
theorem dX3_allValues_19 : decode cX3_allValues 19 = .ok (.aload_n 2, 1) := by decide +kernel
theorem dX3_allValues_20 : decode cX3_allValues 20 = .ok (.iload 4, 2) := by decide +kernel
theorem dX3_allValues_22 : decode cX3_allValues 22 = .ok (.iaload, 1) := by decide +kernel
theorem dX3_allValues_23 : decode cX3_allValues 23 = .ok (.istore 5, 2) := by decide +kernel
theorem dX3_allValues_25 : decode cX3_allValues 25 = .ok (.iload_n 1, 1) := by decide +kernel
theorem dX3_allValues_26 : decode cX3_allValues 26 = .ok (.iload 5, 2) := by decide +kernel
theorem dX3_allValues_28 : decode cX3_allValues 28 = .ok (.iadd, 1) := by decide +kernel
theorem dX3_allValues_29 : decode cX3_allValues 29 = .ok (.istore_n 1, 1) := by decide +kernel
theorem dX3_allValues_30 : decode cX3_allValues 30 = .ok (.iinc 4 1, 3) := by decide +kernel
theorem dX3_allValues_33 : decode cX3_allValues 33 = .ok (.goto (-20), 3) := by decide +kernel
theorem dX3_allValues_36 : decode cX3_allValues 36 = .ok (.iload_n 1, 1) := by decide +kernel
theorem dX3_allValues_37 : decode cX3_allValues 37 = .ok (.ireturn, 1) := by decide +kernel
theorem dX3_isStubborn_0 : decode cX3_isStubborn 0 = .ok (.aload_n 1, 1) := by decide +kernel
theorem dX3_isStubborn_1 : decode cX3_isStubborn 1 = .ok (.getfield 106, 3) := by decide +kernel
theorem dX3_isStubborn_4 : decode cX3_isStubborn 4 = .ok (.aload_n 0, 1) := by decide +kernel
theorem dX3_isStubborn_5 : decode cX3_isStubborn 5 = .ok (.getfield 83, 3) := by decide +kernel
theorem dX3_isStubborn_8 : decode cX3_isStubborn 8 = .ok (.if_icmp .lt 7, 3) := by decide +kernel
theorem dX3_isStubborn_11 : decode cX3_isStubborn 11 = .ok (.iconst 1, 1) := by decide +kernel
theorem dX3_isStubborn_12 : decode cX3_isStubborn 12 = .ok (.goto 4, 3) := by decide +kernel
theorem dX3_isStubborn_15 : decode cX3_isStubborn 15 = .ok (.iconst 0, 1) := by decide +kernel
theorem dX3_isStubborn_16 : decode cX3_isStubborn 16 = .ok (.ireturn, 1) := by decide +kernel
theorem dX3_staleOf_0 : decode cX3_staleOf 0 = .ok (.iconst 0, 1) := by decide +kernel
theorem dX3_staleOf_1 : decode cX3_staleOf 1 = .ok (.istore_n 2, 1) := by decide +kernel
theorem dX3_staleOf_2 : decode cX3_staleOf 2 = .ok (.iconst 0, 1) := by decide +kernel
theorem dX3_staleOf_3 : decode cX3_staleOf 3 = .ok (.istore_n 3, 1) := by decide +kernel
theorem dX3_staleOf_4 : decode cX3_staleOf 4 = .ok (.iload_n 3, 1) := by decide +kernel
theorem dX3_staleOf_5 : decode cX3_staleOf 5 = .ok (.bipush 8, 2) := by decide +kernel
theorem dX3_staleOf_7 : decode cX3_staleOf 7 = .ok (.if_icmp .ge 42, 3) := by decide +kernel
theorem dX3_staleOf_10 : decode cX3_staleOf 10 = .ok (.aload_n 1, 1) := by decide +kernel
theorem dX3_staleOf_11 : decode cX3_staleOf 11 = .ok (.getfield 119, 3) := by decide +kernel
theorem dX3_staleOf_14 : decode cX3_staleOf 14 = .ok (.iload_n 3, 1) := by decide +kernel
theorem dX3_staleOf_15 : decode cX3_staleOf 15 = .ok (.invokestatic 112, 3) := by decide +kernel
theorem dX3_staleOf_18 : decode cX3_staleOf 18 = .ok (.ifCond .eq 25, 3) := by decide +kernel
theorem dX3_staleOf_21 : decode cX3_staleOf 21 = .ok (.aload_n 0, 1) := by decide +kernel
theorem dX3_staleOf_22 : decode cX3_staleOf 22 = .ok (.getfield 20, 3) := by decide +kernel
theorem dX3_staleOf_25 : decode cX3_staleOf 25 = .ok (.iload_n 3, 1) := by decide +kernel
theorem dX3_staleOf_26 : decode cX3_staleOf 26 = .ok (.iaload, 1) := by decide +kernel
theorem dX3_staleOf_27 : decode cX3_staleOf 27 = .ok (.aload_n 1, 1) := by decide +kernel
theorem dX3_staleOf_28 : decode cX3_staleOf 28 = .ok (.getfield 201, 3) := by decide +kernel
theorem dX3_staleOf_31 : decode cX3_staleOf 31 = .ok (.iload_n 3, 1) := by decide +kernel
theorem dX3_staleOf_32 : decode cX3_staleOf 32 = .ok (.iaload, 1) := by decide +kernel
theorem dX3_staleOf_33 : decode cX3_staleOf 33 = .ok (.if_icmp .eq 10, 3) := by decide +kernel
theorem dX3_staleOf_36 : decode cX3_staleOf 36 = .ok (.iload_n 2, 1) := by decide +kernel
theorem dX3_staleOf_37 : decode cX3_staleOf 37 = .ok (.iload_n 3, 1) := by decide +kernel
theorem dX3_staleOf_38 : decode cX3_staleOf 38 = .ok (.invokestatic 128, 3) := by decide +kernel
theorem dX3_staleOf_41 : decode cX3_staleOf 41 = .ok (.ior, 1) := by decide +kernel
theorem dX3_staleOf_42 : decode cX3_staleOf 42 = .ok (.istore_n 2, 1) := by decide +kernel
theorem dX3_staleOf_43 : decode cX3_staleOf 43 = .ok (.iinc 3 1, 3) := by decide +kernel
theorem dX3_staleOf_46 : decode cX3_staleOf 46 = .ok (.goto (-42), 3) := by decide +kernel
theorem dX3_staleOf_49 : decode cX3_staleOf 49 = .ok (.iload_n 2, 1) := by decide +kernel
theorem dX3_staleOf_50 : decode cX3_staleOf 50 = .ok (.ireturn, 1) := by decide +kernel
theorem dX3_crossedOf_0 : decode cX3_crossedOf 0 = .ok (.iconst 0, 1) := by decide +kernel
theorem dX3_crossedOf_1 : decode cX3_crossedOf 1 = .ok (.istore_n 2, 1) := by decide +kernel
theorem dX3_crossedOf_2 : decode cX3_crossedOf 2 = .ok (.iconst 0, 1) := by decide +kernel
theorem dX3_crossedOf_3 : decode cX3_crossedOf 3 = .ok (.istore_n 3, 1) := by decide +kernel
theorem dX3_crossedOf_4 : decode cX3_crossedOf 4 = .ok (.iload_n 3, 1) := by decide +kernel
theorem dX3_crossedOf_5 : decode cX3_crossedOf 5 = .ok (.bipush 8, 2) := by decide +kernel
theorem dX3_crossedOf_7 : decode cX3_crossedOf 7 = .ok (.if_icmp .ge 40, 3) := by decide +kernel
theorem dX3_crossedOf_10 : decode cX3_crossedOf 10 = .ok (.aload_n 1, 1) := by decide +kernel
theorem dX3_crossedOf_11 : decode cX3_crossedOf 11 = .ok (.getfield 119, 3) := by decide +kernel
theorem dX3_crossedOf_14 : decode cX3_crossedOf 14 = .ok (.iload_n 3, 1) := by decide +kernel
theorem dX3_crossedOf_15 : decode cX3_crossedOf 15 = .ok (.invokestatic 112, 3) := by decide +kernel
theorem dX3_crossedOf_18 : decode cX3_crossedOf 18 = .ok (.ifCond .eq 23, 3) := by decide +kernel
theorem dX3_crossedOf_21 : decode cX3_crossedOf 21 = .ok (.aload_n 0, 1) := by decide +kernel
theorem dX3_crossedOf_22 : decode cX3_crossedOf 22 = .ok (.getfield 20, 3) := by decide +kernel
theorem dX3_crossedOf_25 : decode cX3_crossedOf 25 = .ok (.iload_n 3, 1) := by decide +kernel
theorem dX3_crossedOf_26 : decode cX3_crossedOf 26 = .ok (.iaload, 1) := by decide +kernel
theorem dX3_crossedOf_27 : decode cX3_crossedOf 27 = .ok (.aload_n 1, 1) := by decide +kernel
theorem dX3_crossedOf_28 : decode cX3_crossedOf 28 = .ok (.getfield 191, 3) := by decide +kernel
theorem dX3_crossedOf_31 : decode cX3_crossedOf 31 = .ok (.if_icmp .le 10, 3) := by decide +kernel
theorem dX3_crossedOf_34 : decode cX3_crossedOf 34 = .ok (.iload_n 2, 1) := by decide +kernel
theorem dX3_crossedOf_35 : decode cX3_crossedOf 35 = .ok (.iload_n 3, 1) := by decide +kernel
theorem dX3_crossedOf_36 : decode cX3_crossedOf 36 = .ok (.invokestatic 128, 3) := by decide +kernel
theorem dX3_crossedOf_39 : decode cX3_crossedOf 39 = .ok (.ior, 1) := by decide +kernel
theorem dX3_crossedOf_40 : decode cX3_crossedOf 40 = .ok (.istore_n 2, 1) := by decide +kernel
theorem dX3_crossedOf_41 : decode cX3_crossedOf 41 = .ok (.iinc 3 1, 3) := by decide +kernel
theorem dX3_crossedOf_44 : decode cX3_crossedOf 44 = .ok (.goto (-40), 3) := by decide +kernel
theorem dX3_crossedOf_47 : decode cX3_crossedOf 47 = .ok (.iload_n 2, 1) := by decide +kernel
theorem dX3_crossedOf_48 : decode cX3_crossedOf 48 = .ok (.ireturn, 1) := by decide +kernel
theorem dX3_rivalsOf_0 : decode cX3_rivalsOf 0 = .ok (.iconst 0, 1) := by decide +kernel
theorem dX3_rivalsOf_1 : decode cX3_rivalsOf 1 = .ok (.istore_n 2, 1) := by decide +kernel
theorem dX3_rivalsOf_2 : decode cX3_rivalsOf 2 = .ok (.aload_n 0, 1) := by decide +kernel
theorem dX3_rivalsOf_3 : decode cX3_rivalsOf 3 = .ok (.getfield 25, 3) := by decide +kernel
theorem dX3_rivalsOf_6 : decode cX3_rivalsOf 6 = .ok (.astore_n 3, 1) := by decide +kernel
theorem dX3_rivalsOf_7 : decode cX3_rivalsOf 7 = .ok (.aload_n 3, 1) := by decide +kernel
theorem dX3_rivalsOf_8 : decode cX3_rivalsOf 8 = .ok (.arraylength, 1) := by decide +kernel
theorem dX3_rivalsOf_9 : decode cX3_rivalsOf 9 = .ok (.istore 4, 2) := by decide +kernel
theorem dX3_rivalsOf_11 : decode cX3_rivalsOf 11 = .ok (.iconst 0, 1) := by decide +kernel
theorem dX3_rivalsOf_12 : decode cX3_rivalsOf 12 = .ok (.istore 5, 2) := by decide +kernel
theorem dX3_rivalsOf_14 : decode cX3_rivalsOf 14 = .ok (.iload 5, 2) := by decide +kernel
theorem dX3_rivalsOf_16 : decode cX3_rivalsOf 16 = .ok (.iload 4, 2) := by decide +kernel
theorem dX3_rivalsOf_18 : decode cX3_rivalsOf 18 = .ok (.if_icmp .ge 60, 3) := by decide +kernel
theorem dX3_rivalsOf_21 : decode cX3_rivalsOf 21 = .ok (.aload_n 3, 1) := by decide +kernel
theorem dX3_rivalsOf_22 : decode cX3_rivalsOf 22 = .ok (.iload 5, 2) := by decide +kernel
theorem dX3_rivalsOf_24 : decode cX3_rivalsOf 24 = .ok (.aaload, 1) := by decide +kernel
theorem dX3_rivalsOf_25 : decode cX3_rivalsOf 25 = .ok (.astore 6, 2) := by decide +kernel
theorem dX3_rivalsOf_27 : decode cX3_rivalsOf 27 = .ok (.aload 6, 2) := by decide +kernel
theorem dX3_rivalsOf_29 : decode cX3_rivalsOf 29 = .ok (.getfield 265, 3) := by decide +kernel
theorem dX3_rivalsOf_32 : decode cX3_rivalsOf 32 = .ok (.aload_n 1, 1) := by decide +kernel
theorem dX3_rivalsOf_33 : decode cX3_rivalsOf 33 = .ok (.getfield 265, 3) := by decide +kernel
theorem dX3_rivalsOf_36 : decode cX3_rivalsOf 36 = .ok (.if_icmp .eq 36, 3) := by decide +kernel
theorem dX3_rivalsOf_39 : decode cX3_rivalsOf 39 = .ok (.aload 6, 2) := by decide +kernel
theorem dX3_rivalsOf_41 : decode cX3_rivalsOf 41 = .ok (.getfield 89, 3) := by decide +kernel
theorem dX3_rivalsOf_44 : decode cX3_rivalsOf 44 = .ok (.iconst 1, 1) := by decide +kernel
theorem dX3_rivalsOf_45 : decode cX3_rivalsOf 45 = .ok (.if_icmp .ne 27, 3) := by decide +kernel
theorem dX3_rivalsOf_48 : decode cX3_rivalsOf 48 = .ok (.aload 6, 2) := by decide +kernel
theorem dX3_rivalsOf_50 : decode cX3_rivalsOf 50 = .ok (.getfield 119, 3) := by decide +kernel
theorem dX3_rivalsOf_53 : decode cX3_rivalsOf 53 = .ok (.aload_n 1, 1) := by decide +kernel
theorem dX3_rivalsOf_54 : decode cX3_rivalsOf 54 = .ok (.getfield 109, 3) := by decide +kernel
theorem dX3_rivalsOf_57 : decode cX3_rivalsOf 57 = .ok (.iand, 1) := by decide +kernel
theorem dX3_rivalsOf_58 : decode cX3_rivalsOf 58 = .ok (.ifCond .eq 14, 3) := by decide +kernel
theorem dX3_rivalsOf_61 : decode cX3_rivalsOf 61 = .ok (.iload_n 2, 1) := by decide +kernel
theorem dX3_rivalsOf_62 : decode cX3_rivalsOf 62 = .ok (.aload 6, 2) := by decide +kernel
theorem dX3_rivalsOf_64 : decode cX3_rivalsOf 64 = .ok (.getfield 265, 3) := by decide +kernel
theorem dX3_rivalsOf_67 : decode cX3_rivalsOf 67 = .ok (.invokestatic 128, 3) := by decide +kernel
theorem dX3_rivalsOf_70 : decode cX3_rivalsOf 70 = .ok (.ior, 1) := by decide +kernel
theorem dX3_rivalsOf_71 : decode cX3_rivalsOf 71 = .ok (.istore_n 2, 1) := by decide +kernel
theorem dX3_rivalsOf_72 : decode cX3_rivalsOf 72 = .ok (.iinc 5 1, 3) := by decide +kernel
theorem dX3_rivalsOf_75 : decode cX3_rivalsOf 75 = .ok (.goto (-61), 3) := by decide +kernel
theorem dX3_rivalsOf_78 : decode cX3_rivalsOf 78 = .ok (.iload_n 2, 1) := by decide +kernel
theorem dX3_rivalsOf_79 : decode cX3_rivalsOf 79 = .ok (.ireturn, 1) := by decide +kernel
theorem dX3_foretell_0 : decode cX3_foretell 0 = .ok (.iload_n 2, 1) := by decide +kernel
theorem dX3_foretell_1 : decode cX3_foretell 1 = .ok (.ifCond .lt 8, 3) := by decide +kernel
theorem dX3_foretell_4 : decode cX3_foretell 4 = .ok (.iload_n 2, 1) := by decide +kernel
theorem dX3_foretell_5 : decode cX3_foretell 5 = .ok (.iconst 2, 1) := by decide +kernel
theorem dX3_foretell_6 : decode cX3_foretell 6 = .ok (.if_icmp .le 6, 3) := by decide +kernel
theorem dX3_foretell_9 : decode cX3_foretell 9 = .ok (.bipush (-3), 2) := by decide +kernel
theorem dX3_foretell_11 : decode cX3_foretell 11 = .ok (.ireturn, 1) := by decide +kernel
theorem dX3_foretell_12 : decode cX3_foretell 12 = .ok (.aload_n 1, 1) := by decide +kernel
theorem dX3_foretell_13 : decode cX3_foretell 13 = .ok (.getfield 89, 3) := by decide +kernel
theorem dX3_foretell_16 : decode cX3_foretell 16 = .ok (.iconst 1, 1) := by decide +kernel
theorem dX3_foretell_17 : decode cX3_foretell 17 = .ok (.if_icmp .ne 11, 3) := by decide +kernel
theorem dX3_foretell_20 : decode cX3_foretell 20 = .ok (.aload_n 0, 1) := by decide +kernel
theorem dX3_foretell_21 : decode cX3_foretell 21 = .ok (.iconst 3, 1) := by decide +kernel
theorem dX3_foretell_22 : decode cX3_foretell 22 = .ok (.invokevirtual 65, 3) := by decide +kernel
theorem dX3_foretell_25 : decode cX3_foretell 25 = .ok (.ifCond .le 6, 3) := by decide +kernel
theorem dX3_foretell_28 : decode cX3_foretell 28 = .ok (.bipush (-4), 2) := by decide +kernel
theorem dX3_foretell_30 : decode cX3_foretell 30 = .ok (.ireturn, 1) := by decide +kernel
theorem dX3_foretell_31 : decode cX3_foretell 31 = .ok (.aload_n 0, 1) := by decide +kernel
theorem dX3_foretell_32 : decode cX3_foretell 32 = .ok (.getfield 69, 3) := by decide +kernel
theorem dX3_foretell_35 : decode cX3_foretell 35 = .ok (.sipush 512, 3) := by decide +kernel
theorem dX3_foretell_38 : decode cX3_foretell 38 = .ok (.if_icmp .lt 6, 3) := by decide +kernel
theorem dX3_foretell_41 : decode cX3_foretell 41 = .ok (.bipush (-5), 2) := by decide +kernel
theorem dX3_foretell_43 : decode cX3_foretell 43 = .ok (.ireturn, 1) := by decide +kernel
theorem dX3_foretell_44 : decode cX3_foretell 44 = .ok (.aload_n 0, 1) := by decide +kernel
theorem dX3_foretell_45 : decode cX3_foretell 45 = .ok (.aload_n 1, 1) := by decide +kernel
theorem dX3_foretell_46 : decode cX3_foretell 46 = .ok (.invokevirtual 156, 3) := by decide +kernel
theorem dX3_foretell_49 : decode cX3_foretell 49 = .ok (.ifCond .eq 6, 3) := by decide +kernel
theorem dX3_foretell_52 : decode cX3_foretell 52 = .ok (.bipush (-11), 2) := by decide +kernel
theorem dX3_foretell_54 : decode cX3_foretell 54 = .ok (.ireturn, 1) := by decide +kernel
theorem dX3_foretell_55 : decode cX3_foretell 55 = .ok (.iload_n 2, 1) := by decide +kernel
theorem dX3_foretell_56 : decode cX3_foretell 56 = .ok (.ifCond .ne 14, 3) := by decide +kernel
theorem dX3_foretell_59 : decode cX3_foretell 59 = .ok (.aload_n 0, 1) := by decide +kernel
theorem dX3_foretell_60 : decode cX3_foretell 60 = .ok (.aload_n 1, 1) := by decide +kernel
theorem dX3_foretell_61 : decode cX3_foretell 61 = .ok (.invokevirtual 198, 3) := by decide +kernel
theorem dX3_foretell_64 : decode cX3_foretell 64 = .ok (.ifCond .eq 6, 3) := by decide +kernel
theorem dX3_foretell_67 : decode cX3_foretell 67 = .ok (.bipush (-12), 2) := by decide +kernel
theorem dX3_foretell_69 : decode cX3_foretell 69 = .ok (.ireturn, 1) := by decide +kernel
theorem dX3_foretell_70 : decode cX3_foretell 70 = .ok (.iload_n 2, 1) := by decide +kernel
theorem dX3_foretell_71 : decode cX3_foretell 71 = .ok (.iconst 2, 1) := by decide +kernel
theorem dX3_foretell_72 : decode cX3_foretell 72 = .ok (.if_icmp .ne 16, 3) := by decide +kernel
theorem dX3_foretell_75 : decode cX3_foretell 75 = .ok (.aload_n 0, 1) := by decide +kernel
theorem dX3_foretell_76 : decode cX3_foretell 76 = .ok (.aload_n 1, 1) := by decide +kernel
theorem dX3_foretell_77 : decode cX3_foretell 77 = .ok (.invokevirtual 268, 3) := by decide +kernel
theorem dX3_foretell_80 : decode cX3_foretell 80 = .ok (.ifCond .eq 8, 3) := by decide +kernel
theorem dX3_foretell_83 : decode cX3_foretell 83 = .ok (.bipush (-13), 2) := by decide +kernel
theorem dX3_foretell_85 : decode cX3_foretell 85 = .ok (.goto 9, 3) := by decide +kernel
theorem dX3_foretell_88 : decode cX3_foretell 88 = .ok (.aload_n 0, 1) := by decide +kernel
theorem dX3_foretell_89 : decode cX3_foretell 89 = .ok (.getfield 69, 3) := by decide +kernel
theorem dX3_foretell_92 : decode cX3_foretell 92 = .ok (.iconst 1, 1) := by decide +kernel
theorem dX3_foretell_93 : decode cX3_foretell 93 = .ok (.iadd, 1) := by decide +kernel
end
section
theorem dX3_foretell_94 : decode cX3_foretell 94 = .ok (.ireturn, 1) := by decide +kernel
theorem dX3_isFailure_0 : decode cX3_isFailure 0 = .ok (.iload_n 0, 1) := by decide +kernel
theorem dX3_isFailure_1 : decode cX3_isFailure 1 = .ok (.bipush (-11), 2) := by decide +kernel
theorem dX3_isFailure_3 : decode cX3_isFailure 3 = .ok (.if_icmp .eq 15, 3) := by decide +kernel
theorem dX3_isFailure_6 : decode cX3_isFailure 6 = .ok (.iload_n 0, 1) := by decide +kernel
theorem dX3_isFailure_7 : decode cX3_isFailure 7 = .ok (.bipush (-12), 2) := by decide +kernel
theorem dX3_isFailure_9 : decode cX3_isFailure 9 = .ok (.if_icmp .eq 9, 3) := by decide +kernel
theorem dX3_isFailure_12 : decode cX3_isFailure 12 = .ok (.iload_n 0, 1) := by decide +kernel
theorem dX3_isFailure_13 : decode cX3_isFailure 13 = .ok (.bipush (-13), 2) := by decide +kernel
theorem dX3_isFailure_15 : decode cX3_isFailure 15 = .ok (.if_icmp .ne 7, 3) := by decide +kernel
theorem dX3_isFailure_18 : decode cX3_isFailure 18 = .ok (.iconst 1, 1) := by decide +kernel
theorem dX3_isFailure_19 : decode cX3_isFailure 19 = .ok (.goto 4, 3) := by decide +kernel
theorem dX3_isFailure_22 : decode cX3_isFailure 22 = .ok (.iconst 0, 1) := by decide +kernel
theorem dX3_isFailure_23 : decode cX3_isFailure 23 = .ok (.ireturn, 1) := by decide +kernel
theorem dX3_mustYield_0 : decode cX3_mustYield 0 = .ok (.aload_n 0, 1) := by decide +kernel
theorem dX3_mustYield_1 : decode cX3_mustYield 1 = .ok (.aload_n 1, 1) := by decide +kernel
theorem dX3_mustYield_2 : decode cX3_mustYield 2 = .ok (.invokevirtual 146, 3) := by decide +kernel
theorem dX3_mustYield_5 : decode cX3_mustYield 5 = .ok (.istore_n 2, 1) := by decide +kernel
theorem dX3_mustYield_6 : decode cX3_mustYield 6 = .ok (.aload_n 0, 1) := by decide +kernel
theorem dX3_mustYield_7 : decode cX3_mustYield 7 = .ok (.getfield 25, 3) := by decide +kernel
theorem dX3_mustYield_10 : decode cX3_mustYield 10 = .ok (.astore_n 3, 1) := by decide +kernel
theorem dX3_mustYield_11 : decode cX3_mustYield 11 = .ok (.aload_n 3, 1) := by decide +kernel
theorem dX3_mustYield_12 : decode cX3_mustYield 12 = .ok (.arraylength, 1) := by decide +kernel
theorem dX3_mustYield_13 : decode cX3_mustYield 13 = .ok (.istore 4, 2) := by decide +kernel
theorem dX3_mustYield_15 : decode cX3_mustYield 15 = .ok (.iconst 0, 1) := by decide +kernel
theorem dX3_mustYield_16 : decode cX3_mustYield 16 = .ok (.istore 5, 2) := by decide +kernel
theorem dX3_mustYield_18 : decode cX3_mustYield 18 = .ok (.iload 5, 2) := by decide +kernel
theorem dX3_mustYield_20 : decode cX3_mustYield 20 = .ok (.iload 4, 2) := by decide +kernel
theorem dX3_mustYield_22 : decode cX3_mustYield 22 = .ok (.if_icmp .ge 39, 3) := by decide +kernel
theorem dX3_mustYield_25 : decode cX3_mustYield 25 = .ok (.aload_n 3, 1) := by decide +kernel
theorem dX3_mustYield_26 : decode cX3_mustYield 26 = .ok (.iload 5, 2) := by decide +kernel
theorem dX3_mustYield_28 : decode cX3_mustYield 28 = .ok (.aaload, 1) := by decide +kernel
theorem dX3_mustYield_29 : decode cX3_mustYield 29 = .ok (.astore 6, 2) := by decide +kernel
theorem dX3_mustYield_31 : decode cX3_mustYield 31 = .ok (.iload_n 2, 1) := by decide +kernel
theorem dX3_mustYield_32 : decode cX3_mustYield 32 = .ok (.aload 6, 2) := by decide +kernel
theorem dX3_mustYield_34 : decode cX3_mustYield 34 = .ok (.getfield 265, 3) := by decide +kernel
theorem dX3_mustYield_37 : decode cX3_mustYield 37 = .ok (.invokestatic 112, 3) := by decide +kernel
theorem dX3_mustYield_40 : decode cX3_mustYield 40 = .ok (.ifCond .eq 15, 3) := by decide +kernel
theorem dX3_mustYield_43 : decode cX3_mustYield 43 = .ok (.aload_n 0, 1) := by decide +kernel
theorem dX3_mustYield_44 : decode cX3_mustYield 44 = .ok (.aload 6, 2) := by decide +kernel
theorem dX3_mustYield_46 : decode cX3_mustYield 46 = .ok (.aload_n 1, 1) := by decide +kernel
theorem dX3_mustYield_47 : decode cX3_mustYield 47 = .ok (.invokevirtual 271, 3) := by decide +kernel
theorem dX3_mustYield_50 : decode cX3_mustYield 50 = .ok (.ifCond .eq 5, 3) := by decide +kernel
theorem dX3_mustYield_53 : decode cX3_mustYield 53 = .ok (.iconst 1, 1) := by decide +kernel
theorem dX3_mustYield_54 : decode cX3_mustYield 54 = .ok (.ireturn, 1) := by decide +kernel
theorem dX3_mustYield_55 : decode cX3_mustYield 55 = .ok (.iinc 5 1, 3) := by decide +kernel
theorem dX3_mustYield_58 : decode cX3_mustYield 58 = .ok (.goto (-40), 3) := by decide +kernel
theorem dX3_mustYield_61 : decode cX3_mustYield 61 = .ok (.iconst 0, 1) := by decide +kernel
theorem dX3_mustYield_62 : decode cX3_mustYield 62 = .ok (.ireturn, 1) := by decide +kernel
theorem dX3_goesFirst_0 : decode cX3_goesFirst 0 = .ok (.aload_n 0, 1) := by decide +kernel
theorem dX3_goesFirst_1 : decode cX3_goesFirst 1 = .ok (.aload_n 1, 1) := by decide +kernel
theorem dX3_goesFirst_2 : decode cX3_goesFirst 2 = .ok (.invokevirtual 194, 3) := by decide +kernel
theorem dX3_goesFirst_5 : decode cX3_goesFirst 5 = .ok (.aload_n 0, 1) := by decide +kernel
theorem dX3_goesFirst_6 : decode cX3_goesFirst 6 = .ok (.aload_n 2, 1) := by decide +kernel
theorem dX3_goesFirst_7 : decode cX3_goesFirst 7 = .ok (.invokevirtual 194, 3) := by decide +kernel
theorem dX3_goesFirst_10 : decode cX3_goesFirst 10 = .ok (.if_icmp .eq 9, 3) := by decide +kernel
theorem dX3_goesFirst_13 : decode cX3_goesFirst 13 = .ok (.aload_n 0, 1) := by decide +kernel
theorem dX3_goesFirst_14 : decode cX3_goesFirst 14 = .ok (.aload_n 1, 1) := by decide +kernel
theorem dX3_goesFirst_15 : decode cX3_goesFirst 15 = .ok (.invokevirtual 194, 3) := by decide +kernel
theorem dX3_goesFirst_18 : decode cX3_goesFirst 18 = .ok (.ireturn, 1) := by decide +kernel
theorem dX3_goesFirst_19 : decode cX3_goesFirst 19 = .ok (.aload_n 1, 1) := by decide +kernel
theorem dX3_goesFirst_20 : decode cX3_goesFirst 20 = .ok (.getfield 99, 3) := by decide +kernel
theorem dX3_goesFirst_23 : decode cX3_goesFirst 23 = .ok (.aload_n 2, 1) := by decide +kernel
theorem dX3_goesFirst_24 : decode cX3_goesFirst 24 = .ok (.getfield 99, 3) := by decide +kernel
theorem dX3_goesFirst_27 : decode cX3_goesFirst 27 = .ok (.if_icmp .ge 7, 3) := by decide +kernel
theorem dX3_goesFirst_30 : decode cX3_goesFirst 30 = .ok (.iconst 1, 1) := by decide +kernel
theorem dX3_goesFirst_31 : decode cX3_goesFirst 31 = .ok (.goto 4, 3) := by decide +kernel
theorem dX3_goesFirst_34 : decode cX3_goesFirst 34 = .ok (.iconst 0, 1) := by decide +kernel
theorem dX3_goesFirst_35 : decode cX3_goesFirst 35 = .ok (.ireturn, 1) := by decide +kernel
theorem dX3_doomAll_0 : decode cX3_doomAll 0 = .ok (.aload_n 0, 1) := by decide +kernel
theorem dX3_doomAll_1 : decode cX3_doomAll 1 = .ok (.getfield 25, 3) := by decide +kernel
theorem dX3_doomAll_4 : decode cX3_doomAll 4 = .ok (.astore_n 2, 1) := by decide +kernel
theorem dX3_doomAll_5 : decode cX3_doomAll 5 = .ok (.aload_n 2, 1) := by decide +kernel
theorem dX3_doomAll_6 : decode cX3_doomAll 6 = .ok (.arraylength, 1) := by decide +kernel
theorem dX3_doomAll_7 : decode cX3_doomAll 7 = .ok (.istore_n 3, 1) := by decide +kernel
theorem dX3_doomAll_8 : decode cX3_doomAll 8 = .ok (.iconst 0, 1) := by decide +kernel
theorem dX3_doomAll_9 : decode cX3_doomAll 9 = .ok (.istore 4, 2) := by decide +kernel
theorem dX3_doomAll_11 : decode cX3_doomAll 11 = .ok (.iload 4, 2) := by decide +kernel
theorem dX3_doomAll_13 : decode cX3_doomAll 13 = .ok (.iload_n 3, 1) := by decide +kernel
theorem dX3_doomAll_14 : decode cX3_doomAll 14 = .ok (.if_icmp .ge 33, 3) := by decide +kernel
theorem dX3_doomAll_17 : decode cX3_doomAll 17 = .ok (.aload_n 2, 1) := by decide +kernel
theorem dX3_doomAll_18 : decode cX3_doomAll 18 = .ok (.iload 4, 2) := by decide +kernel
theorem dX3_doomAll_20 : decode cX3_doomAll 20 = .ok (.aaload, 1) := by decide +kernel
theorem dX3_doomAll_21 : decode cX3_doomAll 21 = .ok (.astore 5, 2) := by decide +kernel
theorem dX3_doomAll_23 : decode cX3_doomAll 23 = .ok (.iload_n 1, 1) := by decide +kernel
theorem dX3_doomAll_24 : decode cX3_doomAll 24 = .ok (.aload 5, 2) := by decide +kernel
theorem dX3_doomAll_26 : decode cX3_doomAll 26 = .ok (.getfield 265, 3) := by decide +kernel
theorem dX3_doomAll_29 : decode cX3_doomAll 29 = .ok (.invokestatic 112, 3) := by decide +kernel
theorem dX3_doomAll_32 : decode cX3_doomAll 32 = .ok (.ifCond .eq 9, 3) := by decide +kernel
theorem dX3_doomAll_35 : decode cX3_doomAll 35 = .ok (.aload 5, 2) := by decide +kernel
theorem dX3_doomAll_37 : decode cX3_doomAll 37 = .ok (.iconst 2, 1) := by decide +kernel
theorem dX3_doomAll_38 : decode cX3_doomAll 38 = .ok (.putfield 89, 3) := by decide +kernel
theorem dX3_doomAll_41 : decode cX3_doomAll 41 = .ok (.iinc 4 1, 3) := by decide +kernel
theorem dX3_doomAll_44 : decode cX3_doomAll 44 = .ok (.goto (-33), 3) := by decide +kernel
theorem dX3_doomAll_47 : decode cX3_doomAll 47 = .ok (.return_, 1) := by decide +kernel
theorem dX3_lose_0 : decode cX3_lose 0 = .ok (.aload_n 0, 1) := by decide +kernel
theorem dX3_lose_1 : decode cX3_lose 1 = .ok (.dup, 1) := by decide +kernel
theorem dX3_lose_2 : decode cX3_lose 2 = .ok (.getfield 223, 3) := by decide +kernel
theorem dX3_lose_5 : decode cX3_lose 5 = .ok (.iconst 1, 1) := by decide +kernel
theorem dX3_lose_6 : decode cX3_lose 6 = .ok (.iadd, 1) := by decide +kernel
theorem dX3_lose_7 : decode cX3_lose 7 = .ok (.putfield 223, 3) := by decide +kernel
theorem dX3_lose_10 : decode cX3_lose 10 = .ok (.iload_n 2, 1) := by decide +kernel
theorem dX3_lose_11 : decode cX3_lose 11 = .ok (.bipush (-12), 2) := by decide +kernel
theorem dX3_lose_13 : decode cX3_lose 13 = .ok (.if_icmp .ne 13, 3) := by decide +kernel
theorem dX3_lose_16 : decode cX3_lose 16 = .ok (.aload_n 0, 1) := by decide +kernel
theorem dX3_lose_17 : decode cX3_lose 17 = .ok (.dup, 1) := by decide +kernel
theorem dX3_lose_18 : decode cX3_lose 18 = .ok (.getfield 226, 3) := by decide +kernel
theorem dX3_lose_21 : decode cX3_lose 21 = .ok (.iconst 1, 1) := by decide +kernel
theorem dX3_lose_22 : decode cX3_lose 22 = .ok (.iadd, 1) := by decide +kernel
theorem dX3_lose_23 : decode cX3_lose 23 = .ok (.putfield 226, 3) := by decide +kernel
theorem dX3_lose_26 : decode cX3_lose 26 = .ok (.iload_n 2, 1) := by decide +kernel
theorem dX3_lose_27 : decode cX3_lose 27 = .ok (.bipush (-13), 2) := by decide +kernel
theorem dX3_lose_29 : decode cX3_lose 29 = .ok (.if_icmp .ne 13, 3) := by decide +kernel
theorem dX3_lose_32 : decode cX3_lose 32 = .ok (.aload_n 0, 1) := by decide +kernel
theorem dX3_lose_33 : decode cX3_lose 33 = .ok (.dup, 1) := by decide +kernel
theorem dX3_lose_34 : decode cX3_lose 34 = .ok (.getfield 229, 3) := by decide +kernel
theorem dX3_lose_37 : decode cX3_lose 37 = .ok (.iconst 1, 1) := by decide +kernel
theorem dX3_lose_38 : decode cX3_lose 38 = .ok (.iadd, 1) := by decide +kernel
theorem dX3_lose_39 : decode cX3_lose 39 = .ok (.putfield 229, 3) := by decide +kernel
theorem dX3_lose_42 : decode cX3_lose 42 = .ok (.aload_n 1, 1) := by decide +kernel
theorem dX3_lose_43 : decode cX3_lose 43 = .ok (.iconst 1, 1) := by decide +kernel
theorem dX3_lose_44 : decode cX3_lose 44 = .ok (.invokevirtual 235, 3) := by decide +kernel
theorem dX3_lose_47 : decode cX3_lose 47 = .ok (.iload_n 2, 1) := by decide +kernel
theorem dX3_lose_48 : decode cX3_lose 48 = .ok (.ireturn, 1) := by decide +kernel
theorem dX3_keep_0 : decode cX3_keep 0 = .ok (.aload_n 0, 1) := by decide +kernel
theorem dX3_keep_1 : decode cX3_keep 1 = .ok (.invokevirtual 72, 3) := by decide +kernel
theorem dX3_keep_4 : decode cX3_keep 4 = .ok (.aload_n 1, 1) := by decide +kernel
theorem dX3_keep_5 : decode cX3_keep 5 = .ok (.iload_n 2, 1) := by decide +kernel
theorem dX3_keep_6 : decode cX3_keep 6 = .ok (.invokevirtual 275, 3) := by decide +kernel
theorem dX3_keep_9 : decode cX3_keep 9 = .ok (.iconst 0, 1) := by decide +kernel
theorem dX3_keep_10 : decode cX3_keep 10 = .ok (.istore_n 3, 1) := by decide +kernel
theorem dX3_keep_11 : decode cX3_keep 11 = .ok (.iload_n 3, 1) := by decide +kernel
theorem dX3_keep_12 : decode cX3_keep 12 = .ok (.bipush 8, 2) := by decide +kernel
theorem dX3_keep_14 : decode cX3_keep 14 = .ok (.if_icmp .ge 31, 3) := by decide +kernel
theorem dX3_keep_17 : decode cX3_keep 17 = .ok (.aload_n 1, 1) := by decide +kernel
theorem dX3_keep_18 : decode cX3_keep 18 = .ok (.getfield 109, 3) := by decide +kernel
theorem dX3_keep_21 : decode cX3_keep 21 = .ok (.iload_n 3, 1) := by decide +kernel
theorem dX3_keep_22 : decode cX3_keep 22 = .ok (.invokestatic 112, 3) := by decide +kernel
theorem dX3_keep_25 : decode cX3_keep 25 = .ok (.ifCond .eq 14, 3) := by decide +kernel
theorem dX3_keep_28 : decode cX3_keep 28 = .ok (.aload_n 0, 1) := by decide +kernel
theorem dX3_keep_29 : decode cX3_keep 29 = .ok (.iload_n 3, 1) := by decide +kernel
theorem dX3_keep_30 : decode cX3_keep 30 = .ok (.aload_n 1, 1) := by decide +kernel
theorem dX3_keep_31 : decode cX3_keep 31 = .ok (.getfield 116, 3) := by decide +kernel
theorem dX3_keep_34 : decode cX3_keep 34 = .ok (.iload_n 3, 1) := by decide +kernel
theorem dX3_keep_35 : decode cX3_keep 35 = .ok (.iaload, 1) := by decide +kernel
theorem dX3_keep_36 : decode cX3_keep 36 = .ok (.invokevirtual 80, 3) := by decide +kernel
theorem dX3_keep_39 : decode cX3_keep 39 = .ok (.iinc 3 1, 3) := by decide +kernel
theorem dX3_keep_42 : decode cX3_keep 42 = .ok (.goto (-31), 3) := by decide +kernel
theorem dX3_keep_45 : decode cX3_keep 45 = .ok (.aload_n 1, 1) := by decide +kernel
theorem dX3_keep_46 : decode cX3_keep 46 = .ok (.iconst 0, 1) := by decide +kernel
theorem dX3_keep_47 : decode cX3_keep 47 = .ok (.invokevirtual 235, 3) := by decide +kernel
theorem dX3_keep_50 : decode cX3_keep 50 = .ok (.aload_n 0, 1) := by decide +kernel
theorem dX3_keep_51 : decode cX3_keep 51 = .ok (.getfield 69, 3) := by decide +kernel
theorem dX3_keep_54 : decode cX3_keep 54 = .ok (.ireturn, 1) := by decide +kernel
theorem dX3_change_0 : decode cX3_change 0 = .ok (.aload_n 0, 1) := by decide +kernel
theorem dX3_change_1 : decode cX3_change 1 = .ok (.getfield 16, 3) := by decide +kernel
theorem dX3_change_4 : decode cX3_change 4 = .ok (.iload_n 1, 1) := by decide +kernel
theorem dX3_change_5 : decode cX3_change 5 = .ok (.iload_n 2, 1) := by decide +kernel
theorem dX3_change_6 : decode cX3_change 6 = .ok (.iastore, 1) := by decide +kernel
theorem dX3_change_7 : decode cX3_change 7 = .ok (.aload_n 0, 1) := by decide +kernel
theorem dX3_change_8 : decode cX3_change 8 = .ok (.getfield 20, 3) := by decide +kernel
theorem dX3_change_11 : decode cX3_change 11 = .ok (.iload_n 1, 1) := by decide +kernel
theorem dX3_change_12 : decode cX3_change 12 = .ok (.aload_n 0, 1) := by decide +kernel
theorem dX3_change_13 : decode cX3_change 13 = .ok (.getfield 69, 3) := by decide +kernel
theorem dX3_change_16 : decode cX3_change 16 = .ok (.iastore, 1) := by decide +kernel
theorem dX3_change_17 : decode cX3_change 17 = .ok (.return_, 1) := by decide +kernel
theorem dX3_sentAt_0 : decode cX3_sentAt 0 = .ok (.aload_n 0, 1) := by decide +kernel
theorem dX3_sentAt_1 : decode cX3_sentAt 1 = .ok (.getfield 25, 3) := by decide +kernel
theorem dX3_sentAt_4 : decode cX3_sentAt 4 = .ok (.astore_n 2, 1) := by decide +kernel
theorem dX3_sentAt_5 : decode cX3_sentAt 5 = .ok (.aload_n 2, 1) := by decide +kernel
theorem dX3_sentAt_6 : decode cX3_sentAt 6 = .ok (.arraylength, 1) := by decide +kernel
theorem dX3_sentAt_7 : decode cX3_sentAt 7 = .ok (.istore_n 3, 1) := by decide +kernel
theorem dX3_sentAt_8 : decode cX3_sentAt 8 = .ok (.iconst 0, 1) := by decide +kernel
theorem dX3_sentAt_9 : decode cX3_sentAt 9 = .ok (.istore 4, 2) := by decide +kernel
theorem dX3_sentAt_11 : decode cX3_sentAt 11 = .ok (.iload 4, 2) := by decide +kernel
theorem dX3_sentAt_13 : decode cX3_sentAt 13 = .ok (.iload_n 3, 1) := by decide +kernel
theorem dX3_sentAt_14 : decode cX3_sentAt 14 = .ok (.if_icmp .ge 40, 3) := by decide +kernel
theorem dX3_sentAt_17 : decode cX3_sentAt 17 = .ok (.aload_n 2, 1) := by decide +kernel
theorem dX3_sentAt_18 : decode cX3_sentAt 18 = .ok (.iload 4, 2) := by decide +kernel
theorem dX3_sentAt_20 : decode cX3_sentAt 20 = .ok (.aaload, 1) := by decide +kernel
theorem dX3_sentAt_21 : decode cX3_sentAt 21 = .ok (.astore 5, 2) := by decide +kernel
theorem dX3_sentAt_23 : decode cX3_sentAt 23 = .ok (.aload 5, 2) := by decide +kernel
theorem dX3_sentAt_25 : decode cX3_sentAt 25 = .ok (.getfield 89, 3) := by decide +kernel
theorem dX3_sentAt_28 : decode cX3_sentAt 28 = .ok (.iconst 3, 1) := by decide +kernel
theorem dX3_sentAt_29 : decode cX3_sentAt 29 = .ok (.if_icmp .ne 19, 3) := by decide +kernel
theorem dX3_sentAt_32 : decode cX3_sentAt 32 = .ok (.aload_n 0, 1) := by decide +kernel
theorem dX3_sentAt_33 : decode cX3_sentAt 33 = .ok (.aload 5, 2) := by decide +kernel
theorem dX3_sentAt_35 : decode cX3_sentAt 35 = .ok (.invokevirtual 279, 3) := by decide +kernel
theorem dX3_sentAt_38 : decode cX3_sentAt 38 = .ok (.iload_n 1, 1) := by decide +kernel
theorem dX3_sentAt_39 : decode cX3_sentAt 39 = .ok (.if_icmp .ne 9, 3) := by decide +kernel
theorem dX3_sentAt_42 : decode cX3_sentAt 42 = .ok (.aload 5, 2) := by decide +kernel
theorem dX3_sentAt_44 : decode cX3_sentAt 44 = .ok (.getfield 265, 3) := by decide +kernel
theorem dX3_sentAt_47 : decode cX3_sentAt 47 = .ok (.ireturn, 1) := by decide +kernel
theorem dX3_sentAt_48 : decode cX3_sentAt 48 = .ok (.iinc 4 1, 3) := by decide +kernel
theorem dX3_sentAt_51 : decode cX3_sentAt 51 = .ok (.goto (-40), 3) := by decide +kernel
theorem dX3_sentAt_54 : decode cX3_sentAt 54 = .ok (.iconst (-1), 1) := by decide +kernel
theorem dX3_sentAt_55 : decode cX3_sentAt 55 = .ok (.ireturn, 1) := by decide +kernel
theorem dX3_sentBefore_0 : decode cX3_sentBefore 0 = .ok (.iconst 0, 1) := by decide +kernel
theorem dX3_sentBefore_1 : decode cX3_sentBefore 1 = .ok (.istore_n 2, 1) := by decide +kernel
theorem dX3_sentBefore_2 : decode cX3_sentBefore 2 = .ok (.aload_n 0, 1) := by decide +kernel
theorem dX3_sentBefore_3 : decode cX3_sentBefore 3 = .ok (.getfield 25, 3) := by decide +kernel
theorem dX3_sentBefore_6 : decode cX3_sentBefore 6 = .ok (.astore_n 3, 1) := by decide +kernel
theorem dX3_sentBefore_7 : decode cX3_sentBefore 7 = .ok (.aload_n 3, 1) := by decide +kernel
theorem dX3_sentBefore_8 : decode cX3_sentBefore 8 = .ok (.arraylength, 1) := by decide +kernel
theorem dX3_sentBefore_9 : decode cX3_sentBefore 9 = .ok (.istore 4, 2) := by decide +kernel
theorem dX3_sentBefore_11 : decode cX3_sentBefore 11 = .ok (.iconst 0, 1) := by decide +kernel
theorem dX3_sentBefore_12 : decode cX3_sentBefore 12 = .ok (.istore 5, 2) := by decide +kernel
theorem dX3_sentBefore_14 : decode cX3_sentBefore 14 = .ok (.iload 5, 2) := by decide +kernel
theorem dX3_sentBefore_16 : decode cX3_sentBefore 16 = .ok (.iload 4, 2) := by decide +kernel
theorem dX3_sentBefore_18 : decode cX3_sentBefore 18 = .ok (.if_icmp .ge 39, 3) := by decide +kernel
theorem dX3_sentBefore_21 : decode cX3_sentBefore 21 = .ok (.aload_n 3, 1) := by decide +kernel
theorem dX3_sentBefore_22 : decode cX3_sentBefore 22 = .ok (.iload 5, 2) := by decide +kernel
theorem dX3_sentBefore_24 : decode cX3_sentBefore 24 = .ok (.aaload, 1) := by decide +kernel
theorem dX3_sentBefore_25 : decode cX3_sentBefore 25 = .ok (.astore 6, 2) := by decide +kernel
theorem dX3_sentBefore_27 : decode cX3_sentBefore 27 = .ok (.aload 6, 2) := by decide +kernel
theorem dX3_sentBefore_29 : decode cX3_sentBefore 29 = .ok (.getfield 89, 3) := by decide +kernel
theorem dX3_sentBefore_32 : decode cX3_sentBefore 32 = .ok (.iconst 3, 1) := by decide +kernel
theorem dX3_sentBefore_33 : decode cX3_sentBefore 33 = .ok (.if_icmp .ne 18, 3) := by decide +kernel
theorem dX3_sentBefore_36 : decode cX3_sentBefore 36 = .ok (.aload 6, 2) := by decide +kernel
theorem dX3_sentBefore_38 : decode cX3_sentBefore 38 = .ok (.getfield 165, 3) := by decide +kernel
theorem dX3_sentBefore_41 : decode cX3_sentBefore 41 = .ok (.aload_n 1, 1) := by decide +kernel
theorem dX3_sentBefore_42 : decode cX3_sentBefore 42 = .ok (.getfield 165, 3) := by decide +kernel
theorem dX3_sentBefore_45 : decode cX3_sentBefore 45 = .ok (.if_icmp .ge 6, 3) := by decide +kernel
theorem dX3_sentBefore_48 : decode cX3_sentBefore 48 = .ok (.iinc 2 1, 3) := by decide +kernel
theorem dX3_sentBefore_51 : decode cX3_sentBefore 51 = .ok (.iinc 5 1, 3) := by decide +kernel
theorem dX3_sentBefore_54 : decode cX3_sentBefore 54 = .ok (.goto (-40), 3) := by decide +kernel
theorem dX3_sentBefore_57 : decode cX3_sentBefore 57 = .ok (.iload_n 2, 1) := by decide +kernel
theorem dX3_sentBefore_58 : decode cX3_sentBefore 58 = .ok (.ireturn, 1) := by decide +kernel
theorem dX3_firstWithoutVote_0 : decode cX3_firstWithoutVote 0 = .ok (.iconst 0, 1) := by decide +kernel
theorem dX3_firstWithoutVote_1 : decode cX3_firstWithoutVote 1 = .ok (.istore_n 2, 1) := by decide +kernel
theorem dX3_firstWithoutVote_2 : decode cX3_firstWithoutVote 2 = .ok (.iload_n 2, 1) := by decide +kernel
theorem dX3_firstWithoutVote_3 : decode cX3_firstWithoutVote 3 = .ok (.bipush 6, 2) := by decide +kernel
theorem dX3_firstWithoutVote_5 : decode cX3_firstWithoutVote 5 = .ok (.if_icmp .ge 39, 3) := by decide +kernel
theorem dX3_firstWithoutVote_8 : decode cX3_firstWithoutVote 8 = .ok (.aload_n 0, 1) := by decide +kernel
theorem dX3_firstWithoutVote_9 : decode cX3_firstWithoutVote 9 = .ok (.iload_n 2, 1) := by decide +kernel
theorem dX3_firstWithoutVote_10 : decode cX3_firstWithoutVote 10 = .ok (.invokevirtual 181, 3) := by decide +kernel
theorem dX3_firstWithoutVote_13 : decode cX3_firstWithoutVote 13 = .ok (.istore_n 3, 1) := by decide +kernel
theorem dX3_firstWithoutVote_14 : decode cX3_firstWithoutVote 14 = .ok (.iload_n 3, 1) := by decide +kernel
theorem dX3_firstWithoutVote_15 : decode cX3_firstWithoutVote 15 = .ok (.invokestatic 86, 3) := by decide +kernel
theorem dX3_firstWithoutVote_18 : decode cX3_firstWithoutVote 18 = .ok (.ifCond .eq 20, 3) := by decide +kernel
theorem dX3_firstWithoutVote_21 : decode cX3_firstWithoutVote 21 = .ok (.aload_n 0, 1) := by decide +kernel
theorem dX3_firstWithoutVote_22 : decode cX3_firstWithoutVote 22 = .ok (.getfield 25, 3) := by decide +kernel
theorem dX3_firstWithoutVote_25 : decode cX3_firstWithoutVote 25 = .ok (.iload_n 3, 1) := by decide +kernel
theorem dX3_firstWithoutVote_26 : decode cX3_firstWithoutVote 26 = .ok (.aaload, 1) := by decide +kernel
theorem dX3_firstWithoutVote_27 : decode cX3_firstWithoutVote 27 = .ok (.getfield 174, 3) := by decide +kernel
theorem dX3_firstWithoutVote_30 : decode cX3_firstWithoutVote 30 = .ok (.iload_n 1, 1) := by decide +kernel
theorem dX3_firstWithoutVote_31 : decode cX3_firstWithoutVote 31 = .ok (.iaload, 1) := by decide +kernel
theorem dX3_firstWithoutVote_32 : decode cX3_firstWithoutVote 32 = .ok (.iconst (-1), 1) := by decide +kernel
theorem dX3_firstWithoutVote_33 : decode cX3_firstWithoutVote 33 = .ok (.if_icmp .ne 5, 3) := by decide +kernel
theorem dX3_firstWithoutVote_36 : decode cX3_firstWithoutVote 36 = .ok (.iload_n 3, 1) := by decide +kernel
theorem dX3_firstWithoutVote_37 : decode cX3_firstWithoutVote 37 = .ok (.ireturn, 1) := by decide +kernel
theorem dX3_firstWithoutVote_38 : decode cX3_firstWithoutVote 38 = .ok (.iinc 2 1, 3) := by decide +kernel
theorem dX3_firstWithoutVote_41 : decode cX3_firstWithoutVote 41 = .ok (.goto (-39), 3) := by decide +kernel
theorem dX3_firstWithoutVote_44 : decode cX3_firstWithoutVote 44 = .ok (.iconst (-1), 1) := by decide +kernel
theorem dX3_firstWithoutVote_45 : decode cX3_firstWithoutVote 45 = .ok (.ireturn, 1) := by decide +kernel
theorem dX3_opinion_0 : decode cX3_opinion 0 = .ok (.aload_n 0, 1) := by decide +kernel
theorem dX3_opinion_1 : decode cX3_opinion 1 = .ok (.aload_n 2, 1) := by decide +kernel
theorem dX3_opinion_2 : decode cX3_opinion 2 = .ok (.invokevirtual 156, 3) := by decide +kernel
theorem dX3_opinion_5 : decode cX3_opinion 5 = .ok (.aload_n 2, 1) := by decide +kernel
theorem dX3_opinion_6 : decode cX3_opinion 6 = .ok (.getfield 119, 3) := by decide +kernel
theorem dX3_opinion_9 : decode cX3_opinion 9 = .ok (.aload_n 0, 1) := by decide +kernel
theorem dX3_opinion_10 : decode cX3_opinion 10 = .ok (.iload_n 1, 1) := by decide +kernel
theorem dX3_opinion_11 : decode cX3_opinion 11 = .ok (.aload_n 2, 1) := by decide +kernel
theorem dX3_opinion_12 : decode cX3_opinion 12 = .ok (.invokevirtual 282, 3) := by decide +kernel
theorem dX3_opinion_15 : decode cX3_opinion 15 = .ok (.iand, 1) := by decide +kernel
theorem dX3_opinion_16 : decode cX3_opinion 16 = .ok (.ior, 1) := by decide +kernel
theorem dX3_opinion_17 : decode cX3_opinion 17 = .ok (.istore_n 3, 1) := by decide +kernel
theorem dX3_opinion_18 : decode cX3_opinion 18 = .ok (.iload_n 3, 1) := by decide +kernel
theorem dX3_opinion_19 : decode cX3_opinion 19 = .ok (.iload_n 1, 1) := by decide +kernel
theorem dX3_opinion_20 : decode cX3_opinion 20 = .ok (.invokestatic 285, 3) := by decide +kernel
theorem dX3_opinion_23 : decode cX3_opinion 23 = .ok (.iand, 1) := by decide +kernel
theorem dX3_opinion_24 : decode cX3_opinion 24 = .ok (.ifCond .ne 7, 3) := by decide +kernel
theorem dX3_opinion_27 : decode cX3_opinion 27 = .ok (.iconst 1, 1) := by decide +kernel
theorem dX3_opinion_28 : decode cX3_opinion 28 = .ok (.goto 4, 3) := by decide +kernel
theorem dX3_opinion_31 : decode cX3_opinion 31 = .ok (.iconst 0, 1) := by decide +kernel
theorem dX3_opinion_32 : decode cX3_opinion 32 = .ok (.ireturn, 1) := by decide +kernel
theorem dX3_promisedBefore_0 : decode cX3_promisedBefore 0 = .ok (.iconst 0, 1) := by decide +kernel
theorem dX3_promisedBefore_1 : decode cX3_promisedBefore 1 = .ok (.istore_n 3, 1) := by decide +kernel
theorem dX3_promisedBefore_2 : decode cX3_promisedBefore 2 = .ok (.aload_n 0, 1) := by decide +kernel
theorem dX3_promisedBefore_3 : decode cX3_promisedBefore 3 = .ok (.getfield 25, 3) := by decide +kernel
theorem dX3_promisedBefore_6 : decode cX3_promisedBefore 6 = .ok (.astore 4, 2) := by decide +kernel
theorem dX3_promisedBefore_8 : decode cX3_promisedBefore 8 = .ok (.aload 4, 2) := by decide +kernel
theorem dX3_promisedBefore_10 : decode cX3_promisedBefore 10 = .ok (.arraylength, 1) := by decide +kernel
theorem dX3_promisedBefore_11 : decode cX3_promisedBefore 11 = .ok (.istore 5, 2) := by decide +kernel
theorem dX3_promisedBefore_13 : decode cX3_promisedBefore 13 = .ok (.iconst 0, 1) := by decide +kernel
theorem dX3_promisedBefore_14 : decode cX3_promisedBefore 14 = .ok (.istore 6, 2) := by decide +kernel
theorem dX3_promisedBefore_16 : decode cX3_promisedBefore 16 = .ok (.iload 6, 2) := by decide +kernel
theorem dX3_promisedBefore_18 : decode cX3_promisedBefore 18 = .ok (.iload 5, 2) := by decide +kernel
theorem dX3_promisedBefore_20 : decode cX3_promisedBefore 20 = .ok (.if_icmp .ge 56, 3) := by decide +kernel
theorem dX3_promisedBefore_23 : decode cX3_promisedBefore 23 = .ok (.aload 4, 2) := by decide +kernel
theorem dX3_promisedBefore_25 : decode cX3_promisedBefore 25 = .ok (.iload 6, 2) := by decide +kernel
theorem dX3_promisedBefore_27 : decode cX3_promisedBefore 27 = .ok (.aaload, 1) := by decide +kernel
theorem dX3_promisedBefore_28 : decode cX3_promisedBefore 28 = .ok (.astore 7, 2) := by decide +kernel
theorem dX3_promisedBefore_30 : decode cX3_promisedBefore 30 = .ok (.aload 7, 2) := by decide +kernel
theorem dX3_promisedBefore_32 : decode cX3_promisedBefore 32 = .ok (.getfield 89, 3) := by decide +kernel
theorem dX3_promisedBefore_35 : decode cX3_promisedBefore 35 = .ok (.iconst 3, 1) := by decide +kernel
theorem dX3_promisedBefore_36 : decode cX3_promisedBefore 36 = .ok (.if_icmp .ne 34, 3) := by decide +kernel
theorem dX3_promisedBefore_39 : decode cX3_promisedBefore 39 = .ok (.aload 7, 2) := by decide +kernel
theorem dX3_promisedBefore_41 : decode cX3_promisedBefore 41 = .ok (.getfield 165, 3) := by decide +kernel
theorem dX3_promisedBefore_44 : decode cX3_promisedBefore 44 = .ok (.aload_n 2, 1) := by decide +kernel
theorem dX3_promisedBefore_45 : decode cX3_promisedBefore 45 = .ok (.getfield 165, 3) := by decide +kernel
theorem dX3_promisedBefore_48 : decode cX3_promisedBefore 48 = .ok (.if_icmp .ge 22, 3) := by decide +kernel
theorem dX3_promisedBefore_51 : decode cX3_promisedBefore 51 = .ok (.aload 7, 2) := by decide +kernel
theorem dX3_promisedBefore_53 : decode cX3_promisedBefore 53 = .ok (.getfield 174, 3) := by decide +kernel
theorem dX3_promisedBefore_56 : decode cX3_promisedBefore 56 = .ok (.iload_n 1, 1) := by decide +kernel
theorem dX3_promisedBefore_57 : decode cX3_promisedBefore 57 = .ok (.iaload, 1) := by decide +kernel
theorem dX3_promisedBefore_58 : decode cX3_promisedBefore 58 = .ok (.iconst 1, 1) := by decide +kernel
theorem dX3_promisedBefore_59 : decode cX3_promisedBefore 59 = .ok (.if_icmp .ne 11, 3) := by decide +kernel
theorem dX3_promisedBefore_62 : decode cX3_promisedBefore 62 = .ok (.iload_n 3, 1) := by decide +kernel
theorem dX3_promisedBefore_63 : decode cX3_promisedBefore 63 = .ok (.aload 7, 2) := by decide +kernel
theorem dX3_promisedBefore_65 : decode cX3_promisedBefore 65 = .ok (.getfield 109, 3) := by decide +kernel
theorem dX3_promisedBefore_68 : decode cX3_promisedBefore 68 = .ok (.ior, 1) := by decide +kernel
theorem dX3_promisedBefore_69 : decode cX3_promisedBefore 69 = .ok (.istore_n 3, 1) := by decide +kernel
theorem dX3_promisedBefore_70 : decode cX3_promisedBefore 70 = .ok (.iinc 6 1, 3) := by decide +kernel
theorem dX3_promisedBefore_73 : decode cX3_promisedBefore 73 = .ok (.goto (-57), 3) := by decide +kernel
theorem dX3_promisedBefore_76 : decode cX3_promisedBefore 76 = .ok (.iload_n 3, 1) := by decide +kernel
theorem dX3_promisedBefore_77 : decode cX3_promisedBefore 77 = .ok (.ireturn, 1) := by decide +kernel
theorem dX3_itemsOf_0 : decode cX3_itemsOf 0 = .ok (.iconst 4, 1) := by decide +kernel
theorem dX3_itemsOf_1 : decode cX3_itemsOf 1 = .ok (.invokestatic 128, 3) := by decide +kernel
theorem dX3_itemsOf_4 : decode cX3_itemsOf 4 = .ok (.iconst 1, 1) := by decide +kernel
theorem dX3_itemsOf_5 : decode cX3_itemsOf 5 = .ok (.isub, 1) := by decide +kernel
theorem dX3_itemsOf_6 : decode cX3_itemsOf 6 = .ok (.istore_n 1, 1) := by decide +kernel
theorem dX3_itemsOf_7 : decode cX3_itemsOf 7 = .ok (.iload_n 1, 1) := by decide +kernel
theorem dX3_itemsOf_8 : decode cX3_itemsOf 8 = .ok (.iload_n 0, 1) := by decide +kernel
theorem dX3_itemsOf_9 : decode cX3_itemsOf 9 = .ok (.iconst 4, 1) := by decide +kernel
theorem dX3_itemsOf_10 : decode cX3_itemsOf 10 = .ok (.imul, 1) := by decide +kernel
theorem dX3_itemsOf_11 : decode cX3_itemsOf 11 = .ok (.ishl, 1) := by decide +kernel
theorem dX3_itemsOf_12 : decode cX3_itemsOf 12 = .ok (.ireturn, 1) := by decide +kernel
theorem dX3_entryOf_0 : decode cX3_entryOf 0 = .ok (.iload_n 1, 1) := by decide +kernel
theorem dX3_entryOf_1 : decode cX3_entryOf 1 = .ok (.iconst 1, 1) := by decide +kernel
theorem dX3_entryOf_2 : decode cX3_entryOf 2 = .ok (.if_icmp .lt 18, 3) := by decide +kernel
theorem dX3_entryOf_5 : decode cX3_entryOf 5 = .ok (.iload_n 1, 1) := by decide +kernel
theorem dX3_entryOf_6 : decode cX3_entryOf 6 = .ok (.aload_n 0, 1) := by decide +kernel
theorem dX3_entryOf_7 : decode cX3_entryOf 7 = .ok (.getfield 69, 3) := by decide +kernel
theorem dX3_entryOf_10 : decode cX3_entryOf 10 = .ok (.if_icmp .gt 10, 3) := by decide +kernel
theorem dX3_entryOf_13 : decode cX3_entryOf 13 = .ok (.iload_n 1, 1) := by decide +kernel
theorem dX3_entryOf_14 : decode cX3_entryOf 14 = .ok (.sipush 512, 3) := by decide +kernel
theorem dX3_entryOf_17 : decode cX3_entryOf 17 = .ok (.if_icmp .le 5, 3) := by decide +kernel
theorem dX3_entryOf_20 : decode cX3_entryOf 20 = .ok (.aconst_null, 1) := by decide +kernel
theorem dX3_entryOf_21 : decode cX3_entryOf 21 = .ok (.areturn, 1) := by decide +kernel
theorem dX3_entryOf_22 : decode cX3_entryOf 22 = .ok (.aload_n 0, 1) := by decide +kernel
theorem dX3_entryOf_23 : decode cX3_entryOf 23 = .ok (.getfield 31, 3) := by decide +kernel
theorem dX3_entryOf_26 : decode cX3_entryOf 26 = .ok (.iload_n 1, 1) := by decide +kernel
theorem dX3_entryOf_27 : decode cX3_entryOf 27 = .ok (.iconst 1, 1) := by decide +kernel
theorem dX3_entryOf_28 : decode cX3_entryOf 28 = .ok (.isub, 1) := by decide +kernel
theorem dX3_entryOf_29 : decode cX3_entryOf 29 = .ok (.aaload, 1) := by decide +kernel
theorem dX3_entryOf_30 : decode cX3_entryOf 30 = .ok (.areturn, 1) := by decide +kernel
theorem dX3_nextEntry_0 : decode cX3_nextEntry 0 = .ok (.aload_n 0, 1) := by decide +kernel
theorem dX3_nextEntry_1 : decode cX3_nextEntry 1 = .ok (.getfield 31, 3) := by decide +kernel
theorem dX3_nextEntry_4 : decode cX3_nextEntry 4 = .ok (.aload_n 0, 1) := by decide +kernel
theorem dX3_nextEntry_5 : decode cX3_nextEntry 5 = .ok (.getfield 69, 3) := by decide +kernel
theorem dX3_nextEntry_8 : decode cX3_nextEntry 8 = .ok (.aaload, 1) := by decide +kernel
theorem dX3_nextEntry_9 : decode cX3_nextEntry 9 = .ok (.astore_n 1, 1) := by decide +kernel
theorem dX3_nextEntry_10 : decode cX3_nextEntry 10 = .ok (.aload_n 1, 1) := by decide +kernel
theorem dX3_nextEntry_11 : decode cX3_nextEntry 11 = .ok (.ifnonnull 21, 3) := by decide +kernel
theorem dX3_nextEntry_14 : decode cX3_nextEntry 14 = .ok (.new 29, 3) := by decide +kernel
theorem dX3_nextEntry_17 : decode cX3_nextEntry 17 = .ok (.dup, 1) := by decide +kernel
theorem dX3_nextEntry_18 : decode cX3_nextEntry 18 = .ok (.invokespecial 288, 3) := by decide +kernel
theorem dX3_nextEntry_21 : decode cX3_nextEntry 21 = .ok (.astore_n 1, 1) := by decide +kernel
theorem dX3_nextEntry_22 : decode cX3_nextEntry 22 = .ok (.aload_n 0, 1) := by decide +kernel
theorem dX3_nextEntry_23 : decode cX3_nextEntry 23 = .ok (.getfield 31, 3) := by decide +kernel
theorem dX3_nextEntry_26 : decode cX3_nextEntry 26 = .ok (.aload_n 0, 1) := by decide +kernel
theorem dX3_nextEntry_27 : decode cX3_nextEntry 27 = .ok (.getfield 69, 3) := by decide +kernel
theorem dX3_nextEntry_30 : decode cX3_nextEntry 30 = .ok (.aload_n 1, 1) := by decide +kernel
theorem dX3_nextEntry_31 : decode cX3_nextEntry 31 = .ok (.aastore, 1) := by decide +kernel
theorem dX3_nextEntry_32 : decode cX3_nextEntry 32 = .ok (.aload_n 0, 1) := by decide +kernel
theorem dX3_nextEntry_33 : decode cX3_nextEntry 33 = .ok (.dup, 1) := by decide +kernel
theorem dX3_nextEntry_34 : decode cX3_nextEntry 34 = .ok (.getfield 69, 3) := by decide +kernel
theorem dX3_nextEntry_37 : decode cX3_nextEntry 37 = .ok (.iconst 1, 1) := by decide +kernel
theorem dX3_nextEntry_38 : decode cX3_nextEntry 38 = .ok (.iadd, 1) := by decide +kernel
theorem dX3_nextEntry_39 : decode cX3_nextEntry 39 = .ok (.putfield 69, 3) := by decide +kernel
theorem dX3_nextEntry_42 : decode cX3_nextEntry 42 = .ok (.aload_n 1, 1) := by decide +kernel
theorem dX3_nextEntry_43 : decode cX3_nextEntry 43 = .ok (.areturn, 1) := by decide +kernel
theorem dX4_init_0 : decode cX4_init 0 = .ok (.aload_n 0, 1) := by decide +kernel
theorem dX4_init_1 : decode cX4_init 1 = .ok (.invokespecial 1, 3) := by decide +kernel
theorem dX4_init_4 : decode cX4_init 4 = .ok (.aload_n 0, 1) := by decide +kernel
theorem dX4_init_5 : decode cX4_init 5 = .ok (.bipush 8, 2) := by decide +kernel
theorem dX4_init_7 : decode cX4_init 7 = .ok (.newarray .int, 2) := by decide +kernel
theorem dX4_init_9 : decode cX4_init 9 = .ok (.putfield 7, 3) := by decide +kernel
theorem dX4_init_12 : decode cX4_init 12 = .ok (.aload_n 0, 1) := by decide +kernel
theorem dX4_init_13 : decode cX4_init 13 = .ok (.bipush 8, 2) := by decide +kernel
theorem dX4_init_15 : decode cX4_init 15 = .ok (.newarray .int, 2) := by decide +kernel
theorem dX4_init_17 : decode cX4_init 17 = .ok (.putfield 13, 3) := by decide +kernel
theorem dX4_init_20 : decode cX4_init 20 = .ok (.aload_n 0, 1) := by decide +kernel
theorem dX4_init_21 : decode cX4_init 21 = .ok (.sipush 13200, 3) := by decide +kernel
theorem dX4_init_24 : decode cX4_init 24 = .ok (.newarray .int, 2) := by decide +kernel
theorem dX4_init_26 : decode cX4_init 26 = .ok (.putfield 16, 3) := by decide +kernel
theorem dX4_init_29 : decode cX4_init 29 = .ok (.aload_n 0, 1) := by decide +kernel
theorem dX4_init_30 : decode cX4_init 30 = .ok (.bipush 6, 2) := by decide +kernel
theorem dX4_init_32 : decode cX4_init 32 = .ok (.newarray .int, 2) := by decide +kernel
theorem dX4_init_34 : decode cX4_init 34 = .ok (.putfield 19, 3) := by decide +kernel
theorem dX4_init_37 : decode cX4_init 37 = .ok (.aload_n 0, 1) := by decide +kernel
theorem dX4_init_38 : decode cX4_init 38 = .ok (.bipush 6, 2) := by decide +kernel
theorem dX4_init_40 : decode cX4_init 40 = .ok (.newarray .int, 2) := by decide +kernel
theorem dX4_init_42 : decode cX4_init 42 = .ok (.putfield 22, 3) := by decide +kernel
theorem dX4_init_45 : decode cX4_init 45 = .ok (.aload_n 0, 1) := by decide +kernel
theorem dX4_init_46 : decode cX4_init 46 = .ok (.bipush 6, 2) := by decide +kernel
theorem dX4_init_48 : decode cX4_init 48 = .ok (.newarray .int, 2) := by decide +kernel
theorem dX4_init_50 : decode cX4_init 50 = .ok (.putfield 25, 3) := by decide +kernel
theorem dX4_init_53 : decode cX4_init 53 = .ok (.aload_n 0, 1) := by decide +kernel
theorem dX4_init_54 : decode cX4_init 54 = .ok (.bipush 6, 2) := by decide +kernel
theorem dX4_init_56 : decode cX4_init 56 = .ok (.newarray .int, 2) := by decide +kernel
theorem dX4_init_58 : decode cX4_init 58 = .ok (.putfield 28, 3) := by decide +kernel
theorem dX4_init_61 : decode cX4_init 61 = .ok (.aload_n 0, 1) := by decide +kernel
theorem dX4_init_62 : decode cX4_init 62 = .ok (.bipush 6, 2) := by decide +kernel
theorem dX4_init_64 : decode cX4_init 64 = .ok (.newarray .boolean, 2) := by decide +kernel
theorem dX4_init_66 : decode cX4_init 66 = .ok (.putfield 31, 3) := by decide +kernel
theorem dX4_init_69 : decode cX4_init 69 = .ok (.aload_n 0, 1) := by decide +kernel
theorem dX4_init_70 : decode cX4_init 70 = .ok (.bipush 6, 2) := by decide +kernel
theorem dX4_init_72 : decode cX4_init 72 = .ok (.newarray .int, 2) := by decide +kernel
theorem dX4_init_74 : decode cX4_init 74 = .ok (.putfield 35, 3) := by decide +kernel
theorem dX4_init_77 : decode cX4_init 77 = .ok (.aload_n 0, 1) := by decide +kernel
theorem dX4_init_78 : decode cX4_init 78 = .ok (.bipush 6, 2) := by decide +kernel
theorem dX4_init_80 : decode cX4_init 80 = .ok (.newarray .int, 2) := by decide +kernel
theorem dX4_init_82 : decode cX4_init 82 = .ok (.putfield 38, 3) := by decide +kernel
theorem dX4_init_85 : decode cX4_init 85 = .ok (.aload_n 0, 1) := by decide +kernel
theorem dX4_init_86 : decode cX4_init 86 = .ok (.bipush 48, 2) := by decide +kernel
theorem dX4_init_88 : decode cX4_init 88 = .ok (.newarray .int, 2) := by decide +kernel
theorem dX4_init_90 : decode cX4_init 90 = .ok (.putfield 41, 3) := by decide +kernel
theorem dX4_init_93 : decode cX4_init 93 = .ok (.aload_n 0, 1) := by decide +kernel
theorem dX4_init_94 : decode cX4_init 94 = .ok (.bipush 48, 2) := by decide +kernel
theorem dX4_init_96 : decode cX4_init 96 = .ok (.newarray .int, 2) := by decide +kernel
theorem dX4_init_98 : decode cX4_init 98 = .ok (.putfield 44, 3) := by decide +kernel
theorem dX4_init_101 : decode cX4_init 101 = .ok (.aload_n 0, 1) := by decide +kernel
theorem dX4_init_102 : decode cX4_init 102 = .ok (.bipush 48, 2) := by decide +kernel
theorem dX4_init_104 : decode cX4_init 104 = .ok (.newarray .int, 2) := by decide +kernel
theorem dX4_init_106 : decode cX4_init 106 = .ok (.putfield 47, 3) := by decide +kernel
theorem dX4_init_109 : decode cX4_init 109 = .ok (.aload_n 0, 1) := by decide +kernel
theorem dX4_init_110 : decode cX4_init 110 = .ok (.bipush 6, 2) := by decide +kernel
theorem dX4_init_112 : decode cX4_init 112 = .ok (.newarray .int, 2) := by decide +kernel
theorem dX4_init_114 : decode cX4_init 114 = .ok (.putfield 50, 3) := by decide +kernel
theorem dX4_init_117 : decode cX4_init 117 = .ok (.aload_n 0, 1) := by decide +kernel
theorem dX4_init_118 : decode cX4_init 118 = .ok (.bipush 12, 2) := by decide +kernel
theorem dX4_init_120 : decode cX4_init 120 = .ok (.newarray .int, 2) := by decide +kernel
theorem dX4_init_122 : decode cX4_init 122 = .ok (.putfield 53, 3) := by decide +kernel
theorem dX4_init_125 : decode cX4_init 125 = .ok (.aload_n 0, 1) := by decide +kernel
theorem dX4_init_126 : decode cX4_init 126 = .ok (.iconst 3, 1) := by decide +kernel
theorem dX4_init_127 : decode cX4_init 127 = .ok (.putfield 56, 3) := by decide +kernel
theorem dX4_init_130 : decode cX4_init 130 = .ok (.aload_n 0, 1) := by decide +kernel
theorem dX4_init_131 : decode cX4_init 131 = .ok (.sipush 200, 3) := by decide +kernel
theorem dX4_init_134 : decode cX4_init 134 = .ok (.newarray .int, 2) := by decide +kernel
theorem dX4_init_136 : decode cX4_init 136 = .ok (.putfield 60, 3) := by decide +kernel
theorem dX4_init_139 : decode cX4_init 139 = .ok (.aload_n 0, 1) := by decide +kernel
theorem dX4_init_140 : decode cX4_init 140 = .ok (.iconst 3, 1) := by decide +kernel
theorem dX4_init_141 : decode cX4_init 141 = .ok (.newarray .int, 2) := by decide +kernel
theorem dX4_init_143 : decode cX4_init 143 = .ok (.putfield 63, 3) := by decide +kernel
theorem dX4_init_146 : decode cX4_init 146 = .ok (.aload_n 0, 1) := by decide +kernel
theorem dX4_init_147 : decode cX4_init 147 = .ok (.bipush 35, 2) := by decide +kernel
theorem dX4_init_149 : decode cX4_init 149 = .ok (.newarray .int, 2) := by decide +kernel
theorem dX4_init_151 : decode cX4_init 151 = .ok (.dup, 1) := by decide +kernel
theorem dX4_init_152 : decode cX4_init 152 = .ok (.iconst 0, 1) := by decide +kernel
theorem dX4_init_153 : decode cX4_init 153 = .ok (.bipush 97, 2) := by decide +kernel
theorem dX4_init_155 : decode cX4_init 155 = .ok (.iastore, 1) := by decide +kernel
theorem dX4_init_156 : decode cX4_init 156 = .ok (.dup, 1) := by decide +kernel
theorem dX4_init_157 : decode cX4_init 157 = .ok (.iconst 1, 1) := by decide +kernel
theorem dX4_init_158 : decode cX4_init 158 = .ok (.bipush 108, 2) := by decide +kernel
theorem dX4_init_160 : decode cX4_init 160 = .ok (.iastore, 1) := by decide +kernel
theorem dX4_init_161 : decode cX4_init 161 = .ok (.dup, 1) := by decide +kernel
theorem dX4_init_162 : decode cX4_init 162 = .ok (.iconst 2, 1) := by decide +kernel
theorem dX4_init_163 : decode cX4_init 163 = .ok (.bipush 108, 2) := by decide +kernel
theorem dX4_init_165 : decode cX4_init 165 = .ok (.iastore, 1) := by decide +kernel
theorem dX4_init_166 : decode cX4_init 166 = .ok (.dup, 1) := by decide +kernel
theorem dX4_init_167 : decode cX4_init 167 = .ok (.iconst 3, 1) := by decide +kernel
theorem dX4_init_168 : decode cX4_init 168 = .ok (.iconst 0, 1) := by decide +kernel
theorem dX4_init_169 : decode cX4_init 169 = .ok (.iastore, 1) := by decide +kernel
theorem dX4_init_170 : decode cX4_init 170 = .ok (.dup, 1) := by decide +kernel
theorem dX4_init_171 : decode cX4_init 171 = .ok (.iconst 4, 1) := by decide +kernel
theorem dX4_init_172 : decode cX4_init 172 = .ok (.iconst 0, 1) := by decide +kernel
theorem dX4_init_173 : decode cX4_init 173 = .ok (.iastore, 1) := by decide +kernel
theorem dX4_init_174 : decode cX4_init 174 = .ok (.dup, 1) := by decide +kernel
theorem dX4_init_175 : decode cX4_init 175 = .ok (.iconst 5, 1) := by decide +kernel
theorem dX4_init_176 : decode cX4_init 176 = .ok (.bipush 105, 2) := by decide +kernel
theorem dX4_init_178 : decode cX4_init 178 = .ok (.iastore, 1) := by decide +kernel
theorem dX4_init_179 : decode cX4_init 179 = .ok (.dup, 1) := by decide +kernel
theorem dX4_init_180 : decode cX4_init 180 = .ok (.bipush 6, 2) := by decide +kernel
theorem dX4_init_182 : decode cX4_init 182 = .ok (.bipush 116, 2) := by decide +kernel
theorem dX4_init_184 : decode cX4_init 184 = .ok (.iastore, 1) := by decide +kernel
theorem dX4_init_185 : decode cX4_init 185 = .ok (.dup, 1) := by decide +kernel
theorem dX4_init_186 : decode cX4_init 186 = .ok (.bipush 7, 2) := by decide +kernel
theorem dX4_init_188 : decode cX4_init 188 = .ok (.bipush 101, 2) := by decide +kernel
theorem dX4_init_190 : decode cX4_init 190 = .ok (.iastore, 1) := by decide +kernel
theorem dX4_init_191 : decode cX4_init 191 = .ok (.dup, 1) := by decide +kernel
theorem dX4_init_192 : decode cX4_init 192 = .ok (.bipush 8, 2) := by decide +kernel
theorem dX4_init_194 : decode cX4_init 194 = .ok (.bipush 109, 2) := by decide +kernel
theorem dX4_init_196 : decode cX4_init 196 = .ok (.iastore, 1) := by decide +kernel
theorem dX4_init_197 : decode cX4_init 197 = .ok (.dup, 1) := by decide +kernel
theorem dX4_init_198 : decode cX4_init 198 = .ok (.bipush 9, 2) := by decide +kernel
theorem dX4_init_200 : decode cX4_init 200 = .ok (.iconst 0, 1) := by decide +kernel
theorem dX4_init_201 : decode cX4_init 201 = .ok (.iastore, 1) := by decide +kernel
theorem dX4_init_202 : decode cX4_init 202 = .ok (.dup, 1) := by decide +kernel
theorem dX4_init_203 : decode cX4_init 203 = .ok (.bipush 10, 2) := by decide +kernel
theorem dX4_init_205 : decode cX4_init 205 = .ok (.bipush 108, 2) := by decide +kernel
theorem dX4_init_207 : decode cX4_init 207 = .ok (.iastore, 1) := by decide +kernel
theorem dX4_init_208 : decode cX4_init 208 = .ok (.dup, 1) := by decide +kernel
theorem dX4_init_209 : decode cX4_init 209 = .ok (.bipush 11, 2) := by decide +kernel
theorem dX4_init_211 : decode cX4_init 211 = .ok (.bipush 105, 2) := by decide +kernel
theorem dX4_init_213 : decode cX4_init 213 = .ok (.iastore, 1) := by decide +kernel
theorem dX4_init_214 : decode cX4_init 214 = .ok (.dup, 1) := by decide +kernel
theorem dX4_init_215 : decode cX4_init 215 = .ok (.bipush 12, 2) := by decide +kernel
theorem dX4_init_217 : decode cX4_init 217 = .ok (.bipush 109, 2) := by decide +kernel
theorem dX4_init_219 : decode cX4_init 219 = .ok (.iastore, 1) := by decide +kernel
theorem dX4_init_220 : decode cX4_init 220 = .ok (.dup, 1) := by decide +kernel
theorem dX4_init_221 : decode cX4_init 221 = .ok (.bipush 13, 2) := by decide +kernel
theorem dX4_init_223 : decode cX4_init 223 = .ok (.bipush 105, 2) := by decide +kernel
theorem dX4_init_225 : decode cX4_init 225 = .ok (.iastore, 1) := by decide +kernel
theorem dX4_init_226 : decode cX4_init 226 = .ok (.dup, 1) := by decide +kernel
theorem dX4_init_227 : decode cX4_init 227 = .ok (.bipush 14, 2) := by decide +kernel
theorem dX4_init_229 : decode cX4_init 229 = .ok (.bipush 116, 2) := by decide +kernel
theorem dX4_init_231 : decode cX4_init 231 = .ok (.iastore, 1) := by decide +kernel
theorem dX4_init_232 : decode cX4_init 232 = .ok (.dup, 1) := by decide +kernel
theorem dX4_init_233 : decode cX4_init 233 = .ok (.bipush 15, 2) := by decide +kernel
theorem dX4_init_235 : decode cX4_init 235 = .ok (.bipush 98, 2) := by decide +kernel
theorem dX4_init_237 : decode cX4_init 237 = .ok (.iastore, 1) := by decide +kernel
theorem dX4_init_238 : decode cX4_init 238 = .ok (.dup, 1) := by decide +kernel
theorem dX4_init_239 : decode cX4_init 239 = .ok (.bipush 16, 2) := by decide +kernel
theorem dX4_init_241 : decode cX4_init 241 = .ok (.bipush 101, 2) := by decide +kernel
theorem dX4_init_243 : decode cX4_init 243 = .ok (.iastore, 1) := by decide +kernel
theorem dX4_init_244 : decode cX4_init 244 = .ok (.dup, 1) := by decide +kernel
theorem dX4_init_245 : decode cX4_init 245 = .ok (.bipush 17, 2) := by decide +kernel
theorem dX4_init_247 : decode cX4_init 247 = .ok (.bipush 103, 2) := by decide +kernel
theorem dX4_init_249 : decode cX4_init 249 = .ok (.iastore, 1) := by decide +kernel
theorem dX4_init_250 : decode cX4_init 250 = .ok (.dup, 1) := by decide +kernel
theorem dX4_init_251 : decode cX4_init 251 = .ok (.bipush 18, 2) := by decide +kernel
theorem dX4_init_253 : decode cX4_init 253 = .ok (.bipush 105, 2) := by decide +kernel
theorem dX4_init_255 : decode cX4_init 255 = .ok (.iastore, 1) := by decide +kernel
theorem dX4_init_256 : decode cX4_init 256 = .ok (.dup, 1) := by decide +kernel
theorem dX4_init_257 : decode cX4_init 257 = .ok (.bipush 19, 2) := by decide +kernel
theorem dX4_init_259 : decode cX4_init 259 = .ok (.bipush 110, 2) := by decide +kernel
theorem dX4_init_261 : decode cX4_init 261 = .ok (.iastore, 1) := by decide +kernel
theorem dX4_init_262 : decode cX4_init 262 = .ok (.dup, 1) := by decide +kernel
theorem dX4_init_263 : decode cX4_init 263 = .ok (.bipush 20, 2) := by decide +kernel
theorem dX4_init_265 : decode cX4_init 265 = .ok (.bipush 114, 2) := by decide +kernel
theorem dX4_init_267 : decode cX4_init 267 = .ok (.iastore, 1) := by decide +kernel
theorem dX4_init_268 : decode cX4_init 268 = .ok (.dup, 1) := by decide +kernel
theorem dX4_init_269 : decode cX4_init 269 = .ok (.bipush 21, 2) := by decide +kernel
theorem dX4_init_271 : decode cX4_init 271 = .ok (.bipush 101, 2) := by decide +kernel
theorem dX4_init_273 : decode cX4_init 273 = .ok (.iastore, 1) := by decide +kernel
theorem dX4_init_274 : decode cX4_init 274 = .ok (.dup, 1) := by decide +kernel
theorem dX4_init_275 : decode cX4_init 275 = .ok (.bipush 22, 2) := by decide +kernel
theorem dX4_init_277 : decode cX4_init 277 = .ok (.bipush 97, 2) := by decide +kernel
theorem dX4_init_279 : decode cX4_init 279 = .ok (.iastore, 1) := by decide +kernel
theorem dX4_init_280 : decode cX4_init 280 = .ok (.dup, 1) := by decide +kernel
theorem dX4_init_281 : decode cX4_init 281 = .ok (.bipush 23, 2) := by decide +kernel
theorem dX4_init_283 : decode cX4_init 283 = .ok (.bipush 100, 2) := by decide +kernel
theorem dX4_init_285 : decode cX4_init 285 = .ok (.iastore, 1) := by decide +kernel
theorem dX4_init_286 : decode cX4_init 286 = .ok (.dup, 1) := by decide +kernel
theorem dX4_init_287 : decode cX4_init 287 = .ok (.bipush 24, 2) := by decide +kernel
theorem dX4_init_289 : decode cX4_init 289 = .ok (.iconst 0, 1) := by decide +kernel
theorem dX4_init_290 : decode cX4_init 290 = .ok (.iastore, 1) := by decide +kernel
theorem dX4_init_291 : decode cX4_init 291 = .ok (.dup, 1) := by decide +kernel
theorem dX4_init_292 : decode cX4_init 292 = .ok (.bipush 25, 2) := by decide +kernel
theorem dX4_init_294 : decode cX4_init 294 = .ok (.bipush 119, 2) := by decide +kernel
theorem dX4_init_296 : decode cX4_init 296 = .ok (.iastore, 1) := by decide +kernel
theorem dX4_init_297 : decode cX4_init 297 = .ok (.dup, 1) := by decide +kernel
theorem dX4_init_298 : decode cX4_init 298 = .ok (.bipush 26, 2) := by decide +kernel
theorem dX4_init_300 : decode cX4_init 300 = .ok (.bipush 114, 2) := by decide +kernel
theorem dX4_init_302 : decode cX4_init 302 = .ok (.iastore, 1) := by decide +kernel
theorem dX4_init_303 : decode cX4_init 303 = .ok (.dup, 1) := by decide +kernel
theorem dX4_init_304 : decode cX4_init 304 = .ok (.bipush 27, 2) := by decide +kernel
theorem dX4_init_306 : decode cX4_init 306 = .ok (.bipush 105, 2) := by decide +kernel
theorem dX4_init_308 : decode cX4_init 308 = .ok (.iastore, 1) := by decide +kernel
theorem dX4_init_309 : decode cX4_init 309 = .ok (.dup, 1) := by decide +kernel
theorem dX4_init_310 : decode cX4_init 310 = .ok (.bipush 28, 2) := by decide +kernel
theorem dX4_init_312 : decode cX4_init 312 = .ok (.bipush 116, 2) := by decide +kernel
theorem dX4_init_314 : decode cX4_init 314 = .ok (.iastore, 1) := by decide +kernel
theorem dX4_init_315 : decode cX4_init 315 = .ok (.dup, 1) := by decide +kernel
theorem dX4_init_316 : decode cX4_init 316 = .ok (.bipush 29, 2) := by decide +kernel
theorem dX4_init_318 : decode cX4_init 318 = .ok (.bipush 101, 2) := by decide +kernel
theorem dX4_init_320 : decode cX4_init 320 = .ok (.iastore, 1) := by decide +kernel
theorem dX4_init_321 : decode cX4_init 321 = .ok (.dup, 1) := by decide +kernel
theorem dX4_init_322 : decode cX4_init 322 = .ok (.bipush 30, 2) := by decide +kernel
theorem dX4_init_324 : decode cX4_init 324 = .ok (.bipush 115, 2) := by decide +kernel
theorem dX4_init_326 : decode cX4_init 326 = .ok (.iastore, 1) := by decide +kernel
theorem dX4_init_327 : decode cX4_init 327 = .ok (.dup, 1) := by decide +kernel
theorem dX4_init_328 : decode cX4_init 328 = .ok (.bipush 31, 2) := by decide +kernel
theorem dX4_init_330 : decode cX4_init 330 = .ok (.bipush 101, 2) := by decide +kernel
theorem dX4_init_332 : decode cX4_init 332 = .ok (.iastore, 1) := by decide +kernel
theorem dX4_init_333 : decode cX4_init 333 = .ok (.dup, 1) := by decide +kernel
theorem dX4_init_334 : decode cX4_init 334 = .ok (.bipush 32, 2) := by decide +kernel
theorem dX4_init_336 : decode cX4_init 336 = .ok (.bipush 110, 2) := by decide +kernel
theorem dX4_init_338 : decode cX4_init 338 = .ok (.iastore, 1) := by decide +kernel
theorem dX4_init_339 : decode cX4_init 339 = .ok (.dup, 1) := by decide +kernel
theorem dX4_init_340 : decode cX4_init 340 = .ok (.bipush 33, 2) := by decide +kernel
theorem dX4_init_342 : decode cX4_init 342 = .ok (.bipush 100, 2) := by decide +kernel
theorem dX4_init_344 : decode cX4_init 344 = .ok (.iastore, 1) := by decide +kernel
theorem dX4_init_345 : decode cX4_init 345 = .ok (.dup, 1) := by decide +kernel
theorem dX4_init_346 : decode cX4_init 346 = .ok (.bipush 34, 2) := by decide +kernel
theorem dX4_init_348 : decode cX4_init 348 = .ok (.iconst 0, 1) := by decide +kernel
theorem dX4_init_349 : decode cX4_init 349 = .ok (.iastore, 1) := by decide +kernel
theorem dX4_init_350 : decode cX4_init 350 = .ok (.putfield 66, 3) := by decide +kernel
theorem dX4_init_353 : decode cX4_init 353 = .ok (.return_, 1) := by decide +kernel
theorem dX4_in_0 : decode cX4_in 0 = .ok (.lload_n 0, 1) := by decide +kernel
theorem dX4_in_1 : decode cX4_in 1 = .ok (.lload_n 2, 1) := by decide +kernel
theorem dX4_in_2 : decode cX4_in 2 = .ok (.lcmp, 1) := by decide +kernel
theorem dX4_in_3 : decode cX4_in 3 = .ok (.ifCond .lt 14, 3) := by decide +kernel
theorem dX4_in_6 : decode cX4_in 6 = .ok (.lload_n 0, 1) := by decide +kernel
theorem dX4_in_7 : decode cX4_in 7 = .ok (.lload 4, 2) := by decide +kernel
theorem dX4_in_9 : decode cX4_in 9 = .ok (.lcmp, 1) := by decide +kernel
theorem dX4_in_10 : decode cX4_in 10 = .ok (.ifCond .gt 7, 3) := by decide +kernel
theorem dX4_in_13 : decode cX4_in 13 = .ok (.iconst 1, 1) := by decide +kernel
theorem dX4_in_14 : decode cX4_in 14 = .ok (.goto 4, 3) := by decide +kernel
theorem dX4_in_17 : decode cX4_in 17 = .ok (.iconst 0, 1) := by decide +kernel
theorem dX4_in_18 : decode cX4_in 18 = .ok (.ireturn, 1) := by decide +kernel
theorem dX4_isItem_0 : decode cX4_isItem 0 = .ok (.iload_n 0, 1) := by decide +kernel
theorem dX4_isItem_1 : decode cX4_isItem 1 = .ok (.i2l, 1) := by decide +kernel
theorem dX4_isItem_2 : decode cX4_isItem 2 = .ok (.lconst 0, 1) := by decide +kernel
theorem dX4_isItem_3 : decode cX4_isItem 3 = .ok (.ldc2_w 69, 3) := by decide +kernel
theorem dX4_isItem_6 : decode cX4_isItem 6 = .ok (.invokestatic 71, 3) := by decide +kernel
theorem dX4_isItem_9 : decode cX4_isItem 9 = .ok (.ireturn, 1) := by decide +kernel
theorem dX4_isDeal_0 : decode cX4_isDeal 0 = .ok (.iload_n 0, 1) := by decide +kernel
theorem dX4_isDeal_1 : decode cX4_isDeal 1 = .ok (.i2l, 1) := by decide +kernel
theorem dX4_isDeal_2 : decode cX4_isDeal 2 = .ok (.lconst 0, 1) := by decide +kernel
theorem dX4_isDeal_3 : decode cX4_isDeal 3 = .ok (.ldc2_w 75, 3) := by decide +kernel
theorem dX4_isDeal_6 : decode cX4_isDeal 6 = .ok (.invokestatic 71, 3) := by decide +kernel
theorem dX4_isDeal_9 : decode cX4_isDeal 9 = .ok (.ireturn, 1) := by decide +kernel
theorem dX4_has_0 : decode cX4_has 0 = .ok (.iload_n 0, 1) := by decide +kernel
theorem dX4_has_1 : decode cX4_has 1 = .ok (.iload_n 1, 1) := by decide +kernel
theorem dX4_has_2 : decode cX4_has 2 = .ok (.ishr, 1) := by decide +kernel
theorem dX4_has_3 : decode cX4_has 3 = .ok (.iconst 1, 1) := by decide +kernel
theorem dX4_has_4 : decode cX4_has 4 = .ok (.iand, 1) := by decide +kernel
theorem dX4_has_5 : decode cX4_has 5 = .ok (.iconst 1, 1) := by decide +kernel
theorem dX4_has_6 : decode cX4_has 6 = .ok (.if_icmp .ne 7, 3) := by decide +kernel
theorem dX4_has_9 : decode cX4_has 9 = .ok (.iconst 1, 1) := by decide +kernel
theorem dX4_has_10 : decode cX4_has 10 = .ok (.goto 4, 3) := by decide +kernel
theorem dX4_has_13 : decode cX4_has 13 = .ok (.iconst 0, 1) := by decide +kernel
theorem dX4_has_14 : decode cX4_has 14 = .ok (.ireturn, 1) := by decide +kernel
theorem dX4_ones_0 : decode cX4_ones 0 = .ok (.iconst 0, 1) := by decide +kernel
theorem dX4_ones_1 : decode cX4_ones 1 = .ok (.istore_n 1, 1) := by decide +kernel
theorem dX4_ones_2 : decode cX4_ones 2 = .ok (.iconst 0, 1) := by decide +kernel
theorem dX4_ones_3 : decode cX4_ones 3 = .ok (.istore_n 2, 1) := by decide +kernel
theorem dX4_ones_4 : decode cX4_ones 4 = .ok (.iload_n 2, 1) := by decide +kernel
theorem dX4_ones_5 : decode cX4_ones 5 = .ok (.bipush 8, 2) := by decide +kernel
theorem dX4_ones_7 : decode cX4_ones 7 = .ok (.if_icmp .ge 17, 3) := by decide +kernel
theorem dX4_ones_10 : decode cX4_ones 10 = .ok (.iload_n 1, 1) := by decide +kernel
theorem dX4_ones_11 : decode cX4_ones 11 = .ok (.iload_n 0, 1) := by decide +kernel
theorem dX4_ones_12 : decode cX4_ones 12 = .ok (.iload_n 2, 1) := by decide +kernel
theorem dX4_ones_13 : decode cX4_ones 13 = .ok (.ishr, 1) := by decide +kernel
theorem dX4_ones_14 : decode cX4_ones 14 = .ok (.iconst 1, 1) := by decide +kernel
theorem dX4_ones_15 : decode cX4_ones 15 = .ok (.iand, 1) := by decide +kernel
theorem dX4_ones_16 : decode cX4_ones 16 = .ok (.iadd, 1) := by decide +kernel
theorem dX4_ones_17 : decode cX4_ones 17 = .ok (.istore_n 1, 1) := by decide +kernel
theorem dX4_ones_18 : decode cX4_ones 18 = .ok (.iinc 2 1, 3) := by decide +kernel
theorem dX4_ones_21 : decode cX4_ones 21 = .ok (.goto (-17), 3) := by decide +kernel
theorem dX4_ones_24 : decode cX4_ones 24 = .ok (.iload_n 1, 1) := by decide +kernel
theorem dX4_ones_25 : decode cX4_ones 25 = .ok (.ireturn, 1) := by decide +kernel
theorem dX4_allAnew_0 : decode cX4_allAnew 0 = .ok (.iconst 0, 1) := by decide +kernel
theorem dX4_allAnew_1 : decode cX4_allAnew 1 = .ok (.istore_n 1, 1) := by decide +kernel
theorem dX4_allAnew_2 : decode cX4_allAnew 2 = .ok (.iload_n 1, 1) := by decide +kernel
theorem dX4_allAnew_3 : decode cX4_allAnew 3 = .ok (.bipush 8, 2) := by decide +kernel
theorem dX4_allAnew_5 : decode cX4_allAnew 5 = .ok (.if_icmp .ge 23, 3) := by decide +kernel
theorem dX4_allAnew_8 : decode cX4_allAnew 8 = .ok (.aload_n 0, 1) := by decide +kernel
theorem dX4_allAnew_9 : decode cX4_allAnew 9 = .ok (.getfield 7, 3) := by decide +kernel
theorem dX4_allAnew_12 : decode cX4_allAnew 12 = .ok (.iload_n 1, 1) := by decide +kernel
theorem dX4_allAnew_13 : decode cX4_allAnew 13 = .ok (.iconst 0, 1) := by decide +kernel
theorem dX4_allAnew_14 : decode cX4_allAnew 14 = .ok (.iastore, 1) := by decide +kernel
theorem dX4_allAnew_15 : decode cX4_allAnew 15 = .ok (.aload_n 0, 1) := by decide +kernel
theorem dX4_allAnew_16 : decode cX4_allAnew 16 = .ok (.getfield 13, 3) := by decide +kernel
theorem dX4_allAnew_19 : decode cX4_allAnew 19 = .ok (.iload_n 1, 1) := by decide +kernel
theorem dX4_allAnew_20 : decode cX4_allAnew 20 = .ok (.iconst 0, 1) := by decide +kernel
theorem dX4_allAnew_21 : decode cX4_allAnew 21 = .ok (.iastore, 1) := by decide +kernel
theorem dX4_allAnew_22 : decode cX4_allAnew 22 = .ok (.iinc 1 1, 3) := by decide +kernel
theorem dX4_allAnew_25 : decode cX4_allAnew 25 = .ok (.goto (-23), 3) := by decide +kernel
theorem dX4_allAnew_28 : decode cX4_allAnew 28 = .ok (.iconst 0, 1) := by decide +kernel
theorem dX4_allAnew_29 : decode cX4_allAnew 29 = .ok (.istore_n 1, 1) := by decide +kernel
theorem dX4_allAnew_30 : decode cX4_allAnew 30 = .ok (.iload_n 1, 1) := by decide +kernel
theorem dX4_allAnew_31 : decode cX4_allAnew 31 = .ok (.bipush 6, 2) := by decide +kernel
theorem dX4_allAnew_33 : decode cX4_allAnew 33 = .ok (.if_icmp .ge 15, 3) := by decide +kernel
theorem dX4_allAnew_36 : decode cX4_allAnew 36 = .ok (.aload_n 0, 1) := by decide +kernel
theorem dX4_allAnew_37 : decode cX4_allAnew 37 = .ok (.iload_n 1, 1) := by decide +kernel
theorem dX4_allAnew_38 : decode cX4_allAnew 38 = .ok (.iconst 0, 1) := by decide +kernel
theorem dX4_allAnew_39 : decode cX4_allAnew 39 = .ok (.invokevirtual 77, 3) := by decide +kernel
theorem dX4_allAnew_42 : decode cX4_allAnew 42 = .ok (.iinc 1 1, 3) := by decide +kernel
theorem dX4_allAnew_45 : decode cX4_allAnew 45 = .ok (.goto (-15), 3) := by decide +kernel
theorem dX4_allAnew_48 : decode cX4_allAnew 48 = .ok (.aload_n 0, 1) := by decide +kernel
theorem dX4_allAnew_49 : decode cX4_allAnew 49 = .ok (.iconst 0, 1) := by decide +kernel
theorem dX4_allAnew_50 : decode cX4_allAnew 50 = .ok (.putfield 81, 3) := by decide +kernel
theorem dX4_allAnew_53 : decode cX4_allAnew 53 = .ok (.aload_n 0, 1) := by decide +kernel
theorem dX4_allAnew_54 : decode cX4_allAnew 54 = .ok (.iconst 3, 1) := by decide +kernel
theorem dX4_allAnew_55 : decode cX4_allAnew 55 = .ok (.putfield 56, 3) := by decide +kernel
theorem dX4_allAnew_58 : decode cX4_allAnew 58 = .ok (.aload_n 0, 1) := by decide +kernel
theorem dX4_allAnew_59 : decode cX4_allAnew 59 = .ok (.iconst 0, 1) := by decide +kernel
theorem dX4_allAnew_60 : decode cX4_allAnew 60 = .ok (.putfield 84, 3) := by decide +kernel
theorem dX4_allAnew_63 : decode cX4_allAnew 63 = .ok (.aload_n 0, 1) := by decide +kernel
theorem dX4_allAnew_64 : decode cX4_allAnew 64 = .ok (.iconst 0, 1) := by decide +kernel
theorem dX4_allAnew_65 : decode cX4_allAnew 65 = .ok (.putfield 87, 3) := by decide +kernel
theorem dX4_allAnew_68 : decode cX4_allAnew 68 = .ok (.aload_n 0, 1) := by decide +kernel
theorem dX4_allAnew_69 : decode cX4_allAnew 69 = .ok (.iconst 0, 1) := by decide +kernel
theorem dX4_allAnew_70 : decode cX4_allAnew 70 = .ok (.putfield 90, 3) := by decide +kernel
theorem dX4_allAnew_73 : decode cX4_allAnew 73 = .ok (.aload_n 0, 1) := by decide +kernel
theorem dX4_allAnew_74 : decode cX4_allAnew 74 = .ok (.iconst 0, 1) := by decide +kernel
theorem dX4_allAnew_75 : decode cX4_allAnew 75 = .ok (.putfield 93, 3) := by decide +kernel
theorem dX4_allAnew_78 : decode cX4_allAnew 78 = .ok (.aload_n 0, 1) := by decide +kernel
theorem dX4_allAnew_79 : decode cX4_allAnew 79 = .ok (.iconst 0, 1) := by decide +kernel
theorem dX4_allAnew_80 : decode cX4_allAnew 80 = .ok (.putfield 96, 3) := by decide +kernel
theorem dX4_allAnew_83 : decode cX4_allAnew 83 = .ok (.return_, 1) := by decide +kernel
theorem dX4_frees_0 : decode cX4_frees 0 = .ok (.aload_n 0, 1) := by decide +kernel
theorem dX4_frees_1 : decode cX4_frees 1 = .ok (.getfield 19, 3) := by decide +kernel
theorem dX4_frees_4 : decode cX4_frees 4 = .ok (.iload_n 1, 1) := by decide +kernel
theorem dX4_frees_5 : decode cX4_frees 5 = .ok (.iconst 0, 1) := by decide +kernel
theorem dX4_frees_6 : decode cX4_frees 6 = .ok (.iastore, 1) := by decide +kernel
theorem dX4_frees_7 : decode cX4_frees 7 = .ok (.aload_n 0, 1) := by decide +kernel
theorem dX4_frees_8 : decode cX4_frees 8 = .ok (.getfield 31, 3) := by decide +kernel
theorem dX4_frees_11 : decode cX4_frees 11 = .ok (.iload_n 1, 1) := by decide +kernel
theorem dX4_frees_12 : decode cX4_frees 12 = .ok (.iload_n 2, 1) := by decide +kernel
theorem dX4_frees_13 : decode cX4_frees 13 = .ok (.bastore, 1) := by decide +kernel
theorem dX4_frees_14 : decode cX4_frees 14 = .ok (.aload_n 0, 1) := by decide +kernel
theorem dX4_frees_15 : decode cX4_frees 15 = .ok (.getfield 35, 3) := by decide +kernel
theorem dX4_frees_18 : decode cX4_frees 18 = .ok (.iload_n 1, 1) := by decide +kernel
theorem dX4_frees_19 : decode cX4_frees 19 = .ok (.iconst 0, 1) := by decide +kernel
theorem dX4_frees_20 : decode cX4_frees 20 = .ok (.iastore, 1) := by decide +kernel
theorem dX4_frees_21 : decode cX4_frees 21 = .ok (.aload_n 0, 1) := by decide +kernel
theorem dX4_frees_22 : decode cX4_frees 22 = .ok (.getfield 38, 3) := by decide +kernel
theorem dX4_frees_25 : decode cX4_frees 25 = .ok (.iload_n 1, 1) := by decide +kernel
theorem dX4_frees_26 : decode cX4_frees 26 = .ok (.iconst 0, 1) := by decide +kernel
theorem dX4_frees_27 : decode cX4_frees 27 = .ok (.iastore, 1) := by decide +kernel
theorem dX4_frees_28 : decode cX4_frees 28 = .ok (.aload_n 0, 1) := by decide +kernel
theorem dX4_frees_29 : decode cX4_frees 29 = .ok (.getfield 22, 3) := by decide +kernel
theorem dX4_frees_32 : decode cX4_frees 32 = .ok (.iload_n 1, 1) := by decide +kernel
theorem dX4_frees_33 : decode cX4_frees 33 = .ok (.iconst 0, 1) := by decide +kernel
theorem dX4_frees_34 : decode cX4_frees 34 = .ok (.iastore, 1) := by decide +kernel
theorem dX4_frees_35 : decode cX4_frees 35 = .ok (.iload_n 2, 1) := by decide +kernel
theorem dX4_frees_36 : decode cX4_frees 36 = .ok (.ifCond .ne 17, 3) := by decide +kernel
theorem dX4_frees_39 : decode cX4_frees 39 = .ok (.aload_n 0, 1) := by decide +kernel
theorem dX4_frees_40 : decode cX4_frees 40 = .ok (.getfield 25, 3) := by decide +kernel
theorem dX4_frees_43 : decode cX4_frees 43 = .ok (.iload_n 1, 1) := by decide +kernel
theorem dX4_frees_44 : decode cX4_frees 44 = .ok (.iconst 0, 1) := by decide +kernel
theorem dX4_frees_45 : decode cX4_frees 45 = .ok (.iastore, 1) := by decide +kernel
theorem dX4_frees_46 : decode cX4_frees 46 = .ok (.aload_n 0, 1) := by decide +kernel
theorem dX4_frees_47 : decode cX4_frees 47 = .ok (.getfield 28, 3) := by decide +kernel
theorem dX4_frees_50 : decode cX4_frees 50 = .ok (.iload_n 1, 1) := by decide +kernel
theorem dX4_frees_51 : decode cX4_frees 51 = .ok (.iconst 0, 1) := by decide +kernel
theorem dX4_frees_52 : decode cX4_frees 52 = .ok (.iastore, 1) := by decide +kernel
theorem dX4_frees_53 : decode cX4_frees 53 = .ok (.return_, 1) := by decide +kernel
theorem dX4_opens_0 : decode cX4_opens 0 = .ok (.aload_n 0, 1) := by decide +kernel
theorem dX4_opens_1 : decode cX4_opens 1 = .ok (.getfield 19, 3) := by decide +kernel
theorem dX4_opens_4 : decode cX4_opens 4 = .ok (.iload_n 1, 1) := by decide +kernel
theorem dX4_opens_5 : decode cX4_opens 5 = .ok (.iconst 1, 1) := by decide +kernel
theorem dX4_opens_6 : decode cX4_opens 6 = .ok (.iastore, 1) := by decide +kernel
theorem dX4_opens_7 : decode cX4_opens 7 = .ok (.aload_n 0, 1) := by decide +kernel
theorem dX4_opens_8 : decode cX4_opens 8 = .ok (.getfield 31, 3) := by decide +kernel
theorem dX4_opens_11 : decode cX4_opens 11 = .ok (.iload_n 1, 1) := by decide +kernel
theorem dX4_opens_12 : decode cX4_opens 12 = .ok (.iconst 0, 1) := by decide +kernel
theorem dX4_opens_13 : decode cX4_opens 13 = .ok (.bastore, 1) := by decide +kernel
theorem dX4_opens_14 : decode cX4_opens 14 = .ok (.aload_n 0, 1) := by decide +kernel
theorem dX4_opens_15 : decode cX4_opens 15 = .ok (.getfield 35, 3) := by decide +kernel
theorem dX4_opens_18 : decode cX4_opens 18 = .ok (.iload_n 1, 1) := by decide +kernel
theorem dX4_opens_19 : decode cX4_opens 19 = .ok (.iconst 0, 1) := by decide +kernel
theorem dX4_opens_20 : decode cX4_opens 20 = .ok (.iastore, 1) := by decide +kernel
theorem dX4_opens_21 : decode cX4_opens 21 = .ok (.aload_n 0, 1) := by decide +kernel
theorem dX4_opens_22 : decode cX4_opens 22 = .ok (.getfield 38, 3) := by decide +kernel
theorem dX4_opens_25 : decode cX4_opens 25 = .ok (.iload_n 1, 1) := by decide +kernel
theorem dX4_opens_26 : decode cX4_opens 26 = .ok (.iconst 0, 1) := by decide +kernel
theorem dX4_opens_27 : decode cX4_opens 27 = .ok (.iastore, 1) := by decide +kernel
theorem dX4_opens_28 : decode cX4_opens 28 = .ok (.aload_n 0, 1) := by decide +kernel
theorem dX4_opens_29 : decode cX4_opens 29 = .ok (.getfield 22, 3) := by decide +kernel
theorem dX4_opens_32 : decode cX4_opens 32 = .ok (.iload_n 1, 1) := by decide +kernel
theorem dX4_opens_33 : decode cX4_opens 33 = .ok (.aload_n 0, 1) := by decide +kernel
theorem dX4_opens_34 : decode cX4_opens 34 = .ok (.getfield 81, 3) := by decide +kernel
theorem dX4_opens_37 : decode cX4_opens 37 = .ok (.iastore, 1) := by decide +kernel
theorem dX4_opens_38 : decode cX4_opens 38 = .ok (.return_, 1) := by decide +kernel
theorem dX4_inState_0 : decode cX4_inState 0 = .ok (.iconst 0, 1) := by decide +kernel
theorem dX4_inState_1 : decode cX4_inState 1 = .ok (.istore_n 2, 1) := by decide +kernel
theorem dX4_inState_2 : decode cX4_inState 2 = .ok (.iconst 0, 1) := by decide +kernel
theorem dX4_inState_3 : decode cX4_inState 3 = .ok (.istore_n 3, 1) := by decide +kernel
theorem dX4_inState_4 : decode cX4_inState 4 = .ok (.iload_n 3, 1) := by decide +kernel
theorem dX4_inState_5 : decode cX4_inState 5 = .ok (.bipush 6, 2) := by decide +kernel
theorem dX4_inState_7 : decode cX4_inState 7 = .ok (.if_icmp .ge 27, 3) := by decide +kernel
theorem dX4_inState_10 : decode cX4_inState 10 = .ok (.iload_n 2, 1) := by decide +kernel
theorem dX4_inState_11 : decode cX4_inState 11 = .ok (.aload_n 0, 1) := by decide +kernel
theorem dX4_inState_12 : decode cX4_inState 12 = .ok (.getfield 19, 3) := by decide +kernel
theorem dX4_inState_15 : decode cX4_inState 15 = .ok (.iload_n 3, 1) := by decide +kernel
theorem dX4_inState_16 : decode cX4_inState 16 = .ok (.iaload, 1) := by decide +kernel
theorem dX4_inState_17 : decode cX4_inState 17 = .ok (.iload_n 1, 1) := by decide +kernel
theorem dX4_inState_18 : decode cX4_inState 18 = .ok (.if_icmp .ne 7, 3) := by decide +kernel
theorem dX4_inState_21 : decode cX4_inState 21 = .ok (.iconst 1, 1) := by decide +kernel
theorem dX4_inState_22 : decode cX4_inState 22 = .ok (.goto 4, 3) := by decide +kernel
theorem dX4_inState_25 : decode cX4_inState 25 = .ok (.iconst 0, 1) := by decide +kernel
theorem dX4_inState_26 : decode cX4_inState 26 = .ok (.iadd, 1) := by decide +kernel
theorem dX4_inState_27 : decode cX4_inState 27 = .ok (.istore_n 2, 1) := by decide +kernel
theorem dX4_inState_28 : decode cX4_inState 28 = .ok (.iinc 3 1, 3) := by decide +kernel
theorem dX4_inState_31 : decode cX4_inState 31 = .ok (.goto (-27), 3) := by decide +kernel
theorem dX4_inState_34 : decode cX4_inState 34 = .ok (.iload_n 2, 1) := by decide +kernel
theorem dX4_inState_35 : decode cX4_inState 35 = .ok (.ireturn, 1) := by decide +kernel
theorem dX4_write_0 : decode cX4_write 0 = .ok (.iload_n 1, 1) := by decide +kernel
theorem dX4_write_1 : decode cX4_write 1 = .ok (.i2l, 1) := by decide +kernel
theorem dX4_write_2 : decode cX4_write 2 = .ok (.lconst 0, 1) := by decide +kernel
theorem dX4_write_3 : decode cX4_write 3 = .ok (.ldc2_w 99, 3) := by decide +kernel
theorem dX4_write_6 : decode cX4_write 6 = .ok (.invokestatic 71, 3) := by decide +kernel
theorem dX4_write_9 : decode cX4_write 9 = .ok (.ifCond .ne 6, 3) := by decide +kernel
theorem dX4_write_12 : decode cX4_write 12 = .ok (.bipush (-3), 2) := by decide +kernel
theorem dX4_write_14 : decode cX4_write 14 = .ok (.ireturn, 1) := by decide +kernel
theorem dX4_write_15 : decode cX4_write 15 = .ok (.aload_n 0, 1) := by decide +kernel
theorem dX4_write_16 : decode cX4_write 16 = .ok (.getfield 101, 3) := by decide +kernel
theorem dX4_write_19 : decode cX4_write 19 = .ok (.sipush 200, 3) := by decide +kernel
theorem dX4_write_22 : decode cX4_write 22 = .ok (.if_icmp .ne 6, 3) := by decide +kernel
theorem dX4_write_25 : decode cX4_write 25 = .ok (.bipush (-5), 2) := by decide +kernel
theorem dX4_write_27 : decode cX4_write 27 = .ok (.ireturn, 1) := by decide +kernel
theorem dX4_write_28 : decode cX4_write 28 = .ok (.aload_n 0, 1) := by decide +kernel
theorem dX4_write_29 : decode cX4_write 29 = .ok (.getfield 60, 3) := by decide +kernel
theorem dX4_write_32 : decode cX4_write 32 = .ok (.aload_n 0, 1) := by decide +kernel
theorem dX4_write_33 : decode cX4_write 33 = .ok (.getfield 101, 3) := by decide +kernel
theorem dX4_write_36 : decode cX4_write 36 = .ok (.iload_n 1, 1) := by decide +kernel
theorem dX4_write_37 : decode cX4_write 37 = .ok (.iastore, 1) := by decide +kernel
theorem dX4_write_38 : decode cX4_write 38 = .ok (.aload_n 0, 1) := by decide +kernel
theorem dX4_write_39 : decode cX4_write 39 = .ok (.dup, 1) := by decide +kernel
theorem dX4_write_40 : decode cX4_write 40 = .ok (.getfield 101, 3) := by decide +kernel
theorem dX4_write_43 : decode cX4_write 43 = .ok (.iconst 1, 1) := by decide +kernel
theorem dX4_write_44 : decode cX4_write 44 = .ok (.iadd, 1) := by decide +kernel
theorem dX4_write_45 : decode cX4_write 45 = .ok (.putfield 101, 3) := by decide +kernel
theorem dX4_write_48 : decode cX4_write 48 = .ok (.aload_n 0, 1) := by decide +kernel
theorem dX4_write_49 : decode cX4_write 49 = .ok (.getfield 101, 3) := by decide +kernel
theorem dX4_write_52 : decode cX4_write 52 = .ok (.ireturn, 1) := by decide +kernel
theorem dX4_erase_0 : decode cX4_erase 0 = .ok (.aload_n 0, 1) := by decide +kernel
theorem dX4_erase_1 : decode cX4_erase 1 = .ok (.getfield 101, 3) := by decide +kernel
theorem dX4_erase_4 : decode cX4_erase 4 = .ok (.istore_n 1, 1) := by decide +kernel
theorem dX4_erase_5 : decode cX4_erase 5 = .ok (.aload_n 0, 1) := by decide +kernel
theorem dX4_erase_6 : decode cX4_erase 6 = .ok (.iconst 0, 1) := by decide +kernel
theorem dX4_erase_7 : decode cX4_erase 7 = .ok (.putfield 101, 3) := by decide +kernel
theorem dX4_erase_10 : decode cX4_erase 10 = .ok (.iload_n 1, 1) := by decide +kernel
theorem dX4_erase_11 : decode cX4_erase 11 = .ok (.ireturn, 1) := by decide +kernel
theorem dX4_isSmall_0 : decode cX4_isSmall 0 = .ok (.iload_n 0, 1) := by decide +kernel
theorem dX4_isSmall_1 : decode cX4_isSmall 1 = .ok (.i2l, 1) := by decide +kernel
theorem dX4_isSmall_2 : decode cX4_isSmall 2 = .ok (.ldc2_w 104, 3) := by decide +kernel
theorem dX4_isSmall_5 : decode cX4_isSmall 5 = .ok (.ldc2_w 106, 3) := by decide +kernel
theorem dX4_isSmall_8 : decode cX4_isSmall 8 = .ok (.invokestatic 71, 3) := by decide +kernel
theorem dX4_isSmall_11 : decode cX4_isSmall 11 = .ok (.ireturn, 1) := by decide +kernel
theorem dX4_isDigit_0 : decode cX4_isDigit 0 = .ok (.iload_n 0, 1) := by decide +kernel
theorem dX4_isDigit_1 : decode cX4_isDigit 1 = .ok (.i2l, 1) := by decide +kernel
theorem dX4_isDigit_2 : decode cX4_isDigit 2 = .ok (.ldc2_w 108, 3) := by decide +kernel
theorem dX4_isDigit_5 : decode cX4_isDigit 5 = .ok (.ldc2_w 110, 3) := by decide +kernel
theorem dX4_isDigit_8 : decode cX4_isDigit 8 = .ok (.invokestatic 71, 3) := by decide +kernel
theorem dX4_isDigit_11 : decode cX4_isDigit 11 = .ok (.ireturn, 1) := by decide +kernel
theorem dX4_next_0 : decode cX4_next 0 = .ok (.aload_n 0, 1) := by decide +kernel
theorem dX4_next_1 : decode cX4_next 1 = .ok (.aload_n 0, 1) := by decide +kernel
theorem dX4_next_2 : decode cX4_next 2 = .ok (.getfield 112, 3) := by decide +kernel
theorem dX4_next_5 : decode cX4_next 5 = .ok (.putfield 115, 3) := by decide +kernel
theorem dX4_next_8 : decode cX4_next 8 = .ok (.aload_n 0, 1) := by decide +kernel
theorem dX4_next_9 : decode cX4_next 9 = .ok (.getfield 115, 3) := by decide +kernel
theorem dX4_next_12 : decode cX4_next 12 = .ok (.aload_n 0, 1) := by decide +kernel
theorem dX4_next_13 : decode cX4_next 13 = .ok (.getfield 101, 3) := by decide +kernel
theorem dX4_next_16 : decode cX4_next 16 = .ok (.if_icmp .ge 30, 3) := by decide +kernel
theorem dX4_next_19 : decode cX4_next 19 = .ok (.aload_n 0, 1) := by decide +kernel
theorem dX4_next_20 : decode cX4_next 20 = .ok (.getfield 60, 3) := by decide +kernel
theorem dX4_next_23 : decode cX4_next 23 = .ok (.aload_n 0, 1) := by decide +kernel
theorem dX4_next_24 : decode cX4_next 24 = .ok (.getfield 115, 3) := by decide +kernel
theorem dX4_next_27 : decode cX4_next 27 = .ok (.iaload, 1) := by decide +kernel
theorem dX4_next_28 : decode cX4_next 28 = .ok (.bipush 32, 2) := by decide +kernel
theorem dX4_next_30 : decode cX4_next 30 = .ok (.if_icmp .ne 16, 3) := by decide +kernel
theorem dX4_next_33 : decode cX4_next 33 = .ok (.aload_n 0, 1) := by decide +kernel
theorem dX4_next_34 : decode cX4_next 34 = .ok (.dup, 1) := by decide +kernel
theorem dX4_next_35 : decode cX4_next 35 = .ok (.getfield 115, 3) := by decide +kernel
theorem dX4_next_38 : decode cX4_next 38 = .ok (.iconst 1, 1) := by decide +kernel
theorem dX4_next_39 : decode cX4_next 39 = .ok (.iadd, 1) := by decide +kernel
theorem dX4_next_40 : decode cX4_next 40 = .ok (.putfield 115, 3) := by decide +kernel
theorem dX4_next_43 : decode cX4_next 43 = .ok (.goto (-35), 3) := by decide +kernel
theorem dX4_next_46 : decode cX4_next 46 = .ok (.aload_n 0, 1) := by decide +kernel
theorem dX4_next_47 : decode cX4_next 47 = .ok (.aload_n 0, 1) := by decide +kernel
theorem dX4_next_48 : decode cX4_next 48 = .ok (.getfield 115, 3) := by decide +kernel
theorem dX4_next_51 : decode cX4_next 51 = .ok (.aload_n 0, 1) := by decide +kernel
theorem dX4_next_52 : decode cX4_next 52 = .ok (.getfield 101, 3) := by decide +kernel
theorem dX4_next_55 : decode cX4_next 55 = .ok (.if_icmp .ge 12, 3) := by decide +kernel
theorem dX4_next_58 : decode cX4_next 58 = .ok (.aload_n 0, 1) := by decide +kernel
theorem dX4_next_59 : decode cX4_next 59 = .ok (.getfield 115, 3) := by decide +kernel
theorem dX4_next_62 : decode cX4_next 62 = .ok (.iconst 1, 1) := by decide +kernel
theorem dX4_next_63 : decode cX4_next 63 = .ok (.iadd, 1) := by decide +kernel
theorem dX4_next_64 : decode cX4_next 64 = .ok (.goto 7, 3) := by decide +kernel
theorem dX4_next_67 : decode cX4_next 67 = .ok (.aload_n 0, 1) := by decide +kernel
theorem dX4_next_68 : decode cX4_next 68 = .ok (.getfield 115, 3) := by decide +kernel
theorem dX4_next_71 : decode cX4_next 71 = .ok (.putfield 112, 3) := by decide +kernel
theorem dX4_next_74 : decode cX4_next 74 = .ok (.aload_n 0, 1) := by decide +kernel
theorem dX4_next_75 : decode cX4_next 75 = .ok (.getfield 115, 3) := by decide +kernel
theorem dX4_next_78 : decode cX4_next 78 = .ok (.aload_n 0, 1) := by decide +kernel
theorem dX4_next_79 : decode cX4_next 79 = .ok (.getfield 101, 3) := by decide +kernel
theorem dX4_next_82 : decode cX4_next 82 = .ok (.if_icmp .ge 22, 3) := by decide +kernel
theorem dX4_next_85 : decode cX4_next 85 = .ok (.aload_n 0, 1) := by decide +kernel
theorem dX4_next_86 : decode cX4_next 86 = .ok (.getfield 60, 3) := by decide +kernel
theorem dX4_next_89 : decode cX4_next 89 = .ok (.aload_n 0, 1) := by decide +kernel
theorem dX4_next_90 : decode cX4_next 90 = .ok (.getfield 115, 3) := by decide +kernel
theorem dX4_next_93 : decode cX4_next 93 = .ok (.iaload, 1) := by decide +kernel
theorem dX4_next_94 : decode cX4_next 94 = .ok (.invokestatic 118, 3) := by decide +kernel
theorem dX4_next_97 : decode cX4_next 97 = .ok (.ifCond .eq 7, 3) := by decide +kernel
theorem dX4_next_100 : decode cX4_next 100 = .ok (.iconst 1, 1) := by decide +kernel
theorem dX4_next_101 : decode cX4_next 101 = .ok (.goto 4, 3) := by decide +kernel
theorem dX4_next_104 : decode cX4_next 104 = .ok (.iconst 0, 1) := by decide +kernel
theorem dX4_next_105 : decode cX4_next 105 = .ok (.istore_n 1, 1) := by decide +kernel
theorem dX4_next_106 : decode cX4_next 106 = .ok (.aload_n 0, 1) := by decide +kernel
theorem dX4_next_107 : decode cX4_next 107 = .ok (.getfield 115, 3) := by decide +kernel
theorem dX4_next_110 : decode cX4_next 110 = .ok (.aload_n 0, 1) := by decide +kernel
theorem dX4_next_111 : decode cX4_next 111 = .ok (.getfield 101, 3) := by decide +kernel
theorem dX4_next_114 : decode cX4_next 114 = .ok (.if_icmp .ge 22, 3) := by decide +kernel
theorem dX4_next_117 : decode cX4_next 117 = .ok (.aload_n 0, 1) := by decide +kernel
theorem dX4_next_118 : decode cX4_next 118 = .ok (.getfield 60, 3) := by decide +kernel
theorem dX4_next_121 : decode cX4_next 121 = .ok (.aload_n 0, 1) := by decide +kernel
theorem dX4_next_122 : decode cX4_next 122 = .ok (.getfield 115, 3) := by decide +kernel
theorem dX4_next_125 : decode cX4_next 125 = .ok (.iaload, 1) := by decide +kernel
theorem dX4_next_126 : decode cX4_next 126 = .ok (.invokestatic 122, 3) := by decide +kernel
theorem dX4_next_129 : decode cX4_next 129 = .ok (.ifCond .eq 7, 3) := by decide +kernel
theorem dX4_next_132 : decode cX4_next 132 = .ok (.iconst 1, 1) := by decide +kernel
theorem dX4_next_133 : decode cX4_next 133 = .ok (.goto 4, 3) := by decide +kernel
theorem dX4_next_136 : decode cX4_next 136 = .ok (.iconst 0, 1) := by decide +kernel
theorem dX4_next_137 : decode cX4_next 137 = .ok (.istore_n 2, 1) := by decide +kernel
theorem dX4_next_138 : decode cX4_next 138 = .ok (.aload_n 0, 1) := by decide +kernel
theorem dX4_next_139 : decode cX4_next 139 = .ok (.getfield 112, 3) := by decide +kernel
theorem dX4_next_142 : decode cX4_next 142 = .ok (.aload_n 0, 1) := by decide +kernel
theorem dX4_next_143 : decode cX4_next 143 = .ok (.getfield 101, 3) := by decide +kernel
theorem dX4_next_146 : decode cX4_next 146 = .ok (.if_icmp .ge 54, 3) := by decide +kernel
theorem dX4_next_149 : decode cX4_next 149 = .ok (.iload_n 1, 1) := by decide +kernel
theorem dX4_next_150 : decode cX4_next 150 = .ok (.ifCond .eq 18, 3) := by decide +kernel
theorem dX4_next_153 : decode cX4_next 153 = .ok (.aload_n 0, 1) := by decide +kernel
theorem dX4_next_154 : decode cX4_next 154 = .ok (.getfield 60, 3) := by decide +kernel
theorem dX4_next_157 : decode cX4_next 157 = .ok (.aload_n 0, 1) := by decide +kernel
theorem dX4_next_158 : decode cX4_next 158 = .ok (.getfield 112, 3) := by decide +kernel
theorem dX4_next_161 : decode cX4_next 161 = .ok (.iaload, 1) := by decide +kernel
theorem dX4_next_162 : decode cX4_next 162 = .ok (.invokestatic 118, 3) := by decide +kernel
theorem dX4_next_165 : decode cX4_next 165 = .ok (.ifCond .ne 22, 3) := by decide +kernel
theorem dX4_next_168 : decode cX4_next 168 = .ok (.iload_n 2, 1) := by decide +kernel
theorem dX4_next_169 : decode cX4_next 169 = .ok (.ifCond .eq 31, 3) := by decide +kernel
theorem dX4_next_172 : decode cX4_next 172 = .ok (.aload_n 0, 1) := by decide +kernel
theorem dX4_next_173 : decode cX4_next 173 = .ok (.getfield 60, 3) := by decide +kernel
theorem dX4_next_176 : decode cX4_next 176 = .ok (.aload_n 0, 1) := by decide +kernel
theorem dX4_next_177 : decode cX4_next 177 = .ok (.getfield 112, 3) := by decide +kernel
theorem dX4_next_180 : decode cX4_next 180 = .ok (.iaload, 1) := by decide +kernel
theorem dX4_next_181 : decode cX4_next 181 = .ok (.invokestatic 122, 3) := by decide +kernel
theorem dX4_next_184 : decode cX4_next 184 = .ok (.ifCond .eq 16, 3) := by decide +kernel
theorem dX4_next_187 : decode cX4_next 187 = .ok (.aload_n 0, 1) := by decide +kernel
theorem dX4_next_188 : decode cX4_next 188 = .ok (.dup, 1) := by decide +kernel
theorem dX4_next_189 : decode cX4_next 189 = .ok (.getfield 112, 3) := by decide +kernel
theorem dX4_next_192 : decode cX4_next 192 = .ok (.iconst 1, 1) := by decide +kernel
theorem dX4_next_193 : decode cX4_next 193 = .ok (.iadd, 1) := by decide +kernel
theorem dX4_next_194 : decode cX4_next 194 = .ok (.putfield 112, 3) := by decide +kernel
theorem dX4_next_197 : decode cX4_next 197 = .ok (.goto (-59), 3) := by decide +kernel
theorem dX4_next_200 : decode cX4_next 200 = .ok (.return_, 1) := by decide +kernel
theorem dX4_wordHere_0 : decode cX4_wordHere 0 = .ok (.iconst 0, 1) := by decide +kernel
theorem dX4_wordHere_1 : decode cX4_wordHere 1 = .ok (.istore_n 1, 1) := by decide +kernel
theorem dX4_wordHere_2 : decode cX4_wordHere 2 = .ok (.iload_n 1, 1) := by decide +kernel
theorem dX4_wordHere_3 : decode cX4_wordHere 3 = .ok (.bipush 7, 2) := by decide +kernel
theorem dX4_wordHere_5 : decode cX4_wordHere 5 = .ok (.if_icmp .ge 110, 3) := by decide +kernel
theorem dX4_wordHere_8 : decode cX4_wordHere 8 = .ok (.aload_n 0, 1) := by decide +kernel
theorem dX4_wordHere_9 : decode cX4_wordHere 9 = .ok (.getfield 112, 3) := by decide +kernel
theorem dX4_wordHere_12 : decode cX4_wordHere 12 = .ok (.aload_n 0, 1) := by decide +kernel
theorem dX4_wordHere_13 : decode cX4_wordHere 13 = .ok (.getfield 115, 3) := by decide +kernel
theorem dX4_wordHere_16 : decode cX4_wordHere 16 = .ok (.if_icmp .le 21, 3) := by decide +kernel
theorem dX4_wordHere_19 : decode cX4_wordHere 19 = .ok (.aload_n 0, 1) := by decide +kernel
theorem dX4_wordHere_20 : decode cX4_wordHere 20 = .ok (.getfield 112, 3) := by decide +kernel
theorem dX4_wordHere_23 : decode cX4_wordHere 23 = .ok (.aload_n 0, 1) := by decide +kernel
theorem dX4_wordHere_24 : decode cX4_wordHere 24 = .ok (.getfield 115, 3) := by decide +kernel
theorem dX4_wordHere_27 : decode cX4_wordHere 27 = .ok (.isub, 1) := by decide +kernel
theorem dX4_wordHere_28 : decode cX4_wordHere 28 = .ok (.bipush 6, 2) := by decide +kernel
theorem dX4_wordHere_30 : decode cX4_wordHere 30 = .ok (.if_icmp .ge 7, 3) := by decide +kernel
theorem dX4_wordHere_33 : decode cX4_wordHere 33 = .ok (.iconst 1, 1) := by decide +kernel
end
section
theorem dX4_wordHere_34 : decode cX4_wordHere 34 = .ok (.goto 4, 3) := by decide +kernel
theorem dX4_wordHere_37 : decode cX4_wordHere 37 = .ok (.iconst 0, 1) := by decide +kernel
theorem dX4_wordHere_38 : decode cX4_wordHere 38 = .ok (.istore_n 2, 1) := by decide +kernel
theorem dX4_wordHere_39 : decode cX4_wordHere 39 = .ok (.iconst 0, 1) := by decide +kernel
theorem dX4_wordHere_40 : decode cX4_wordHere 40 = .ok (.istore_n 3, 1) := by decide +kernel
theorem dX4_wordHere_41 : decode cX4_wordHere 41 = .ok (.iload_n 3, 1) := by decide +kernel
theorem dX4_wordHere_42 : decode cX4_wordHere 42 = .ok (.iconst 5, 1) := by decide +kernel
theorem dX4_wordHere_43 : decode cX4_wordHere 43 = .ok (.if_icmp .ge 60, 3) := by decide +kernel
theorem dX4_wordHere_46 : decode cX4_wordHere 46 = .ok (.iload_n 2, 1) := by decide +kernel
theorem dX4_wordHere_47 : decode cX4_wordHere 47 = .ok (.ifCond .eq 56, 3) := by decide +kernel
theorem dX4_wordHere_50 : decode cX4_wordHere 50 = .ok (.aload_n 0, 1) := by decide +kernel
theorem dX4_wordHere_51 : decode cX4_wordHere 51 = .ok (.getfield 66, 3) := by decide +kernel
theorem dX4_wordHere_54 : decode cX4_wordHere 54 = .ok (.iconst 5, 1) := by decide +kernel
theorem dX4_wordHere_55 : decode cX4_wordHere 55 = .ok (.iload_n 1, 1) := by decide +kernel
theorem dX4_wordHere_56 : decode cX4_wordHere 56 = .ok (.imul, 1) := by decide +kernel
theorem dX4_wordHere_57 : decode cX4_wordHere 57 = .ok (.iload_n 3, 1) := by decide +kernel
theorem dX4_wordHere_58 : decode cX4_wordHere 58 = .ok (.iadd, 1) := by decide +kernel
theorem dX4_wordHere_59 : decode cX4_wordHere 59 = .ok (.iaload, 1) := by decide +kernel
theorem dX4_wordHere_60 : decode cX4_wordHere 60 = .ok (.aload_n 0, 1) := by decide +kernel
theorem dX4_wordHere_61 : decode cX4_wordHere 61 = .ok (.getfield 115, 3) := by decide +kernel
theorem dX4_wordHere_64 : decode cX4_wordHere 64 = .ok (.iload_n 3, 1) := by decide +kernel
theorem dX4_wordHere_65 : decode cX4_wordHere 65 = .ok (.iadd, 1) := by decide +kernel
theorem dX4_wordHere_66 : decode cX4_wordHere 66 = .ok (.aload_n 0, 1) := by decide +kernel
theorem dX4_wordHere_67 : decode cX4_wordHere 67 = .ok (.getfield 112, 3) := by decide +kernel
theorem dX4_wordHere_70 : decode cX4_wordHere 70 = .ok (.if_icmp .ge 17, 3) := by decide +kernel
theorem dX4_wordHere_73 : decode cX4_wordHere 73 = .ok (.aload_n 0, 1) := by decide +kernel
theorem dX4_wordHere_74 : decode cX4_wordHere 74 = .ok (.getfield 60, 3) := by decide +kernel
theorem dX4_wordHere_77 : decode cX4_wordHere 77 = .ok (.aload_n 0, 1) := by decide +kernel
theorem dX4_wordHere_78 : decode cX4_wordHere 78 = .ok (.getfield 115, 3) := by decide +kernel
theorem dX4_wordHere_81 : decode cX4_wordHere 81 = .ok (.iload_n 3, 1) := by decide +kernel
theorem dX4_wordHere_82 : decode cX4_wordHere 82 = .ok (.iadd, 1) := by decide +kernel
theorem dX4_wordHere_83 : decode cX4_wordHere 83 = .ok (.iaload, 1) := by decide +kernel
theorem dX4_wordHere_84 : decode cX4_wordHere 84 = .ok (.goto 4, 3) := by decide +kernel
theorem dX4_wordHere_87 : decode cX4_wordHere 87 = .ok (.iconst 0, 1) := by decide +kernel
theorem dX4_wordHere_88 : decode cX4_wordHere 88 = .ok (.if_icmp .ne 7, 3) := by decide +kernel
theorem dX4_wordHere_91 : decode cX4_wordHere 91 = .ok (.iconst 1, 1) := by decide +kernel
theorem dX4_wordHere_92 : decode cX4_wordHere 92 = .ok (.goto 4, 3) := by decide +kernel
theorem dX4_wordHere_95 : decode cX4_wordHere 95 = .ok (.iconst 0, 1) := by decide +kernel
theorem dX4_wordHere_96 : decode cX4_wordHere 96 = .ok (.istore_n 2, 1) := by decide +kernel
theorem dX4_wordHere_97 : decode cX4_wordHere 97 = .ok (.iinc 3 1, 3) := by decide +kernel
theorem dX4_wordHere_100 : decode cX4_wordHere 100 = .ok (.goto (-59), 3) := by decide +kernel
theorem dX4_wordHere_103 : decode cX4_wordHere 103 = .ok (.iload_n 2, 1) := by decide +kernel
theorem dX4_wordHere_104 : decode cX4_wordHere 104 = .ok (.ifCond .eq 5, 3) := by decide +kernel
theorem dX4_wordHere_107 : decode cX4_wordHere 107 = .ok (.iload_n 1, 1) := by decide +kernel
theorem dX4_wordHere_108 : decode cX4_wordHere 108 = .ok (.ireturn, 1) := by decide +kernel
theorem dX4_wordHere_109 : decode cX4_wordHere 109 = .ok (.iinc 1 1, 3) := by decide +kernel
theorem dX4_wordHere_112 : decode cX4_wordHere 112 = .ok (.goto (-110), 3) := by decide +kernel
theorem dX4_wordHere_115 : decode cX4_wordHere 115 = .ok (.iconst (-1), 1) := by decide +kernel
theorem dX4_wordHere_116 : decode cX4_wordHere 116 = .ok (.ireturn, 1) := by decide +kernel
theorem dX4_reads_0 : decode cX4_reads 0 = .ok (.aload_n 0, 1) := by decide +kernel
theorem dX4_reads_1 : decode cX4_reads 1 = .ok (.getfield 115, 3) := by decide +kernel
theorem dX4_reads_4 : decode cX4_reads 4 = .ok (.aload_n 0, 1) := by decide +kernel
theorem dX4_reads_5 : decode cX4_reads 5 = .ok (.getfield 101, 3) := by decide +kernel
theorem dX4_reads_8 : decode cX4_reads 8 = .ok (.if_icmp .eq 31, 3) := by decide +kernel
theorem dX4_reads_11 : decode cX4_reads 11 = .ok (.aload_n 0, 1) := by decide +kernel
theorem dX4_reads_12 : decode cX4_reads 12 = .ok (.getfield 60, 3) := by decide +kernel
theorem dX4_reads_15 : decode cX4_reads 15 = .ok (.aload_n 0, 1) := by decide +kernel
theorem dX4_reads_16 : decode cX4_reads 16 = .ok (.getfield 115, 3) := by decide +kernel
theorem dX4_reads_19 : decode cX4_reads 19 = .ok (.iaload, 1) := by decide +kernel
theorem dX4_reads_20 : decode cX4_reads 20 = .ok (.invokestatic 122, 3) := by decide +kernel
theorem dX4_reads_23 : decode cX4_reads 23 = .ok (.ifCond .eq 16, 3) := by decide +kernel
theorem dX4_reads_26 : decode cX4_reads 26 = .ok (.aload_n 0, 1) := by decide +kernel
theorem dX4_reads_27 : decode cX4_reads 27 = .ok (.getfield 112, 3) := by decide +kernel
theorem dX4_reads_30 : decode cX4_reads 30 = .ok (.aload_n 0, 1) := by decide +kernel
theorem dX4_reads_31 : decode cX4_reads 31 = .ok (.getfield 115, 3) := by decide +kernel
theorem dX4_reads_34 : decode cX4_reads 34 = .ok (.isub, 1) := by decide +kernel
theorem dX4_reads_35 : decode cX4_reads 35 = .ok (.iconst 4, 1) := by decide +kernel
theorem dX4_reads_36 : decode cX4_reads 36 = .ok (.if_icmp .le 5, 3) := by decide +kernel
theorem dX4_reads_39 : decode cX4_reads 39 = .ok (.iconst 0, 1) := by decide +kernel
theorem dX4_reads_40 : decode cX4_reads 40 = .ok (.ireturn, 1) := by decide +kernel
theorem dX4_reads_41 : decode cX4_reads 41 = .ok (.iconst 0, 1) := by decide +kernel
theorem dX4_reads_42 : decode cX4_reads 42 = .ok (.istore 4, 2) := by decide +kernel
theorem dX4_reads_44 : decode cX4_reads 44 = .ok (.aload_n 0, 1) := by decide +kernel
theorem dX4_reads_45 : decode cX4_reads 45 = .ok (.getfield 115, 3) := by decide +kernel
theorem dX4_reads_48 : decode cX4_reads 48 = .ok (.istore 5, 2) := by decide +kernel
theorem dX4_reads_50 : decode cX4_reads 50 = .ok (.iload 5, 2) := by decide +kernel
theorem dX4_reads_52 : decode cX4_reads 52 = .ok (.aload_n 0, 1) := by decide +kernel
theorem dX4_reads_53 : decode cX4_reads 53 = .ok (.getfield 112, 3) := by decide +kernel
theorem dX4_reads_56 : decode cX4_reads 56 = .ok (.if_icmp .ge 27, 3) := by decide +kernel
theorem dX4_reads_59 : decode cX4_reads 59 = .ok (.bipush 10, 2) := by decide +kernel
theorem dX4_reads_61 : decode cX4_reads 61 = .ok (.iload 4, 2) := by decide +kernel
theorem dX4_reads_63 : decode cX4_reads 63 = .ok (.imul, 1) := by decide +kernel
theorem dX4_reads_64 : decode cX4_reads 64 = .ok (.aload_n 0, 1) := by decide +kernel
theorem dX4_reads_65 : decode cX4_reads 65 = .ok (.getfield 60, 3) := by decide +kernel
theorem dX4_reads_68 : decode cX4_reads 68 = .ok (.iload 5, 2) := by decide +kernel
theorem dX4_reads_70 : decode cX4_reads 70 = .ok (.iaload, 1) := by decide +kernel
theorem dX4_reads_71 : decode cX4_reads 71 = .ok (.iadd, 1) := by decide +kernel
theorem dX4_reads_72 : decode cX4_reads 72 = .ok (.bipush 48, 2) := by decide +kernel
theorem dX4_reads_74 : decode cX4_reads 74 = .ok (.isub, 1) := by decide +kernel
theorem dX4_reads_75 : decode cX4_reads 75 = .ok (.istore 4, 2) := by decide +kernel
theorem dX4_reads_77 : decode cX4_reads 77 = .ok (.iinc 5 1, 3) := by decide +kernel
theorem dX4_reads_80 : decode cX4_reads 80 = .ok (.goto (-30), 3) := by decide +kernel
theorem dX4_reads_83 : decode cX4_reads 83 = .ok (.iload 4, 2) := by decide +kernel
theorem dX4_reads_85 : decode cX4_reads 85 = .ok (.i2l, 1) := by decide +kernel
theorem dX4_reads_86 : decode cX4_reads 86 = .ok (.iload_n 2, 1) := by decide +kernel
theorem dX4_reads_87 : decode cX4_reads 87 = .ok (.i2l, 1) := by decide +kernel
theorem dX4_reads_88 : decode cX4_reads 88 = .ok (.iload_n 3, 1) := by decide +kernel
theorem dX4_reads_89 : decode cX4_reads 89 = .ok (.i2l, 1) := by decide +kernel
theorem dX4_reads_90 : decode cX4_reads 90 = .ok (.invokestatic 71, 3) := by decide +kernel
theorem dX4_reads_93 : decode cX4_reads 93 = .ok (.ifCond .ne 5, 3) := by decide +kernel
theorem dX4_reads_96 : decode cX4_reads 96 = .ok (.iconst 0, 1) := by decide +kernel
theorem dX4_reads_97 : decode cX4_reads 97 = .ok (.ireturn, 1) := by decide +kernel
theorem dX4_reads_98 : decode cX4_reads 98 = .ok (.aload_n 0, 1) := by decide +kernel
theorem dX4_reads_99 : decode cX4_reads 99 = .ok (.getfield 63, 3) := by decide +kernel
theorem dX4_reads_102 : decode cX4_reads 102 = .ok (.iload_n 1, 1) := by decide +kernel
theorem dX4_reads_103 : decode cX4_reads 103 = .ok (.iload 4, 2) := by decide +kernel
theorem dX4_reads_105 : decode cX4_reads 105 = .ok (.iastore, 1) := by decide +kernel
theorem dX4_reads_106 : decode cX4_reads 106 = .ok (.aload_n 0, 1) := by decide +kernel
theorem dX4_reads_107 : decode cX4_reads 107 = .ok (.invokevirtual 125, 3) := by decide +kernel
theorem dX4_reads_110 : decode cX4_reads 110 = .ok (.iconst 1, 1) := by decide +kernel
theorem dX4_reads_111 : decode cX4_reads 111 = .ok (.ireturn, 1) := by decide +kernel
theorem dX4_readsRest_0 : decode cX4_readsRest 0 = .ok (.iload_n 1, 1) := by decide +kernel
theorem dX4_readsRest_1 : decode cX4_readsRest 1 = .ok (.tableswitch 145 0 5 #[39, 41, 70, 145, 79, 106], 39) := by decide +kernel
theorem dX4_readsRest_40 : decode cX4_readsRest 40 = .ok (.iconst 1, 1) := by decide +kernel
theorem dX4_readsRest_41 : decode cX4_readsRest 41 = .ok (.ireturn, 1) := by decide +kernel
theorem dX4_readsRest_42 : decode cX4_readsRest 42 = .ok (.aload_n 0, 1) := by decide +kernel
theorem dX4_readsRest_43 : decode cX4_readsRest 43 = .ok (.iconst 0, 1) := by decide +kernel
theorem dX4_readsRest_44 : decode cX4_readsRest 44 = .ok (.iconst 0, 1) := by decide +kernel
theorem dX4_readsRest_45 : decode cX4_readsRest 45 = .ok (.bipush 7, 2) := by decide +kernel
theorem dX4_readsRest_47 : decode cX4_readsRest 47 = .ok (.invokevirtual 128, 3) := by decide +kernel
theorem dX4_readsRest_50 : decode cX4_readsRest 50 = .ok (.ifCond .eq 19, 3) := by decide +kernel
theorem dX4_readsRest_53 : decode cX4_readsRest 53 = .ok (.aload_n 0, 1) := by decide +kernel
theorem dX4_readsRest_54 : decode cX4_readsRest 54 = .ok (.iconst 1, 1) := by decide +kernel
theorem dX4_readsRest_55 : decode cX4_readsRest 55 = .ok (.iconst 0, 1) := by decide +kernel
theorem dX4_readsRest_56 : decode cX4_readsRest 56 = .ok (.sipush 9999, 3) := by decide +kernel
theorem dX4_readsRest_59 : decode cX4_readsRest 59 = .ok (.invokevirtual 128, 3) := by decide +kernel
theorem dX4_readsRest_62 : decode cX4_readsRest 62 = .ok (.ifCond .eq 7, 3) := by decide +kernel
theorem dX4_readsRest_65 : decode cX4_readsRest 65 = .ok (.iconst 1, 1) := by decide +kernel
theorem dX4_readsRest_66 : decode cX4_readsRest 66 = .ok (.goto 4, 3) := by decide +kernel
theorem dX4_readsRest_69 : decode cX4_readsRest 69 = .ok (.iconst 0, 1) := by decide +kernel
theorem dX4_readsRest_70 : decode cX4_readsRest 70 = .ok (.ireturn, 1) := by decide +kernel
theorem dX4_readsRest_71 : decode cX4_readsRest 71 = .ok (.aload_n 0, 1) := by decide +kernel
theorem dX4_readsRest_72 : decode cX4_readsRest 72 = .ok (.iconst 0, 1) := by decide +kernel
theorem dX4_readsRest_73 : decode cX4_readsRest 73 = .ok (.iconst 1, 1) := by decide +kernel
theorem dX4_readsRest_74 : decode cX4_readsRest 74 = .ok (.bipush 9, 2) := by decide +kernel
theorem dX4_readsRest_76 : decode cX4_readsRest 76 = .ok (.invokevirtual 128, 3) := by decide +kernel
theorem dX4_readsRest_79 : decode cX4_readsRest 79 = .ok (.ireturn, 1) := by decide +kernel
theorem dX4_readsRest_80 : decode cX4_readsRest 80 = .ok (.aload_n 0, 1) := by decide +kernel
theorem dX4_readsRest_81 : decode cX4_readsRest 81 = .ok (.iconst 0, 1) := by decide +kernel
theorem dX4_readsRest_82 : decode cX4_readsRest 82 = .ok (.iconst 0, 1) := by decide +kernel
theorem dX4_readsRest_83 : decode cX4_readsRest 83 = .ok (.iconst 5, 1) := by decide +kernel
theorem dX4_readsRest_84 : decode cX4_readsRest 84 = .ok (.invokevirtual 128, 3) := by decide +kernel
theorem dX4_readsRest_87 : decode cX4_readsRest 87 = .ok (.ifCond .eq 18, 3) := by decide +kernel
theorem dX4_readsRest_90 : decode cX4_readsRest 90 = .ok (.aload_n 0, 1) := by decide +kernel
theorem dX4_readsRest_91 : decode cX4_readsRest 91 = .ok (.iconst 1, 1) := by decide +kernel
theorem dX4_readsRest_92 : decode cX4_readsRest 92 = .ok (.iconst 0, 1) := by decide +kernel
theorem dX4_readsRest_93 : decode cX4_readsRest 93 = .ok (.bipush 7, 2) := by decide +kernel
theorem dX4_readsRest_95 : decode cX4_readsRest 95 = .ok (.invokevirtual 128, 3) := by decide +kernel
theorem dX4_readsRest_98 : decode cX4_readsRest 98 = .ok (.ifCond .eq 7, 3) := by decide +kernel
theorem dX4_readsRest_101 : decode cX4_readsRest 101 = .ok (.iconst 1, 1) := by decide +kernel
theorem dX4_readsRest_102 : decode cX4_readsRest 102 = .ok (.goto 4, 3) := by decide +kernel
theorem dX4_readsRest_105 : decode cX4_readsRest 105 = .ok (.iconst 0, 1) := by decide +kernel
theorem dX4_readsRest_106 : decode cX4_readsRest 106 = .ok (.ireturn, 1) := by decide +kernel
theorem dX4_readsRest_107 : decode cX4_readsRest 107 = .ok (.aload_n 0, 1) := by decide +kernel
theorem dX4_readsRest_108 : decode cX4_readsRest 108 = .ok (.iconst 0, 1) := by decide +kernel
theorem dX4_readsRest_109 : decode cX4_readsRest 109 = .ok (.iconst 0, 1) := by decide +kernel
theorem dX4_readsRest_110 : decode cX4_readsRest 110 = .ok (.iconst 5, 1) := by decide +kernel
theorem dX4_readsRest_111 : decode cX4_readsRest 111 = .ok (.invokevirtual 128, 3) := by decide +kernel
theorem dX4_readsRest_114 : decode cX4_readsRest 114 = .ok (.ifCond .eq 30, 3) := by decide +kernel
theorem dX4_readsRest_117 : decode cX4_readsRest 117 = .ok (.aload_n 0, 1) := by decide +kernel
theorem dX4_readsRest_118 : decode cX4_readsRest 118 = .ok (.iconst 1, 1) := by decide +kernel
theorem dX4_readsRest_119 : decode cX4_readsRest 119 = .ok (.iconst 0, 1) := by decide +kernel
theorem dX4_readsRest_120 : decode cX4_readsRest 120 = .ok (.bipush 7, 2) := by decide +kernel
theorem dX4_readsRest_122 : decode cX4_readsRest 122 = .ok (.invokevirtual 128, 3) := by decide +kernel
theorem dX4_readsRest_125 : decode cX4_readsRest 125 = .ok (.ifCond .eq 19, 3) := by decide +kernel
theorem dX4_readsRest_128 : decode cX4_readsRest 128 = .ok (.aload_n 0, 1) := by decide +kernel
theorem dX4_readsRest_129 : decode cX4_readsRest 129 = .ok (.iconst 2, 1) := by decide +kernel
theorem dX4_readsRest_130 : decode cX4_readsRest 130 = .ok (.iconst 0, 1) := by decide +kernel
theorem dX4_readsRest_131 : decode cX4_readsRest 131 = .ok (.sipush 9999, 3) := by decide +kernel
theorem dX4_readsRest_134 : decode cX4_readsRest 134 = .ok (.invokevirtual 128, 3) := by decide +kernel
theorem dX4_readsRest_137 : decode cX4_readsRest 137 = .ok (.ifCond .eq 7, 3) := by decide +kernel
theorem dX4_readsRest_140 : decode cX4_readsRest 140 = .ok (.iconst 1, 1) := by decide +kernel
theorem dX4_readsRest_141 : decode cX4_readsRest 141 = .ok (.goto 4, 3) := by decide +kernel
theorem dX4_readsRest_144 : decode cX4_readsRest 144 = .ok (.iconst 0, 1) := by decide +kernel
theorem dX4_readsRest_145 : decode cX4_readsRest 145 = .ok (.ireturn, 1) := by decide +kernel
theorem dX4_readsRest_146 : decode cX4_readsRest 146 = .ok (.aload_n 0, 1) := by decide +kernel
theorem dX4_readsRest_147 : decode cX4_readsRest 147 = .ok (.iconst 0, 1) := by decide +kernel
theorem dX4_readsRest_148 : decode cX4_readsRest 148 = .ok (.iconst 0, 1) := by decide +kernel
theorem dX4_readsRest_149 : decode cX4_readsRest 149 = .ok (.iconst 5, 1) := by decide +kernel
theorem dX4_readsRest_150 : decode cX4_readsRest 150 = .ok (.invokevirtual 128, 3) := by decide +kernel
theorem dX4_readsRest_153 : decode cX4_readsRest 153 = .ok (.ireturn, 1) := by decide +kernel
theorem dX4_does_0 : decode cX4_does 0 = .ok (.iload_n 1, 1) := by decide +kernel
theorem dX4_does_1 : decode cX4_does 1 = .ok (.tableswitch 140 0 5 #[39, 46, 66, 80, 94, 114], 39) := by decide +kernel
theorem dX4_does_40 : decode cX4_does 40 = .ok (.aload_n 0, 1) := by decide +kernel
theorem dX4_does_41 : decode cX4_does 41 = .ok (.invokevirtual 131, 3) := by decide +kernel
theorem dX4_does_44 : decode cX4_does 44 = .ok (.goto 108, 3) := by decide +kernel
theorem dX4_does_47 : decode cX4_does 47 = .ok (.aload_n 0, 1) := by decide +kernel
theorem dX4_does_48 : decode cX4_does 48 = .ok (.aload_n 0, 1) := by decide +kernel
theorem dX4_does_49 : decode cX4_does 49 = .ok (.getfield 63, 3) := by decide +kernel
theorem dX4_does_52 : decode cX4_does 52 = .ok (.iconst 0, 1) := by decide +kernel
theorem dX4_does_53 : decode cX4_does 53 = .ok (.iaload, 1) := by decide +kernel
theorem dX4_does_54 : decode cX4_does 54 = .ok (.aload_n 0, 1) := by decide +kernel
theorem dX4_does_55 : decode cX4_does 55 = .ok (.getfield 63, 3) := by decide +kernel
theorem dX4_does_58 : decode cX4_does 58 = .ok (.iconst 1, 1) := by decide +kernel
theorem dX4_does_59 : decode cX4_does 59 = .ok (.iaload, 1) := by decide +kernel
theorem dX4_does_60 : decode cX4_does 60 = .ok (.invokevirtual 134, 3) := by decide +kernel
theorem dX4_does_63 : decode cX4_does 63 = .ok (.pop, 1) := by decide +kernel
theorem dX4_does_64 : decode cX4_does 64 = .ok (.goto 88, 3) := by decide +kernel
theorem dX4_does_67 : decode cX4_does 67 = .ok (.aload_n 0, 1) := by decide +kernel
theorem dX4_does_68 : decode cX4_does 68 = .ok (.aload_n 0, 1) := by decide +kernel
theorem dX4_does_69 : decode cX4_does 69 = .ok (.getfield 63, 3) := by decide +kernel
theorem dX4_does_72 : decode cX4_does 72 = .ok (.iconst 0, 1) := by decide +kernel
theorem dX4_does_73 : decode cX4_does 73 = .ok (.iaload, 1) := by decide +kernel
theorem dX4_does_74 : decode cX4_does 74 = .ok (.invokevirtual 138, 3) := by decide +kernel
theorem dX4_does_77 : decode cX4_does 77 = .ok (.pop, 1) := by decide +kernel
theorem dX4_does_78 : decode cX4_does 78 = .ok (.goto 74, 3) := by decide +kernel
theorem dX4_does_81 : decode cX4_does 81 = .ok (.aload_n 0, 1) := by decide +kernel
theorem dX4_does_82 : decode cX4_does 82 = .ok (.aload_n 0, 1) := by decide +kernel
theorem dX4_does_83 : decode cX4_does 83 = .ok (.getfield 63, 3) := by decide +kernel
theorem dX4_does_86 : decode cX4_does 86 = .ok (.iconst 0, 1) := by decide +kernel
theorem dX4_does_87 : decode cX4_does 87 = .ok (.iaload, 1) := by decide +kernel
theorem dX4_does_88 : decode cX4_does 88 = .ok (.invokevirtual 141, 3) := by decide +kernel
theorem dX4_does_91 : decode cX4_does 91 = .ok (.pop, 1) := by decide +kernel
theorem dX4_does_92 : decode cX4_does 92 = .ok (.goto 60, 3) := by decide +kernel
theorem dX4_does_95 : decode cX4_does 95 = .ok (.aload_n 0, 1) := by decide +kernel
theorem dX4_does_96 : decode cX4_does 96 = .ok (.aload_n 0, 1) := by decide +kernel
theorem dX4_does_97 : decode cX4_does 97 = .ok (.getfield 63, 3) := by decide +kernel
theorem dX4_does_100 : decode cX4_does 100 = .ok (.iconst 0, 1) := by decide +kernel
theorem dX4_does_101 : decode cX4_does 101 = .ok (.iaload, 1) := by decide +kernel
theorem dX4_does_102 : decode cX4_does 102 = .ok (.aload_n 0, 1) := by decide +kernel
theorem dX4_does_103 : decode cX4_does 103 = .ok (.getfield 63, 3) := by decide +kernel
theorem dX4_does_106 : decode cX4_does 106 = .ok (.iconst 1, 1) := by decide +kernel
theorem dX4_does_107 : decode cX4_does 107 = .ok (.iaload, 1) := by decide +kernel
theorem dX4_does_108 : decode cX4_does 108 = .ok (.invokevirtual 144, 3) := by decide +kernel
theorem dX4_does_111 : decode cX4_does 111 = .ok (.pop, 1) := by decide +kernel
theorem dX4_does_112 : decode cX4_does 112 = .ok (.goto 40, 3) := by decide +kernel
theorem dX4_does_115 : decode cX4_does 115 = .ok (.aload_n 0, 1) := by decide +kernel
theorem dX4_does_116 : decode cX4_does 116 = .ok (.aload_n 0, 1) := by decide +kernel
theorem dX4_does_117 : decode cX4_does 117 = .ok (.getfield 63, 3) := by decide +kernel
theorem dX4_does_120 : decode cX4_does 120 = .ok (.iconst 0, 1) := by decide +kernel
theorem dX4_does_121 : decode cX4_does 121 = .ok (.iaload, 1) := by decide +kernel
theorem dX4_does_122 : decode cX4_does 122 = .ok (.aload_n 0, 1) := by decide +kernel
theorem dX4_does_123 : decode cX4_does 123 = .ok (.getfield 63, 3) := by decide +kernel
theorem dX4_does_126 : decode cX4_does 126 = .ok (.iconst 1, 1) := by decide +kernel
theorem dX4_does_127 : decode cX4_does 127 = .ok (.iaload, 1) := by decide +kernel
theorem dX4_does_128 : decode cX4_does 128 = .ok (.aload_n 0, 1) := by decide +kernel
theorem dX4_does_129 : decode cX4_does 129 = .ok (.getfield 63, 3) := by decide +kernel
theorem dX4_does_132 : decode cX4_does 132 = .ok (.iconst 2, 1) := by decide +kernel
theorem dX4_does_133 : decode cX4_does 133 = .ok (.iaload, 1) := by decide +kernel
theorem dX4_does_134 : decode cX4_does 134 = .ok (.invokevirtual 147, 3) := by decide +kernel
theorem dX4_does_137 : decode cX4_does 137 = .ok (.pop, 1) := by decide +kernel
theorem dX4_does_138 : decode cX4_does 138 = .ok (.goto 14, 3) := by decide +kernel
theorem dX4_does_141 : decode cX4_does 141 = .ok (.aload_n 0, 1) := by decide +kernel
theorem dX4_does_142 : decode cX4_does 142 = .ok (.aload_n 0, 1) := by decide +kernel
theorem dX4_does_143 : decode cX4_does 143 = .ok (.getfield 63, 3) := by decide +kernel
theorem dX4_does_146 : decode cX4_does 146 = .ok (.iconst 0, 1) := by decide +kernel
theorem dX4_does_147 : decode cX4_does 147 = .ok (.iaload, 1) := by decide +kernel
theorem dX4_does_148 : decode cX4_does 148 = .ok (.invokevirtual 151, 3) := by decide +kernel
theorem dX4_does_151 : decode cX4_does 151 = .ok (.pop, 1) := by decide +kernel
theorem dX4_does_152 : decode cX4_does 152 = .ok (.return_, 1) := by decide +kernel
theorem dX4_readsClause_0 : decode cX4_readsClause 0 = .ok (.aload_n 0, 1) := by decide +kernel
theorem dX4_readsClause_1 : decode cX4_readsClause 1 = .ok (.invokevirtual 154, 3) := by decide +kernel
theorem dX4_readsClause_4 : decode cX4_readsClause 4 = .ok (.istore_n 1, 1) := by decide +kernel
theorem dX4_readsClause_5 : decode cX4_readsClause 5 = .ok (.iload_n 1, 1) := by decide +kernel
theorem dX4_readsClause_6 : decode cX4_readsClause 6 = .ok (.iconst (-1), 1) := by decide +kernel
theorem dX4_readsClause_7 : decode cX4_readsClause 7 = .ok (.if_icmp .ne 5, 3) := by decide +kernel
theorem dX4_readsClause_10 : decode cX4_readsClause 10 = .ok (.iconst 0, 1) := by decide +kernel
theorem dX4_readsClause_11 : decode cX4_readsClause 11 = .ok (.ireturn, 1) := by decide +kernel
theorem dX4_readsClause_12 : decode cX4_readsClause 12 = .ok (.aload_n 0, 1) := by decide +kernel
theorem dX4_readsClause_13 : decode cX4_readsClause 13 = .ok (.invokevirtual 125, 3) := by decide +kernel
theorem dX4_readsClause_16 : decode cX4_readsClause 16 = .ok (.aload_n 0, 1) := by decide +kernel
theorem dX4_readsClause_17 : decode cX4_readsClause 17 = .ok (.iload_n 1, 1) := by decide +kernel
theorem dX4_readsClause_18 : decode cX4_readsClause 18 = .ok (.invokevirtual 158, 3) := by decide +kernel
theorem dX4_readsClause_21 : decode cX4_readsClause 21 = .ok (.ifCond .ne 5, 3) := by decide +kernel
theorem dX4_readsClause_24 : decode cX4_readsClause 24 = .ok (.iconst 0, 1) := by decide +kernel
theorem dX4_readsClause_25 : decode cX4_readsClause 25 = .ok (.ireturn, 1) := by decide +kernel
theorem dX4_readsClause_26 : decode cX4_readsClause 26 = .ok (.aload_n 0, 1) := by decide +kernel
theorem dX4_readsClause_27 : decode cX4_readsClause 27 = .ok (.getfield 161, 3) := by decide +kernel
theorem dX4_readsClause_30 : decode cX4_readsClause 30 = .ok (.ifCond .eq 8, 3) := by decide +kernel
theorem dX4_readsClause_33 : decode cX4_readsClause 33 = .ok (.aload_n 0, 1) := by decide +kernel
theorem dX4_readsClause_34 : decode cX4_readsClause 34 = .ok (.iload_n 1, 1) := by decide +kernel
theorem dX4_readsClause_35 : decode cX4_readsClause 35 = .ok (.invokevirtual 165, 3) := by decide +kernel
theorem dX4_readsClause_38 : decode cX4_readsClause 38 = .ok (.iconst 1, 1) := by decide +kernel
theorem dX4_readsClause_39 : decode cX4_readsClause 39 = .ok (.ireturn, 1) := by decide +kernel
theorem dX4_readsAll_0 : decode cX4_readsAll 0 = .ok (.aload_n 0, 1) := by decide +kernel
theorem dX4_readsAll_1 : decode cX4_readsAll 1 = .ok (.iload_n 1, 1) := by decide +kernel
theorem dX4_readsAll_2 : decode cX4_readsAll 2 = .ok (.putfield 161, 3) := by decide +kernel
theorem dX4_readsAll_5 : decode cX4_readsAll 5 = .ok (.aload_n 0, 1) := by decide +kernel
theorem dX4_readsAll_6 : decode cX4_readsAll 6 = .ok (.iconst 0, 1) := by decide +kernel
theorem dX4_readsAll_7 : decode cX4_readsAll 7 = .ok (.putfield 112, 3) := by decide +kernel
theorem dX4_readsAll_10 : decode cX4_readsAll 10 = .ok (.aload_n 0, 1) := by decide +kernel
theorem dX4_readsAll_11 : decode cX4_readsAll 11 = .ok (.iconst 1, 1) := by decide +kernel
theorem dX4_readsAll_12 : decode cX4_readsAll 12 = .ok (.putfield 169, 3) := by decide +kernel
theorem dX4_readsAll_15 : decode cX4_readsAll 15 = .ok (.aload_n 0, 1) := by decide +kernel
theorem dX4_readsAll_16 : decode cX4_readsAll 16 = .ok (.invokevirtual 125, 3) := by decide +kernel
theorem dX4_readsAll_19 : decode cX4_readsAll 19 = .ok (.aload_n 0, 1) := by decide +kernel
theorem dX4_readsAll_20 : decode cX4_readsAll 20 = .ok (.invokevirtual 172, 3) := by decide +kernel
theorem dX4_readsAll_23 : decode cX4_readsAll 23 = .ok (.istore_n 2, 1) := by decide +kernel
theorem dX4_readsAll_24 : decode cX4_readsAll 24 = .ok (.iload_n 2, 1) := by decide +kernel
theorem dX4_readsAll_25 : decode cX4_readsAll 25 = .ok (.ifCond .eq 69, 3) := by decide +kernel
theorem dX4_readsAll_28 : decode cX4_readsAll 28 = .ok (.aload_n 0, 1) := by decide +kernel
theorem dX4_readsAll_29 : decode cX4_readsAll 29 = .ok (.getfield 115, 3) := by decide +kernel
theorem dX4_readsAll_32 : decode cX4_readsAll 32 = .ok (.aload_n 0, 1) := by decide +kernel
theorem dX4_readsAll_33 : decode cX4_readsAll 33 = .ok (.getfield 101, 3) := by decide +kernel
theorem dX4_readsAll_36 : decode cX4_readsAll 36 = .ok (.if_icmp .ge 58, 3) := by decide +kernel
theorem dX4_readsAll_39 : decode cX4_readsAll 39 = .ok (.aload_n 0, 1) := by decide +kernel
theorem dX4_readsAll_40 : decode cX4_readsAll 40 = .ok (.getfield 169, 3) := by decide +kernel
theorem dX4_readsAll_43 : decode cX4_readsAll 43 = .ok (.bipush 24, 2) := by decide +kernel
theorem dX4_readsAll_45 : decode cX4_readsAll 45 = .ok (.if_icmp .ge 21, 3) := by decide +kernel
theorem dX4_readsAll_48 : decode cX4_readsAll 48 = .ok (.aload_n 0, 1) := by decide +kernel
theorem dX4_readsAll_49 : decode cX4_readsAll 49 = .ok (.getfield 60, 3) := by decide +kernel
theorem dX4_readsAll_52 : decode cX4_readsAll 52 = .ok (.aload_n 0, 1) := by decide +kernel
theorem dX4_readsAll_53 : decode cX4_readsAll 53 = .ok (.getfield 115, 3) := by decide +kernel
theorem dX4_readsAll_56 : decode cX4_readsAll 56 = .ok (.iaload, 1) := by decide +kernel
theorem dX4_readsAll_57 : decode cX4_readsAll 57 = .ok (.bipush 59, 2) := by decide +kernel
theorem dX4_readsAll_59 : decode cX4_readsAll 59 = .ok (.if_icmp .ne 7, 3) := by decide +kernel
theorem dX4_readsAll_62 : decode cX4_readsAll 62 = .ok (.iconst 1, 1) := by decide +kernel
theorem dX4_readsAll_63 : decode cX4_readsAll 63 = .ok (.goto 4, 3) := by decide +kernel
theorem dX4_readsAll_66 : decode cX4_readsAll 66 = .ok (.iconst 0, 1) := by decide +kernel
theorem dX4_readsAll_67 : decode cX4_readsAll 67 = .ok (.istore_n 2, 1) := by decide +kernel
theorem dX4_readsAll_68 : decode cX4_readsAll 68 = .ok (.iload_n 2, 1) := by decide +kernel
theorem dX4_readsAll_69 : decode cX4_readsAll 69 = .ok (.ifCond .eq (-45), 3) := by decide +kernel
theorem dX4_readsAll_72 : decode cX4_readsAll 72 = .ok (.aload_n 0, 1) := by decide +kernel
theorem dX4_readsAll_73 : decode cX4_readsAll 73 = .ok (.invokevirtual 125, 3) := by decide +kernel
theorem dX4_readsAll_76 : decode cX4_readsAll 76 = .ok (.aload_n 0, 1) := by decide +kernel
theorem dX4_readsAll_77 : decode cX4_readsAll 77 = .ok (.invokevirtual 172, 3) := by decide +kernel
theorem dX4_readsAll_80 : decode cX4_readsAll 80 = .ok (.istore_n 2, 1) := by decide +kernel
theorem dX4_readsAll_81 : decode cX4_readsAll 81 = .ok (.aload_n 0, 1) := by decide +kernel
theorem dX4_readsAll_82 : decode cX4_readsAll 82 = .ok (.dup, 1) := by decide +kernel
theorem dX4_readsAll_83 : decode cX4_readsAll 83 = .ok (.getfield 169, 3) := by decide +kernel
theorem dX4_readsAll_86 : decode cX4_readsAll 86 = .ok (.iconst 1, 1) := by decide +kernel
theorem dX4_readsAll_87 : decode cX4_readsAll 87 = .ok (.iadd, 1) := by decide +kernel
theorem dX4_readsAll_88 : decode cX4_readsAll 88 = .ok (.putfield 169, 3) := by decide +kernel
theorem dX4_readsAll_91 : decode cX4_readsAll 91 = .ok (.goto (-67), 3) := by decide +kernel
theorem dX4_readsAll_94 : decode cX4_readsAll 94 = .ok (.iload_n 2, 1) := by decide +kernel
theorem dX4_readsAll_95 : decode cX4_readsAll 95 = .ok (.ireturn, 1) := by decide +kernel
theorem dX4_fault_0 : decode cX4_fault 0 = .ok (.aload_n 0, 1) := by decide +kernel
theorem dX4_fault_1 : decode cX4_fault 1 = .ok (.iconst 0, 1) := by decide +kernel
theorem dX4_fault_2 : decode cX4_fault 2 = .ok (.invokevirtual 176, 3) := by decide +kernel
theorem dX4_fault_5 : decode cX4_fault 5 = .ok (.ifCond .eq 7, 3) := by decide +kernel
theorem dX4_fault_8 : decode cX4_fault 8 = .ok (.iconst (-1), 1) := by decide +kernel
theorem dX4_fault_9 : decode cX4_fault 9 = .ok (.goto 7, 3) := by decide +kernel
theorem dX4_fault_12 : decode cX4_fault 12 = .ok (.aload_n 0, 1) := by decide +kernel
theorem dX4_fault_13 : decode cX4_fault 13 = .ok (.getfield 115, 3) := by decide +kernel
theorem dX4_fault_16 : decode cX4_fault 16 = .ok (.ireturn, 1) := by decide +kernel
theorem dX4_tell_0 : decode cX4_tell 0 = .ok (.aload_n 0, 1) := by decide +kernel
theorem dX4_tell_1 : decode cX4_tell 1 = .ok (.iconst 0, 1) := by decide +kernel
theorem dX4_tell_2 : decode cX4_tell 2 = .ok (.invokevirtual 176, 3) := by decide +kernel
theorem dX4_tell_5 : decode cX4_tell 5 = .ok (.ifCond .ne 6, 3) := by decide +kernel
theorem dX4_tell_8 : decode cX4_tell 8 = .ok (.bipush (-4), 2) := by decide +kernel
theorem dX4_tell_10 : decode cX4_tell 10 = .ok (.ireturn, 1) := by decide +kernel
theorem dX4_tell_11 : decode cX4_tell 11 = .ok (.aload_n 0, 1) := by decide +kernel
theorem dX4_tell_12 : decode cX4_tell 12 = .ok (.iconst 1, 1) := by decide +kernel
theorem dX4_tell_13 : decode cX4_tell 13 = .ok (.invokevirtual 176, 3) := by decide +kernel
theorem dX4_tell_16 : decode cX4_tell 16 = .ok (.pop, 1) := by decide +kernel
theorem dX4_tell_17 : decode cX4_tell 17 = .ok (.aload_n 0, 1) := by decide +kernel
theorem dX4_tell_18 : decode cX4_tell 18 = .ok (.iconst 0, 1) := by decide +kernel
theorem dX4_tell_19 : decode cX4_tell 19 = .ok (.putfield 101, 3) := by decide +kernel
theorem dX4_tell_22 : decode cX4_tell 22 = .ok (.aload_n 0, 1) := by decide +kernel
theorem dX4_tell_23 : decode cX4_tell 23 = .ok (.getfield 169, 3) := by decide +kernel
theorem dX4_tell_26 : decode cX4_tell 26 = .ok (.ireturn, 1) := by decide +kernel
theorem dX4_item_0 : decode cX4_item 0 = .ok (.iload_n 1, 1) := by decide +kernel
theorem dX4_item_1 : decode cX4_item 1 = .ok (.invokestatic 180, 3) := by decide +kernel
theorem dX4_item_4 : decode cX4_item 4 = .ok (.ifCond .ne 6, 3) := by decide +kernel
theorem dX4_item_7 : decode cX4_item 7 = .ok (.bipush (-2), 2) := by decide +kernel
theorem dX4_item_9 : decode cX4_item 9 = .ok (.ireturn, 1) := by decide +kernel
theorem dX4_item_10 : decode cX4_item 10 = .ok (.iload_n 2, 1) := by decide +kernel
theorem dX4_item_11 : decode cX4_item 11 = .ok (.ifCond .ne 12, 3) := by decide +kernel
theorem dX4_item_14 : decode cX4_item 14 = .ok (.aload_n 0, 1) := by decide +kernel
theorem dX4_item_15 : decode cX4_item 15 = .ok (.getfield 7, 3) := by decide +kernel
theorem dX4_item_18 : decode cX4_item 18 = .ok (.iload_n 1, 1) := by decide +kernel
theorem dX4_item_19 : decode cX4_item 19 = .ok (.iaload, 1) := by decide +kernel
theorem dX4_item_20 : decode cX4_item 20 = .ok (.goto 19, 3) := by decide +kernel
theorem dX4_item_23 : decode cX4_item 23 = .ok (.iload_n 2, 1) := by decide +kernel
theorem dX4_item_24 : decode cX4_item 24 = .ok (.iconst 1, 1) := by decide +kernel
theorem dX4_item_25 : decode cX4_item 25 = .ok (.if_icmp .ne 12, 3) := by decide +kernel
theorem dX4_item_28 : decode cX4_item 28 = .ok (.aload_n 0, 1) := by decide +kernel
theorem dX4_item_29 : decode cX4_item 29 = .ok (.getfield 13, 3) := by decide +kernel
theorem dX4_item_32 : decode cX4_item 32 = .ok (.iload_n 1, 1) := by decide +kernel
theorem dX4_item_33 : decode cX4_item 33 = .ok (.iaload, 1) := by decide +kernel
theorem dX4_item_34 : decode cX4_item 34 = .ok (.goto 5, 3) := by decide +kernel
theorem dX4_item_37 : decode cX4_item 37 = .ok (.bipush (-3), 2) := by decide +kernel
theorem dX4_item_39 : decode cX4_item 39 = .ok (.ireturn, 1) := by decide +kernel
theorem dX4_logs_0 : decode cX4_logs 0 = .ok (.bipush 22, 2) := by decide +kernel
theorem dX4_logs_2 : decode cX4_logs 2 = .ok (.aload_n 0, 1) := by decide +kernel
theorem dX4_logs_3 : decode cX4_logs 3 = .ok (.getfield 81, 3) := by decide +kernel
theorem dX4_logs_6 : decode cX4_logs 6 = .ok (.imul, 1) := by decide +kernel
theorem dX4_logs_7 : decode cX4_logs 7 = .ok (.istore_n 3, 1) := by decide +kernel
theorem dX4_logs_8 : decode cX4_logs 8 = .ok (.aload_n 0, 1) := by decide +kernel
theorem dX4_logs_9 : decode cX4_logs 9 = .ok (.dup, 1) := by decide +kernel
theorem dX4_logs_10 : decode cX4_logs 10 = .ok (.getfield 81, 3) := by decide +kernel
theorem dX4_logs_13 : decode cX4_logs 13 = .ok (.iconst 1, 1) := by decide +kernel
theorem dX4_logs_14 : decode cX4_logs 14 = .ok (.iadd, 1) := by decide +kernel
theorem dX4_logs_15 : decode cX4_logs 15 = .ok (.putfield 81, 3) := by decide +kernel
theorem dX4_logs_18 : decode cX4_logs 18 = .ok (.aload_n 0, 1) := by decide +kernel
theorem dX4_logs_19 : decode cX4_logs 19 = .ok (.getfield 16, 3) := by decide +kernel
theorem dX4_logs_22 : decode cX4_logs 22 = .ok (.iload_n 3, 1) := by decide +kernel
theorem dX4_logs_23 : decode cX4_logs 23 = .ok (.iload_n 1, 1) := by decide +kernel
theorem dX4_logs_24 : decode cX4_logs 24 = .ok (.iastore, 1) := by decide +kernel
theorem dX4_logs_25 : decode cX4_logs 25 = .ok (.aload_n 0, 1) := by decide +kernel
theorem dX4_logs_26 : decode cX4_logs 26 = .ok (.getfield 16, 3) := by decide +kernel
theorem dX4_logs_29 : decode cX4_logs 29 = .ok (.iload_n 3, 1) := by decide +kernel
theorem dX4_logs_30 : decode cX4_logs 30 = .ok (.iconst 1, 1) := by decide +kernel
theorem dX4_logs_31 : decode cX4_logs 31 = .ok (.iadd, 1) := by decide +kernel
theorem dX4_logs_32 : decode cX4_logs 32 = .ok (.iload_n 1, 1) := by decide +kernel
theorem dX4_logs_33 : decode cX4_logs 33 = .ok (.iconst (-1), 1) := by decide +kernel
theorem dX4_logs_34 : decode cX4_logs 34 = .ok (.if_icmp .ne 7, 3) := by decide +kernel
theorem dX4_logs_37 : decode cX4_logs 37 = .ok (.iconst 0, 1) := by decide +kernel
theorem dX4_logs_38 : decode cX4_logs 38 = .ok (.goto 9, 3) := by decide +kernel
theorem dX4_logs_41 : decode cX4_logs 41 = .ok (.aload_n 0, 1) := by decide +kernel
theorem dX4_logs_42 : decode cX4_logs 42 = .ok (.getfield 25, 3) := by decide +kernel
theorem dX4_logs_45 : decode cX4_logs 45 = .ok (.iload_n 1, 1) := by decide +kernel
theorem dX4_logs_46 : decode cX4_logs 46 = .ok (.iaload, 1) := by decide +kernel
theorem dX4_logs_47 : decode cX4_logs 47 = .ok (.iastore, 1) := by decide +kernel
theorem dX4_logs_48 : decode cX4_logs 48 = .ok (.aload_n 0, 1) := by decide +kernel
theorem dX4_logs_49 : decode cX4_logs 49 = .ok (.getfield 16, 3) := by decide +kernel
theorem dX4_logs_52 : decode cX4_logs 52 = .ok (.iload_n 3, 1) := by decide +kernel
theorem dX4_logs_53 : decode cX4_logs 53 = .ok (.iconst 2, 1) := by decide +kernel
theorem dX4_logs_54 : decode cX4_logs 54 = .ok (.iadd, 1) := by decide +kernel
theorem dX4_logs_55 : decode cX4_logs 55 = .ok (.iload_n 1, 1) := by decide +kernel
theorem dX4_logs_56 : decode cX4_logs 56 = .ok (.iconst (-1), 1) := by decide +kernel
theorem dX4_logs_57 : decode cX4_logs 57 = .ok (.if_icmp .ne 7, 3) := by decide +kernel
theorem dX4_logs_60 : decode cX4_logs 60 = .ok (.iconst 0, 1) := by decide +kernel
theorem dX4_logs_61 : decode cX4_logs 61 = .ok (.goto 9, 3) := by decide +kernel
theorem dX4_logs_64 : decode cX4_logs 64 = .ok (.aload_n 0, 1) := by decide +kernel
theorem dX4_logs_65 : decode cX4_logs 65 = .ok (.getfield 28, 3) := by decide +kernel
theorem dX4_logs_68 : decode cX4_logs 68 = .ok (.iload_n 1, 1) := by decide +kernel
theorem dX4_logs_69 : decode cX4_logs 69 = .ok (.iaload, 1) := by decide +kernel
theorem dX4_logs_70 : decode cX4_logs 70 = .ok (.iastore, 1) := by decide +kernel
theorem dX4_logs_71 : decode cX4_logs 71 = .ok (.aload_n 0, 1) := by decide +kernel
theorem dX4_logs_72 : decode cX4_logs 72 = .ok (.getfield 16, 3) := by decide +kernel
theorem dX4_logs_75 : decode cX4_logs 75 = .ok (.iload_n 3, 1) := by decide +kernel
theorem dX4_logs_76 : decode cX4_logs 76 = .ok (.iconst 3, 1) := by decide +kernel
theorem dX4_logs_77 : decode cX4_logs 77 = .ok (.iadd, 1) := by decide +kernel
theorem dX4_logs_78 : decode cX4_logs 78 = .ok (.iload_n 1, 1) := by decide +kernel
theorem dX4_logs_79 : decode cX4_logs 79 = .ok (.iconst (-1), 1) := by decide +kernel
theorem dX4_logs_80 : decode cX4_logs 80 = .ok (.if_icmp .ne 7, 3) := by decide +kernel
theorem dX4_logs_83 : decode cX4_logs 83 = .ok (.iconst 0, 1) := by decide +kernel
theorem dX4_logs_84 : decode cX4_logs 84 = .ok (.goto 9, 3) := by decide +kernel
theorem dX4_logs_87 : decode cX4_logs 87 = .ok (.aload_n 0, 1) := by decide +kernel
theorem dX4_logs_88 : decode cX4_logs 88 = .ok (.getfield 35, 3) := by decide +kernel
theorem dX4_logs_91 : decode cX4_logs 91 = .ok (.iload_n 1, 1) := by decide +kernel
theorem dX4_logs_92 : decode cX4_logs 92 = .ok (.iaload, 1) := by decide +kernel
theorem dX4_logs_93 : decode cX4_logs 93 = .ok (.iastore, 1) := by decide +kernel
theorem dX4_logs_94 : decode cX4_logs 94 = .ok (.aload_n 0, 1) := by decide +kernel
theorem dX4_logs_95 : decode cX4_logs 95 = .ok (.getfield 16, 3) := by decide +kernel
theorem dX4_logs_98 : decode cX4_logs 98 = .ok (.iload_n 3, 1) := by decide +kernel
theorem dX4_logs_99 : decode cX4_logs 99 = .ok (.iconst 4, 1) := by decide +kernel
theorem dX4_logs_100 : decode cX4_logs 100 = .ok (.iadd, 1) := by decide +kernel
theorem dX4_logs_101 : decode cX4_logs 101 = .ok (.iload_n 1, 1) := by decide +kernel
theorem dX4_logs_102 : decode cX4_logs 102 = .ok (.iconst (-1), 1) := by decide +kernel
theorem dX4_logs_103 : decode cX4_logs 103 = .ok (.if_icmp .ne 7, 3) := by decide +kernel
theorem dX4_logs_106 : decode cX4_logs 106 = .ok (.iconst 0, 1) := by decide +kernel
theorem dX4_logs_107 : decode cX4_logs 107 = .ok (.goto 9, 3) := by decide +kernel
theorem dX4_logs_110 : decode cX4_logs 110 = .ok (.aload_n 0, 1) := by decide +kernel
theorem dX4_logs_111 : decode cX4_logs 111 = .ok (.getfield 38, 3) := by decide +kernel
theorem dX4_logs_114 : decode cX4_logs 114 = .ok (.iload_n 1, 1) := by decide +kernel
theorem dX4_logs_115 : decode cX4_logs 115 = .ok (.iaload, 1) := by decide +kernel
theorem dX4_logs_116 : decode cX4_logs 116 = .ok (.iastore, 1) := by decide +kernel
theorem dX4_logs_117 : decode cX4_logs 117 = .ok (.aload_n 0, 1) := by decide +kernel
theorem dX4_logs_118 : decode cX4_logs 118 = .ok (.getfield 16, 3) := by decide +kernel
theorem dX4_logs_121 : decode cX4_logs 121 = .ok (.iload_n 3, 1) := by decide +kernel
theorem dX4_logs_122 : decode cX4_logs 122 = .ok (.iconst 5, 1) := by decide +kernel
theorem dX4_logs_123 : decode cX4_logs 123 = .ok (.iadd, 1) := by decide +kernel
theorem dX4_logs_124 : decode cX4_logs 124 = .ok (.iload_n 2, 1) := by decide +kernel
theorem dX4_logs_125 : decode cX4_logs 125 = .ok (.iastore, 1) := by decide +kernel
theorem dX4_logs_126 : decode cX4_logs 126 = .ok (.iconst 0, 1) := by decide +kernel
theorem dX4_logs_127 : decode cX4_logs 127 = .ok (.istore 4, 2) := by decide +kernel
theorem dX4_logs_129 : decode cX4_logs 129 = .ok (.iload 4, 2) := by decide +kernel
theorem dX4_logs_131 : decode cX4_logs 131 = .ok (.bipush 8, 2) := by decide +kernel
theorem dX4_logs_133 : decode cX4_logs 133 = .ok (.if_icmp .ge 103, 3) := by decide +kernel
theorem dX4_logs_136 : decode cX4_logs 136 = .ok (.aload_n 0, 1) := by decide +kernel
theorem dX4_logs_137 : decode cX4_logs 137 = .ok (.getfield 16, 3) := by decide +kernel
theorem dX4_logs_140 : decode cX4_logs 140 = .ok (.iload_n 3, 1) := by decide +kernel
theorem dX4_logs_141 : decode cX4_logs 141 = .ok (.bipush 6, 2) := by decide +kernel
theorem dX4_logs_143 : decode cX4_logs 143 = .ok (.iadd, 1) := by decide +kernel
theorem dX4_logs_144 : decode cX4_logs 144 = .ok (.iload 4, 2) := by decide +kernel
theorem dX4_logs_146 : decode cX4_logs 146 = .ok (.iadd, 1) := by decide +kernel
theorem dX4_logs_147 : decode cX4_logs 147 = .ok (.iload_n 1, 1) := by decide +kernel
theorem dX4_logs_148 : decode cX4_logs 148 = .ok (.iconst (-1), 1) := by decide +kernel
theorem dX4_logs_149 : decode cX4_logs 149 = .ok (.if_icmp .eq 32, 3) := by decide +kernel
theorem dX4_logs_152 : decode cX4_logs 152 = .ok (.aload_n 0, 1) := by decide +kernel
theorem dX4_logs_153 : decode cX4_logs 153 = .ok (.getfield 35, 3) := by decide +kernel
theorem dX4_logs_156 : decode cX4_logs 156 = .ok (.iload_n 1, 1) := by decide +kernel
theorem dX4_logs_157 : decode cX4_logs 157 = .ok (.iaload, 1) := by decide +kernel
theorem dX4_logs_158 : decode cX4_logs 158 = .ok (.iload 4, 2) := by decide +kernel
theorem dX4_logs_160 : decode cX4_logs 160 = .ok (.invokestatic 183, 3) := by decide +kernel
theorem dX4_logs_163 : decode cX4_logs 163 = .ok (.ifCond .eq 18, 3) := by decide +kernel
theorem dX4_logs_166 : decode cX4_logs 166 = .ok (.aload_n 0, 1) := by decide +kernel
theorem dX4_logs_167 : decode cX4_logs 167 = .ok (.getfield 44, 3) := by decide +kernel
theorem dX4_logs_170 : decode cX4_logs 170 = .ok (.bipush 8, 2) := by decide +kernel
theorem dX4_logs_172 : decode cX4_logs 172 = .ok (.iload_n 1, 1) := by decide +kernel
theorem dX4_logs_173 : decode cX4_logs 173 = .ok (.imul, 1) := by decide +kernel
theorem dX4_logs_174 : decode cX4_logs 174 = .ok (.iload 4, 2) := by decide +kernel
theorem dX4_logs_176 : decode cX4_logs 176 = .ok (.iadd, 1) := by decide +kernel
theorem dX4_logs_177 : decode cX4_logs 177 = .ok (.iaload, 1) := by decide +kernel
theorem dX4_logs_178 : decode cX4_logs 178 = .ok (.goto 4, 3) := by decide +kernel
theorem dX4_logs_181 : decode cX4_logs 181 = .ok (.iconst (-1), 1) := by decide +kernel
theorem dX4_logs_182 : decode cX4_logs 182 = .ok (.iastore, 1) := by decide +kernel
theorem dX4_logs_183 : decode cX4_logs 183 = .ok (.aload_n 0, 1) := by decide +kernel
theorem dX4_logs_184 : decode cX4_logs 184 = .ok (.getfield 16, 3) := by decide +kernel
theorem dX4_logs_187 : decode cX4_logs 187 = .ok (.iload_n 3, 1) := by decide +kernel
theorem dX4_logs_188 : decode cX4_logs 188 = .ok (.bipush 14, 2) := by decide +kernel
theorem dX4_logs_190 : decode cX4_logs 190 = .ok (.iadd, 1) := by decide +kernel
theorem dX4_logs_191 : decode cX4_logs 191 = .ok (.iload 4, 2) := by decide +kernel
theorem dX4_logs_193 : decode cX4_logs 193 = .ok (.iadd, 1) := by decide +kernel
theorem dX4_logs_194 : decode cX4_logs 194 = .ok (.iload_n 1, 1) := by decide +kernel
theorem dX4_logs_195 : decode cX4_logs 195 = .ok (.iconst (-1), 1) := by decide +kernel
theorem dX4_logs_196 : decode cX4_logs 196 = .ok (.if_icmp .eq 32, 3) := by decide +kernel
theorem dX4_logs_199 : decode cX4_logs 199 = .ok (.aload_n 0, 1) := by decide +kernel
theorem dX4_logs_200 : decode cX4_logs 200 = .ok (.getfield 38, 3) := by decide +kernel
theorem dX4_logs_203 : decode cX4_logs 203 = .ok (.iload_n 1, 1) := by decide +kernel
theorem dX4_logs_204 : decode cX4_logs 204 = .ok (.iaload, 1) := by decide +kernel
theorem dX4_logs_205 : decode cX4_logs 205 = .ok (.iload 4, 2) := by decide +kernel
theorem dX4_logs_207 : decode cX4_logs 207 = .ok (.invokestatic 183, 3) := by decide +kernel
theorem dX4_logs_210 : decode cX4_logs 210 = .ok (.ifCond .eq 18, 3) := by decide +kernel
theorem dX4_logs_213 : decode cX4_logs 213 = .ok (.aload_n 0, 1) := by decide +kernel
theorem dX4_logs_214 : decode cX4_logs 214 = .ok (.getfield 47, 3) := by decide +kernel
theorem dX4_logs_217 : decode cX4_logs 217 = .ok (.bipush 8, 2) := by decide +kernel
theorem dX4_logs_219 : decode cX4_logs 219 = .ok (.iload_n 1, 1) := by decide +kernel
theorem dX4_logs_220 : decode cX4_logs 220 = .ok (.imul, 1) := by decide +kernel
theorem dX4_logs_221 : decode cX4_logs 221 = .ok (.iload 4, 2) := by decide +kernel
theorem dX4_logs_223 : decode cX4_logs 223 = .ok (.iadd, 1) := by decide +kernel
theorem dX4_logs_224 : decode cX4_logs 224 = .ok (.iaload, 1) := by decide +kernel
theorem dX4_logs_225 : decode cX4_logs 225 = .ok (.goto 4, 3) := by decide +kernel
theorem dX4_logs_228 : decode cX4_logs 228 = .ok (.iconst (-1), 1) := by decide +kernel
theorem dX4_logs_229 : decode cX4_logs 229 = .ok (.iastore, 1) := by decide +kernel
theorem dX4_logs_230 : decode cX4_logs 230 = .ok (.iinc 4 1, 3) := by decide +kernel
theorem dX4_logs_233 : decode cX4_logs 233 = .ok (.goto (-104), 3) := by decide +kernel
theorem dX4_logs_236 : decode cX4_logs 236 = .ok (.iload_n 3, 1) := by decide +kernel
theorem dX4_logs_237 : decode cX4_logs 237 = .ok (.ireturn, 1) := by decide +kernel
theorem dX4_puts_0 : decode cX4_puts 0 = .ok (.aload_n 0, 1) := by decide +kernel
theorem dX4_puts_1 : decode cX4_puts 1 = .ok (.getfield 7, 3) := by decide +kernel
theorem dX4_puts_4 : decode cX4_puts 4 = .ok (.iload_n 1, 1) := by decide +kernel
theorem dX4_puts_5 : decode cX4_puts 5 = .ok (.iload_n 2, 1) := by decide +kernel
theorem dX4_puts_6 : decode cX4_puts 6 = .ok (.iastore, 1) := by decide +kernel
theorem dX4_puts_7 : decode cX4_puts 7 = .ok (.aload_n 0, 1) := by decide +kernel
theorem dX4_puts_8 : decode cX4_puts 8 = .ok (.getfield 13, 3) := by decide +kernel
theorem dX4_puts_11 : decode cX4_puts 11 = .ok (.iload_n 1, 1) := by decide +kernel
theorem dX4_puts_12 : decode cX4_puts 12 = .ok (.aload_n 0, 1) := by decide +kernel
theorem dX4_puts_13 : decode cX4_puts 13 = .ok (.getfield 81, 3) := by decide +kernel
theorem dX4_puts_16 : decode cX4_puts 16 = .ok (.iastore, 1) := by decide +kernel
theorem dX4_puts_17 : decode cX4_puts 17 = .ok (.return_, 1) := by decide +kernel
theorem dX4_put_0 : decode cX4_put 0 = .ok (.iload_n 1, 1) := by decide +kernel
theorem dX4_put_1 : decode cX4_put 1 = .ok (.invokestatic 180, 3) := by decide +kernel
theorem dX4_put_4 : decode cX4_put 4 = .ok (.ifCond .ne 6, 3) := by decide +kernel
theorem dX4_put_7 : decode cX4_put 7 = .ok (.bipush (-2), 2) := by decide +kernel
theorem dX4_put_9 : decode cX4_put 9 = .ok (.ireturn, 1) := by decide +kernel
theorem dX4_put_10 : decode cX4_put 10 = .ok (.iload_n 2, 1) := by decide +kernel
theorem dX4_put_11 : decode cX4_put 11 = .ok (.i2l, 1) := by decide +kernel
theorem dX4_put_12 : decode cX4_put 12 = .ok (.lconst 0, 1) := by decide +kernel
theorem dX4_put_13 : decode cX4_put 13 = .ok (.ldc2_w 187, 3) := by decide +kernel
theorem dX4_put_16 : decode cX4_put 16 = .ok (.invokestatic 71, 3) := by decide +kernel
theorem dX4_put_19 : decode cX4_put 19 = .ok (.ifCond .ne 6, 3) := by decide +kernel
theorem dX4_put_22 : decode cX4_put 22 = .ok (.bipush (-3), 2) := by decide +kernel
theorem dX4_put_24 : decode cX4_put 24 = .ok (.ireturn, 1) := by decide +kernel
theorem dX4_put_25 : decode cX4_put 25 = .ok (.aload_n 0, 1) := by decide +kernel
theorem dX4_put_26 : decode cX4_put 26 = .ok (.iconst 3, 1) := by decide +kernel
theorem dX4_put_27 : decode cX4_put 27 = .ok (.invokevirtual 189, 3) := by decide +kernel
theorem dX4_put_30 : decode cX4_put 30 = .ok (.ifCond .le 6, 3) := by decide +kernel
theorem dX4_put_33 : decode cX4_put 33 = .ok (.bipush (-4), 2) := by decide +kernel
theorem dX4_put_35 : decode cX4_put 35 = .ok (.ireturn, 1) := by decide +kernel
theorem dX4_put_36 : decode cX4_put 36 = .ok (.aload_n 0, 1) := by decide +kernel
theorem dX4_put_37 : decode cX4_put 37 = .ok (.iconst (-1), 1) := by decide +kernel
theorem dX4_put_38 : decode cX4_put 38 = .ok (.iconst 4, 1) := by decide +kernel
theorem dX4_put_39 : decode cX4_put 39 = .ok (.invokevirtual 192, 3) := by decide +kernel
theorem dX4_put_42 : decode cX4_put 42 = .ok (.istore_n 3, 1) := by decide +kernel
theorem dX4_put_43 : decode cX4_put 43 = .ok (.aload_n 0, 1) := by decide +kernel
theorem dX4_put_44 : decode cX4_put 44 = .ok (.getfield 16, 3) := by decide +kernel
theorem dX4_put_47 : decode cX4_put 47 = .ok (.iload_n 3, 1) := by decide +kernel
theorem dX4_put_48 : decode cX4_put 48 = .ok (.iconst 4, 1) := by decide +kernel
theorem dX4_put_49 : decode cX4_put 49 = .ok (.iadd, 1) := by decide +kernel
theorem dX4_put_50 : decode cX4_put 50 = .ok (.iconst 1, 1) := by decide +kernel
theorem dX4_put_51 : decode cX4_put 51 = .ok (.iload_n 1, 1) := by decide +kernel
theorem dX4_put_52 : decode cX4_put 52 = .ok (.ishl, 1) := by decide +kernel
theorem dX4_put_53 : decode cX4_put 53 = .ok (.iastore, 1) := by decide +kernel
theorem dX4_put_54 : decode cX4_put 54 = .ok (.aload_n 0, 1) := by decide +kernel
theorem dX4_put_55 : decode cX4_put 55 = .ok (.getfield 16, 3) := by decide +kernel
theorem dX4_put_58 : decode cX4_put 58 = .ok (.iload_n 3, 1) := by decide +kernel
theorem dX4_put_59 : decode cX4_put 59 = .ok (.bipush 14, 2) := by decide +kernel
theorem dX4_put_61 : decode cX4_put 61 = .ok (.iadd, 1) := by decide +kernel
theorem dX4_put_62 : decode cX4_put 62 = .ok (.iload_n 1, 1) := by decide +kernel
theorem dX4_put_63 : decode cX4_put 63 = .ok (.iadd, 1) := by decide +kernel
theorem dX4_put_64 : decode cX4_put 64 = .ok (.iload_n 2, 1) := by decide +kernel
theorem dX4_put_65 : decode cX4_put 65 = .ok (.iastore, 1) := by decide +kernel
theorem dX4_put_66 : decode cX4_put 66 = .ok (.aload_n 0, 1) := by decide +kernel
theorem dX4_put_67 : decode cX4_put 67 = .ok (.iload_n 1, 1) := by decide +kernel
theorem dX4_put_68 : decode cX4_put 68 = .ok (.iload_n 2, 1) := by decide +kernel
theorem dX4_put_69 : decode cX4_put 69 = .ok (.invokevirtual 195, 3) := by decide +kernel
theorem dX4_put_72 : decode cX4_put 72 = .ok (.aload_n 0, 1) := by decide +kernel
theorem dX4_put_73 : decode cX4_put 73 = .ok (.getfield 81, 3) := by decide +kernel
theorem dX4_put_76 : decode cX4_put 76 = .ok (.ireturn, 1) := by decide +kernel
theorem dX4_limit_0 : decode cX4_limit 0 = .ok (.iload_n 1, 1) := by decide +kernel
theorem dX4_limit_1 : decode cX4_limit 1 = .ok (.i2l, 1) := by decide +kernel
theorem dX4_limit_2 : decode cX4_limit 2 = .ok (.lconst 1, 1) := by decide +kernel
theorem dX4_limit_3 : decode cX4_limit 3 = .ok (.ldc2_w 199, 3) := by decide +kernel
theorem dX4_limit_6 : decode cX4_limit 6 = .ok (.invokestatic 71, 3) := by decide +kernel
theorem dX4_limit_9 : decode cX4_limit 9 = .ok (.ifCond .ne 6, 3) := by decide +kernel
theorem dX4_limit_12 : decode cX4_limit 12 = .ok (.bipush (-3), 2) := by decide +kernel
theorem dX4_limit_14 : decode cX4_limit 14 = .ok (.ireturn, 1) := by decide +kernel
theorem dX4_limit_15 : decode cX4_limit 15 = .ok (.aload_n 0, 1) := by decide +kernel
theorem dX4_limit_16 : decode cX4_limit 16 = .ok (.getfield 56, 3) := by decide +kernel
theorem dX4_limit_19 : decode cX4_limit 19 = .ok (.istore_n 2, 1) := by decide +kernel
theorem dX4_limit_20 : decode cX4_limit 20 = .ok (.aload_n 0, 1) := by decide +kernel
theorem dX4_limit_21 : decode cX4_limit 21 = .ok (.iload_n 1, 1) := by decide +kernel
theorem dX4_limit_22 : decode cX4_limit 22 = .ok (.putfield 56, 3) := by decide +kernel
theorem dX4_limit_25 : decode cX4_limit 25 = .ok (.iload_n 2, 1) := by decide +kernel
theorem dX4_limit_26 : decode cX4_limit 26 = .ok (.ireturn, 1) := by decide +kernel
theorem dX4_begin_0 : decode cX4_begin 0 = .ok (.iload_n 1, 1) := by decide +kernel
theorem dX4_begin_1 : decode cX4_begin 1 = .ok (.invokestatic 201, 3) := by decide +kernel
theorem dX4_begin_4 : decode cX4_begin 4 = .ok (.ifCond .ne 6, 3) := by decide +kernel
theorem dX4_begin_7 : decode cX4_begin 7 = .ok (.bipush (-2), 2) := by decide +kernel
theorem dX4_begin_9 : decode cX4_begin 9 = .ok (.ireturn, 1) := by decide +kernel
theorem dX4_begin_10 : decode cX4_begin 10 = .ok (.aload_n 0, 1) := by decide +kernel
theorem dX4_begin_11 : decode cX4_begin 11 = .ok (.getfield 19, 3) := by decide +kernel
theorem dX4_begin_14 : decode cX4_begin 14 = .ok (.iload_n 1, 1) := by decide +kernel
theorem dX4_begin_15 : decode cX4_begin 15 = .ok (.iaload, 1) := by decide +kernel
theorem dX4_begin_16 : decode cX4_begin 16 = .ok (.ifCond .eq 6, 3) := by decide +kernel
theorem dX4_begin_19 : decode cX4_begin 19 = .ok (.bipush (-4), 2) := by decide +kernel
theorem dX4_begin_21 : decode cX4_begin 21 = .ok (.ireturn, 1) := by decide +kernel
theorem dX4_begin_22 : decode cX4_begin 22 = .ok (.aload_n 0, 1) := by decide +kernel
theorem dX4_begin_23 : decode cX4_begin 23 = .ok (.iload_n 1, 1) := by decide +kernel
theorem dX4_begin_24 : decode cX4_begin 24 = .ok (.invokevirtual 204, 3) := by decide +kernel
theorem dX4_begin_27 : decode cX4_begin 27 = .ok (.aload_n 0, 1) := by decide +kernel
theorem dX4_begin_28 : decode cX4_begin 28 = .ok (.dup, 1) := by decide +kernel
theorem dX4_begin_29 : decode cX4_begin 29 = .ok (.getfield 87, 3) := by decide +kernel
theorem dX4_begin_32 : decode cX4_begin 32 = .ok (.iconst 1, 1) := by decide +kernel
theorem dX4_begin_33 : decode cX4_begin 33 = .ok (.iadd, 1) := by decide +kernel
theorem dX4_begin_34 : decode cX4_begin 34 = .ok (.putfield 87, 3) := by decide +kernel
theorem dX4_begin_37 : decode cX4_begin 37 = .ok (.aload_n 0, 1) := by decide +kernel
theorem dX4_begin_38 : decode cX4_begin 38 = .ok (.getfield 25, 3) := by decide +kernel
theorem dX4_begin_41 : decode cX4_begin 41 = .ok (.iload_n 1, 1) := by decide +kernel
theorem dX4_begin_42 : decode cX4_begin 42 = .ok (.aload_n 0, 1) := by decide +kernel
theorem dX4_begin_43 : decode cX4_begin 43 = .ok (.getfield 87, 3) := by decide +kernel
theorem dX4_begin_46 : decode cX4_begin 46 = .ok (.iastore, 1) := by decide +kernel
theorem dX4_begin_47 : decode cX4_begin 47 = .ok (.aload_n 0, 1) := by decide +kernel
theorem dX4_begin_48 : decode cX4_begin 48 = .ok (.getfield 28, 3) := by decide +kernel
theorem dX4_begin_51 : decode cX4_begin 51 = .ok (.iload_n 1, 1) := by decide +kernel
theorem dX4_begin_52 : decode cX4_begin 52 = .ok (.iconst 0, 1) := by decide +kernel
theorem dX4_begin_53 : decode cX4_begin 53 = .ok (.iastore, 1) := by decide +kernel
theorem dX4_begin_54 : decode cX4_begin 54 = .ok (.aload_n 0, 1) := by decide +kernel
theorem dX4_begin_55 : decode cX4_begin 55 = .ok (.getfield 87, 3) := by decide +kernel
theorem dX4_begin_58 : decode cX4_begin 58 = .ok (.ireturn, 1) := by decide +kernel
theorem dX4_retry_0 : decode cX4_retry 0 = .ok (.iload_n 1, 1) := by decide +kernel
theorem dX4_retry_1 : decode cX4_retry 1 = .ok (.invokestatic 201, 3) := by decide +kernel
theorem dX4_retry_4 : decode cX4_retry 4 = .ok (.ifCond .ne 6, 3) := by decide +kernel
theorem dX4_retry_7 : decode cX4_retry 7 = .ok (.bipush (-2), 2) := by decide +kernel
theorem dX4_retry_9 : decode cX4_retry 9 = .ok (.ireturn, 1) := by decide +kernel
theorem dX4_retry_10 : decode cX4_retry 10 = .ok (.aload_n 0, 1) := by decide +kernel
theorem dX4_retry_11 : decode cX4_retry 11 = .ok (.getfield 31, 3) := by decide +kernel
theorem dX4_retry_14 : decode cX4_retry 14 = .ok (.iload_n 1, 1) := by decide +kernel
theorem dX4_retry_15 : decode cX4_retry 15 = .ok (.baload, 1) := by decide +kernel
theorem dX4_retry_16 : decode cX4_retry 16 = .ok (.ifCond .ne 6, 3) := by decide +kernel
theorem dX4_retry_19 : decode cX4_retry 19 = .ok (.bipush (-4), 2) := by decide +kernel
theorem dX4_retry_21 : decode cX4_retry 21 = .ok (.ireturn, 1) := by decide +kernel
theorem dX4_retry_22 : decode cX4_retry 22 = .ok (.aload_n 0, 1) := by decide +kernel
theorem dX4_retry_23 : decode cX4_retry 23 = .ok (.iload_n 1, 1) := by decide +kernel
theorem dX4_retry_24 : decode cX4_retry 24 = .ok (.invokevirtual 204, 3) := by decide +kernel
theorem dX4_retry_27 : decode cX4_retry 27 = .ok (.aload_n 0, 1) := by decide +kernel
theorem dX4_retry_28 : decode cX4_retry 28 = .ok (.getfield 28, 3) := by decide +kernel
theorem dX4_retry_31 : decode cX4_retry 31 = .ok (.iload_n 1, 1) := by decide +kernel
theorem dX4_retry_32 : decode cX4_retry 32 = .ok (.dup2, 1) := by decide +kernel
theorem dX4_retry_33 : decode cX4_retry 33 = .ok (.iaload, 1) := by decide +kernel
theorem dX4_retry_34 : decode cX4_retry 34 = .ok (.iconst 1, 1) := by decide +kernel
theorem dX4_retry_35 : decode cX4_retry 35 = .ok (.iadd, 1) := by decide +kernel
theorem dX4_retry_36 : decode cX4_retry 36 = .ok (.iastore, 1) := by decide +kernel
theorem dX4_retry_37 : decode cX4_retry 37 = .ok (.aload_n 0, 1) := by decide +kernel
theorem dX4_retry_38 : decode cX4_retry 38 = .ok (.getfield 28, 3) := by decide +kernel
theorem dX4_retry_41 : decode cX4_retry 41 = .ok (.iload_n 1, 1) := by decide +kernel
theorem dX4_retry_42 : decode cX4_retry 42 = .ok (.iaload, 1) := by decide +kernel
theorem dX4_retry_43 : decode cX4_retry 43 = .ok (.ireturn, 1) := by decide +kernel
theorem dX4_read_0 : decode cX4_read 0 = .ok (.iload_n 1, 1) := by decide +kernel
theorem dX4_read_1 : decode cX4_read 1 = .ok (.invokestatic 201, 3) := by decide +kernel
theorem dX4_read_4 : decode cX4_read 4 = .ok (.ifCond .eq 10, 3) := by decide +kernel
theorem dX4_read_7 : decode cX4_read 7 = .ok (.iload_n 2, 1) := by decide +kernel
theorem dX4_read_8 : decode cX4_read 8 = .ok (.invokestatic 180, 3) := by decide +kernel
theorem dX4_read_11 : decode cX4_read 11 = .ok (.ifCond .ne 6, 3) := by decide +kernel
theorem dX4_read_14 : decode cX4_read 14 = .ok (.bipush (-2), 2) := by decide +kernel
theorem dX4_read_16 : decode cX4_read 16 = .ok (.ireturn, 1) := by decide +kernel
theorem dX4_read_17 : decode cX4_read 17 = .ok (.aload_n 0, 1) := by decide +kernel
theorem dX4_read_18 : decode cX4_read 18 = .ok (.getfield 19, 3) := by decide +kernel
theorem dX4_read_21 : decode cX4_read 21 = .ok (.iload_n 1, 1) := by decide +kernel
theorem dX4_read_22 : decode cX4_read 22 = .ok (.iaload, 1) := by decide +kernel
theorem dX4_read_23 : decode cX4_read 23 = .ok (.iconst 1, 1) := by decide +kernel
theorem dX4_read_24 : decode cX4_read 24 = .ok (.if_icmp .eq 6, 3) := by decide +kernel
theorem dX4_read_27 : decode cX4_read 27 = .ok (.bipush (-4), 2) := by decide +kernel
theorem dX4_read_29 : decode cX4_read 29 = .ok (.ireturn, 1) := by decide +kernel
theorem dX4_read_30 : decode cX4_read 30 = .ok (.bipush 8, 2) := by decide +kernel
theorem dX4_read_32 : decode cX4_read 32 = .ok (.iload_n 1, 1) := by decide +kernel
theorem dX4_read_33 : decode cX4_read 33 = .ok (.imul, 1) := by decide +kernel
theorem dX4_read_34 : decode cX4_read 34 = .ok (.iload_n 2, 1) := by decide +kernel
theorem dX4_read_35 : decode cX4_read 35 = .ok (.iadd, 1) := by decide +kernel
theorem dX4_read_36 : decode cX4_read 36 = .ok (.istore_n 3, 1) := by decide +kernel
theorem dX4_read_37 : decode cX4_read 37 = .ok (.aload_n 0, 1) := by decide +kernel
theorem dX4_read_38 : decode cX4_read 38 = .ok (.getfield 38, 3) := by decide +kernel
theorem dX4_read_41 : decode cX4_read 41 = .ok (.iload_n 1, 1) := by decide +kernel
theorem dX4_read_42 : decode cX4_read 42 = .ok (.iaload, 1) := by decide +kernel
theorem dX4_read_43 : decode cX4_read 43 = .ok (.iload_n 2, 1) := by decide +kernel
theorem dX4_read_44 : decode cX4_read 44 = .ok (.invokestatic 183, 3) := by decide +kernel
theorem dX4_read_47 : decode cX4_read 47 = .ok (.ifCond .eq 10, 3) := by decide +kernel
theorem dX4_read_50 : decode cX4_read 50 = .ok (.aload_n 0, 1) := by decide +kernel
theorem dX4_read_51 : decode cX4_read 51 = .ok (.getfield 47, 3) := by decide +kernel
theorem dX4_read_54 : decode cX4_read 54 = .ok (.iload_n 3, 1) := by decide +kernel
theorem dX4_read_55 : decode cX4_read 55 = .ok (.iaload, 1) := by decide +kernel
theorem dX4_read_56 : decode cX4_read 56 = .ok (.ireturn, 1) := by decide +kernel
theorem dX4_read_57 : decode cX4_read 57 = .ok (.aload_n 0, 1) := by decide +kernel
theorem dX4_read_58 : decode cX4_read 58 = .ok (.getfield 35, 3) := by decide +kernel
theorem dX4_read_61 : decode cX4_read 61 = .ok (.iload_n 1, 1) := by decide +kernel
theorem dX4_read_62 : decode cX4_read 62 = .ok (.iaload, 1) := by decide +kernel
theorem dX4_read_63 : decode cX4_read 63 = .ok (.iload_n 2, 1) := by decide +kernel
theorem dX4_read_64 : decode cX4_read 64 = .ok (.invokestatic 183, 3) := by decide +kernel
theorem dX4_read_67 : decode cX4_read 67 = .ok (.ifCond .ne 39, 3) := by decide +kernel
theorem dX4_read_70 : decode cX4_read 70 = .ok (.aload_n 0, 1) := by decide +kernel
theorem dX4_read_71 : decode cX4_read 71 = .ok (.getfield 35, 3) := by decide +kernel
theorem dX4_read_74 : decode cX4_read 74 = .ok (.iload_n 1, 1) := by decide +kernel
theorem dX4_read_75 : decode cX4_read 75 = .ok (.dup2, 1) := by decide +kernel
theorem dX4_read_76 : decode cX4_read 76 = .ok (.iaload, 1) := by decide +kernel
theorem dX4_read_77 : decode cX4_read 77 = .ok (.iconst 1, 1) := by decide +kernel
theorem dX4_read_78 : decode cX4_read 78 = .ok (.iload_n 2, 1) := by decide +kernel
theorem dX4_read_79 : decode cX4_read 79 = .ok (.ishl, 1) := by decide +kernel
theorem dX4_read_80 : decode cX4_read 80 = .ok (.ior, 1) := by decide +kernel
theorem dX4_read_81 : decode cX4_read 81 = .ok (.iastore, 1) := by decide +kernel
theorem dX4_read_82 : decode cX4_read 82 = .ok (.aload_n 0, 1) := by decide +kernel
theorem dX4_read_83 : decode cX4_read 83 = .ok (.getfield 41, 3) := by decide +kernel
theorem dX4_read_86 : decode cX4_read 86 = .ok (.iload_n 3, 1) := by decide +kernel
theorem dX4_read_87 : decode cX4_read 87 = .ok (.aload_n 0, 1) := by decide +kernel
theorem dX4_read_88 : decode cX4_read 88 = .ok (.getfield 7, 3) := by decide +kernel
theorem dX4_read_91 : decode cX4_read 91 = .ok (.iload_n 2, 1) := by decide +kernel
theorem dX4_read_92 : decode cX4_read 92 = .ok (.iaload, 1) := by decide +kernel
theorem dX4_read_93 : decode cX4_read 93 = .ok (.iastore, 1) := by decide +kernel
theorem dX4_read_94 : decode cX4_read 94 = .ok (.aload_n 0, 1) := by decide +kernel
theorem dX4_read_95 : decode cX4_read 95 = .ok (.getfield 44, 3) := by decide +kernel
theorem dX4_read_98 : decode cX4_read 98 = .ok (.iload_n 3, 1) := by decide +kernel
theorem dX4_read_99 : decode cX4_read 99 = .ok (.aload_n 0, 1) := by decide +kernel
theorem dX4_read_100 : decode cX4_read 100 = .ok (.getfield 13, 3) := by decide +kernel
theorem dX4_read_103 : decode cX4_read 103 = .ok (.iload_n 2, 1) := by decide +kernel
theorem dX4_read_104 : decode cX4_read 104 = .ok (.iaload, 1) := by decide +kernel
theorem dX4_read_105 : decode cX4_read 105 = .ok (.iastore, 1) := by decide +kernel
theorem dX4_read_106 : decode cX4_read 106 = .ok (.aload_n 0, 1) := by decide +kernel
theorem dX4_read_107 : decode cX4_read 107 = .ok (.getfield 41, 3) := by decide +kernel
theorem dX4_read_110 : decode cX4_read 110 = .ok (.iload_n 3, 1) := by decide +kernel
theorem dX4_read_111 : decode cX4_read 111 = .ok (.iaload, 1) := by decide +kernel
theorem dX4_read_112 : decode cX4_read 112 = .ok (.ireturn, 1) := by decide +kernel
theorem dX4_lay_0 : decode cX4_lay 0 = .ok (.iload_n 1, 1) := by decide +kernel
theorem dX4_lay_1 : decode cX4_lay 1 = .ok (.invokestatic 201, 3) := by decide +kernel
theorem dX4_lay_4 : decode cX4_lay 4 = .ok (.ifCond .eq 10, 3) := by decide +kernel
theorem dX4_lay_7 : decode cX4_lay 7 = .ok (.iload_n 2, 1) := by decide +kernel
theorem dX4_lay_8 : decode cX4_lay 8 = .ok (.invokestatic 180, 3) := by decide +kernel
theorem dX4_lay_11 : decode cX4_lay 11 = .ok (.ifCond .ne 6, 3) := by decide +kernel
theorem dX4_lay_14 : decode cX4_lay 14 = .ok (.bipush (-2), 2) := by decide +kernel
theorem dX4_lay_16 : decode cX4_lay 16 = .ok (.ireturn, 1) := by decide +kernel
theorem dX4_lay_17 : decode cX4_lay 17 = .ok (.iload_n 3, 1) := by decide +kernel
theorem dX4_lay_18 : decode cX4_lay 18 = .ok (.i2l, 1) := by decide +kernel
theorem dX4_lay_19 : decode cX4_lay 19 = .ok (.lconst 0, 1) := by decide +kernel
theorem dX4_lay_20 : decode cX4_lay 20 = .ok (.ldc2_w 187, 3) := by decide +kernel
theorem dX4_lay_23 : decode cX4_lay 23 = .ok (.invokestatic 71, 3) := by decide +kernel
theorem dX4_lay_26 : decode cX4_lay 26 = .ok (.ifCond .ne 6, 3) := by decide +kernel
theorem dX4_lay_29 : decode cX4_lay 29 = .ok (.bipush (-3), 2) := by decide +kernel
theorem dX4_lay_31 : decode cX4_lay 31 = .ok (.ireturn, 1) := by decide +kernel
theorem dX4_lay_32 : decode cX4_lay 32 = .ok (.aload_n 0, 1) := by decide +kernel
theorem dX4_lay_33 : decode cX4_lay 33 = .ok (.getfield 19, 3) := by decide +kernel
theorem dX4_lay_36 : decode cX4_lay 36 = .ok (.iload_n 1, 1) := by decide +kernel
theorem dX4_lay_37 : decode cX4_lay 37 = .ok (.iaload, 1) := by decide +kernel
theorem dX4_lay_38 : decode cX4_lay 38 = .ok (.iconst 1, 1) := by decide +kernel
theorem dX4_lay_39 : decode cX4_lay 39 = .ok (.if_icmp .eq 6, 3) := by decide +kernel
theorem dX4_lay_42 : decode cX4_lay 42 = .ok (.bipush (-4), 2) := by decide +kernel
theorem dX4_lay_44 : decode cX4_lay 44 = .ok (.ireturn, 1) := by decide +kernel
theorem dX4_lay_45 : decode cX4_lay 45 = .ok (.aload_n 0, 1) := by decide +kernel
theorem dX4_lay_46 : decode cX4_lay 46 = .ok (.getfield 38, 3) := by decide +kernel
theorem dX4_lay_49 : decode cX4_lay 49 = .ok (.iload_n 1, 1) := by decide +kernel
theorem dX4_lay_50 : decode cX4_lay 50 = .ok (.dup2, 1) := by decide +kernel
theorem dX4_lay_51 : decode cX4_lay 51 = .ok (.iaload, 1) := by decide +kernel
theorem dX4_lay_52 : decode cX4_lay 52 = .ok (.iconst 1, 1) := by decide +kernel
theorem dX4_lay_53 : decode cX4_lay 53 = .ok (.iload_n 2, 1) := by decide +kernel
theorem dX4_lay_54 : decode cX4_lay 54 = .ok (.ishl, 1) := by decide +kernel
theorem dX4_lay_55 : decode cX4_lay 55 = .ok (.ior, 1) := by decide +kernel
theorem dX4_lay_56 : decode cX4_lay 56 = .ok (.iastore, 1) := by decide +kernel
theorem dX4_lay_57 : decode cX4_lay 57 = .ok (.aload_n 0, 1) := by decide +kernel
theorem dX4_lay_58 : decode cX4_lay 58 = .ok (.getfield 47, 3) := by decide +kernel
theorem dX4_lay_61 : decode cX4_lay 61 = .ok (.bipush 8, 2) := by decide +kernel
theorem dX4_lay_63 : decode cX4_lay 63 = .ok (.iload_n 1, 1) := by decide +kernel
theorem dX4_lay_64 : decode cX4_lay 64 = .ok (.imul, 1) := by decide +kernel
theorem dX4_lay_65 : decode cX4_lay 65 = .ok (.iload_n 2, 1) := by decide +kernel
theorem dX4_lay_66 : decode cX4_lay 66 = .ok (.iadd, 1) := by decide +kernel
theorem dX4_lay_67 : decode cX4_lay 67 = .ok (.iload_n 3, 1) := by decide +kernel
theorem dX4_lay_68 : decode cX4_lay 68 = .ok (.iastore, 1) := by decide +kernel
theorem dX4_lay_69 : decode cX4_lay 69 = .ok (.aload_n 0, 1) := by decide +kernel
theorem dX4_lay_70 : decode cX4_lay 70 = .ok (.getfield 38, 3) := by decide +kernel
theorem dX4_lay_73 : decode cX4_lay 73 = .ok (.iload_n 1, 1) := by decide +kernel
theorem dX4_lay_74 : decode cX4_lay 74 = .ok (.iaload, 1) := by decide +kernel
theorem dX4_lay_75 : decode cX4_lay 75 = .ok (.invokestatic 207, 3) := by decide +kernel
theorem dX4_lay_78 : decode cX4_lay 78 = .ok (.ireturn, 1) := by decide +kernel
theorem dX4_stale_0 : decode cX4_stale 0 = .ok (.iconst 0, 1) := by decide +kernel
theorem dX4_stale_1 : decode cX4_stale 1 = .ok (.istore_n 2, 1) := by decide +kernel
theorem dX4_stale_2 : decode cX4_stale 2 = .ok (.iconst 0, 1) := by decide +kernel
theorem dX4_stale_3 : decode cX4_stale 3 = .ok (.istore_n 3, 1) := by decide +kernel
theorem dX4_stale_4 : decode cX4_stale 4 = .ok (.iload_n 3, 1) := by decide +kernel
theorem dX4_stale_5 : decode cX4_stale 5 = .ok (.bipush 8, 2) := by decide +kernel
theorem dX4_stale_7 : decode cX4_stale 7 = .ok (.if_icmp .ge 52, 3) := by decide +kernel
theorem dX4_stale_10 : decode cX4_stale 10 = .ok (.iload_n 2, 1) := by decide +kernel
theorem dX4_stale_11 : decode cX4_stale 11 = .ok (.aload_n 0, 1) := by decide +kernel
theorem dX4_stale_12 : decode cX4_stale 12 = .ok (.getfield 35, 3) := by decide +kernel
theorem dX4_stale_15 : decode cX4_stale 15 = .ok (.iload_n 1, 1) := by decide +kernel
theorem dX4_stale_16 : decode cX4_stale 16 = .ok (.iaload, 1) := by decide +kernel
theorem dX4_stale_17 : decode cX4_stale 17 = .ok (.iload_n 3, 1) := by decide +kernel
theorem dX4_stale_18 : decode cX4_stale 18 = .ok (.invokestatic 183, 3) := by decide +kernel
theorem dX4_stale_21 : decode cX4_stale 21 = .ok (.ifCond .eq 29, 3) := by decide +kernel
theorem dX4_stale_24 : decode cX4_stale 24 = .ok (.aload_n 0, 1) := by decide +kernel
theorem dX4_stale_25 : decode cX4_stale 25 = .ok (.getfield 13, 3) := by decide +kernel
theorem dX4_stale_28 : decode cX4_stale 28 = .ok (.iload_n 3, 1) := by decide +kernel
theorem dX4_stale_29 : decode cX4_stale 29 = .ok (.iaload, 1) := by decide +kernel
theorem dX4_stale_30 : decode cX4_stale 30 = .ok (.aload_n 0, 1) := by decide +kernel
theorem dX4_stale_31 : decode cX4_stale 31 = .ok (.getfield 44, 3) := by decide +kernel
theorem dX4_stale_34 : decode cX4_stale 34 = .ok (.bipush 8, 2) := by decide +kernel
theorem dX4_stale_36 : decode cX4_stale 36 = .ok (.iload_n 1, 1) := by decide +kernel
theorem dX4_stale_37 : decode cX4_stale 37 = .ok (.imul, 1) := by decide +kernel
theorem dX4_stale_38 : decode cX4_stale 38 = .ok (.iload_n 3, 1) := by decide +kernel
theorem dX4_stale_39 : decode cX4_stale 39 = .ok (.iadd, 1) := by decide +kernel
theorem dX4_stale_40 : decode cX4_stale 40 = .ok (.iaload, 1) := by decide +kernel
theorem dX4_stale_41 : decode cX4_stale 41 = .ok (.if_icmp .eq 9, 3) := by decide +kernel
theorem dX4_stale_44 : decode cX4_stale 44 = .ok (.iconst 1, 1) := by decide +kernel
theorem dX4_stale_45 : decode cX4_stale 45 = .ok (.iload_n 3, 1) := by decide +kernel
theorem dX4_stale_46 : decode cX4_stale 46 = .ok (.ishl, 1) := by decide +kernel
theorem dX4_stale_47 : decode cX4_stale 47 = .ok (.goto 4, 3) := by decide +kernel
theorem dX4_stale_50 : decode cX4_stale 50 = .ok (.iconst 0, 1) := by decide +kernel
theorem dX4_stale_51 : decode cX4_stale 51 = .ok (.ior, 1) := by decide +kernel
theorem dX4_stale_52 : decode cX4_stale 52 = .ok (.istore_n 2, 1) := by decide +kernel
theorem dX4_stale_53 : decode cX4_stale 53 = .ok (.iinc 3 1, 3) := by decide +kernel
theorem dX4_stale_56 : decode cX4_stale 56 = .ok (.goto (-52), 3) := by decide +kernel
theorem dX4_stale_59 : decode cX4_stale 59 = .ok (.iload_n 2, 1) := by decide +kernel
theorem dX4_stale_60 : decode cX4_stale 60 = .ok (.ireturn, 1) := by decide +kernel
theorem dX4_crossed_0 : decode cX4_crossed 0 = .ok (.iconst 0, 1) := by decide +kernel
theorem dX4_crossed_1 : decode cX4_crossed 1 = .ok (.istore_n 2, 1) := by decide +kernel
theorem dX4_crossed_2 : decode cX4_crossed 2 = .ok (.aload_n 0, 1) := by decide +kernel
theorem dX4_crossed_3 : decode cX4_crossed 3 = .ok (.getfield 22, 3) := by decide +kernel
theorem dX4_crossed_6 : decode cX4_crossed 6 = .ok (.iload_n 1, 1) := by decide +kernel
theorem dX4_crossed_7 : decode cX4_crossed 7 = .ok (.iaload, 1) := by decide +kernel
theorem dX4_crossed_8 : decode cX4_crossed 8 = .ok (.istore_n 3, 1) := by decide +kernel
theorem dX4_crossed_9 : decode cX4_crossed 9 = .ok (.iload_n 3, 1) := by decide +kernel
theorem dX4_crossed_10 : decode cX4_crossed 10 = .ok (.aload_n 0, 1) := by decide +kernel
theorem dX4_crossed_11 : decode cX4_crossed 11 = .ok (.getfield 81, 3) := by decide +kernel
theorem dX4_crossed_14 : decode cX4_crossed 14 = .ok (.if_icmp .ge 30, 3) := by decide +kernel
theorem dX4_crossed_17 : decode cX4_crossed 17 = .ok (.iload_n 2, 1) := by decide +kernel
theorem dX4_crossed_18 : decode cX4_crossed 18 = .ok (.aload_n 0, 1) := by decide +kernel
theorem dX4_crossed_19 : decode cX4_crossed 19 = .ok (.getfield 35, 3) := by decide +kernel
theorem dX4_crossed_22 : decode cX4_crossed 22 = .ok (.iload_n 1, 1) := by decide +kernel
theorem dX4_crossed_23 : decode cX4_crossed 23 = .ok (.iaload, 1) := by decide +kernel
theorem dX4_crossed_24 : decode cX4_crossed 24 = .ok (.aload_n 0, 1) := by decide +kernel
theorem dX4_crossed_25 : decode cX4_crossed 25 = .ok (.getfield 16, 3) := by decide +kernel
theorem dX4_crossed_28 : decode cX4_crossed 28 = .ok (.bipush 22, 2) := by decide +kernel
theorem dX4_crossed_30 : decode cX4_crossed 30 = .ok (.iload_n 3, 1) := by decide +kernel
theorem dX4_crossed_31 : decode cX4_crossed 31 = .ok (.imul, 1) := by decide +kernel
theorem dX4_crossed_32 : decode cX4_crossed 32 = .ok (.iconst 4, 1) := by decide +kernel
theorem dX4_crossed_33 : decode cX4_crossed 33 = .ok (.iadd, 1) := by decide +kernel
theorem dX4_crossed_34 : decode cX4_crossed 34 = .ok (.iaload, 1) := by decide +kernel
theorem dX4_crossed_35 : decode cX4_crossed 35 = .ok (.iand, 1) := by decide +kernel
theorem dX4_crossed_36 : decode cX4_crossed 36 = .ok (.ior, 1) := by decide +kernel
theorem dX4_crossed_37 : decode cX4_crossed 37 = .ok (.istore_n 2, 1) := by decide +kernel
theorem dX4_crossed_38 : decode cX4_crossed 38 = .ok (.iinc 3 1, 3) := by decide +kernel
theorem dX4_crossed_41 : decode cX4_crossed 41 = .ok (.goto (-32), 3) := by decide +kernel
theorem dX4_crossed_44 : decode cX4_crossed 44 = .ok (.iload_n 2, 1) := by decide +kernel
theorem dX4_crossed_45 : decode cX4_crossed 45 = .ok (.ireturn, 1) := by decide +kernel
theorem dX4_rivals_0 : decode cX4_rivals 0 = .ok (.iconst 0, 1) := by decide +kernel
theorem dX4_rivals_1 : decode cX4_rivals 1 = .ok (.istore_n 2, 1) := by decide +kernel
theorem dX4_rivals_2 : decode cX4_rivals 2 = .ok (.iconst 0, 1) := by decide +kernel
theorem dX4_rivals_3 : decode cX4_rivals 3 = .ok (.istore_n 3, 1) := by decide +kernel
theorem dX4_rivals_4 : decode cX4_rivals 4 = .ok (.iload_n 3, 1) := by decide +kernel
theorem dX4_rivals_5 : decode cX4_rivals 5 = .ok (.bipush 6, 2) := by decide +kernel
theorem dX4_rivals_7 : decode cX4_rivals 7 = .ok (.if_icmp .ge 50, 3) := by decide +kernel
theorem dX4_rivals_10 : decode cX4_rivals 10 = .ok (.iload_n 2, 1) := by decide +kernel
theorem dX4_rivals_11 : decode cX4_rivals 11 = .ok (.iload_n 3, 1) := by decide +kernel
theorem dX4_rivals_12 : decode cX4_rivals 12 = .ok (.iload_n 1, 1) := by decide +kernel
theorem dX4_rivals_13 : decode cX4_rivals 13 = .ok (.if_icmp .eq 35, 3) := by decide +kernel
theorem dX4_rivals_16 : decode cX4_rivals 16 = .ok (.aload_n 0, 1) := by decide +kernel
theorem dX4_rivals_17 : decode cX4_rivals 17 = .ok (.getfield 19, 3) := by decide +kernel
theorem dX4_rivals_20 : decode cX4_rivals 20 = .ok (.iload_n 3, 1) := by decide +kernel
theorem dX4_rivals_21 : decode cX4_rivals 21 = .ok (.iaload, 1) := by decide +kernel
theorem dX4_rivals_22 : decode cX4_rivals 22 = .ok (.iconst 1, 1) := by decide +kernel
theorem dX4_rivals_23 : decode cX4_rivals 23 = .ok (.if_icmp .ne 25, 3) := by decide +kernel
theorem dX4_rivals_26 : decode cX4_rivals 26 = .ok (.aload_n 0, 1) := by decide +kernel
theorem dX4_rivals_27 : decode cX4_rivals 27 = .ok (.getfield 35, 3) := by decide +kernel
theorem dX4_rivals_30 : decode cX4_rivals 30 = .ok (.iload_n 3, 1) := by decide +kernel
theorem dX4_rivals_31 : decode cX4_rivals 31 = .ok (.iaload, 1) := by decide +kernel
theorem dX4_rivals_32 : decode cX4_rivals 32 = .ok (.aload_n 0, 1) := by decide +kernel
theorem dX4_rivals_33 : decode cX4_rivals 33 = .ok (.getfield 38, 3) := by decide +kernel
theorem dX4_rivals_36 : decode cX4_rivals 36 = .ok (.iload_n 1, 1) := by decide +kernel
theorem dX4_rivals_37 : decode cX4_rivals 37 = .ok (.iaload, 1) := by decide +kernel
theorem dX4_rivals_38 : decode cX4_rivals 38 = .ok (.iand, 1) := by decide +kernel
theorem dX4_rivals_39 : decode cX4_rivals 39 = .ok (.ifCond .eq 9, 3) := by decide +kernel
theorem dX4_rivals_42 : decode cX4_rivals 42 = .ok (.iconst 1, 1) := by decide +kernel
theorem dX4_rivals_43 : decode cX4_rivals 43 = .ok (.iload_n 3, 1) := by decide +kernel
theorem dX4_rivals_44 : decode cX4_rivals 44 = .ok (.ishl, 1) := by decide +kernel
theorem dX4_rivals_45 : decode cX4_rivals 45 = .ok (.goto 4, 3) := by decide +kernel
theorem dX4_rivals_48 : decode cX4_rivals 48 = .ok (.iconst 0, 1) := by decide +kernel
theorem dX4_rivals_49 : decode cX4_rivals 49 = .ok (.ior, 1) := by decide +kernel
theorem dX4_rivals_50 : decode cX4_rivals 50 = .ok (.istore_n 2, 1) := by decide +kernel
theorem dX4_rivals_51 : decode cX4_rivals 51 = .ok (.iinc 3 1, 3) := by decide +kernel
theorem dX4_rivals_54 : decode cX4_rivals 54 = .ok (.goto (-50), 3) := by decide +kernel
theorem dX4_rivals_57 : decode cX4_rivals 57 = .ok (.iload_n 2, 1) := by decide +kernel
theorem dX4_rivals_58 : decode cX4_rivals 58 = .ok (.ireturn, 1) := by decide +kernel
theorem dX4_isStubborn_0 : decode cX4_isStubborn 0 = .ok (.aload_n 0, 1) := by decide +kernel
theorem dX4_isStubborn_1 : decode cX4_isStubborn 1 = .ok (.getfield 28, 3) := by decide +kernel
theorem dX4_isStubborn_4 : decode cX4_isStubborn 4 = .ok (.iload_n 1, 1) := by decide +kernel
theorem dX4_isStubborn_5 : decode cX4_isStubborn 5 = .ok (.iaload, 1) := by decide +kernel
theorem dX4_isStubborn_6 : decode cX4_isStubborn 6 = .ok (.aload_n 0, 1) := by decide +kernel
theorem dX4_isStubborn_7 : decode cX4_isStubborn 7 = .ok (.getfield 56, 3) := by decide +kernel
theorem dX4_isStubborn_10 : decode cX4_isStubborn 10 = .ok (.if_icmp .lt 7, 3) := by decide +kernel
theorem dX4_isStubborn_13 : decode cX4_isStubborn 13 = .ok (.iconst 1, 1) := by decide +kernel
theorem dX4_isStubborn_14 : decode cX4_isStubborn 14 = .ok (.goto 4, 3) := by decide +kernel
theorem dX4_isStubborn_17 : decode cX4_isStubborn 17 = .ok (.iconst 0, 1) := by decide +kernel
theorem dX4_isStubborn_18 : decode cX4_isStubborn 18 = .ok (.ireturn, 1) := by decide +kernel
theorem dX4_isWeaker_0 : decode cX4_isWeaker 0 = .ok (.iconst 0, 1) := by decide +kernel
theorem dX4_isWeaker_1 : decode cX4_isWeaker 1 = .ok (.istore_n 3, 1) := by decide +kernel
theorem dX4_isWeaker_2 : decode cX4_isWeaker 2 = .ok (.iconst 0, 1) := by decide +kernel
theorem dX4_isWeaker_3 : decode cX4_isWeaker 3 = .ok (.istore 4, 2) := by decide +kernel
theorem dX4_isWeaker_5 : decode cX4_isWeaker 5 = .ok (.iload 4, 2) := by decide +kernel
theorem dX4_isWeaker_7 : decode cX4_isWeaker 7 = .ok (.bipush 6, 2) := by decide +kernel
theorem dX4_isWeaker_9 : decode cX4_isWeaker 9 = .ok (.if_icmp .ge 79, 3) := by decide +kernel
theorem dX4_isWeaker_12 : decode cX4_isWeaker 12 = .ok (.aload_n 0, 1) := by decide +kernel
theorem dX4_isWeaker_13 : decode cX4_isWeaker 13 = .ok (.iload 4, 2) := by decide +kernel
theorem dX4_isWeaker_15 : decode cX4_isWeaker 15 = .ok (.invokevirtual 210, 3) := by decide +kernel
theorem dX4_isWeaker_18 : decode cX4_isWeaker 18 = .ok (.aload_n 0, 1) := by decide +kernel
theorem dX4_isWeaker_19 : decode cX4_isWeaker 19 = .ok (.iload_n 1, 1) := by decide +kernel
theorem dX4_isWeaker_20 : decode cX4_isWeaker 20 = .ok (.invokevirtual 210, 3) := by decide +kernel
theorem dX4_isWeaker_23 : decode cX4_isWeaker 23 = .ok (.if_icmp .eq 12, 3) := by decide +kernel
theorem dX4_isWeaker_26 : decode cX4_isWeaker 26 = .ok (.aload_n 0, 1) := by decide +kernel
theorem dX4_isWeaker_27 : decode cX4_isWeaker 27 = .ok (.iload 4, 2) := by decide +kernel
theorem dX4_isWeaker_29 : decode cX4_isWeaker 29 = .ok (.invokevirtual 210, 3) := by decide +kernel
theorem dX4_isWeaker_32 : decode cX4_isWeaker 32 = .ok (.goto 24, 3) := by decide +kernel
theorem dX4_isWeaker_35 : decode cX4_isWeaker 35 = .ok (.aload_n 0, 1) := by decide +kernel
theorem dX4_isWeaker_36 : decode cX4_isWeaker 36 = .ok (.getfield 25, 3) := by decide +kernel
theorem dX4_isWeaker_39 : decode cX4_isWeaker 39 = .ok (.iload 4, 2) := by decide +kernel
theorem dX4_isWeaker_41 : decode cX4_isWeaker 41 = .ok (.iaload, 1) := by decide +kernel
theorem dX4_isWeaker_42 : decode cX4_isWeaker 42 = .ok (.aload_n 0, 1) := by decide +kernel
theorem dX4_isWeaker_43 : decode cX4_isWeaker 43 = .ok (.getfield 25, 3) := by decide +kernel
theorem dX4_isWeaker_46 : decode cX4_isWeaker 46 = .ok (.iload_n 1, 1) := by decide +kernel
theorem dX4_isWeaker_47 : decode cX4_isWeaker 47 = .ok (.iaload, 1) := by decide +kernel
theorem dX4_isWeaker_48 : decode cX4_isWeaker 48 = .ok (.if_icmp .ge 7, 3) := by decide +kernel
theorem dX4_isWeaker_51 : decode cX4_isWeaker 51 = .ok (.iconst 1, 1) := by decide +kernel
theorem dX4_isWeaker_52 : decode cX4_isWeaker 52 = .ok (.goto 4, 3) := by decide +kernel
theorem dX4_isWeaker_55 : decode cX4_isWeaker 55 = .ok (.iconst 0, 1) := by decide +kernel
theorem dX4_isWeaker_56 : decode cX4_isWeaker 56 = .ok (.istore 5, 2) := by decide +kernel
theorem dX4_isWeaker_58 : decode cX4_isWeaker 58 = .ok (.iload_n 3, 1) := by decide +kernel
theorem dX4_isWeaker_59 : decode cX4_isWeaker 59 = .ok (.ifCond .ne 17, 3) := by decide +kernel
theorem dX4_isWeaker_62 : decode cX4_isWeaker 62 = .ok (.iload_n 2, 1) := by decide +kernel
theorem dX4_isWeaker_63 : decode cX4_isWeaker 63 = .ok (.iload 4, 2) := by decide +kernel
theorem dX4_isWeaker_65 : decode cX4_isWeaker 65 = .ok (.invokestatic 183, 3) := by decide +kernel
theorem dX4_isWeaker_68 : decode cX4_isWeaker 68 = .ok (.ifCond .eq 12, 3) := by decide +kernel
theorem dX4_isWeaker_71 : decode cX4_isWeaker 71 = .ok (.iload 5, 2) := by decide +kernel
theorem dX4_isWeaker_73 : decode cX4_isWeaker 73 = .ok (.ifCond .eq 7, 3) := by decide +kernel
theorem dX4_isWeaker_76 : decode cX4_isWeaker 76 = .ok (.iconst 1, 1) := by decide +kernel
theorem dX4_isWeaker_77 : decode cX4_isWeaker 77 = .ok (.goto 4, 3) := by decide +kernel
theorem dX4_isWeaker_80 : decode cX4_isWeaker 80 = .ok (.iconst 0, 1) := by decide +kernel
theorem dX4_isWeaker_81 : decode cX4_isWeaker 81 = .ok (.istore_n 3, 1) := by decide +kernel
theorem dX4_isWeaker_82 : decode cX4_isWeaker 82 = .ok (.iinc 4 1, 3) := by decide +kernel
theorem dX4_isWeaker_85 : decode cX4_isWeaker 85 = .ok (.goto (-80), 3) := by decide +kernel
theorem dX4_isWeaker_88 : decode cX4_isWeaker 88 = .ok (.iload_n 3, 1) := by decide +kernel
theorem dX4_isWeaker_89 : decode cX4_isWeaker 89 = .ok (.ireturn, 1) := by decide +kernel
theorem dX4_checks_0 : decode cX4_checks 0 = .ok (.aload_n 0, 1) := by decide +kernel
theorem dX4_checks_1 : decode cX4_checks 1 = .ok (.iload_n 1, 1) := by decide +kernel
end
section
theorem dX4_checks_2 : decode cX4_checks 2 = .ok (.invokevirtual 213, 3) := by decide +kernel
theorem dX4_checks_5 : decode cX4_checks 5 = .ok (.ifCond .eq 7, 3) := by decide +kernel
theorem dX4_checks_8 : decode cX4_checks 8 = .ok (.iconst 1, 1) := by decide +kernel
theorem dX4_checks_9 : decode cX4_checks 9 = .ok (.goto 4, 3) := by decide +kernel
theorem dX4_checks_12 : decode cX4_checks 12 = .ok (.iconst 0, 1) := by decide +kernel
theorem dX4_checks_13 : decode cX4_checks 13 = .ok (.istore_n 3, 1) := by decide +kernel
theorem dX4_checks_14 : decode cX4_checks 14 = .ok (.iload_n 2, 1) := by decide +kernel
theorem dX4_checks_15 : decode cX4_checks 15 = .ok (.ifCond .ne 27, 3) := by decide +kernel
theorem dX4_checks_18 : decode cX4_checks 18 = .ok (.aload_n 0, 1) := by decide +kernel
theorem dX4_checks_19 : decode cX4_checks 19 = .ok (.iload_n 1, 1) := by decide +kernel
theorem dX4_checks_20 : decode cX4_checks 20 = .ok (.invokevirtual 216, 3) := by decide +kernel
theorem dX4_checks_23 : decode cX4_checks 23 = .ok (.ifCond .ne 7, 3) := by decide +kernel
theorem dX4_checks_26 : decode cX4_checks 26 = .ok (.iconst 0, 1) := by decide +kernel
theorem dX4_checks_27 : decode cX4_checks 27 = .ok (.goto 14, 3) := by decide +kernel
theorem dX4_checks_30 : decode cX4_checks 30 = .ok (.iload_n 3, 1) := by decide +kernel
theorem dX4_checks_31 : decode cX4_checks 31 = .ok (.ifCond .eq 8, 3) := by decide +kernel
theorem dX4_checks_34 : decode cX4_checks 34 = .ok (.bipush (-11), 2) := by decide +kernel
theorem dX4_checks_36 : decode cX4_checks 36 = .ok (.goto 5, 3) := by decide +kernel
theorem dX4_checks_39 : decode cX4_checks 39 = .ok (.bipush (-12), 2) := by decide +kernel
theorem dX4_checks_41 : decode cX4_checks 41 = .ok (.ireturn, 1) := by decide +kernel
theorem dX4_checks_42 : decode cX4_checks 42 = .ok (.iload_n 3, 1) := by decide +kernel
theorem dX4_checks_43 : decode cX4_checks 43 = .ok (.ifCond .eq 6, 3) := by decide +kernel
theorem dX4_checks_46 : decode cX4_checks 46 = .ok (.bipush (-11), 2) := by decide +kernel
theorem dX4_checks_48 : decode cX4_checks 48 = .ok (.ireturn, 1) := by decide +kernel
theorem dX4_checks_49 : decode cX4_checks 49 = .ok (.iload_n 2, 1) := by decide +kernel
theorem dX4_checks_50 : decode cX4_checks 50 = .ok (.iconst 1, 1) := by decide +kernel
theorem dX4_checks_51 : decode cX4_checks 51 = .ok (.if_icmp .eq 21, 3) := by decide +kernel
theorem dX4_checks_54 : decode cX4_checks 54 = .ok (.aload_n 0, 1) := by decide +kernel
theorem dX4_checks_55 : decode cX4_checks 55 = .ok (.iload_n 1, 1) := by decide +kernel
theorem dX4_checks_56 : decode cX4_checks 56 = .ok (.aload_n 0, 1) := by decide +kernel
theorem dX4_checks_57 : decode cX4_checks 57 = .ok (.iload_n 1, 1) := by decide +kernel
theorem dX4_checks_58 : decode cX4_checks 58 = .ok (.invokevirtual 219, 3) := by decide +kernel
theorem dX4_checks_61 : decode cX4_checks 61 = .ok (.invokevirtual 222, 3) := by decide +kernel
theorem dX4_checks_64 : decode cX4_checks 64 = .ok (.ifCond .eq 8, 3) := by decide +kernel
theorem dX4_checks_67 : decode cX4_checks 67 = .ok (.bipush (-13), 2) := by decide +kernel
theorem dX4_checks_69 : decode cX4_checks 69 = .ok (.goto 4, 3) := by decide +kernel
theorem dX4_checks_72 : decode cX4_checks 72 = .ok (.iconst 0, 1) := by decide +kernel
theorem dX4_checks_73 : decode cX4_checks 73 = .ok (.ireturn, 1) := by decide +kernel
theorem dX4_fails_0 : decode cX4_fails 0 = .ok (.aload_n 0, 1) := by decide +kernel
theorem dX4_fails_1 : decode cX4_fails 1 = .ok (.iload_n 1, 1) := by decide +kernel
theorem dX4_fails_2 : decode cX4_fails 2 = .ok (.iconst 1, 1) := by decide +kernel
theorem dX4_fails_3 : decode cX4_fails 3 = .ok (.invokevirtual 77, 3) := by decide +kernel
theorem dX4_fails_6 : decode cX4_fails 6 = .ok (.aload_n 0, 1) := by decide +kernel
theorem dX4_fails_7 : decode cX4_fails 7 = .ok (.dup, 1) := by decide +kernel
theorem dX4_fails_8 : decode cX4_fails 8 = .ok (.getfield 90, 3) := by decide +kernel
theorem dX4_fails_11 : decode cX4_fails 11 = .ok (.iconst 1, 1) := by decide +kernel
theorem dX4_fails_12 : decode cX4_fails 12 = .ok (.iadd, 1) := by decide +kernel
theorem dX4_fails_13 : decode cX4_fails 13 = .ok (.putfield 90, 3) := by decide +kernel
theorem dX4_fails_16 : decode cX4_fails 16 = .ok (.aload_n 0, 1) := by decide +kernel
theorem dX4_fails_17 : decode cX4_fails 17 = .ok (.dup, 1) := by decide +kernel
theorem dX4_fails_18 : decode cX4_fails 18 = .ok (.getfield 93, 3) := by decide +kernel
theorem dX4_fails_21 : decode cX4_fails 21 = .ok (.iload_n 2, 1) := by decide +kernel
theorem dX4_fails_22 : decode cX4_fails 22 = .ok (.bipush (-12), 2) := by decide +kernel
theorem dX4_fails_24 : decode cX4_fails 24 = .ok (.if_icmp .ne 7, 3) := by decide +kernel
theorem dX4_fails_27 : decode cX4_fails 27 = .ok (.iconst 1, 1) := by decide +kernel
theorem dX4_fails_28 : decode cX4_fails 28 = .ok (.goto 4, 3) := by decide +kernel
theorem dX4_fails_31 : decode cX4_fails 31 = .ok (.iconst 0, 1) := by decide +kernel
theorem dX4_fails_32 : decode cX4_fails 32 = .ok (.iadd, 1) := by decide +kernel
theorem dX4_fails_33 : decode cX4_fails 33 = .ok (.putfield 93, 3) := by decide +kernel
theorem dX4_fails_36 : decode cX4_fails 36 = .ok (.aload_n 0, 1) := by decide +kernel
theorem dX4_fails_37 : decode cX4_fails 37 = .ok (.dup, 1) := by decide +kernel
theorem dX4_fails_38 : decode cX4_fails 38 = .ok (.getfield 96, 3) := by decide +kernel
theorem dX4_fails_41 : decode cX4_fails 41 = .ok (.iload_n 2, 1) := by decide +kernel
theorem dX4_fails_42 : decode cX4_fails 42 = .ok (.bipush (-13), 2) := by decide +kernel
theorem dX4_fails_44 : decode cX4_fails 44 = .ok (.if_icmp .ne 7, 3) := by decide +kernel
theorem dX4_fails_47 : decode cX4_fails 47 = .ok (.iconst 1, 1) := by decide +kernel
theorem dX4_fails_48 : decode cX4_fails 48 = .ok (.goto 4, 3) := by decide +kernel
theorem dX4_fails_51 : decode cX4_fails 51 = .ok (.iconst 0, 1) := by decide +kernel
theorem dX4_fails_52 : decode cX4_fails 52 = .ok (.iadd, 1) := by decide +kernel
theorem dX4_fails_53 : decode cX4_fails 53 = .ok (.putfield 96, 3) := by decide +kernel
theorem dX4_fails_56 : decode cX4_fails 56 = .ok (.return_, 1) := by decide +kernel
theorem dX4_commits_0 : decode cX4_commits 0 = .ok (.aload_n 0, 1) := by decide +kernel
theorem dX4_commits_1 : decode cX4_commits 1 = .ok (.iload_n 1, 1) := by decide +kernel
theorem dX4_commits_2 : decode cX4_commits 2 = .ok (.iload_n 2, 1) := by decide +kernel
theorem dX4_commits_3 : decode cX4_commits 3 = .ok (.invokevirtual 192, 3) := by decide +kernel
theorem dX4_commits_6 : decode cX4_commits 6 = .ok (.pop, 1) := by decide +kernel
theorem dX4_commits_7 : decode cX4_commits 7 = .ok (.iconst 0, 1) := by decide +kernel
theorem dX4_commits_8 : decode cX4_commits 8 = .ok (.istore_n 3, 1) := by decide +kernel
theorem dX4_commits_9 : decode cX4_commits 9 = .ok (.iload_n 3, 1) := by decide +kernel
theorem dX4_commits_10 : decode cX4_commits 10 = .ok (.bipush 8, 2) := by decide +kernel
theorem dX4_commits_12 : decode cX4_commits 12 = .ok (.if_icmp .ge 38, 3) := by decide +kernel
theorem dX4_commits_15 : decode cX4_commits 15 = .ok (.aload_n 0, 1) := by decide +kernel
theorem dX4_commits_16 : decode cX4_commits 16 = .ok (.getfield 38, 3) := by decide +kernel
theorem dX4_commits_19 : decode cX4_commits 19 = .ok (.iload_n 1, 1) := by decide +kernel
theorem dX4_commits_20 : decode cX4_commits 20 = .ok (.iaload, 1) := by decide +kernel
theorem dX4_commits_21 : decode cX4_commits 21 = .ok (.iload_n 3, 1) := by decide +kernel
theorem dX4_commits_22 : decode cX4_commits 22 = .ok (.invokestatic 183, 3) := by decide +kernel
theorem dX4_commits_25 : decode cX4_commits 25 = .ok (.ifCond .eq 19, 3) := by decide +kernel
theorem dX4_commits_28 : decode cX4_commits 28 = .ok (.aload_n 0, 1) := by decide +kernel
theorem dX4_commits_29 : decode cX4_commits 29 = .ok (.iload_n 3, 1) := by decide +kernel
theorem dX4_commits_30 : decode cX4_commits 30 = .ok (.aload_n 0, 1) := by decide +kernel
theorem dX4_commits_31 : decode cX4_commits 31 = .ok (.getfield 47, 3) := by decide +kernel
theorem dX4_commits_34 : decode cX4_commits 34 = .ok (.bipush 8, 2) := by decide +kernel
theorem dX4_commits_36 : decode cX4_commits 36 = .ok (.iload_n 1, 1) := by decide +kernel
theorem dX4_commits_37 : decode cX4_commits 37 = .ok (.imul, 1) := by decide +kernel
theorem dX4_commits_38 : decode cX4_commits 38 = .ok (.iload_n 3, 1) := by decide +kernel
theorem dX4_commits_39 : decode cX4_commits 39 = .ok (.iadd, 1) := by decide +kernel
theorem dX4_commits_40 : decode cX4_commits 40 = .ok (.iaload, 1) := by decide +kernel
theorem dX4_commits_41 : decode cX4_commits 41 = .ok (.invokevirtual 195, 3) := by decide +kernel
theorem dX4_commits_44 : decode cX4_commits 44 = .ok (.iinc 3 1, 3) := by decide +kernel
theorem dX4_commits_47 : decode cX4_commits 47 = .ok (.goto (-38), 3) := by decide +kernel
theorem dX4_commits_50 : decode cX4_commits 50 = .ok (.aload_n 0, 1) := by decide +kernel
theorem dX4_commits_51 : decode cX4_commits 51 = .ok (.iload_n 1, 1) := by decide +kernel
theorem dX4_commits_52 : decode cX4_commits 52 = .ok (.iconst 0, 1) := by decide +kernel
theorem dX4_commits_53 : decode cX4_commits 53 = .ok (.invokevirtual 77, 3) := by decide +kernel
theorem dX4_commits_56 : decode cX4_commits 56 = .ok (.aload_n 0, 1) := by decide +kernel
theorem dX4_commits_57 : decode cX4_commits 57 = .ok (.getfield 81, 3) := by decide +kernel
theorem dX4_commits_60 : decode cX4_commits 60 = .ok (.ireturn, 1) := by decide +kernel
theorem dX4_refused_0 : decode cX4_refused 0 = .ok (.iload_n 1, 1) := by decide +kernel
theorem dX4_refused_1 : decode cX4_refused 1 = .ok (.invokestatic 201, 3) := by decide +kernel
theorem dX4_refused_4 : decode cX4_refused 4 = .ok (.ifCond .ne 8, 3) := by decide +kernel
theorem dX4_refused_7 : decode cX4_refused 7 = .ok (.bipush (-2), 2) := by decide +kernel
theorem dX4_refused_9 : decode cX4_refused 9 = .ok (.goto 44, 3) := by decide +kernel
theorem dX4_refused_12 : decode cX4_refused 12 = .ok (.iload_n 2, 1) := by decide +kernel
theorem dX4_refused_13 : decode cX4_refused 13 = .ok (.i2l, 1) := by decide +kernel
theorem dX4_refused_14 : decode cX4_refused 14 = .ok (.lconst 0, 1) := by decide +kernel
theorem dX4_refused_15 : decode cX4_refused 15 = .ok (.ldc2_w 225, 3) := by decide +kernel
theorem dX4_refused_18 : decode cX4_refused 18 = .ok (.invokestatic 71, 3) := by decide +kernel
theorem dX4_refused_21 : decode cX4_refused 21 = .ok (.ifCond .ne 8, 3) := by decide +kernel
theorem dX4_refused_24 : decode cX4_refused 24 = .ok (.bipush (-3), 2) := by decide +kernel
theorem dX4_refused_26 : decode cX4_refused 26 = .ok (.goto 27, 3) := by decide +kernel
theorem dX4_refused_29 : decode cX4_refused 29 = .ok (.aload_n 0, 1) := by decide +kernel
theorem dX4_refused_30 : decode cX4_refused 30 = .ok (.getfield 19, 3) := by decide +kernel
theorem dX4_refused_33 : decode cX4_refused 33 = .ok (.iload_n 1, 1) := by decide +kernel
theorem dX4_refused_34 : decode cX4_refused 34 = .ok (.iaload, 1) := by decide +kernel
theorem dX4_refused_35 : decode cX4_refused 35 = .ok (.iconst 1, 1) := by decide +kernel
theorem dX4_refused_36 : decode cX4_refused 36 = .ok (.if_icmp .ne 11, 3) := by decide +kernel
theorem dX4_refused_39 : decode cX4_refused 39 = .ok (.aload_n 0, 1) := by decide +kernel
theorem dX4_refused_40 : decode cX4_refused 40 = .ok (.iconst 3, 1) := by decide +kernel
theorem dX4_refused_41 : decode cX4_refused 41 = .ok (.invokevirtual 189, 3) := by decide +kernel
theorem dX4_refused_44 : decode cX4_refused 44 = .ok (.ifCond .le 8, 3) := by decide +kernel
theorem dX4_refused_47 : decode cX4_refused 47 = .ok (.bipush (-4), 2) := by decide +kernel
theorem dX4_refused_49 : decode cX4_refused 49 = .ok (.goto 4, 3) := by decide +kernel
theorem dX4_refused_52 : decode cX4_refused 52 = .ok (.iconst 0, 1) := by decide +kernel
theorem dX4_refused_53 : decode cX4_refused 53 = .ok (.ireturn, 1) := by decide +kernel
theorem dX4_commit_0 : decode cX4_commit 0 = .ok (.aload_n 0, 1) := by decide +kernel
theorem dX4_commit_1 : decode cX4_commit 1 = .ok (.iload_n 1, 1) := by decide +kernel
theorem dX4_commit_2 : decode cX4_commit 2 = .ok (.iload_n 2, 1) := by decide +kernel
theorem dX4_commit_3 : decode cX4_commit 3 = .ok (.invokevirtual 227, 3) := by decide +kernel
theorem dX4_commit_6 : decode cX4_commit 6 = .ok (.istore_n 3, 1) := by decide +kernel
theorem dX4_commit_7 : decode cX4_commit 7 = .ok (.iload_n 3, 1) := by decide +kernel
theorem dX4_commit_8 : decode cX4_commit 8 = .ok (.ifCond .eq 5, 3) := by decide +kernel
theorem dX4_commit_11 : decode cX4_commit 11 = .ok (.iload_n 3, 1) := by decide +kernel
theorem dX4_commit_12 : decode cX4_commit 12 = .ok (.ireturn, 1) := by decide +kernel
theorem dX4_commit_13 : decode cX4_commit 13 = .ok (.aload_n 0, 1) := by decide +kernel
theorem dX4_commit_14 : decode cX4_commit 14 = .ok (.iload_n 1, 1) := by decide +kernel
theorem dX4_commit_15 : decode cX4_commit 15 = .ok (.iload_n 2, 1) := by decide +kernel
theorem dX4_commit_16 : decode cX4_commit 16 = .ok (.invokevirtual 230, 3) := by decide +kernel
theorem dX4_commit_19 : decode cX4_commit 19 = .ok (.istore 4, 2) := by decide +kernel
theorem dX4_commit_21 : decode cX4_commit 21 = .ok (.iload 4, 2) := by decide +kernel
theorem dX4_commit_23 : decode cX4_commit 23 = .ok (.ifCond .eq 13, 3) := by decide +kernel
theorem dX4_commit_26 : decode cX4_commit 26 = .ok (.aload_n 0, 1) := by decide +kernel
theorem dX4_commit_27 : decode cX4_commit 27 = .ok (.iload_n 1, 1) := by decide +kernel
theorem dX4_commit_28 : decode cX4_commit 28 = .ok (.iload 4, 2) := by decide +kernel
theorem dX4_commit_30 : decode cX4_commit 30 = .ok (.invokevirtual 233, 3) := by decide +kernel
theorem dX4_commit_33 : decode cX4_commit 33 = .ok (.iload 4, 2) := by decide +kernel
theorem dX4_commit_35 : decode cX4_commit 35 = .ok (.ireturn, 1) := by decide +kernel
theorem dX4_commit_36 : decode cX4_commit 36 = .ok (.iload_n 2, 1) := by decide +kernel
theorem dX4_commit_37 : decode cX4_commit 37 = .ok (.iconst 2, 1) := by decide +kernel
theorem dX4_commit_38 : decode cX4_commit 38 = .ok (.if_icmp .ne 11, 3) := by decide +kernel
theorem dX4_commit_41 : decode cX4_commit 41 = .ok (.aload_n 0, 1) := by decide +kernel
theorem dX4_commit_42 : decode cX4_commit 42 = .ok (.iload_n 1, 1) := by decide +kernel
theorem dX4_commit_43 : decode cX4_commit 43 = .ok (.invokevirtual 219, 3) := by decide +kernel
theorem dX4_commit_46 : decode cX4_commit 46 = .ok (.goto 4, 3) := by decide +kernel
theorem dX4_commit_49 : decode cX4_commit 49 = .ok (.iconst 0, 1) := by decide +kernel
theorem dX4_commit_50 : decode cX4_commit 50 = .ok (.istore 5, 2) := by decide +kernel
theorem dX4_commit_52 : decode cX4_commit 52 = .ok (.iconst 0, 1) := by decide +kernel
theorem dX4_commit_53 : decode cX4_commit 53 = .ok (.istore 6, 2) := by decide +kernel
theorem dX4_commit_55 : decode cX4_commit 55 = .ok (.iload 6, 2) := by decide +kernel
theorem dX4_commit_57 : decode cX4_commit 57 = .ok (.bipush 6, 2) := by decide +kernel
theorem dX4_commit_59 : decode cX4_commit 59 = .ok (.if_icmp .ge 37, 3) := by decide +kernel
theorem dX4_commit_62 : decode cX4_commit 62 = .ok (.aload_n 0, 1) := by decide +kernel
theorem dX4_commit_63 : decode cX4_commit 63 = .ok (.getfield 19, 3) := by decide +kernel
theorem dX4_commit_66 : decode cX4_commit 66 = .ok (.iload 6, 2) := by decide +kernel
theorem dX4_commit_68 : decode cX4_commit 68 = .ok (.iload 5, 2) := by decide +kernel
theorem dX4_commit_70 : decode cX4_commit 70 = .ok (.iload 6, 2) := by decide +kernel
theorem dX4_commit_72 : decode cX4_commit 72 = .ok (.invokestatic 183, 3) := by decide +kernel
theorem dX4_commit_75 : decode cX4_commit 75 = .ok (.ifCond .eq 7, 3) := by decide +kernel
theorem dX4_commit_78 : decode cX4_commit 78 = .ok (.iconst 2, 1) := by decide +kernel
theorem dX4_commit_79 : decode cX4_commit 79 = .ok (.goto 10, 3) := by decide +kernel
theorem dX4_commit_82 : decode cX4_commit 82 = .ok (.aload_n 0, 1) := by decide +kernel
theorem dX4_commit_83 : decode cX4_commit 83 = .ok (.getfield 19, 3) := by decide +kernel
theorem dX4_commit_86 : decode cX4_commit 86 = .ok (.iload 6, 2) := by decide +kernel
theorem dX4_commit_88 : decode cX4_commit 88 = .ok (.iaload, 1) := by decide +kernel
theorem dX4_commit_89 : decode cX4_commit 89 = .ok (.iastore, 1) := by decide +kernel
theorem dX4_commit_90 : decode cX4_commit 90 = .ok (.iinc 6 1, 3) := by decide +kernel
theorem dX4_commit_93 : decode cX4_commit 93 = .ok (.goto (-38), 3) := by decide +kernel
theorem dX4_commit_96 : decode cX4_commit 96 = .ok (.aload_n 0, 1) := by decide +kernel
theorem dX4_commit_97 : decode cX4_commit 97 = .ok (.iload_n 1, 1) := by decide +kernel
theorem dX4_commit_98 : decode cX4_commit 98 = .ok (.iload_n 2, 1) := by decide +kernel
theorem dX4_commit_99 : decode cX4_commit 99 = .ok (.invokevirtual 236, 3) := by decide +kernel
theorem dX4_commit_102 : decode cX4_commit 102 = .ok (.ireturn, 1) := by decide +kernel
theorem dX4_peek_0 : decode cX4_peek 0 = .ok (.aload_n 0, 1) := by decide +kernel
theorem dX4_peek_1 : decode cX4_peek 1 = .ok (.iload_n 1, 1) := by decide +kernel
theorem dX4_peek_2 : decode cX4_peek 2 = .ok (.iload_n 2, 1) := by decide +kernel
theorem dX4_peek_3 : decode cX4_peek 3 = .ok (.invokevirtual 227, 3) := by decide +kernel
theorem dX4_peek_6 : decode cX4_peek 6 = .ok (.istore_n 3, 1) := by decide +kernel
theorem dX4_peek_7 : decode cX4_peek 7 = .ok (.iload_n 3, 1) := by decide +kernel
theorem dX4_peek_8 : decode cX4_peek 8 = .ok (.ifCond .eq 5, 3) := by decide +kernel
theorem dX4_peek_11 : decode cX4_peek 11 = .ok (.iload_n 3, 1) := by decide +kernel
theorem dX4_peek_12 : decode cX4_peek 12 = .ok (.ireturn, 1) := by decide +kernel
theorem dX4_peek_13 : decode cX4_peek 13 = .ok (.aload_n 0, 1) := by decide +kernel
theorem dX4_peek_14 : decode cX4_peek 14 = .ok (.iload_n 1, 1) := by decide +kernel
theorem dX4_peek_15 : decode cX4_peek 15 = .ok (.iload_n 2, 1) := by decide +kernel
theorem dX4_peek_16 : decode cX4_peek 16 = .ok (.invokevirtual 230, 3) := by decide +kernel
theorem dX4_peek_19 : decode cX4_peek 19 = .ok (.istore 4, 2) := by decide +kernel
theorem dX4_peek_21 : decode cX4_peek 21 = .ok (.iload 4, 2) := by decide +kernel
theorem dX4_peek_23 : decode cX4_peek 23 = .ok (.ifCond .eq 8, 3) := by decide +kernel
theorem dX4_peek_26 : decode cX4_peek 26 = .ok (.iload 4, 2) := by decide +kernel
theorem dX4_peek_28 : decode cX4_peek 28 = .ok (.goto 9, 3) := by decide +kernel
theorem dX4_peek_31 : decode cX4_peek 31 = .ok (.aload_n 0, 1) := by decide +kernel
theorem dX4_peek_32 : decode cX4_peek 32 = .ok (.getfield 81, 3) := by decide +kernel
theorem dX4_peek_35 : decode cX4_peek 35 = .ok (.iconst 1, 1) := by decide +kernel
theorem dX4_peek_36 : decode cX4_peek 36 = .ok (.iadd, 1) := by decide +kernel
theorem dX4_peek_37 : decode cX4_peek 37 = .ok (.ireturn, 1) := by decide +kernel
theorem dX4_abort_0 : decode cX4_abort 0 = .ok (.iload_n 1, 1) := by decide +kernel
theorem dX4_abort_1 : decode cX4_abort 1 = .ok (.invokestatic 201, 3) := by decide +kernel
theorem dX4_abort_4 : decode cX4_abort 4 = .ok (.ifCond .ne 6, 3) := by decide +kernel
theorem dX4_abort_7 : decode cX4_abort 7 = .ok (.bipush (-2), 2) := by decide +kernel
theorem dX4_abort_9 : decode cX4_abort 9 = .ok (.ireturn, 1) := by decide +kernel
theorem dX4_abort_10 : decode cX4_abort 10 = .ok (.aload_n 0, 1) := by decide +kernel
theorem dX4_abort_11 : decode cX4_abort 11 = .ok (.getfield 19, 3) := by decide +kernel
theorem dX4_abort_14 : decode cX4_abort 14 = .ok (.iload_n 1, 1) := by decide +kernel
theorem dX4_abort_15 : decode cX4_abort 15 = .ok (.iaload, 1) := by decide +kernel
theorem dX4_abort_16 : decode cX4_abort 16 = .ok (.iconst 1, 1) := by decide +kernel
theorem dX4_abort_17 : decode cX4_abort 17 = .ok (.if_icmp .eq 16, 3) := by decide +kernel
theorem dX4_abort_20 : decode cX4_abort 20 = .ok (.aload_n 0, 1) := by decide +kernel
theorem dX4_abort_21 : decode cX4_abort 21 = .ok (.getfield 19, 3) := by decide +kernel
theorem dX4_abort_24 : decode cX4_abort 24 = .ok (.iload_n 1, 1) := by decide +kernel
theorem dX4_abort_25 : decode cX4_abort 25 = .ok (.iaload, 1) := by decide +kernel
theorem dX4_abort_26 : decode cX4_abort 26 = .ok (.iconst 2, 1) := by decide +kernel
theorem dX4_abort_27 : decode cX4_abort 27 = .ok (.if_icmp .eq 6, 3) := by decide +kernel
theorem dX4_abort_30 : decode cX4_abort 30 = .ok (.bipush (-4), 2) := by decide +kernel
theorem dX4_abort_32 : decode cX4_abort 32 = .ok (.ireturn, 1) := by decide +kernel
theorem dX4_abort_33 : decode cX4_abort 33 = .ok (.aload_n 0, 1) := by decide +kernel
theorem dX4_abort_34 : decode cX4_abort 34 = .ok (.iload_n 1, 1) := by decide +kernel
theorem dX4_abort_35 : decode cX4_abort 35 = .ok (.iconst 0, 1) := by decide +kernel
theorem dX4_abort_36 : decode cX4_abort 36 = .ok (.invokevirtual 233, 3) := by decide +kernel
theorem dX4_abort_39 : decode cX4_abort 39 = .ok (.aload_n 0, 1) := by decide +kernel
theorem dX4_abort_40 : decode cX4_abort 40 = .ok (.iconst 1, 1) := by decide +kernel
theorem dX4_abort_41 : decode cX4_abort 41 = .ok (.invokevirtual 189, 3) := by decide +kernel
theorem dX4_abort_44 : decode cX4_abort 44 = .ok (.ireturn, 1) := by decide +kernel
theorem dX4_sweep_0 : decode cX4_sweep 0 = .ok (.iconst 0, 1) := by decide +kernel
theorem dX4_sweep_1 : decode cX4_sweep 1 = .ok (.istore_n 1, 1) := by decide +kernel
theorem dX4_sweep_2 : decode cX4_sweep 2 = .ok (.iconst 0, 1) := by decide +kernel
theorem dX4_sweep_3 : decode cX4_sweep 3 = .ok (.istore_n 2, 1) := by decide +kernel
theorem dX4_sweep_4 : decode cX4_sweep 4 = .ok (.iload_n 2, 1) := by decide +kernel
theorem dX4_sweep_5 : decode cX4_sweep 5 = .ok (.bipush 6, 2) := by decide +kernel
theorem dX4_sweep_7 : decode cX4_sweep 7 = .ok (.if_icmp .ge 36, 3) := by decide +kernel
theorem dX4_sweep_10 : decode cX4_sweep 10 = .ok (.aload_n 0, 1) := by decide +kernel
theorem dX4_sweep_11 : decode cX4_sweep 11 = .ok (.getfield 19, 3) := by decide +kernel
theorem dX4_sweep_14 : decode cX4_sweep 14 = .ok (.iload_n 2, 1) := by decide +kernel
theorem dX4_sweep_15 : decode cX4_sweep 15 = .ok (.iaload, 1) := by decide +kernel
theorem dX4_sweep_16 : decode cX4_sweep 16 = .ok (.iconst 1, 1) := by decide +kernel
theorem dX4_sweep_17 : decode cX4_sweep 17 = .ok (.if_icmp .ne 20, 3) := by decide +kernel
theorem dX4_sweep_20 : decode cX4_sweep 20 = .ok (.aload_n 0, 1) := by decide +kernel
theorem dX4_sweep_21 : decode cX4_sweep 21 = .ok (.iload_n 2, 1) := by decide +kernel
theorem dX4_sweep_22 : decode cX4_sweep 22 = .ok (.invokevirtual 213, 3) := by decide +kernel
theorem dX4_sweep_25 : decode cX4_sweep 25 = .ok (.ifCond .eq 12, 3) := by decide +kernel
theorem dX4_sweep_28 : decode cX4_sweep 28 = .ok (.aload_n 0, 1) := by decide +kernel
theorem dX4_sweep_29 : decode cX4_sweep 29 = .ok (.iload_n 2, 1) := by decide +kernel
theorem dX4_sweep_30 : decode cX4_sweep 30 = .ok (.iconst 0, 1) := by decide +kernel
theorem dX4_sweep_31 : decode cX4_sweep 31 = .ok (.invokevirtual 233, 3) := by decide +kernel
theorem dX4_sweep_34 : decode cX4_sweep 34 = .ok (.iinc 1 1, 3) := by decide +kernel
theorem dX4_sweep_37 : decode cX4_sweep 37 = .ok (.iinc 2 1, 3) := by decide +kernel
theorem dX4_sweep_40 : decode cX4_sweep 40 = .ok (.goto (-36), 3) := by decide +kernel
theorem dX4_sweep_43 : decode cX4_sweep 43 = .ok (.iload_n 1, 1) := by decide +kernel
theorem dX4_sweep_44 : decode cX4_sweep 44 = .ok (.ireturn, 1) := by decide +kernel
theorem dX4_send_0 : decode cX4_send 0 = .ok (.iload_n 1, 1) := by decide +kernel
theorem dX4_send_1 : decode cX4_send 1 = .ok (.invokestatic 201, 3) := by decide +kernel
theorem dX4_send_4 : decode cX4_send 4 = .ok (.ifCond .ne 6, 3) := by decide +kernel
theorem dX4_send_7 : decode cX4_send 7 = .ok (.bipush (-2), 2) := by decide +kernel
theorem dX4_send_9 : decode cX4_send 9 = .ok (.ireturn, 1) := by decide +kernel
theorem dX4_send_10 : decode cX4_send 10 = .ok (.aload_n 0, 1) := by decide +kernel
theorem dX4_send_11 : decode cX4_send 11 = .ok (.getfield 19, 3) := by decide +kernel
theorem dX4_send_14 : decode cX4_send 14 = .ok (.iload_n 1, 1) := by decide +kernel
theorem dX4_send_15 : decode cX4_send 15 = .ok (.iaload, 1) := by decide +kernel
theorem dX4_send_16 : decode cX4_send 16 = .ok (.iconst 1, 1) := by decide +kernel
theorem dX4_send_17 : decode cX4_send 17 = .ok (.if_icmp .eq 6, 3) := by decide +kernel
theorem dX4_send_20 : decode cX4_send 20 = .ok (.bipush (-4), 2) := by decide +kernel
theorem dX4_send_22 : decode cX4_send 22 = .ok (.ireturn, 1) := by decide +kernel
theorem dX4_send_23 : decode cX4_send 23 = .ok (.aload_n 0, 1) := by decide +kernel
theorem dX4_send_24 : decode cX4_send 24 = .ok (.getfield 19, 3) := by decide +kernel
theorem dX4_send_27 : decode cX4_send 27 = .ok (.iload_n 1, 1) := by decide +kernel
theorem dX4_send_28 : decode cX4_send 28 = .ok (.iconst 3, 1) := by decide +kernel
theorem dX4_send_29 : decode cX4_send 29 = .ok (.iastore, 1) := by decide +kernel
theorem dX4_send_30 : decode cX4_send 30 = .ok (.aload_n 0, 1) := by decide +kernel
theorem dX4_send_31 : decode cX4_send 31 = .ok (.dup, 1) := by decide +kernel
theorem dX4_send_32 : decode cX4_send 32 = .ok (.getfield 84, 3) := by decide +kernel
theorem dX4_send_35 : decode cX4_send 35 = .ok (.iconst 1, 1) := by decide +kernel
theorem dX4_send_36 : decode cX4_send 36 = .ok (.iadd, 1) := by decide +kernel
theorem dX4_send_37 : decode cX4_send 37 = .ok (.putfield 84, 3) := by decide +kernel
theorem dX4_send_40 : decode cX4_send 40 = .ok (.aload_n 0, 1) := by decide +kernel
theorem dX4_send_41 : decode cX4_send 41 = .ok (.getfield 50, 3) := by decide +kernel
theorem dX4_send_44 : decode cX4_send 44 = .ok (.iload_n 1, 1) := by decide +kernel
theorem dX4_send_45 : decode cX4_send 45 = .ok (.aload_n 0, 1) := by decide +kernel
theorem dX4_send_46 : decode cX4_send 46 = .ok (.getfield 84, 3) := by decide +kernel
theorem dX4_send_49 : decode cX4_send 49 = .ok (.iastore, 1) := by decide +kernel
theorem dX4_send_50 : decode cX4_send 50 = .ok (.aload_n 0, 1) := by decide +kernel
theorem dX4_send_51 : decode cX4_send 51 = .ok (.getfield 53, 3) := by decide +kernel
theorem dX4_send_54 : decode cX4_send 54 = .ok (.iload_n 1, 1) := by decide +kernel
theorem dX4_send_55 : decode cX4_send 55 = .ok (.iconst 0, 1) := by decide +kernel
theorem dX4_send_56 : decode cX4_send 56 = .ok (.iastore, 1) := by decide +kernel
theorem dX4_send_57 : decode cX4_send 57 = .ok (.aload_n 0, 1) := by decide +kernel
theorem dX4_send_58 : decode cX4_send 58 = .ok (.getfield 53, 3) := by decide +kernel
theorem dX4_send_61 : decode cX4_send 61 = .ok (.bipush 6, 2) := by decide +kernel
theorem dX4_send_63 : decode cX4_send 63 = .ok (.iload_n 1, 1) := by decide +kernel
theorem dX4_send_64 : decode cX4_send 64 = .ok (.iadd, 1) := by decide +kernel
theorem dX4_send_65 : decode cX4_send 65 = .ok (.iconst 0, 1) := by decide +kernel
theorem dX4_send_66 : decode cX4_send 66 = .ok (.iastore, 1) := by decide +kernel
theorem dX4_send_67 : decode cX4_send 67 = .ok (.aload_n 0, 1) := by decide +kernel
theorem dX4_send_68 : decode cX4_send 68 = .ok (.getfield 84, 3) := by decide +kernel
theorem dX4_send_71 : decode cX4_send 71 = .ok (.ireturn, 1) := by decide +kernel
theorem dX4_firstSent_0 : decode cX4_firstSent 0 = .ok (.iconst (-1), 1) := by decide +kernel
theorem dX4_firstSent_1 : decode cX4_firstSent 1 = .ok (.istore_n 2, 1) := by decide +kernel
theorem dX4_firstSent_2 : decode cX4_firstSent 2 = .ok (.iconst 0, 1) := by decide +kernel
theorem dX4_firstSent_3 : decode cX4_firstSent 3 = .ok (.istore_n 3, 1) := by decide +kernel
theorem dX4_firstSent_4 : decode cX4_firstSent 4 = .ok (.iload_n 3, 1) := by decide +kernel
theorem dX4_firstSent_5 : decode cX4_firstSent 5 = .ok (.bipush 6, 2) := by decide +kernel
theorem dX4_firstSent_7 : decode cX4_firstSent 7 = .ok (.if_icmp .ge 76, 3) := by decide +kernel
theorem dX4_firstSent_10 : decode cX4_firstSent 10 = .ok (.aload_n 0, 1) := by decide +kernel
theorem dX4_firstSent_11 : decode cX4_firstSent 11 = .ok (.getfield 19, 3) := by decide +kernel
theorem dX4_firstSent_14 : decode cX4_firstSent 14 = .ok (.iload_n 3, 1) := by decide +kernel
theorem dX4_firstSent_15 : decode cX4_firstSent 15 = .ok (.iaload, 1) := by decide +kernel
theorem dX4_firstSent_16 : decode cX4_firstSent 16 = .ok (.iconst 3, 1) := by decide +kernel
theorem dX4_firstSent_17 : decode cX4_firstSent 17 = .ok (.if_icmp .ne 26, 3) := by decide +kernel
theorem dX4_firstSent_20 : decode cX4_firstSent 20 = .ok (.iload_n 1, 1) := by decide +kernel
theorem dX4_firstSent_21 : decode cX4_firstSent 21 = .ok (.iconst (-1), 1) := by decide +kernel
theorem dX4_firstSent_22 : decode cX4_firstSent 22 = .ok (.if_icmp .eq 17, 3) := by decide +kernel
theorem dX4_firstSent_25 : decode cX4_firstSent 25 = .ok (.aload_n 0, 1) := by decide +kernel
theorem dX4_firstSent_26 : decode cX4_firstSent 26 = .ok (.getfield 53, 3) := by decide +kernel
theorem dX4_firstSent_29 : decode cX4_firstSent 29 = .ok (.bipush 6, 2) := by decide +kernel
theorem dX4_firstSent_31 : decode cX4_firstSent 31 = .ok (.iload_n 1, 1) := by decide +kernel
theorem dX4_firstSent_32 : decode cX4_firstSent 32 = .ok (.imul, 1) := by decide +kernel
theorem dX4_firstSent_33 : decode cX4_firstSent 33 = .ok (.iload_n 3, 1) := by decide +kernel
theorem dX4_firstSent_34 : decode cX4_firstSent 34 = .ok (.iadd, 1) := by decide +kernel
theorem dX4_firstSent_35 : decode cX4_firstSent 35 = .ok (.iaload, 1) := by decide +kernel
theorem dX4_firstSent_36 : decode cX4_firstSent 36 = .ok (.ifCond .ne 7, 3) := by decide +kernel
theorem dX4_firstSent_39 : decode cX4_firstSent 39 = .ok (.iconst 1, 1) := by decide +kernel
theorem dX4_firstSent_40 : decode cX4_firstSent 40 = .ok (.goto 4, 3) := by decide +kernel
theorem dX4_firstSent_43 : decode cX4_firstSent 43 = .ok (.iconst 0, 1) := by decide +kernel
theorem dX4_firstSent_44 : decode cX4_firstSent 44 = .ok (.istore 4, 2) := by decide +kernel
theorem dX4_firstSent_46 : decode cX4_firstSent 46 = .ok (.iload 4, 2) := by decide +kernel
theorem dX4_firstSent_48 : decode cX4_firstSent 48 = .ok (.ifCond .eq 27, 3) := by decide +kernel
theorem dX4_firstSent_51 : decode cX4_firstSent 51 = .ok (.iload_n 2, 1) := by decide +kernel
theorem dX4_firstSent_52 : decode cX4_firstSent 52 = .ok (.iconst (-1), 1) := by decide +kernel
theorem dX4_firstSent_53 : decode cX4_firstSent 53 = .ok (.if_icmp .eq 18, 3) := by decide +kernel
theorem dX4_firstSent_56 : decode cX4_firstSent 56 = .ok (.aload_n 0, 1) := by decide +kernel
theorem dX4_firstSent_57 : decode cX4_firstSent 57 = .ok (.getfield 50, 3) := by decide +kernel
theorem dX4_firstSent_60 : decode cX4_firstSent 60 = .ok (.iload_n 3, 1) := by decide +kernel
theorem dX4_firstSent_61 : decode cX4_firstSent 61 = .ok (.iaload, 1) := by decide +kernel
theorem dX4_firstSent_62 : decode cX4_firstSent 62 = .ok (.aload_n 0, 1) := by decide +kernel
theorem dX4_firstSent_63 : decode cX4_firstSent 63 = .ok (.getfield 50, 3) := by decide +kernel
theorem dX4_firstSent_66 : decode cX4_firstSent 66 = .ok (.iload_n 2, 1) := by decide +kernel
theorem dX4_firstSent_67 : decode cX4_firstSent 67 = .ok (.iaload, 1) := by decide +kernel
theorem dX4_firstSent_68 : decode cX4_firstSent 68 = .ok (.if_icmp .ge 7, 3) := by decide +kernel
theorem dX4_firstSent_71 : decode cX4_firstSent 71 = .ok (.iload_n 3, 1) := by decide +kernel
theorem dX4_firstSent_72 : decode cX4_firstSent 72 = .ok (.goto 4, 3) := by decide +kernel
theorem dX4_firstSent_75 : decode cX4_firstSent 75 = .ok (.iload_n 2, 1) := by decide +kernel
theorem dX4_firstSent_76 : decode cX4_firstSent 76 = .ok (.istore_n 2, 1) := by decide +kernel
theorem dX4_firstSent_77 : decode cX4_firstSent 77 = .ok (.iinc 3 1, 3) := by decide +kernel
theorem dX4_firstSent_80 : decode cX4_firstSent 80 = .ok (.goto (-76), 3) := by decide +kernel
theorem dX4_firstSent_83 : decode cX4_firstSent 83 = .ok (.iload_n 2, 1) := by decide +kernel
theorem dX4_firstSent_84 : decode cX4_firstSent 84 = .ok (.ireturn, 1) := by decide +kernel
theorem dX4_vote_0 : decode cX4_vote 0 = .ok (.iload_n 1, 1) := by decide +kernel
theorem dX4_vote_1 : decode cX4_vote 1 = .ok (.i2l, 1) := by decide +kernel
theorem dX4_vote_2 : decode cX4_vote 2 = .ok (.lconst 0, 1) := by decide +kernel
theorem dX4_vote_3 : decode cX4_vote 3 = .ok (.lconst 1, 1) := by decide +kernel
theorem dX4_vote_4 : decode cX4_vote 4 = .ok (.invokestatic 71, 3) := by decide +kernel
theorem dX4_vote_7 : decode cX4_vote 7 = .ok (.ifCond .ne 6, 3) := by decide +kernel
theorem dX4_vote_10 : decode cX4_vote 10 = .ok (.bipush (-2), 2) := by decide +kernel
theorem dX4_vote_12 : decode cX4_vote 12 = .ok (.ireturn, 1) := by decide +kernel
theorem dX4_vote_13 : decode cX4_vote 13 = .ok (.aload_n 0, 1) := by decide +kernel
theorem dX4_vote_14 : decode cX4_vote 14 = .ok (.iload_n 1, 1) := by decide +kernel
theorem dX4_vote_15 : decode cX4_vote 15 = .ok (.invokevirtual 238, 3) := by decide +kernel
theorem dX4_vote_18 : decode cX4_vote 18 = .ok (.istore_n 2, 1) := by decide +kernel
theorem dX4_vote_19 : decode cX4_vote 19 = .ok (.iload_n 2, 1) := by decide +kernel
theorem dX4_vote_20 : decode cX4_vote 20 = .ok (.iconst (-1), 1) := by decide +kernel
theorem dX4_vote_21 : decode cX4_vote 21 = .ok (.if_icmp .ne 6, 3) := by decide +kernel
theorem dX4_vote_24 : decode cX4_vote 24 = .ok (.bipush (-4), 2) := by decide +kernel
theorem dX4_vote_26 : decode cX4_vote 26 = .ok (.ireturn, 1) := by decide +kernel
theorem dX4_vote_27 : decode cX4_vote 27 = .ok (.iconst 0, 1) := by decide +kernel
theorem dX4_vote_28 : decode cX4_vote 28 = .ok (.istore_n 3, 1) := by decide +kernel
theorem dX4_vote_29 : decode cX4_vote 29 = .ok (.iconst 0, 1) := by decide +kernel
theorem dX4_vote_30 : decode cX4_vote 30 = .ok (.istore 4, 2) := by decide +kernel
theorem dX4_vote_32 : decode cX4_vote 32 = .ok (.iload 4, 2) := by decide +kernel
theorem dX4_vote_34 : decode cX4_vote 34 = .ok (.bipush 6, 2) := by decide +kernel
theorem dX4_vote_36 : decode cX4_vote 36 = .ok (.if_icmp .ge 66, 3) := by decide +kernel
theorem dX4_vote_39 : decode cX4_vote 39 = .ok (.iload_n 3, 1) := by decide +kernel
theorem dX4_vote_40 : decode cX4_vote 40 = .ok (.aload_n 0, 1) := by decide +kernel
theorem dX4_vote_41 : decode cX4_vote 41 = .ok (.getfield 19, 3) := by decide +kernel
theorem dX4_vote_44 : decode cX4_vote 44 = .ok (.iload 4, 2) := by decide +kernel
theorem dX4_vote_46 : decode cX4_vote 46 = .ok (.iaload, 1) := by decide +kernel
theorem dX4_vote_47 : decode cX4_vote 47 = .ok (.iconst 3, 1) := by decide +kernel
theorem dX4_vote_48 : decode cX4_vote 48 = .ok (.if_icmp .ne 45, 3) := by decide +kernel
theorem dX4_vote_51 : decode cX4_vote 51 = .ok (.aload_n 0, 1) := by decide +kernel
theorem dX4_vote_52 : decode cX4_vote 52 = .ok (.getfield 50, 3) := by decide +kernel
theorem dX4_vote_55 : decode cX4_vote 55 = .ok (.iload 4, 2) := by decide +kernel
theorem dX4_vote_57 : decode cX4_vote 57 = .ok (.iaload, 1) := by decide +kernel
theorem dX4_vote_58 : decode cX4_vote 58 = .ok (.aload_n 0, 1) := by decide +kernel
theorem dX4_vote_59 : decode cX4_vote 59 = .ok (.getfield 50, 3) := by decide +kernel
theorem dX4_vote_62 : decode cX4_vote 62 = .ok (.iload_n 2, 1) := by decide +kernel
theorem dX4_vote_63 : decode cX4_vote 63 = .ok (.iaload, 1) := by decide +kernel
theorem dX4_vote_64 : decode cX4_vote 64 = .ok (.if_icmp .ge 29, 3) := by decide +kernel
theorem dX4_vote_67 : decode cX4_vote 67 = .ok (.aload_n 0, 1) := by decide +kernel
theorem dX4_vote_68 : decode cX4_vote 68 = .ok (.getfield 53, 3) := by decide +kernel
theorem dX4_vote_71 : decode cX4_vote 71 = .ok (.bipush 6, 2) := by decide +kernel
theorem dX4_vote_73 : decode cX4_vote 73 = .ok (.iload_n 1, 1) := by decide +kernel
theorem dX4_vote_74 : decode cX4_vote 74 = .ok (.imul, 1) := by decide +kernel
theorem dX4_vote_75 : decode cX4_vote 75 = .ok (.iload 4, 2) := by decide +kernel
theorem dX4_vote_77 : decode cX4_vote 77 = .ok (.iadd, 1) := by decide +kernel
theorem dX4_vote_78 : decode cX4_vote 78 = .ok (.iaload, 1) := by decide +kernel
theorem dX4_vote_79 : decode cX4_vote 79 = .ok (.iconst 2, 1) := by decide +kernel
theorem dX4_vote_80 : decode cX4_vote 80 = .ok (.if_icmp .ne 13, 3) := by decide +kernel
theorem dX4_vote_83 : decode cX4_vote 83 = .ok (.aload_n 0, 1) := by decide +kernel
theorem dX4_vote_84 : decode cX4_vote 84 = .ok (.getfield 38, 3) := by decide +kernel
theorem dX4_vote_87 : decode cX4_vote 87 = .ok (.iload 4, 2) := by decide +kernel
theorem dX4_vote_89 : decode cX4_vote 89 = .ok (.iaload, 1) := by decide +kernel
theorem dX4_vote_90 : decode cX4_vote 90 = .ok (.goto 4, 3) := by decide +kernel
theorem dX4_vote_93 : decode cX4_vote 93 = .ok (.iconst 0, 1) := by decide +kernel
theorem dX4_vote_94 : decode cX4_vote 94 = .ok (.ior, 1) := by decide +kernel
theorem dX4_vote_95 : decode cX4_vote 95 = .ok (.istore_n 3, 1) := by decide +kernel
theorem dX4_vote_96 : decode cX4_vote 96 = .ok (.iinc 4 1, 3) := by decide +kernel
theorem dX4_vote_99 : decode cX4_vote 99 = .ok (.goto (-67), 3) := by decide +kernel
theorem dX4_vote_102 : decode cX4_vote 102 = .ok (.bipush 15, 2) := by decide +kernel
theorem dX4_vote_104 : decode cX4_vote 104 = .ok (.iconst 4, 1) := by decide +kernel
theorem dX4_vote_105 : decode cX4_vote 105 = .ok (.iload_n 1, 1) := by decide +kernel
theorem dX4_vote_106 : decode cX4_vote 106 = .ok (.imul, 1) := by decide +kernel
theorem dX4_vote_107 : decode cX4_vote 107 = .ok (.ishl, 1) := by decide +kernel
theorem dX4_vote_108 : decode cX4_vote 108 = .ok (.istore 4, 2) := by decide +kernel
theorem dX4_vote_110 : decode cX4_vote 110 = .ok (.iload 4, 2) := by decide +kernel
theorem dX4_vote_112 : decode cX4_vote 112 = .ok (.aload_n 0, 1) := by decide +kernel
theorem dX4_vote_113 : decode cX4_vote 113 = .ok (.iload_n 2, 1) := by decide +kernel
theorem dX4_vote_114 : decode cX4_vote 114 = .ok (.invokevirtual 213, 3) := by decide +kernel
theorem dX4_vote_117 : decode cX4_vote 117 = .ok (.aload_n 0, 1) := by decide +kernel
theorem dX4_vote_118 : decode cX4_vote 118 = .ok (.getfield 35, 3) := by decide +kernel
theorem dX4_vote_121 : decode cX4_vote 121 = .ok (.iload_n 2, 1) := by decide +kernel
theorem dX4_vote_122 : decode cX4_vote 122 = .ok (.iaload, 1) := by decide +kernel
theorem dX4_vote_123 : decode cX4_vote 123 = .ok (.iload_n 3, 1) := by decide +kernel
theorem dX4_vote_124 : decode cX4_vote 124 = .ok (.iand, 1) := by decide +kernel
theorem dX4_vote_125 : decode cX4_vote 125 = .ok (.ior, 1) := by decide +kernel
theorem dX4_vote_126 : decode cX4_vote 126 = .ok (.iand, 1) := by decide +kernel
theorem dX4_vote_127 : decode cX4_vote 127 = .ok (.ifCond .ne 7, 3) := by decide +kernel
theorem dX4_vote_130 : decode cX4_vote 130 = .ok (.iconst 1, 1) := by decide +kernel
theorem dX4_vote_131 : decode cX4_vote 131 = .ok (.goto 4, 3) := by decide +kernel
theorem dX4_vote_134 : decode cX4_vote 134 = .ok (.iconst 0, 1) := by decide +kernel
theorem dX4_vote_135 : decode cX4_vote 135 = .ok (.istore 5, 2) := by decide +kernel
theorem dX4_vote_137 : decode cX4_vote 137 = .ok (.aload_n 0, 1) := by decide +kernel
theorem dX4_vote_138 : decode cX4_vote 138 = .ok (.getfield 53, 3) := by decide +kernel
theorem dX4_vote_141 : decode cX4_vote 141 = .ok (.bipush 6, 2) := by decide +kernel
theorem dX4_vote_143 : decode cX4_vote 143 = .ok (.iload_n 1, 1) := by decide +kernel
theorem dX4_vote_144 : decode cX4_vote 144 = .ok (.imul, 1) := by decide +kernel
theorem dX4_vote_145 : decode cX4_vote 145 = .ok (.iload_n 2, 1) := by decide +kernel
theorem dX4_vote_146 : decode cX4_vote 146 = .ok (.iadd, 1) := by decide +kernel
theorem dX4_vote_147 : decode cX4_vote 147 = .ok (.iload 5, 2) := by decide +kernel
theorem dX4_vote_149 : decode cX4_vote 149 = .ok (.ifCond .eq 7, 3) := by decide +kernel
theorem dX4_vote_152 : decode cX4_vote 152 = .ok (.iconst 2, 1) := by decide +kernel
theorem dX4_vote_153 : decode cX4_vote 153 = .ok (.goto 4, 3) := by decide +kernel
theorem dX4_vote_156 : decode cX4_vote 156 = .ok (.iconst 1, 1) := by decide +kernel
theorem dX4_vote_157 : decode cX4_vote 157 = .ok (.iastore, 1) := by decide +kernel
theorem dX4_vote_158 : decode cX4_vote 158 = .ok (.iload 5, 2) := by decide +kernel
theorem dX4_vote_160 : decode cX4_vote 160 = .ok (.ifCond .eq 7, 3) := by decide +kernel
theorem dX4_vote_163 : decode cX4_vote 163 = .ok (.iconst 1, 1) := by decide +kernel
theorem dX4_vote_164 : decode cX4_vote 164 = .ok (.goto 4, 3) := by decide +kernel
theorem dX4_vote_167 : decode cX4_vote 167 = .ok (.iconst 0, 1) := by decide +kernel
theorem dX4_vote_168 : decode cX4_vote 168 = .ok (.ireturn, 1) := by decide +kernel
theorem dX4_settle_0 : decode cX4_settle 0 = .ok (.aload_n 0, 1) := by decide +kernel
theorem dX4_settle_1 : decode cX4_settle 1 = .ok (.iconst (-1), 1) := by decide +kernel
theorem dX4_settle_2 : decode cX4_settle 2 = .ok (.invokevirtual 238, 3) := by decide +kernel
theorem dX4_settle_5 : decode cX4_settle 5 = .ok (.istore_n 1, 1) := by decide +kernel
theorem dX4_settle_6 : decode cX4_settle 6 = .ok (.iload_n 1, 1) := by decide +kernel
theorem dX4_settle_7 : decode cX4_settle 7 = .ok (.iconst (-1), 1) := by decide +kernel
theorem dX4_settle_8 : decode cX4_settle 8 = .ok (.if_icmp .eq 24, 3) := by decide +kernel
theorem dX4_settle_11 : decode cX4_settle 11 = .ok (.aload_n 0, 1) := by decide +kernel
theorem dX4_settle_12 : decode cX4_settle 12 = .ok (.getfield 53, 3) := by decide +kernel
theorem dX4_settle_15 : decode cX4_settle 15 = .ok (.iload_n 1, 1) := by decide +kernel
theorem dX4_settle_16 : decode cX4_settle 16 = .ok (.iaload, 1) := by decide +kernel
theorem dX4_settle_17 : decode cX4_settle 17 = .ok (.ifCond .eq 15, 3) := by decide +kernel
theorem dX4_settle_20 : decode cX4_settle 20 = .ok (.aload_n 0, 1) := by decide +kernel
theorem dX4_settle_21 : decode cX4_settle 21 = .ok (.getfield 53, 3) := by decide +kernel
theorem dX4_settle_24 : decode cX4_settle 24 = .ok (.bipush 6, 2) := by decide +kernel
theorem dX4_settle_26 : decode cX4_settle 26 = .ok (.iload_n 1, 1) := by decide +kernel
theorem dX4_settle_27 : decode cX4_settle 27 = .ok (.iadd, 1) := by decide +kernel
theorem dX4_settle_28 : decode cX4_settle 28 = .ok (.iaload, 1) := by decide +kernel
theorem dX4_settle_29 : decode cX4_settle 29 = .ok (.ifCond .ne 6, 3) := by decide +kernel
theorem dX4_settle_32 : decode cX4_settle 32 = .ok (.bipush (-4), 2) := by decide +kernel
theorem dX4_settle_34 : decode cX4_settle 34 = .ok (.ireturn, 1) := by decide +kernel
theorem dX4_settle_35 : decode cX4_settle 35 = .ok (.aload_n 0, 1) := by decide +kernel
theorem dX4_settle_36 : decode cX4_settle 36 = .ok (.getfield 53, 3) := by decide +kernel
theorem dX4_settle_39 : decode cX4_settle 39 = .ok (.iload_n 1, 1) := by decide +kernel
theorem dX4_settle_40 : decode cX4_settle 40 = .ok (.iaload, 1) := by decide +kernel
theorem dX4_settle_41 : decode cX4_settle 41 = .ok (.iconst 2, 1) := by decide +kernel
theorem dX4_settle_42 : decode cX4_settle 42 = .ok (.if_icmp .ne 23, 3) := by decide +kernel
theorem dX4_settle_45 : decode cX4_settle 45 = .ok (.aload_n 0, 1) := by decide +kernel
theorem dX4_settle_46 : decode cX4_settle 46 = .ok (.getfield 53, 3) := by decide +kernel
theorem dX4_settle_49 : decode cX4_settle 49 = .ok (.bipush 6, 2) := by decide +kernel
theorem dX4_settle_51 : decode cX4_settle 51 = .ok (.iload_n 1, 1) := by decide +kernel
theorem dX4_settle_52 : decode cX4_settle 52 = .ok (.iadd, 1) := by decide +kernel
theorem dX4_settle_53 : decode cX4_settle 53 = .ok (.iaload, 1) := by decide +kernel
theorem dX4_settle_54 : decode cX4_settle 54 = .ok (.iconst 2, 1) := by decide +kernel
theorem dX4_settle_55 : decode cX4_settle 55 = .ok (.if_icmp .ne 10, 3) := by decide +kernel
theorem dX4_settle_58 : decode cX4_settle 58 = .ok (.aload_n 0, 1) := by decide +kernel
theorem dX4_settle_59 : decode cX4_settle 59 = .ok (.iload_n 1, 1) := by decide +kernel
theorem dX4_settle_60 : decode cX4_settle 60 = .ok (.iconst 3, 1) := by decide +kernel
theorem dX4_settle_61 : decode cX4_settle 61 = .ok (.invokevirtual 236, 3) := by decide +kernel
theorem dX4_settle_64 : decode cX4_settle 64 = .ok (.ireturn, 1) := by decide +kernel
theorem dX4_settle_65 : decode cX4_settle 65 = .ok (.aload_n 0, 1) := by decide +kernel
theorem dX4_settle_66 : decode cX4_settle 66 = .ok (.iload_n 1, 1) := by decide +kernel
theorem dX4_settle_67 : decode cX4_settle 67 = .ok (.invokevirtual 213, 3) := by decide +kernel
theorem dX4_settle_70 : decode cX4_settle 70 = .ok (.ifCond .ne 8, 3) := by decide +kernel
theorem dX4_settle_73 : decode cX4_settle 73 = .ok (.bipush (-12), 2) := by decide +kernel
theorem dX4_settle_75 : decode cX4_settle 75 = .ok (.goto 5, 3) := by decide +kernel
theorem dX4_settle_78 : decode cX4_settle 78 = .ok (.bipush (-11), 2) := by decide +kernel
theorem dX4_settle_80 : decode cX4_settle 80 = .ok (.istore_n 2, 1) := by decide +kernel
theorem dX4_settle_81 : decode cX4_settle 81 = .ok (.aload_n 0, 1) := by decide +kernel
theorem dX4_settle_82 : decode cX4_settle 82 = .ok (.iload_n 1, 1) := by decide +kernel
theorem dX4_settle_83 : decode cX4_settle 83 = .ok (.iload_n 2, 1) := by decide +kernel
theorem dX4_settle_84 : decode cX4_settle 84 = .ok (.invokevirtual 233, 3) := by decide +kernel
theorem dX4_settle_87 : decode cX4_settle 87 = .ok (.iload_n 2, 1) := by decide +kernel
theorem dX4_settle_88 : decode cX4_settle 88 = .ok (.ireturn, 1) := by decide +kernel
theorem dX4_deal_0 : decode cX4_deal 0 = .ok (.iload_n 1, 1) := by decide +kernel
theorem dX4_deal_1 : decode cX4_deal 1 = .ok (.invokestatic 201, 3) := by decide +kernel
theorem dX4_deal_4 : decode cX4_deal 4 = .ok (.ifCond .ne 6, 3) := by decide +kernel
theorem dX4_deal_7 : decode cX4_deal 7 = .ok (.bipush (-2), 2) := by decide +kernel
theorem dX4_deal_9 : decode cX4_deal 9 = .ok (.ireturn, 1) := by decide +kernel
theorem dX4_deal_10 : decode cX4_deal 10 = .ok (.iload_n 2, 1) := by decide +kernel
theorem dX4_deal_11 : decode cX4_deal 11 = .ok (.tableswitch 171 0 11 #[61, 68, 75, 82, 89, 96, 103, 118, 132, 138, 144, 150], 61) := by decide +kernel
theorem dX4_deal_72 : decode cX4_deal 72 = .ok (.aload_n 0, 1) := by decide +kernel
theorem dX4_deal_73 : decode cX4_deal 73 = .ok (.getfield 19, 3) := by decide +kernel
theorem dX4_deal_76 : decode cX4_deal 76 = .ok (.iload_n 1, 1) := by decide +kernel
theorem dX4_deal_77 : decode cX4_deal 77 = .ok (.iaload, 1) := by decide +kernel
theorem dX4_deal_78 : decode cX4_deal 78 = .ok (.ireturn, 1) := by decide +kernel
theorem dX4_deal_79 : decode cX4_deal 79 = .ok (.aload_n 0, 1) := by decide +kernel
theorem dX4_deal_80 : decode cX4_deal 80 = .ok (.getfield 22, 3) := by decide +kernel
theorem dX4_deal_83 : decode cX4_deal 83 = .ok (.iload_n 1, 1) := by decide +kernel
theorem dX4_deal_84 : decode cX4_deal 84 = .ok (.iaload, 1) := by decide +kernel
theorem dX4_deal_85 : decode cX4_deal 85 = .ok (.ireturn, 1) := by decide +kernel
theorem dX4_deal_86 : decode cX4_deal 86 = .ok (.aload_n 0, 1) := by decide +kernel
theorem dX4_deal_87 : decode cX4_deal 87 = .ok (.getfield 25, 3) := by decide +kernel
theorem dX4_deal_90 : decode cX4_deal 90 = .ok (.iload_n 1, 1) := by decide +kernel
theorem dX4_deal_91 : decode cX4_deal 91 = .ok (.iaload, 1) := by decide +kernel
theorem dX4_deal_92 : decode cX4_deal 92 = .ok (.ireturn, 1) := by decide +kernel
theorem dX4_deal_93 : decode cX4_deal 93 = .ok (.aload_n 0, 1) := by decide +kernel
theorem dX4_deal_94 : decode cX4_deal 94 = .ok (.getfield 28, 3) := by decide +kernel
theorem dX4_deal_97 : decode cX4_deal 97 = .ok (.iload_n 1, 1) := by decide +kernel
theorem dX4_deal_98 : decode cX4_deal 98 = .ok (.iaload, 1) := by decide +kernel
theorem dX4_deal_99 : decode cX4_deal 99 = .ok (.ireturn, 1) := by decide +kernel
theorem dX4_deal_100 : decode cX4_deal 100 = .ok (.aload_n 0, 1) := by decide +kernel
theorem dX4_deal_101 : decode cX4_deal 101 = .ok (.getfield 35, 3) := by decide +kernel
theorem dX4_deal_104 : decode cX4_deal 104 = .ok (.iload_n 1, 1) := by decide +kernel
theorem dX4_deal_105 : decode cX4_deal 105 = .ok (.iaload, 1) := by decide +kernel
theorem dX4_deal_106 : decode cX4_deal 106 = .ok (.ireturn, 1) := by decide +kernel
theorem dX4_deal_107 : decode cX4_deal 107 = .ok (.aload_n 0, 1) := by decide +kernel
theorem dX4_deal_108 : decode cX4_deal 108 = .ok (.getfield 38, 3) := by decide +kernel
theorem dX4_deal_111 : decode cX4_deal 111 = .ok (.iload_n 1, 1) := by decide +kernel
theorem dX4_deal_112 : decode cX4_deal 112 = .ok (.iaload, 1) := by decide +kernel
theorem dX4_deal_113 : decode cX4_deal 113 = .ok (.ireturn, 1) := by decide +kernel
theorem dX4_deal_114 : decode cX4_deal 114 = .ok (.aload_n 0, 1) := by decide +kernel
theorem dX4_deal_115 : decode cX4_deal 115 = .ok (.getfield 31, 3) := by decide +kernel
theorem dX4_deal_118 : decode cX4_deal 118 = .ok (.iload_n 1, 1) := by decide +kernel
theorem dX4_deal_119 : decode cX4_deal 119 = .ok (.baload, 1) := by decide +kernel
theorem dX4_deal_120 : decode cX4_deal 120 = .ok (.ifCond .eq 7, 3) := by decide +kernel
theorem dX4_deal_123 : decode cX4_deal 123 = .ok (.iconst 1, 1) := by decide +kernel
theorem dX4_deal_124 : decode cX4_deal 124 = .ok (.goto 4, 3) := by decide +kernel
theorem dX4_deal_127 : decode cX4_deal 127 = .ok (.iconst 0, 1) := by decide +kernel
theorem dX4_deal_128 : decode cX4_deal 128 = .ok (.ireturn, 1) := by decide +kernel
theorem dX4_deal_129 : decode cX4_deal 129 = .ok (.aload_n 0, 1) := by decide +kernel
theorem dX4_deal_130 : decode cX4_deal 130 = .ok (.iload_n 1, 1) := by decide +kernel
theorem dX4_deal_131 : decode cX4_deal 131 = .ok (.invokevirtual 210, 3) := by decide +kernel
theorem dX4_deal_134 : decode cX4_deal 134 = .ok (.ifCond .eq 7, 3) := by decide +kernel
theorem dX4_deal_137 : decode cX4_deal 137 = .ok (.iconst 1, 1) := by decide +kernel
theorem dX4_deal_138 : decode cX4_deal 138 = .ok (.goto 4, 3) := by decide +kernel
theorem dX4_deal_141 : decode cX4_deal 141 = .ok (.iconst 0, 1) := by decide +kernel
theorem dX4_deal_142 : decode cX4_deal 142 = .ok (.ireturn, 1) := by decide +kernel
theorem dX4_deal_143 : decode cX4_deal 143 = .ok (.aload_n 0, 1) := by decide +kernel
theorem dX4_deal_144 : decode cX4_deal 144 = .ok (.iload_n 1, 1) := by decide +kernel
theorem dX4_deal_145 : decode cX4_deal 145 = .ok (.invokevirtual 213, 3) := by decide +kernel
theorem dX4_deal_148 : decode cX4_deal 148 = .ok (.ireturn, 1) := by decide +kernel
theorem dX4_deal_149 : decode cX4_deal 149 = .ok (.aload_n 0, 1) := by decide +kernel
theorem dX4_deal_150 : decode cX4_deal 150 = .ok (.iload_n 1, 1) := by decide +kernel
theorem dX4_deal_151 : decode cX4_deal 151 = .ok (.invokevirtual 216, 3) := by decide +kernel
theorem dX4_deal_154 : decode cX4_deal 154 = .ok (.ireturn, 1) := by decide +kernel
theorem dX4_deal_155 : decode cX4_deal 155 = .ok (.aload_n 0, 1) := by decide +kernel
theorem dX4_deal_156 : decode cX4_deal 156 = .ok (.iload_n 1, 1) := by decide +kernel
theorem dX4_deal_157 : decode cX4_deal 157 = .ok (.invokevirtual 219, 3) := by decide +kernel
theorem dX4_deal_160 : decode cX4_deal 160 = .ok (.ireturn, 1) := by decide +kernel
theorem dX4_deal_161 : decode cX4_deal 161 = .ok (.aload_n 0, 1) := by decide +kernel
theorem dX4_deal_162 : decode cX4_deal 162 = .ok (.getfield 19, 3) := by decide +kernel
theorem dX4_deal_165 : decode cX4_deal 165 = .ok (.iload_n 1, 1) := by decide +kernel
theorem dX4_deal_166 : decode cX4_deal 166 = .ok (.iaload, 1) := by decide +kernel
theorem dX4_deal_167 : decode cX4_deal 167 = .ok (.iconst 3, 1) := by decide +kernel
theorem dX4_deal_168 : decode cX4_deal 168 = .ok (.if_icmp .ne 12, 3) := by decide +kernel
theorem dX4_deal_171 : decode cX4_deal 171 = .ok (.aload_n 0, 1) := by decide +kernel
theorem dX4_deal_172 : decode cX4_deal 172 = .ok (.getfield 50, 3) := by decide +kernel
theorem dX4_deal_175 : decode cX4_deal 175 = .ok (.iload_n 1, 1) := by decide +kernel
theorem dX4_deal_176 : decode cX4_deal 176 = .ok (.iaload, 1) := by decide +kernel
theorem dX4_deal_177 : decode cX4_deal 177 = .ok (.goto 4, 3) := by decide +kernel
theorem dX4_deal_180 : decode cX4_deal 180 = .ok (.iconst (-1), 1) := by decide +kernel
theorem dX4_deal_181 : decode cX4_deal 181 = .ok (.ireturn, 1) := by decide +kernel
theorem dX4_deal_182 : decode cX4_deal 182 = .ok (.bipush (-3), 2) := by decide +kernel
theorem dX4_deal_184 : decode cX4_deal 184 = .ok (.ireturn, 1) := by decide +kernel
theorem dX4_noted_0 : decode cX4_noted 0 = .ok (.iload_n 1, 1) := by decide +kernel
theorem dX4_noted_1 : decode cX4_noted 1 = .ok (.invokestatic 201, 3) := by decide +kernel
theorem dX4_noted_4 : decode cX4_noted 4 = .ok (.ifCond .eq 10, 3) := by decide +kernel
theorem dX4_noted_7 : decode cX4_noted 7 = .ok (.iload_n 2, 1) := by decide +kernel
theorem dX4_noted_8 : decode cX4_noted 8 = .ok (.invokestatic 180, 3) := by decide +kernel
theorem dX4_noted_11 : decode cX4_noted 11 = .ok (.ifCond .ne 6, 3) := by decide +kernel
theorem dX4_noted_14 : decode cX4_noted 14 = .ok (.bipush (-2), 2) := by decide +kernel
theorem dX4_noted_16 : decode cX4_noted 16 = .ok (.ireturn, 1) := by decide +kernel
theorem dX4_noted_17 : decode cX4_noted 17 = .ok (.bipush 8, 2) := by decide +kernel
theorem dX4_noted_19 : decode cX4_noted 19 = .ok (.iload_n 1, 1) := by decide +kernel
theorem dX4_noted_20 : decode cX4_noted 20 = .ok (.imul, 1) := by decide +kernel
theorem dX4_noted_21 : decode cX4_noted 21 = .ok (.iload_n 2, 1) := by decide +kernel
theorem dX4_noted_22 : decode cX4_noted 22 = .ok (.iadd, 1) := by decide +kernel
theorem dX4_noted_23 : decode cX4_noted 23 = .ok (.istore 4, 2) := by decide +kernel
theorem dX4_noted_25 : decode cX4_noted 25 = .ok (.iload_n 3, 1) := by decide +kernel
theorem dX4_noted_26 : decode cX4_noted 26 = .ok (.tableswitch 101 0 2 #[26, 51, 76], 26) := by decide +kernel
theorem dX4_noted_52 : decode cX4_noted 52 = .ok (.aload_n 0, 1) := by decide +kernel
theorem dX4_noted_53 : decode cX4_noted 53 = .ok (.getfield 35, 3) := by decide +kernel
theorem dX4_noted_56 : decode cX4_noted 56 = .ok (.iload_n 1, 1) := by decide +kernel
theorem dX4_noted_57 : decode cX4_noted 57 = .ok (.iaload, 1) := by decide +kernel
theorem dX4_noted_58 : decode cX4_noted 58 = .ok (.iload_n 2, 1) := by decide +kernel
theorem dX4_noted_59 : decode cX4_noted 59 = .ok (.invokestatic 183, 3) := by decide +kernel
theorem dX4_noted_62 : decode cX4_noted 62 = .ok (.ifCond .eq 13, 3) := by decide +kernel
theorem dX4_noted_65 : decode cX4_noted 65 = .ok (.aload_n 0, 1) := by decide +kernel
theorem dX4_noted_66 : decode cX4_noted 66 = .ok (.getfield 41, 3) := by decide +kernel
theorem dX4_noted_69 : decode cX4_noted 69 = .ok (.iload 4, 2) := by decide +kernel
theorem dX4_noted_71 : decode cX4_noted 71 = .ok (.iaload, 1) := by decide +kernel
theorem dX4_noted_72 : decode cX4_noted 72 = .ok (.goto 4, 3) := by decide +kernel
theorem dX4_noted_75 : decode cX4_noted 75 = .ok (.iconst (-1), 1) := by decide +kernel
theorem dX4_noted_76 : decode cX4_noted 76 = .ok (.ireturn, 1) := by decide +kernel
theorem dX4_noted_77 : decode cX4_noted 77 = .ok (.aload_n 0, 1) := by decide +kernel
theorem dX4_noted_78 : decode cX4_noted 78 = .ok (.getfield 35, 3) := by decide +kernel
theorem dX4_noted_81 : decode cX4_noted 81 = .ok (.iload_n 1, 1) := by decide +kernel
theorem dX4_noted_82 : decode cX4_noted 82 = .ok (.iaload, 1) := by decide +kernel
theorem dX4_noted_83 : decode cX4_noted 83 = .ok (.iload_n 2, 1) := by decide +kernel
theorem dX4_noted_84 : decode cX4_noted 84 = .ok (.invokestatic 183, 3) := by decide +kernel
theorem dX4_noted_87 : decode cX4_noted 87 = .ok (.ifCond .eq 13, 3) := by decide +kernel
theorem dX4_noted_90 : decode cX4_noted 90 = .ok (.aload_n 0, 1) := by decide +kernel
theorem dX4_noted_91 : decode cX4_noted 91 = .ok (.getfield 44, 3) := by decide +kernel
theorem dX4_noted_94 : decode cX4_noted 94 = .ok (.iload 4, 2) := by decide +kernel
theorem dX4_noted_96 : decode cX4_noted 96 = .ok (.iaload, 1) := by decide +kernel
theorem dX4_noted_97 : decode cX4_noted 97 = .ok (.goto 4, 3) := by decide +kernel
theorem dX4_noted_100 : decode cX4_noted 100 = .ok (.iconst (-1), 1) := by decide +kernel
theorem dX4_noted_101 : decode cX4_noted 101 = .ok (.ireturn, 1) := by decide +kernel
theorem dX4_noted_102 : decode cX4_noted 102 = .ok (.aload_n 0, 1) := by decide +kernel
theorem dX4_noted_103 : decode cX4_noted 103 = .ok (.getfield 38, 3) := by decide +kernel
theorem dX4_noted_106 : decode cX4_noted 106 = .ok (.iload_n 1, 1) := by decide +kernel
theorem dX4_noted_107 : decode cX4_noted 107 = .ok (.iaload, 1) := by decide +kernel
theorem dX4_noted_108 : decode cX4_noted 108 = .ok (.iload_n 2, 1) := by decide +kernel
theorem dX4_noted_109 : decode cX4_noted 109 = .ok (.invokestatic 183, 3) := by decide +kernel
theorem dX4_noted_112 : decode cX4_noted 112 = .ok (.ifCond .eq 13, 3) := by decide +kernel
theorem dX4_noted_115 : decode cX4_noted 115 = .ok (.aload_n 0, 1) := by decide +kernel
theorem dX4_noted_116 : decode cX4_noted 116 = .ok (.getfield 47, 3) := by decide +kernel
theorem dX4_noted_119 : decode cX4_noted 119 = .ok (.iload 4, 2) := by decide +kernel
theorem dX4_noted_121 : decode cX4_noted 121 = .ok (.iaload, 1) := by decide +kernel
theorem dX4_noted_122 : decode cX4_noted 122 = .ok (.goto 4, 3) := by decide +kernel
theorem dX4_noted_125 : decode cX4_noted 125 = .ok (.iconst (-1), 1) := by decide +kernel
theorem dX4_noted_126 : decode cX4_noted 126 = .ok (.ireturn, 1) := by decide +kernel
theorem dX4_noted_127 : decode cX4_noted 127 = .ok (.bipush (-3), 2) := by decide +kernel
theorem dX4_noted_129 : decode cX4_noted 129 = .ok (.ireturn, 1) := by decide +kernel
theorem dX4_sent_0 : decode cX4_sent 0 = .ok (.iconst 0, 1) := by decide +kernel
theorem dX4_sent_1 : decode cX4_sent 1 = .ok (.istore_n 2, 1) := by decide +kernel
theorem dX4_sent_2 : decode cX4_sent 2 = .ok (.iload_n 2, 1) := by decide +kernel
theorem dX4_sent_3 : decode cX4_sent 3 = .ok (.bipush 6, 2) := by decide +kernel
theorem dX4_sent_5 : decode cX4_sent 5 = .ok (.if_icmp .ge 79, 3) := by decide +kernel
theorem dX4_sent_8 : decode cX4_sent 8 = .ok (.iconst 0, 1) := by decide +kernel
theorem dX4_sent_9 : decode cX4_sent 9 = .ok (.istore_n 3, 1) := by decide +kernel
theorem dX4_sent_10 : decode cX4_sent 10 = .ok (.iconst 0, 1) := by decide +kernel
theorem dX4_sent_11 : decode cX4_sent 11 = .ok (.istore 4, 2) := by decide +kernel
theorem dX4_sent_13 : decode cX4_sent 13 = .ok (.iload 4, 2) := by decide +kernel
theorem dX4_sent_15 : decode cX4_sent 15 = .ok (.bipush 6, 2) := by decide +kernel
theorem dX4_sent_17 : decode cX4_sent 17 = .ok (.if_icmp .ge 44, 3) := by decide +kernel
theorem dX4_sent_20 : decode cX4_sent 20 = .ok (.iload_n 3, 1) := by decide +kernel
theorem dX4_sent_21 : decode cX4_sent 21 = .ok (.aload_n 0, 1) := by decide +kernel
theorem dX4_sent_22 : decode cX4_sent 22 = .ok (.getfield 19, 3) := by decide +kernel
theorem dX4_sent_25 : decode cX4_sent 25 = .ok (.iload 4, 2) := by decide +kernel
theorem dX4_sent_27 : decode cX4_sent 27 = .ok (.iaload, 1) := by decide +kernel
theorem dX4_sent_28 : decode cX4_sent 28 = .ok (.iconst 3, 1) := by decide +kernel
theorem dX4_sent_29 : decode cX4_sent 29 = .ok (.if_icmp .ne 23, 3) := by decide +kernel
theorem dX4_sent_32 : decode cX4_sent 32 = .ok (.aload_n 0, 1) := by decide +kernel
theorem dX4_sent_33 : decode cX4_sent 33 = .ok (.getfield 50, 3) := by decide +kernel
theorem dX4_sent_36 : decode cX4_sent 36 = .ok (.iload 4, 2) := by decide +kernel
theorem dX4_sent_38 : decode cX4_sent 38 = .ok (.iaload, 1) := by decide +kernel
theorem dX4_sent_39 : decode cX4_sent 39 = .ok (.aload_n 0, 1) := by decide +kernel
theorem dX4_sent_40 : decode cX4_sent 40 = .ok (.getfield 50, 3) := by decide +kernel
theorem dX4_sent_43 : decode cX4_sent 43 = .ok (.iload_n 2, 1) := by decide +kernel
theorem dX4_sent_44 : decode cX4_sent 44 = .ok (.iaload, 1) := by decide +kernel
theorem dX4_sent_45 : decode cX4_sent 45 = .ok (.if_icmp .ge 7, 3) := by decide +kernel
theorem dX4_sent_48 : decode cX4_sent 48 = .ok (.iconst 1, 1) := by decide +kernel
theorem dX4_sent_49 : decode cX4_sent 49 = .ok (.goto 4, 3) := by decide +kernel
theorem dX4_sent_52 : decode cX4_sent 52 = .ok (.iconst 0, 1) := by decide +kernel
theorem dX4_sent_53 : decode cX4_sent 53 = .ok (.iadd, 1) := by decide +kernel
theorem dX4_sent_54 : decode cX4_sent 54 = .ok (.istore_n 3, 1) := by decide +kernel
theorem dX4_sent_55 : decode cX4_sent 55 = .ok (.iinc 4 1, 3) := by decide +kernel
theorem dX4_sent_58 : decode cX4_sent 58 = .ok (.goto (-45), 3) := by decide +kernel
theorem dX4_sent_61 : decode cX4_sent 61 = .ok (.aload_n 0, 1) := by decide +kernel
theorem dX4_sent_62 : decode cX4_sent 62 = .ok (.getfield 19, 3) := by decide +kernel
theorem dX4_sent_65 : decode cX4_sent 65 = .ok (.iload_n 2, 1) := by decide +kernel
theorem dX4_sent_66 : decode cX4_sent 66 = .ok (.iaload, 1) := by decide +kernel
theorem dX4_sent_67 : decode cX4_sent 67 = .ok (.iconst 3, 1) := by decide +kernel
theorem dX4_sent_68 : decode cX4_sent 68 = .ok (.if_icmp .ne 10, 3) := by decide +kernel
theorem dX4_sent_71 : decode cX4_sent 71 = .ok (.iload_n 3, 1) := by decide +kernel
theorem dX4_sent_72 : decode cX4_sent 72 = .ok (.iload_n 1, 1) := by decide +kernel
theorem dX4_sent_73 : decode cX4_sent 73 = .ok (.if_icmp .ne 5, 3) := by decide +kernel
theorem dX4_sent_76 : decode cX4_sent 76 = .ok (.iload_n 2, 1) := by decide +kernel
theorem dX4_sent_77 : decode cX4_sent 77 = .ok (.ireturn, 1) := by decide +kernel
theorem dX4_sent_78 : decode cX4_sent 78 = .ok (.iinc 2 1, 3) := by decide +kernel
theorem dX4_sent_81 : decode cX4_sent 81 = .ok (.goto (-79), 3) := by decide +kernel
theorem dX4_sent_84 : decode cX4_sent 84 = .ok (.bipush (-2), 2) := by decide +kernel
theorem dX4_sent_86 : decode cX4_sent 86 = .ok (.ireturn, 1) := by decide +kernel
theorem dX4_ballot_0 : decode cX4_ballot 0 = .ok (.iload_n 1, 1) := by decide +kernel
theorem dX4_ballot_1 : decode cX4_ballot 1 = .ok (.i2l, 1) := by decide +kernel
theorem dX4_ballot_2 : decode cX4_ballot 2 = .ok (.lconst 0, 1) := by decide +kernel
theorem dX4_ballot_3 : decode cX4_ballot 3 = .ok (.lconst 1, 1) := by decide +kernel
theorem dX4_ballot_4 : decode cX4_ballot 4 = .ok (.invokestatic 71, 3) := by decide +kernel
theorem dX4_ballot_7 : decode cX4_ballot 7 = .ok (.ifCond .eq 10, 3) := by decide +kernel
theorem dX4_ballot_10 : decode cX4_ballot 10 = .ok (.iload_n 2, 1) := by decide +kernel
theorem dX4_ballot_11 : decode cX4_ballot 11 = .ok (.invokestatic 201, 3) := by decide +kernel
theorem dX4_ballot_14 : decode cX4_ballot 14 = .ok (.ifCond .ne 6, 3) := by decide +kernel
theorem dX4_ballot_17 : decode cX4_ballot 17 = .ok (.bipush (-2), 2) := by decide +kernel
theorem dX4_ballot_19 : decode cX4_ballot 19 = .ok (.ireturn, 1) := by decide +kernel
theorem dX4_ballot_20 : decode cX4_ballot 20 = .ok (.aload_n 0, 1) := by decide +kernel
theorem dX4_ballot_21 : decode cX4_ballot 21 = .ok (.getfield 19, 3) := by decide +kernel
theorem dX4_ballot_24 : decode cX4_ballot 24 = .ok (.iload_n 2, 1) := by decide +kernel
theorem dX4_ballot_25 : decode cX4_ballot 25 = .ok (.iaload, 1) := by decide +kernel
theorem dX4_ballot_26 : decode cX4_ballot 26 = .ok (.iconst 3, 1) := by decide +kernel
theorem dX4_ballot_27 : decode cX4_ballot 27 = .ok (.if_icmp .ne 19, 3) := by decide +kernel
theorem dX4_ballot_30 : decode cX4_ballot 30 = .ok (.aload_n 0, 1) := by decide +kernel
theorem dX4_ballot_31 : decode cX4_ballot 31 = .ok (.getfield 53, 3) := by decide +kernel
theorem dX4_ballot_34 : decode cX4_ballot 34 = .ok (.bipush 6, 2) := by decide +kernel
theorem dX4_ballot_36 : decode cX4_ballot 36 = .ok (.iload_n 1, 1) := by decide +kernel
theorem dX4_ballot_37 : decode cX4_ballot 37 = .ok (.imul, 1) := by decide +kernel
theorem dX4_ballot_38 : decode cX4_ballot 38 = .ok (.iload_n 2, 1) := by decide +kernel
theorem dX4_ballot_39 : decode cX4_ballot 39 = .ok (.iadd, 1) := by decide +kernel
theorem dX4_ballot_40 : decode cX4_ballot 40 = .ok (.iaload, 1) := by decide +kernel
theorem dX4_ballot_41 : decode cX4_ballot 41 = .ok (.iconst 1, 1) := by decide +kernel
theorem dX4_ballot_42 : decode cX4_ballot 42 = .ok (.isub, 1) := by decide +kernel
theorem dX4_ballot_43 : decode cX4_ballot 43 = .ok (.goto 5, 3) := by decide +kernel
theorem dX4_ballot_46 : decode cX4_ballot 46 = .ok (.bipush (-4), 2) := by decide +kernel
theorem dX4_ballot_48 : decode cX4_ballot 48 = .ok (.ireturn, 1) := by decide +kernel
theorem dX4_isCommit_0 : decode cX4_isCommit 0 = .ok (.iload_n 1, 1) := by decide +kernel
theorem dX4_isCommit_1 : decode cX4_isCommit 1 = .ok (.i2l, 1) := by decide +kernel
theorem dX4_isCommit_2 : decode cX4_isCommit 2 = .ok (.lconst 1, 1) := by decide +kernel
theorem dX4_isCommit_3 : decode cX4_isCommit 3 = .ok (.aload_n 0, 1) := by decide +kernel
theorem dX4_isCommit_4 : decode cX4_isCommit 4 = .ok (.getfield 81, 3) := by decide +kernel
theorem dX4_isCommit_7 : decode cX4_isCommit 7 = .ok (.i2l, 1) := by decide +kernel
theorem dX4_isCommit_8 : decode cX4_isCommit 8 = .ok (.invokestatic 71, 3) := by decide +kernel
theorem dX4_isCommit_11 : decode cX4_isCommit 11 = .ok (.ireturn, 1) := by decide +kernel
theorem dX4_log_0 : decode cX4_log 0 = .ok (.aload_n 0, 1) := by decide +kernel
theorem dX4_log_1 : decode cX4_log 1 = .ok (.iload_n 1, 1) := by decide +kernel
theorem dX4_log_2 : decode cX4_log 2 = .ok (.invokevirtual 241, 3) := by decide +kernel
theorem dX4_log_5 : decode cX4_log 5 = .ok (.ifCond .ne 6, 3) := by decide +kernel
theorem dX4_log_8 : decode cX4_log 8 = .ok (.bipush (-2), 2) := by decide +kernel
theorem dX4_log_10 : decode cX4_log 10 = .ok (.ireturn, 1) := by decide +kernel
theorem dX4_log_11 : decode cX4_log 11 = .ok (.iload_n 2, 1) := by decide +kernel
theorem dX4_log_12 : decode cX4_log 12 = .ok (.i2l, 1) := by decide +kernel
theorem dX4_log_13 : decode cX4_log 13 = .ok (.lconst 0, 1) := by decide +kernel
theorem dX4_log_14 : decode cX4_log 14 = .ok (.ldc2_w 75, 3) := by decide +kernel
theorem dX4_log_17 : decode cX4_log 17 = .ok (.invokestatic 71, 3) := by decide +kernel
theorem dX4_log_20 : decode cX4_log 20 = .ok (.ifCond .eq 19, 3) := by decide +kernel
theorem dX4_log_23 : decode cX4_log 23 = .ok (.aload_n 0, 1) := by decide +kernel
theorem dX4_log_24 : decode cX4_log 24 = .ok (.getfield 16, 3) := by decide +kernel
theorem dX4_log_27 : decode cX4_log 27 = .ok (.bipush 22, 2) := by decide +kernel
theorem dX4_log_29 : decode cX4_log 29 = .ok (.iload_n 1, 1) := by decide +kernel
theorem dX4_log_30 : decode cX4_log 30 = .ok (.iconst 1, 1) := by decide +kernel
theorem dX4_log_31 : decode cX4_log 31 = .ok (.isub, 1) := by decide +kernel
theorem dX4_log_32 : decode cX4_log 32 = .ok (.imul, 1) := by decide +kernel
theorem dX4_log_33 : decode cX4_log 33 = .ok (.iload_n 2, 1) := by decide +kernel
theorem dX4_log_34 : decode cX4_log 34 = .ok (.iadd, 1) := by decide +kernel
theorem dX4_log_35 : decode cX4_log 35 = .ok (.iaload, 1) := by decide +kernel
theorem dX4_log_36 : decode cX4_log 36 = .ok (.goto 5, 3) := by decide +kernel
theorem dX4_log_39 : decode cX4_log 39 = .ok (.bipush (-3), 2) := by decide +kernel
theorem dX4_log_41 : decode cX4_log 41 = .ok (.ireturn, 1) := by decide +kernel
theorem dX4_logged_0 : decode cX4_logged 0 = .ok (.aload_n 0, 1) := by decide +kernel
theorem dX4_logged_1 : decode cX4_logged 1 = .ok (.iload_n 1, 1) := by decide +kernel
theorem dX4_logged_2 : decode cX4_logged 2 = .ok (.invokevirtual 241, 3) := by decide +kernel
theorem dX4_logged_5 : decode cX4_logged 5 = .ok (.ifCond .eq 10, 3) := by decide +kernel
theorem dX4_logged_8 : decode cX4_logged 8 = .ok (.iload_n 2, 1) := by decide +kernel
theorem dX4_logged_9 : decode cX4_logged 9 = .ok (.invokestatic 180, 3) := by decide +kernel
theorem dX4_logged_12 : decode cX4_logged 12 = .ok (.ifCond .ne 6, 3) := by decide +kernel
theorem dX4_logged_15 : decode cX4_logged 15 = .ok (.bipush (-2), 2) := by decide +kernel
theorem dX4_logged_17 : decode cX4_logged 17 = .ok (.ireturn, 1) := by decide +kernel
theorem dX4_logged_18 : decode cX4_logged 18 = .ok (.bipush 22, 2) := by decide +kernel
theorem dX4_logged_20 : decode cX4_logged 20 = .ok (.iload_n 1, 1) := by decide +kernel
theorem dX4_logged_21 : decode cX4_logged 21 = .ok (.iconst 1, 1) := by decide +kernel
theorem dX4_logged_22 : decode cX4_logged 22 = .ok (.isub, 1) := by decide +kernel
theorem dX4_logged_23 : decode cX4_logged 23 = .ok (.imul, 1) := by decide +kernel
theorem dX4_logged_24 : decode cX4_logged 24 = .ok (.iload_n 2, 1) := by decide +kernel
theorem dX4_logged_25 : decode cX4_logged 25 = .ok (.iadd, 1) := by decide +kernel
theorem dX4_logged_26 : decode cX4_logged 26 = .ok (.istore 4, 2) := by decide +kernel
theorem dX4_logged_28 : decode cX4_logged 28 = .ok (.iload_n 3, 1) := by decide +kernel
theorem dX4_logged_29 : decode cX4_logged 29 = .ok (.ifCond .ne 16, 3) := by decide +kernel
theorem dX4_logged_32 : decode cX4_logged 32 = .ok (.aload_n 0, 1) := by decide +kernel
theorem dX4_logged_33 : decode cX4_logged 33 = .ok (.getfield 16, 3) := by decide +kernel
theorem dX4_logged_36 : decode cX4_logged 36 = .ok (.iload 4, 2) := by decide +kernel
theorem dX4_logged_38 : decode cX4_logged 38 = .ok (.bipush 6, 2) := by decide +kernel
theorem dX4_logged_40 : decode cX4_logged 40 = .ok (.iadd, 1) := by decide +kernel
theorem dX4_logged_41 : decode cX4_logged 41 = .ok (.iaload, 1) := by decide +kernel
theorem dX4_logged_42 : decode cX4_logged 42 = .ok (.goto 23, 3) := by decide +kernel
theorem dX4_logged_45 : decode cX4_logged 45 = .ok (.iload_n 3, 1) := by decide +kernel
theorem dX4_logged_46 : decode cX4_logged 46 = .ok (.iconst 1, 1) := by decide +kernel
theorem dX4_logged_47 : decode cX4_logged 47 = .ok (.if_icmp .ne 16, 3) := by decide +kernel
theorem dX4_logged_50 : decode cX4_logged 50 = .ok (.aload_n 0, 1) := by decide +kernel
theorem dX4_logged_51 : decode cX4_logged 51 = .ok (.getfield 16, 3) := by decide +kernel
theorem dX4_logged_54 : decode cX4_logged 54 = .ok (.iload 4, 2) := by decide +kernel
theorem dX4_logged_56 : decode cX4_logged 56 = .ok (.bipush 14, 2) := by decide +kernel
theorem dX4_logged_58 : decode cX4_logged 58 = .ok (.iadd, 1) := by decide +kernel
theorem dX4_logged_59 : decode cX4_logged 59 = .ok (.iaload, 1) := by decide +kernel
theorem dX4_logged_60 : decode cX4_logged 60 = .ok (.goto 5, 3) := by decide +kernel
theorem dX4_logged_63 : decode cX4_logged 63 = .ok (.bipush (-3), 2) := by decide +kernel
theorem dX4_logged_65 : decode cX4_logged 65 = .ok (.ireturn, 1) := by decide +kernel
theorem dX4_behind_0 : decode cX4_behind 0 = .ok (.aload_n 0, 1) := by decide +kernel
theorem dX4_behind_1 : decode cX4_behind 1 = .ok (.iload_n 1, 1) := by decide +kernel
theorem dX4_behind_2 : decode cX4_behind 2 = .ok (.invokevirtual 241, 3) := by decide +kernel
theorem dX4_behind_5 : decode cX4_behind 5 = .ok (.ifCond .eq 16, 3) := by decide +kernel
theorem dX4_behind_8 : decode cX4_behind 8 = .ok (.aload_n 0, 1) := by decide +kernel
theorem dX4_behind_9 : decode cX4_behind 9 = .ok (.iload_n 2, 1) := by decide +kernel
theorem dX4_behind_10 : decode cX4_behind 10 = .ok (.invokevirtual 241, 3) := by decide +kernel
theorem dX4_behind_13 : decode cX4_behind 13 = .ok (.ifCond .eq 8, 3) := by decide +kernel
theorem dX4_behind_16 : decode cX4_behind 16 = .ok (.iload_n 2, 1) := by decide +kernel
theorem dX4_behind_17 : decode cX4_behind 17 = .ok (.iload_n 1, 1) := by decide +kernel
theorem dX4_behind_18 : decode cX4_behind 18 = .ok (.if_icmp .lt 6, 3) := by decide +kernel
theorem dX4_behind_21 : decode cX4_behind 21 = .ok (.bipush (-2), 2) := by decide +kernel
theorem dX4_behind_23 : decode cX4_behind 23 = .ok (.ireturn, 1) := by decide +kernel
theorem dX4_behind_24 : decode cX4_behind 24 = .ok (.bipush 22, 2) := by decide +kernel
theorem dX4_behind_26 : decode cX4_behind 26 = .ok (.iload_n 1, 1) := by decide +kernel
theorem dX4_behind_27 : decode cX4_behind 27 = .ok (.iconst 1, 1) := by decide +kernel
theorem dX4_behind_28 : decode cX4_behind 28 = .ok (.isub, 1) := by decide +kernel
theorem dX4_behind_29 : decode cX4_behind 29 = .ok (.imul, 1) := by decide +kernel
theorem dX4_behind_30 : decode cX4_behind 30 = .ok (.istore_n 3, 1) := by decide +kernel
theorem dX4_behind_31 : decode cX4_behind 31 = .ok (.bipush 22, 2) := by decide +kernel
theorem dX4_behind_33 : decode cX4_behind 33 = .ok (.iload_n 2, 1) := by decide +kernel
theorem dX4_behind_34 : decode cX4_behind 34 = .ok (.iconst 1, 1) := by decide +kernel
theorem dX4_behind_35 : decode cX4_behind 35 = .ok (.isub, 1) := by decide +kernel
theorem dX4_behind_36 : decode cX4_behind 36 = .ok (.imul, 1) := by decide +kernel
theorem dX4_behind_37 : decode cX4_behind 37 = .ok (.istore 4, 2) := by decide +kernel
theorem dX4_behind_39 : decode cX4_behind 39 = .ok (.iconst 0, 1) := by decide +kernel
theorem dX4_behind_40 : decode cX4_behind 40 = .ok (.istore 5, 2) := by decide +kernel
theorem dX4_behind_42 : decode cX4_behind 42 = .ok (.iconst 0, 1) := by decide +kernel
theorem dX4_behind_43 : decode cX4_behind 43 = .ok (.istore 6, 2) := by decide +kernel
theorem dX4_behind_45 : decode cX4_behind 45 = .ok (.iload 6, 2) := by decide +kernel
theorem dX4_behind_47 : decode cX4_behind 47 = .ok (.bipush 8, 2) := by decide +kernel
theorem dX4_behind_49 : decode cX4_behind 49 = .ok (.if_icmp .ge 35, 3) := by decide +kernel
theorem dX4_behind_52 : decode cX4_behind 52 = .ok (.iload 5, 2) := by decide +kernel
theorem dX4_behind_54 : decode cX4_behind 54 = .ok (.aload_n 0, 1) := by decide +kernel
theorem dX4_behind_55 : decode cX4_behind 55 = .ok (.getfield 16, 3) := by decide +kernel
theorem dX4_behind_58 : decode cX4_behind 58 = .ok (.iload_n 3, 1) := by decide +kernel
theorem dX4_behind_59 : decode cX4_behind 59 = .ok (.bipush 6, 2) := by decide +kernel
theorem dX4_behind_61 : decode cX4_behind 61 = .ok (.iadd, 1) := by decide +kernel
theorem dX4_behind_62 : decode cX4_behind 62 = .ok (.iload 6, 2) := by decide +kernel
theorem dX4_behind_64 : decode cX4_behind 64 = .ok (.iadd, 1) := by decide +kernel
theorem dX4_behind_65 : decode cX4_behind 65 = .ok (.iaload, 1) := by decide +kernel
theorem dX4_behind_66 : decode cX4_behind 66 = .ok (.iload_n 2, 1) := by decide +kernel
theorem dX4_behind_67 : decode cX4_behind 67 = .ok (.if_icmp .ne 7, 3) := by decide +kernel
theorem dX4_behind_70 : decode cX4_behind 70 = .ok (.iconst 1, 1) := by decide +kernel
theorem dX4_behind_71 : decode cX4_behind 71 = .ok (.goto 4, 3) := by decide +kernel
theorem dX4_behind_74 : decode cX4_behind 74 = .ok (.iconst 0, 1) := by decide +kernel
theorem dX4_behind_75 : decode cX4_behind 75 = .ok (.ior, 1) := by decide +kernel
theorem dX4_behind_76 : decode cX4_behind 76 = .ok (.istore 5, 2) := by decide +kernel
theorem dX4_behind_78 : decode cX4_behind 78 = .ok (.iinc 6 1, 3) := by decide +kernel
theorem dX4_behind_81 : decode cX4_behind 81 = .ok (.goto (-36), 3) := by decide +kernel
theorem dX4_behind_84 : decode cX4_behind 84 = .ok (.iload 5, 2) := by decide +kernel
theorem dX4_behind_86 : decode cX4_behind 86 = .ok (.aload_n 0, 1) := by decide +kernel
theorem dX4_behind_87 : decode cX4_behind 87 = .ok (.getfield 16, 3) := by decide +kernel
theorem dX4_behind_90 : decode cX4_behind 90 = .ok (.iload_n 3, 1) := by decide +kernel
theorem dX4_behind_91 : decode cX4_behind 91 = .ok (.iconst 4, 1) := by decide +kernel
theorem dX4_behind_92 : decode cX4_behind 92 = .ok (.iadd, 1) := by decide +kernel
theorem dX4_behind_93 : decode cX4_behind 93 = .ok (.iaload, 1) := by decide +kernel
theorem dX4_behind_94 : decode cX4_behind 94 = .ok (.aload_n 0, 1) := by decide +kernel
theorem dX4_behind_95 : decode cX4_behind 95 = .ok (.getfield 16, 3) := by decide +kernel
theorem dX4_behind_98 : decode cX4_behind 98 = .ok (.iload 4, 2) := by decide +kernel
theorem dX4_behind_100 : decode cX4_behind 100 = .ok (.iconst 4, 1) := by decide +kernel
theorem dX4_behind_101 : decode cX4_behind 101 = .ok (.iadd, 1) := by decide +kernel
theorem dX4_behind_102 : decode cX4_behind 102 = .ok (.iaload, 1) := by decide +kernel
theorem dX4_behind_103 : decode cX4_behind 103 = .ok (.iand, 1) := by decide +kernel
theorem dX4_behind_104 : decode cX4_behind 104 = .ok (.ifCond .eq 7, 3) := by decide +kernel
theorem dX4_behind_107 : decode cX4_behind 107 = .ok (.iconst 2, 1) := by decide +kernel
theorem dX4_behind_108 : decode cX4_behind 108 = .ok (.goto 4, 3) := by decide +kernel
theorem dX4_behind_111 : decode cX4_behind 111 = .ok (.iconst 0, 1) := by decide +kernel
theorem dX4_behind_112 : decode cX4_behind 112 = .ok (.ior, 1) := by decide +kernel
theorem dX4_behind_113 : decode cX4_behind 113 = .ok (.istore 5, 2) := by decide +kernel
theorem dX4_behind_115 : decode cX4_behind 115 = .ok (.iload 5, 2) := by decide +kernel
theorem dX4_behind_117 : decode cX4_behind 117 = .ok (.aload_n 0, 1) := by decide +kernel
theorem dX4_behind_118 : decode cX4_behind 118 = .ok (.getfield 16, 3) := by decide +kernel
theorem dX4_behind_121 : decode cX4_behind 121 = .ok (.iload_n 3, 1) := by decide +kernel
theorem dX4_behind_122 : decode cX4_behind 122 = .ok (.iconst 4, 1) := by decide +kernel
theorem dX4_behind_123 : decode cX4_behind 123 = .ok (.iadd, 1) := by decide +kernel
theorem dX4_behind_124 : decode cX4_behind 124 = .ok (.iaload, 1) := by decide +kernel
theorem dX4_behind_125 : decode cX4_behind 125 = .ok (.aload_n 0, 1) := by decide +kernel
theorem dX4_behind_126 : decode cX4_behind 126 = .ok (.getfield 16, 3) := by decide +kernel
theorem dX4_behind_129 : decode cX4_behind 129 = .ok (.iload 4, 2) := by decide +kernel
theorem dX4_behind_131 : decode cX4_behind 131 = .ok (.iconst 3, 1) := by decide +kernel
theorem dX4_behind_132 : decode cX4_behind 132 = .ok (.iadd, 1) := by decide +kernel
theorem dX4_behind_133 : decode cX4_behind 133 = .ok (.iaload, 1) := by decide +kernel
theorem dX4_behind_134 : decode cX4_behind 134 = .ok (.iand, 1) := by decide +kernel
theorem dX4_behind_135 : decode cX4_behind 135 = .ok (.ifCond .eq 7, 3) := by decide +kernel
theorem dX4_behind_138 : decode cX4_behind 138 = .ok (.iconst 4, 1) := by decide +kernel
theorem dX4_behind_139 : decode cX4_behind 139 = .ok (.goto 4, 3) := by decide +kernel
theorem dX4_behind_142 : decode cX4_behind 142 = .ok (.iconst 0, 1) := by decide +kernel
theorem dX4_behind_143 : decode cX4_behind 143 = .ok (.ior, 1) := by decide +kernel
theorem dX4_behind_144 : decode cX4_behind 144 = .ok (.ireturn, 1) := by decide +kernel
theorem dX4_allValues_0 : decode cX4_allValues 0 = .ok (.iconst 0, 1) := by decide +kernel
theorem dX4_allValues_1 : decode cX4_allValues 1 = .ok (.istore_n 1, 1) := by decide +kernel
theorem dX4_allValues_2 : decode cX4_allValues 2 = .ok (.iconst 0, 1) := by decide +kernel
theorem dX4_allValues_3 : decode cX4_allValues 3 = .ok (.istore_n 2, 1) := by decide +kernel
theorem dX4_allValues_4 : decode cX4_allValues 4 = .ok (.iload_n 2, 1) := by decide +kernel
theorem dX4_allValues_5 : decode cX4_allValues 5 = .ok (.bipush 8, 2) := by decide +kernel
theorem dX4_allValues_7 : decode cX4_allValues 7 = .ok (.if_icmp .ge 18, 3) := by decide +kernel
theorem dX4_allValues_10 : decode cX4_allValues 10 = .ok (.iload_n 1, 1) := by decide +kernel
theorem dX4_allValues_11 : decode cX4_allValues 11 = .ok (.aload_n 0, 1) := by decide +kernel
theorem dX4_allValues_12 : decode cX4_allValues 12 = .ok (.getfield 7, 3) := by decide +kernel
theorem dX4_allValues_15 : decode cX4_allValues 15 = .ok (.iload_n 2, 1) := by decide +kernel
theorem dX4_allValues_16 : decode cX4_allValues 16 = .ok (.iaload, 1) := by decide +kernel
theorem dX4_allValues_17 : decode cX4_allValues 17 = .ok (.iadd, 1) := by decide +kernel
theorem dX4_allValues_18 : decode cX4_allValues 18 = .ok (.istore_n 1, 1) := by decide +kernel
theorem dX4_allValues_19 : decode cX4_allValues 19 = .ok (.iinc 2 1, 3) := by decide +kernel
theorem dX4_allValues_22 : decode cX4_allValues 22 = .ok (.goto (-18), 3) := by decide +kernel
theorem dX4_allValues_25 : decode cX4_allValues 25 = .ok (.iload_n 1, 1) := by decide +kernel
theorem dX4_allValues_26 : decode cX4_allValues 26 = .ok (.ireturn, 1) := by decide +kernel
theorem dX4_count_0 : decode cX4_count 0 = .ok (.iload_n 1, 1) := by decide +kernel
theorem dX4_count_1 : decode cX4_count 1 = .ok (.tableswitch 117 0 10 #[59, 64, 70, 76, 82, 87, 92, 97, 102, 107, 112], 59) := by decide +kernel
theorem dX4_count_60 : decode cX4_count 60 = .ok (.aload_n 0, 1) := by decide +kernel
theorem dX4_count_61 : decode cX4_count 61 = .ok (.getfield 81, 3) := by decide +kernel
theorem dX4_count_64 : decode cX4_count 64 = .ok (.ireturn, 1) := by decide +kernel
theorem dX4_count_65 : decode cX4_count 65 = .ok (.aload_n 0, 1) := by decide +kernel
theorem dX4_count_66 : decode cX4_count 66 = .ok (.iconst 1, 1) := by decide +kernel
theorem dX4_count_67 : decode cX4_count 67 = .ok (.invokevirtual 189, 3) := by decide +kernel
theorem dX4_count_70 : decode cX4_count 70 = .ok (.ireturn, 1) := by decide +kernel
theorem dX4_count_71 : decode cX4_count 71 = .ok (.aload_n 0, 1) := by decide +kernel
theorem dX4_count_72 : decode cX4_count 72 = .ok (.iconst 3, 1) := by decide +kernel
theorem dX4_count_73 : decode cX4_count 73 = .ok (.invokevirtual 189, 3) := by decide +kernel
theorem dX4_count_76 : decode cX4_count 76 = .ok (.ireturn, 1) := by decide +kernel
theorem dX4_count_77 : decode cX4_count 77 = .ok (.aload_n 0, 1) := by decide +kernel
theorem dX4_count_78 : decode cX4_count 78 = .ok (.iconst 2, 1) := by decide +kernel
theorem dX4_count_79 : decode cX4_count 79 = .ok (.invokevirtual 189, 3) := by decide +kernel
theorem dX4_count_82 : decode cX4_count 82 = .ok (.ireturn, 1) := by decide +kernel
theorem dX4_count_83 : decode cX4_count 83 = .ok (.aload_n 0, 1) := by decide +kernel
theorem dX4_count_84 : decode cX4_count 84 = .ok (.getfield 90, 3) := by decide +kernel
theorem dX4_count_87 : decode cX4_count 87 = .ok (.ireturn, 1) := by decide +kernel
theorem dX4_count_88 : decode cX4_count 88 = .ok (.aload_n 0, 1) := by decide +kernel
theorem dX4_count_89 : decode cX4_count 89 = .ok (.getfield 93, 3) := by decide +kernel
theorem dX4_count_92 : decode cX4_count 92 = .ok (.ireturn, 1) := by decide +kernel
theorem dX4_count_93 : decode cX4_count 93 = .ok (.aload_n 0, 1) := by decide +kernel
theorem dX4_count_94 : decode cX4_count 94 = .ok (.getfield 96, 3) := by decide +kernel
theorem dX4_count_97 : decode cX4_count 97 = .ok (.ireturn, 1) := by decide +kernel
theorem dX4_count_98 : decode cX4_count 98 = .ok (.aload_n 0, 1) := by decide +kernel
theorem dX4_count_99 : decode cX4_count 99 = .ok (.getfield 87, 3) := by decide +kernel
theorem dX4_count_102 : decode cX4_count 102 = .ok (.ireturn, 1) := by decide +kernel
theorem dX4_count_103 : decode cX4_count 103 = .ok (.aload_n 0, 1) := by decide +kernel
end
section
theorem dX4_count_104 : decode cX4_count 104 = .ok (.getfield 56, 3) := by decide +kernel
theorem dX4_count_107 : decode cX4_count 107 = .ok (.ireturn, 1) := by decide +kernel
theorem dX4_count_108 : decode cX4_count 108 = .ok (.aload_n 0, 1) := by decide +kernel
theorem dX4_count_109 : decode cX4_count 109 = .ok (.getfield 101, 3) := by decide +kernel
theorem dX4_count_112 : decode cX4_count 112 = .ok (.ireturn, 1) := by decide +kernel
theorem dX4_count_113 : decode cX4_count 113 = .ok (.aload_n 0, 1) := by decide +kernel
theorem dX4_count_114 : decode cX4_count 114 = .ok (.invokevirtual 244, 3) := by decide +kernel
theorem dX4_count_117 : decode cX4_count 117 = .ok (.ireturn, 1) := by decide +kernel
theorem dX4_count_118 : decode cX4_count 118 = .ok (.bipush (-3), 2) := by decide +kernel
theorem dX4_count_120 : decode cX4_count 120 = .ok (.ireturn, 1) := by decide +kernel
theorem dJ6_bitCount_0f7a4_0 : decode cJ6_bitCount_0f7a4 0 = .ok (.iload_n 0, 1) := by decide +kernel
theorem dJ6_bitCount_0f7a4_1 : decode cJ6_bitCount_0f7a4 1 = .ok (.iload_n 0, 1) := by decide +kernel
theorem dJ6_bitCount_0f7a4_2 : decode cJ6_bitCount_0f7a4 2 = .ok (.iconst 1, 1) := by decide +kernel
theorem dJ6_bitCount_0f7a4_3 : decode cJ6_bitCount_0f7a4 3 = .ok (.iushr, 1) := by decide +kernel
theorem dJ6_bitCount_0f7a4_4 : decode cJ6_bitCount_0f7a4 4 = .ok (.ldc_w 265, 3) := by decide +kernel
theorem dJ6_bitCount_0f7a4_7 : decode cJ6_bitCount_0f7a4 7 = .ok (.iand, 1) := by decide +kernel
theorem dJ6_bitCount_0f7a4_8 : decode cJ6_bitCount_0f7a4 8 = .ok (.isub, 1) := by decide +kernel
theorem dJ6_bitCount_0f7a4_9 : decode cJ6_bitCount_0f7a4 9 = .ok (.istore_n 0, 1) := by decide +kernel
theorem dJ6_bitCount_0f7a4_10 : decode cJ6_bitCount_0f7a4 10 = .ok (.iload_n 0, 1) := by decide +kernel
theorem dJ6_bitCount_0f7a4_11 : decode cJ6_bitCount_0f7a4 11 = .ok (.ldc_w 266, 3) := by decide +kernel
theorem dJ6_bitCount_0f7a4_14 : decode cJ6_bitCount_0f7a4 14 = .ok (.iand, 1) := by decide +kernel
theorem dJ6_bitCount_0f7a4_15 : decode cJ6_bitCount_0f7a4 15 = .ok (.iload_n 0, 1) := by decide +kernel
theorem dJ6_bitCount_0f7a4_16 : decode cJ6_bitCount_0f7a4 16 = .ok (.iconst 2, 1) := by decide +kernel
theorem dJ6_bitCount_0f7a4_17 : decode cJ6_bitCount_0f7a4 17 = .ok (.iushr, 1) := by decide +kernel
theorem dJ6_bitCount_0f7a4_18 : decode cJ6_bitCount_0f7a4 18 = .ok (.ldc_w 266, 3) := by decide +kernel
theorem dJ6_bitCount_0f7a4_21 : decode cJ6_bitCount_0f7a4 21 = .ok (.iand, 1) := by decide +kernel
theorem dJ6_bitCount_0f7a4_22 : decode cJ6_bitCount_0f7a4 22 = .ok (.iadd, 1) := by decide +kernel
theorem dJ6_bitCount_0f7a4_23 : decode cJ6_bitCount_0f7a4 23 = .ok (.istore_n 0, 1) := by decide +kernel
theorem dJ6_bitCount_0f7a4_24 : decode cJ6_bitCount_0f7a4 24 = .ok (.iload_n 0, 1) := by decide +kernel
theorem dJ6_bitCount_0f7a4_25 : decode cJ6_bitCount_0f7a4 25 = .ok (.iload_n 0, 1) := by decide +kernel
theorem dJ6_bitCount_0f7a4_26 : decode cJ6_bitCount_0f7a4 26 = .ok (.iconst 4, 1) := by decide +kernel
theorem dJ6_bitCount_0f7a4_27 : decode cJ6_bitCount_0f7a4 27 = .ok (.iushr, 1) := by decide +kernel
theorem dJ6_bitCount_0f7a4_28 : decode cJ6_bitCount_0f7a4 28 = .ok (.iadd, 1) := by decide +kernel
theorem dJ6_bitCount_0f7a4_29 : decode cJ6_bitCount_0f7a4 29 = .ok (.ldc_w 267, 3) := by decide +kernel
theorem dJ6_bitCount_0f7a4_32 : decode cJ6_bitCount_0f7a4 32 = .ok (.iand, 1) := by decide +kernel
theorem dJ6_bitCount_0f7a4_33 : decode cJ6_bitCount_0f7a4 33 = .ok (.istore_n 0, 1) := by decide +kernel
theorem dJ6_bitCount_0f7a4_34 : decode cJ6_bitCount_0f7a4 34 = .ok (.iload_n 0, 1) := by decide +kernel
theorem dJ6_bitCount_0f7a4_35 : decode cJ6_bitCount_0f7a4 35 = .ok (.iload_n 0, 1) := by decide +kernel
theorem dJ6_bitCount_0f7a4_36 : decode cJ6_bitCount_0f7a4 36 = .ok (.bipush 8, 2) := by decide +kernel
theorem dJ6_bitCount_0f7a4_38 : decode cJ6_bitCount_0f7a4 38 = .ok (.iushr, 1) := by decide +kernel
theorem dJ6_bitCount_0f7a4_39 : decode cJ6_bitCount_0f7a4 39 = .ok (.iadd, 1) := by decide +kernel
theorem dJ6_bitCount_0f7a4_40 : decode cJ6_bitCount_0f7a4 40 = .ok (.istore_n 0, 1) := by decide +kernel
theorem dJ6_bitCount_0f7a4_41 : decode cJ6_bitCount_0f7a4 41 = .ok (.iload_n 0, 1) := by decide +kernel
theorem dJ6_bitCount_0f7a4_42 : decode cJ6_bitCount_0f7a4 42 = .ok (.iload_n 0, 1) := by decide +kernel
theorem dJ6_bitCount_0f7a4_43 : decode cJ6_bitCount_0f7a4 43 = .ok (.bipush 16, 2) := by decide +kernel
theorem dJ6_bitCount_0f7a4_45 : decode cJ6_bitCount_0f7a4 45 = .ok (.iushr, 1) := by decide +kernel
theorem dJ6_bitCount_0f7a4_46 : decode cJ6_bitCount_0f7a4 46 = .ok (.iadd, 1) := by decide +kernel
theorem dJ6_bitCount_0f7a4_47 : decode cJ6_bitCount_0f7a4 47 = .ok (.istore_n 0, 1) := by decide +kernel
theorem dJ6_bitCount_0f7a4_48 : decode cJ6_bitCount_0f7a4 48 = .ok (.iload_n 0, 1) := by decide +kernel
theorem dJ6_bitCount_0f7a4_49 : decode cJ6_bitCount_0f7a4 49 = .ok (.bipush 63, 2) := by decide +kernel
theorem dJ6_bitCount_0f7a4_51 : decode cJ6_bitCount_0f7a4 51 = .ok (.iand, 1) := by decide +kernel
theorem dJ6_bitCount_0f7a4_52 : decode cJ6_bitCount_0f7a4 52 = .ok (.ireturn, 1) := by decide +kernel
theorem dJ0_length_8abf5_0 : decode cJ0_length_8abf5 0 = .ok (.aload_n 0, 1) := by decide +kernel
theorem dJ0_length_8abf5_1 : decode cJ0_length_8abf5 1 = .ok (.getfield 9, 3) := by decide +kernel
theorem dJ0_length_8abf5_4 : decode cJ0_length_8abf5 4 = .ok (.arraylength, 1) := by decide +kernel
theorem dJ0_length_8abf5_5 : decode cJ0_length_8abf5 5 = .ok (.aload_n 0, 1) := by decide +kernel
theorem dJ0_length_8abf5_6 : decode cJ0_length_8abf5 6 = .ok (.invokevirtual 335, 3) := by decide +kernel
theorem dJ0_length_8abf5_9 : decode cJ0_length_8abf5 9 = .ok (.ishr, 1) := by decide +kernel
theorem dJ0_length_8abf5_10 : decode cJ0_length_8abf5 10 = .ok (.ireturn, 1) := by decide +kernel
theorem dJ0_charAt_5068e_0 : decode cJ0_charAt_5068e 0 = .ok (.aload_n 0, 1) := by decide +kernel
theorem dJ0_charAt_5068e_1 : decode cJ0_charAt_5068e 1 = .ok (.invokevirtual 492, 3) := by decide +kernel
theorem dJ0_charAt_5068e_4 : decode cJ0_charAt_5068e 4 = .ok (.ifCond .eq 12, 3) := by decide +kernel
theorem dJ0_charAt_5068e_7 : decode cJ0_charAt_5068e 7 = .ok (.aload_n 0, 1) := by decide +kernel
theorem dJ0_charAt_5068e_8 : decode cJ0_charAt_5068e 8 = .ok (.getfield 9, 3) := by decide +kernel
theorem dJ0_charAt_5068e_11 : decode cJ0_charAt_5068e 11 = .ok (.iload_n 1, 1) := by decide +kernel
theorem dJ0_charAt_5068e_12 : decode cJ0_charAt_5068e 12 = .ok (.invokestatic 495, 3) := by decide +kernel
theorem dJ0_charAt_5068e_15 : decode cJ0_charAt_5068e 15 = .ok (.ireturn, 1) := by decide +kernel
theorem dJ0_charAt_5068e_16 : decode cJ0_charAt_5068e 16 = .ok (.aload_n 0, 1) := by decide +kernel
theorem dJ0_charAt_5068e_17 : decode cJ0_charAt_5068e 17 = .ok (.getfield 9, 3) := by decide +kernel
theorem dJ0_charAt_5068e_20 : decode cJ0_charAt_5068e 20 = .ok (.iload_n 1, 1) := by decide +kernel
theorem dJ0_charAt_5068e_21 : decode cJ0_charAt_5068e 21 = .ok (.invokestatic 498, 3) := by decide +kernel
theorem dJ0_charAt_5068e_24 : decode cJ0_charAt_5068e 24 = .ok (.ireturn, 1) := by decide +kernel
theorem dJ0_coder_7d493_0 : decode cJ0_coder_7d493 0 = .ok (.getstatic 38, 3) := by decide +kernel
theorem dJ0_coder_7d493_3 : decode cJ0_coder_7d493 3 = .ok (.ifCond .eq 10, 3) := by decide +kernel
theorem dJ0_coder_7d493_6 : decode cJ0_coder_7d493 6 = .ok (.aload_n 0, 1) := by decide +kernel
theorem dJ0_coder_7d493_7 : decode cJ0_coder_7d493 7 = .ok (.getfield 15, 3) := by decide +kernel
theorem dJ0_coder_7d493_10 : decode cJ0_coder_7d493 10 = .ok (.goto 4, 3) := by decide +kernel
theorem dJ0_coder_7d493_13 : decode cJ0_coder_7d493 13 = .ok (.iconst 1, 1) := by decide +kernel
theorem dJ0_coder_7d493_14 : decode cJ0_coder_7d493 14 = .ok (.ireturn, 1) := by decide +kernel
theorem dJ0_isLatin1_aae02_0 : decode cJ0_isLatin1_aae02 0 = .ok (.getstatic 38, 3) := by decide +kernel
theorem dJ0_isLatin1_aae02_3 : decode cJ0_isLatin1_aae02 3 = .ok (.ifCond .eq 14, 3) := by decide +kernel
theorem dJ0_isLatin1_aae02_6 : decode cJ0_isLatin1_aae02 6 = .ok (.aload_n 0, 1) := by decide +kernel
theorem dJ0_isLatin1_aae02_7 : decode cJ0_isLatin1_aae02 7 = .ok (.getfield 15, 3) := by decide +kernel
theorem dJ0_isLatin1_aae02_10 : decode cJ0_isLatin1_aae02 10 = .ok (.ifCond .ne 7, 3) := by decide +kernel
theorem dJ0_isLatin1_aae02_13 : decode cJ0_isLatin1_aae02 13 = .ok (.iconst 1, 1) := by decide +kernel
theorem dJ0_isLatin1_aae02_14 : decode cJ0_isLatin1_aae02 14 = .ok (.goto 4, 3) := by decide +kernel
theorem dJ0_isLatin1_aae02_17 : decode cJ0_isLatin1_aae02 17 = .ok (.iconst 0, 1) := by decide +kernel
theorem dJ0_isLatin1_aae02_18 : decode cJ0_isLatin1_aae02 18 = .ok (.ireturn, 1) := by decide +kernel
theorem dJ0_checkIndex_df160_0 : decode cJ0_checkIndex_df160 0 = .ok (.iload_n 0, 1) := by decide +kernel
theorem dJ0_checkIndex_df160_1 : decode cJ0_checkIndex_df160 1 = .ok (.iload_n 1, 1) := by decide +kernel
theorem dJ0_checkIndex_df160_2 : decode cJ0_checkIndex_df160 2 = .ok (.getstatic 1053, 3) := by decide +kernel
theorem dJ0_checkIndex_df160_5 : decode cJ0_checkIndex_df160 5 = .ok (.invokestatic 1059, 3) := by decide +kernel
theorem dJ0_checkIndex_df160_8 : decode cJ0_checkIndex_df160 8 = .ok (.pop, 1) := by decide +kernel
theorem dJ0_checkIndex_df160_9 : decode cJ0_checkIndex_df160 9 = .ok (.return_, 1) := by decide +kernel
theorem dJ1_charAt_3b067_0 : decode cJ1_charAt_3b067 0 = .ok (.iload_n 1, 1) := by decide +kernel
theorem dJ1_charAt_3b067_1 : decode cJ1_charAt_3b067 1 = .ok (.aload_n 0, 1) := by decide +kernel
theorem dJ1_charAt_3b067_2 : decode cJ1_charAt_3b067 2 = .ok (.arraylength, 1) := by decide +kernel
theorem dJ1_charAt_3b067_3 : decode cJ1_charAt_3b067 3 = .ok (.invokestatic 9, 3) := by decide +kernel
theorem dJ1_charAt_3b067_6 : decode cJ1_charAt_3b067 6 = .ok (.aload_n 0, 1) := by decide +kernel
theorem dJ1_charAt_3b067_7 : decode cJ1_charAt_3b067 7 = .ok (.iload_n 1, 1) := by decide +kernel
theorem dJ1_charAt_3b067_8 : decode cJ1_charAt_3b067 8 = .ok (.baload, 1) := by decide +kernel
theorem dJ1_charAt_3b067_9 : decode cJ1_charAt_3b067 9 = .ok (.sipush 255, 3) := by decide +kernel
theorem dJ1_charAt_3b067_12 : decode cJ1_charAt_3b067 12 = .ok (.iand, 1) := by decide +kernel
theorem dJ1_charAt_3b067_13 : decode cJ1_charAt_3b067 13 = .ok (.i2c, 1) := by decide +kernel
theorem dJ1_charAt_3b067_14 : decode cJ1_charAt_3b067 14 = .ok (.ireturn, 1) := by decide +kernel
theorem dJ2_getChar_3b067_0 : decode cJ2_getChar_3b067 0 = .ok (.getstatic 44, 3) := by decide +kernel
theorem dJ2_getChar_3b067_3 : decode cJ2_getChar_3b067 3 = .ok (.ifCond .ne 25, 3) := by decide +kernel
theorem dJ2_getChar_3b067_6 : decode cJ2_getChar_3b067 6 = .ok (.iload_n 1, 1) := by decide +kernel
theorem dJ2_getChar_3b067_7 : decode cJ2_getChar_3b067 7 = .ok (.ifCond .lt 11, 3) := by decide +kernel
theorem dJ2_getChar_3b067_10 : decode cJ2_getChar_3b067 10 = .ok (.iload_n 1, 1) := by decide +kernel
theorem dJ2_getChar_3b067_11 : decode cJ2_getChar_3b067 11 = .ok (.aload_n 0, 1) := by decide +kernel
theorem dJ2_getChar_3b067_12 : decode cJ2_getChar_3b067 12 = .ok (.invokestatic 48, 3) := by decide +kernel
theorem dJ2_getChar_3b067_15 : decode cJ2_getChar_3b067 15 = .ok (.if_icmp .lt 13, 3) := by decide +kernel
theorem dJ2_getChar_3b067_18 : decode cJ2_getChar_3b067 18 = .ok (.new 52, 3) := by decide +kernel
theorem dJ2_getChar_3b067_21 : decode cJ2_getChar_3b067 21 = .ok (.dup, 1) := by decide +kernel
theorem dJ2_getChar_3b067_22 : decode cJ2_getChar_3b067 22 = .ok (.ldc 54, 2) := by decide +kernel
theorem dJ2_getChar_3b067_24 : decode cJ2_getChar_3b067 24 = .ok (.invokespecial 56, 3) := by decide +kernel
theorem dJ2_getChar_3b067_27 : decode cJ2_getChar_3b067 27 = .ok (.athrow, 1) := by decide +kernel
theorem dJ2_getChar_3b067_28 : decode cJ2_getChar_3b067 28 = .ok (.iload_n 1, 1) := by decide +kernel
theorem dJ2_getChar_3b067_29 : decode cJ2_getChar_3b067 29 = .ok (.iconst 1, 1) := by decide +kernel
theorem dJ2_getChar_3b067_30 : decode cJ2_getChar_3b067 30 = .ok (.ishl, 1) := by decide +kernel
theorem dJ2_getChar_3b067_31 : decode cJ2_getChar_3b067 31 = .ok (.istore_n 1, 1) := by decide +kernel
theorem dJ2_getChar_3b067_32 : decode cJ2_getChar_3b067 32 = .ok (.aload_n 0, 1) := by decide +kernel
theorem dJ2_getChar_3b067_33 : decode cJ2_getChar_3b067 33 = .ok (.iload_n 1, 1) := by decide +kernel
theorem dJ2_getChar_3b067_34 : decode cJ2_getChar_3b067 34 = .ok (.iinc 1 1, 3) := by decide +kernel
theorem dJ2_getChar_3b067_37 : decode cJ2_getChar_3b067 37 = .ok (.baload, 1) := by decide +kernel
theorem dJ2_getChar_3b067_38 : decode cJ2_getChar_3b067 38 = .ok (.sipush 255, 3) := by decide +kernel
theorem dJ2_getChar_3b067_41 : decode cJ2_getChar_3b067 41 = .ok (.iand, 1) := by decide +kernel
theorem dJ2_getChar_3b067_42 : decode cJ2_getChar_3b067 42 = .ok (.getstatic 59, 3) := by decide +kernel
theorem dJ2_getChar_3b067_45 : decode cJ2_getChar_3b067 45 = .ok (.ishl, 1) := by decide +kernel
theorem dJ2_getChar_3b067_46 : decode cJ2_getChar_3b067 46 = .ok (.aload_n 0, 1) := by decide +kernel
theorem dJ2_getChar_3b067_47 : decode cJ2_getChar_3b067 47 = .ok (.iload_n 1, 1) := by decide +kernel
theorem dJ2_getChar_3b067_48 : decode cJ2_getChar_3b067 48 = .ok (.baload, 1) := by decide +kernel
theorem dJ2_getChar_3b067_49 : decode cJ2_getChar_3b067 49 = .ok (.sipush 255, 3) := by decide +kernel
theorem dJ2_getChar_3b067_52 : decode cJ2_getChar_3b067 52 = .ok (.iand, 1) := by decide +kernel
theorem dJ2_getChar_3b067_53 : decode cJ2_getChar_3b067 53 = .ok (.getstatic 63, 3) := by decide +kernel
theorem dJ2_getChar_3b067_56 : decode cJ2_getChar_3b067 56 = .ok (.ishl, 1) := by decide +kernel
theorem dJ2_getChar_3b067_57 : decode cJ2_getChar_3b067 57 = .ok (.ior, 1) := by decide +kernel
theorem dJ2_getChar_3b067_58 : decode cJ2_getChar_3b067 58 = .ok (.i2c, 1) := by decide +kernel
theorem dJ2_getChar_3b067_59 : decode cJ2_getChar_3b067 59 = .ok (.ireturn, 1) := by decide +kernel
theorem dJ2_length_9d52b_0 : decode cJ2_length_9d52b 0 = .ok (.aload_n 0, 1) := by decide +kernel
theorem dJ2_length_9d52b_1 : decode cJ2_length_9d52b 1 = .ok (.arraylength, 1) := by decide +kernel
theorem dJ2_length_9d52b_2 : decode cJ2_length_9d52b 2 = .ok (.iconst 1, 1) := by decide +kernel
theorem dJ2_length_9d52b_3 : decode cJ2_length_9d52b 3 = .ok (.ishr, 1) := by decide +kernel
theorem dJ2_length_9d52b_4 : decode cJ2_length_9d52b 4 = .ok (.ireturn, 1) := by decide +kernel
theorem dJ2_charAt_3b067_0 : decode cJ2_charAt_3b067 0 = .ok (.iload_n 1, 1) := by decide +kernel
theorem dJ2_charAt_3b067_1 : decode cJ2_charAt_3b067 1 = .ok (.aload_n 0, 1) := by decide +kernel
theorem dJ2_charAt_3b067_2 : decode cJ2_charAt_3b067 2 = .ok (.invokestatic 67, 3) := by decide +kernel
theorem dJ2_charAt_3b067_5 : decode cJ2_charAt_3b067 5 = .ok (.aload_n 0, 1) := by decide +kernel
theorem dJ2_charAt_3b067_6 : decode cJ2_charAt_3b067 6 = .ok (.iload_n 1, 1) := by decide +kernel
theorem dJ2_charAt_3b067_7 : decode cJ2_charAt_3b067 7 = .ok (.invokestatic 71, 3) := by decide +kernel
theorem dJ2_charAt_3b067_10 : decode cJ2_charAt_3b067 10 = .ok (.ireturn, 1) := by decide +kernel
theorem dJ2_checkIndex_2214a_0 : decode cJ2_checkIndex_2214a 0 = .ok (.iload_n 0, 1) := by decide +kernel
theorem dJ2_checkIndex_2214a_1 : decode cJ2_checkIndex_2214a 1 = .ok (.aload_n 1, 1) := by decide +kernel
theorem dJ2_checkIndex_2214a_2 : decode cJ2_checkIndex_2214a 2 = .ok (.invokestatic 48, 3) := by decide +kernel
theorem dJ2_checkIndex_2214a_5 : decode cJ2_checkIndex_2214a 5 = .ok (.invokestatic 414, 3) := by decide +kernel
theorem dJ2_checkIndex_2214a_8 : decode cJ2_checkIndex_2214a 8 = .ok (.return_, 1) := by decide +kernel
theorem dJ3_checkIndex_8e157_0 : decode cJ3_checkIndex_8e157 0 = .ok (.iload_n 0, 1) := by decide +kernel
theorem dJ3_checkIndex_8e157_1 : decode cJ3_checkIndex_8e157 1 = .ok (.ifCond .lt 8, 3) := by decide +kernel
theorem dJ3_checkIndex_8e157_4 : decode cJ3_checkIndex_8e157 4 = .ok (.iload_n 0, 1) := by decide +kernel
theorem dJ3_checkIndex_8e157_5 : decode cJ3_checkIndex_8e157 5 = .ok (.iload_n 1, 1) := by decide +kernel
theorem dJ3_checkIndex_8e157_6 : decode cJ3_checkIndex_8e157 6 = .ok (.if_icmp .lt 10, 3) := by decide +kernel
theorem dJ3_checkIndex_8e157_9 : decode cJ3_checkIndex_8e157 9 = .ok (.aload_n 2, 1) := by decide +kernel
theorem dJ3_checkIndex_8e157_10 : decode cJ3_checkIndex_8e157 10 = .ok (.iload_n 0, 1) := by decide +kernel
theorem dJ3_checkIndex_8e157_11 : decode cJ3_checkIndex_8e157 11 = .ok (.iload_n 1, 1) := by decide +kernel
theorem dJ3_checkIndex_8e157_12 : decode cJ3_checkIndex_8e157 12 = .ok (.invokestatic 95, 3) := by decide +kernel
theorem dJ3_checkIndex_8e157_15 : decode cJ3_checkIndex_8e157 15 = .ok (.athrow, 1) := by decide +kernel
theorem dJ3_checkIndex_8e157_16 : decode cJ3_checkIndex_8e157 16 = .ok (.iload_n 0, 1) := by decide +kernel
theorem dJ3_checkIndex_8e157_17 : decode cJ3_checkIndex_8e157 17 = .ok (.ireturn, 1) := by decide +kernel
theorem dL_law_0 : decode cL_law 0 = .ok (.new 7, 3) := by decide +kernel
theorem dL_law_3 : decode cL_law 3 = .ok (.dup, 1) := by decide +kernel
theorem dL_law_4 : decode cL_law 4 = .ok (.invokespecial 9, 3) := by decide +kernel
theorem dL_law_7 : decode cL_law 7 = .ok (.astore_n 1, 1) := by decide +kernel
theorem dL_law_8 : decode cL_law 8 = .ok (.new 10, 3) := by decide +kernel
theorem dL_law_11 : decode cL_law 11 = .ok (.dup, 1) := by decide +kernel
theorem dL_law_12 : decode cL_law 12 = .ok (.invokespecial 12, 3) := by decide +kernel
theorem dL_law_15 : decode cL_law 15 = .ok (.astore_n 2, 1) := by decide +kernel
theorem dL_law_16 : decode cL_law 16 = .ok (.iconst 0, 1) := by decide +kernel
theorem dL_law_17 : decode cL_law 17 = .ok (.istore_n 3, 1) := by decide +kernel
theorem dL_law_18 : decode cL_law 18 = .ok (.iload_n 3, 1) := by decide +kernel
theorem dL_law_19 : decode cL_law 19 = .ok (.aload_n 0, 1) := by decide +kernel
theorem dL_law_20 : decode cL_law 20 = .ok (.arraylength, 1) := by decide +kernel
theorem dL_law_21 : decode cL_law 21 = .ok (.iconst 4, 1) := by decide +kernel
theorem dL_law_22 : decode cL_law 22 = .ok (.isub, 1) := by decide +kernel
theorem dL_law_23 : decode cL_law 23 = .ok (.if_icmp .gt 833, 3) := by decide +kernel
theorem dL_law_26 : decode cL_law 26 = .ok (.aload_n 0, 1) := by decide +kernel
theorem dL_law_27 : decode cL_law 27 = .ok (.iload_n 3, 1) := by decide +kernel
theorem dL_law_28 : decode cL_law 28 = .ok (.iaload, 1) := by decide +kernel
theorem dL_law_29 : decode cL_law 29 = .ok (.bipush 31, 2) := by decide +kernel
theorem dL_law_31 : decode cL_law 31 = .ok (.iand, 1) := by decide +kernel
theorem dL_law_32 : decode cL_law 32 = .ok (.tableswitch 818 0 25 #[120, 143, 156, 169, 182, 215, 248, 271, 294, 317, 350, 393, 426, 459, 482, 495, 518, 541, 554, 587, 630, 653, 686, 719, 762, 795], 120) := by decide +kernel
theorem dL_law_152 : decode cL_law 152 = .ok (.aload_n 1, 1) := by decide +kernel
theorem dL_law_153 : decode cL_law 153 = .ok (.aload_n 0, 1) := by decide +kernel
theorem dL_law_154 : decode cL_law 154 = .ok (.iload_n 3, 1) := by decide +kernel
theorem dL_law_155 : decode cL_law 155 = .ok (.iconst 1, 1) := by decide +kernel
theorem dL_law_156 : decode cL_law 156 = .ok (.iadd, 1) := by decide +kernel
theorem dL_law_157 : decode cL_law 157 = .ok (.iaload, 1) := by decide +kernel
theorem dL_law_158 : decode cL_law 158 = .ok (.invokevirtual 13, 3) := by decide +kernel
theorem dL_law_161 : decode cL_law 161 = .ok (.aload_n 2, 1) := by decide +kernel
theorem dL_law_162 : decode cL_law 162 = .ok (.aload_n 0, 1) := by decide +kernel
theorem dL_law_163 : decode cL_law 163 = .ok (.iload_n 3, 1) := by decide +kernel
theorem dL_law_164 : decode cL_law 164 = .ok (.iconst 1, 1) := by decide +kernel
theorem dL_law_165 : decode cL_law 165 = .ok (.iadd, 1) := by decide +kernel
theorem dL_law_166 : decode cL_law 166 = .ok (.iaload, 1) := by decide +kernel
theorem dL_law_167 : decode cL_law 167 = .ok (.invokevirtual 17, 3) := by decide +kernel
theorem dL_law_170 : decode cL_law 170 = .ok (.if_icmp .eq 680, 3) := by decide +kernel
theorem dL_law_173 : decode cL_law 173 = .ok (.iconst 0, 1) := by decide +kernel
theorem dL_law_174 : decode cL_law 174 = .ok (.ireturn, 1) := by decide +kernel
theorem dL_law_175 : decode cL_law 175 = .ok (.aload_n 1, 1) := by decide +kernel
theorem dL_law_176 : decode cL_law 176 = .ok (.invokevirtual 18, 3) := by decide +kernel
theorem dL_law_179 : decode cL_law 179 = .ok (.aload_n 2, 1) := by decide +kernel
theorem dL_law_180 : decode cL_law 180 = .ok (.invokevirtual 22, 3) := by decide +kernel
theorem dL_law_183 : decode cL_law 183 = .ok (.if_icmp .eq 667, 3) := by decide +kernel
theorem dL_law_186 : decode cL_law 186 = .ok (.iconst 0, 1) := by decide +kernel
theorem dL_law_187 : decode cL_law 187 = .ok (.ireturn, 1) := by decide +kernel
theorem dL_law_188 : decode cL_law 188 = .ok (.aload_n 1, 1) := by decide +kernel
theorem dL_law_189 : decode cL_law 189 = .ok (.invokevirtual 23, 3) := by decide +kernel
theorem dL_law_192 : decode cL_law 192 = .ok (.aload_n 2, 1) := by decide +kernel
theorem dL_law_193 : decode cL_law 193 = .ok (.invokevirtual 26, 3) := by decide +kernel
theorem dL_law_196 : decode cL_law 196 = .ok (.if_icmp .eq 654, 3) := by decide +kernel
theorem dL_law_199 : decode cL_law 199 = .ok (.iconst 0, 1) := by decide +kernel
theorem dL_law_200 : decode cL_law 200 = .ok (.ireturn, 1) := by decide +kernel
theorem dL_law_201 : decode cL_law 201 = .ok (.aload_n 1, 1) := by decide +kernel
theorem dL_law_202 : decode cL_law 202 = .ok (.invokevirtual 27, 3) := by decide +kernel
theorem dL_law_205 : decode cL_law 205 = .ok (.aload_n 2, 1) := by decide +kernel
theorem dL_law_206 : decode cL_law 206 = .ok (.invokevirtual 30, 3) := by decide +kernel
theorem dL_law_209 : decode cL_law 209 = .ok (.if_icmp .eq 641, 3) := by decide +kernel
theorem dL_law_212 : decode cL_law 212 = .ok (.iconst 0, 1) := by decide +kernel
theorem dL_law_213 : decode cL_law 213 = .ok (.ireturn, 1) := by decide +kernel
theorem dL_law_214 : decode cL_law 214 = .ok (.aload_n 1, 1) := by decide +kernel
theorem dL_law_215 : decode cL_law 215 = .ok (.aload_n 0, 1) := by decide +kernel
theorem dL_law_216 : decode cL_law 216 = .ok (.iload_n 3, 1) := by decide +kernel
theorem dL_law_217 : decode cL_law 217 = .ok (.iconst 1, 1) := by decide +kernel
theorem dL_law_218 : decode cL_law 218 = .ok (.iadd, 1) := by decide +kernel
theorem dL_law_219 : decode cL_law 219 = .ok (.iaload, 1) := by decide +kernel
theorem dL_law_220 : decode cL_law 220 = .ok (.aload_n 0, 1) := by decide +kernel
theorem dL_law_221 : decode cL_law 221 = .ok (.iload_n 3, 1) := by decide +kernel
theorem dL_law_222 : decode cL_law 222 = .ok (.iconst 2, 1) := by decide +kernel
theorem dL_law_223 : decode cL_law 223 = .ok (.iadd, 1) := by decide +kernel
theorem dL_law_224 : decode cL_law 224 = .ok (.iaload, 1) := by decide +kernel
theorem dL_law_225 : decode cL_law 225 = .ok (.invokevirtual 31, 3) := by decide +kernel
theorem dL_law_228 : decode cL_law 228 = .ok (.aload_n 2, 1) := by decide +kernel
theorem dL_law_229 : decode cL_law 229 = .ok (.aload_n 0, 1) := by decide +kernel
theorem dL_law_230 : decode cL_law 230 = .ok (.iload_n 3, 1) := by decide +kernel
theorem dL_law_231 : decode cL_law 231 = .ok (.iconst 1, 1) := by decide +kernel
theorem dL_law_232 : decode cL_law 232 = .ok (.iadd, 1) := by decide +kernel
theorem dL_law_233 : decode cL_law 233 = .ok (.iaload, 1) := by decide +kernel
theorem dL_law_234 : decode cL_law 234 = .ok (.aload_n 0, 1) := by decide +kernel
theorem dL_law_235 : decode cL_law 235 = .ok (.iload_n 3, 1) := by decide +kernel
theorem dL_law_236 : decode cL_law 236 = .ok (.iconst 2, 1) := by decide +kernel
theorem dL_law_237 : decode cL_law 237 = .ok (.iadd, 1) := by decide +kernel
theorem dL_law_238 : decode cL_law 238 = .ok (.iaload, 1) := by decide +kernel
theorem dL_law_239 : decode cL_law 239 = .ok (.invokevirtual 35, 3) := by decide +kernel
theorem dL_law_242 : decode cL_law 242 = .ok (.if_icmp .eq 608, 3) := by decide +kernel
theorem dL_law_245 : decode cL_law 245 = .ok (.iconst 0, 1) := by decide +kernel
theorem dL_law_246 : decode cL_law 246 = .ok (.ireturn, 1) := by decide +kernel
theorem dL_law_247 : decode cL_law 247 = .ok (.aload_n 1, 1) := by decide +kernel
theorem dL_law_248 : decode cL_law 248 = .ok (.aload_n 0, 1) := by decide +kernel
theorem dL_law_249 : decode cL_law 249 = .ok (.iload_n 3, 1) := by decide +kernel
theorem dL_law_250 : decode cL_law 250 = .ok (.iconst 1, 1) := by decide +kernel
theorem dL_law_251 : decode cL_law 251 = .ok (.iadd, 1) := by decide +kernel
theorem dL_law_252 : decode cL_law 252 = .ok (.iaload, 1) := by decide +kernel
theorem dL_law_253 : decode cL_law 253 = .ok (.aload_n 0, 1) := by decide +kernel
theorem dL_law_254 : decode cL_law 254 = .ok (.iload_n 3, 1) := by decide +kernel
theorem dL_law_255 : decode cL_law 255 = .ok (.iconst 2, 1) := by decide +kernel
theorem dL_law_256 : decode cL_law 256 = .ok (.iadd, 1) := by decide +kernel
theorem dL_law_257 : decode cL_law 257 = .ok (.iaload, 1) := by decide +kernel
theorem dL_law_258 : decode cL_law 258 = .ok (.invokevirtual 36, 3) := by decide +kernel
theorem dL_law_261 : decode cL_law 261 = .ok (.aload_n 2, 1) := by decide +kernel
theorem dL_law_262 : decode cL_law 262 = .ok (.aload_n 0, 1) := by decide +kernel
theorem dL_law_263 : decode cL_law 263 = .ok (.iload_n 3, 1) := by decide +kernel
theorem dL_law_264 : decode cL_law 264 = .ok (.iconst 1, 1) := by decide +kernel
theorem dL_law_265 : decode cL_law 265 = .ok (.iadd, 1) := by decide +kernel
theorem dL_law_266 : decode cL_law 266 = .ok (.iaload, 1) := by decide +kernel
theorem dL_law_267 : decode cL_law 267 = .ok (.aload_n 0, 1) := by decide +kernel
theorem dL_law_268 : decode cL_law 268 = .ok (.iload_n 3, 1) := by decide +kernel
theorem dL_law_269 : decode cL_law 269 = .ok (.iconst 2, 1) := by decide +kernel
theorem dL_law_270 : decode cL_law 270 = .ok (.iadd, 1) := by decide +kernel
theorem dL_law_271 : decode cL_law 271 = .ok (.iaload, 1) := by decide +kernel
theorem dL_law_272 : decode cL_law 272 = .ok (.invokevirtual 39, 3) := by decide +kernel
theorem dL_law_275 : decode cL_law 275 = .ok (.if_icmp .eq 575, 3) := by decide +kernel
theorem dL_law_278 : decode cL_law 278 = .ok (.iconst 0, 1) := by decide +kernel
theorem dL_law_279 : decode cL_law 279 = .ok (.ireturn, 1) := by decide +kernel
theorem dL_law_280 : decode cL_law 280 = .ok (.aload_n 1, 1) := by decide +kernel
theorem dL_law_281 : decode cL_law 281 = .ok (.aload_n 0, 1) := by decide +kernel
theorem dL_law_282 : decode cL_law 282 = .ok (.iload_n 3, 1) := by decide +kernel
theorem dL_law_283 : decode cL_law 283 = .ok (.iconst 1, 1) := by decide +kernel
theorem dL_law_284 : decode cL_law 284 = .ok (.iadd, 1) := by decide +kernel
theorem dL_law_285 : decode cL_law 285 = .ok (.iaload, 1) := by decide +kernel
theorem dL_law_286 : decode cL_law 286 = .ok (.invokevirtual 40, 3) := by decide +kernel
theorem dL_law_289 : decode cL_law 289 = .ok (.aload_n 2, 1) := by decide +kernel
theorem dL_law_290 : decode cL_law 290 = .ok (.aload_n 0, 1) := by decide +kernel
theorem dL_law_291 : decode cL_law 291 = .ok (.iload_n 3, 1) := by decide +kernel
theorem dL_law_292 : decode cL_law 292 = .ok (.iconst 1, 1) := by decide +kernel
theorem dL_law_293 : decode cL_law 293 = .ok (.iadd, 1) := by decide +kernel
theorem dL_law_294 : decode cL_law 294 = .ok (.iaload, 1) := by decide +kernel
theorem dL_law_295 : decode cL_law 295 = .ok (.invokevirtual 43, 3) := by decide +kernel
theorem dL_law_298 : decode cL_law 298 = .ok (.if_icmp .eq 552, 3) := by decide +kernel
theorem dL_law_301 : decode cL_law 301 = .ok (.iconst 0, 1) := by decide +kernel
theorem dL_law_302 : decode cL_law 302 = .ok (.ireturn, 1) := by decide +kernel
theorem dL_law_303 : decode cL_law 303 = .ok (.aload_n 1, 1) := by decide +kernel
theorem dL_law_304 : decode cL_law 304 = .ok (.aload_n 0, 1) := by decide +kernel
theorem dL_law_305 : decode cL_law 305 = .ok (.iload_n 3, 1) := by decide +kernel
theorem dL_law_306 : decode cL_law 306 = .ok (.iconst 1, 1) := by decide +kernel
theorem dL_law_307 : decode cL_law 307 = .ok (.iadd, 1) := by decide +kernel
theorem dL_law_308 : decode cL_law 308 = .ok (.iaload, 1) := by decide +kernel
theorem dL_law_309 : decode cL_law 309 = .ok (.invokevirtual 44, 3) := by decide +kernel
theorem dL_law_312 : decode cL_law 312 = .ok (.aload_n 2, 1) := by decide +kernel
theorem dL_law_313 : decode cL_law 313 = .ok (.aload_n 0, 1) := by decide +kernel
theorem dL_law_314 : decode cL_law 314 = .ok (.iload_n 3, 1) := by decide +kernel
theorem dL_law_315 : decode cL_law 315 = .ok (.iconst 1, 1) := by decide +kernel
theorem dL_law_316 : decode cL_law 316 = .ok (.iadd, 1) := by decide +kernel
theorem dL_law_317 : decode cL_law 317 = .ok (.iaload, 1) := by decide +kernel
theorem dL_law_318 : decode cL_law 318 = .ok (.invokevirtual 47, 3) := by decide +kernel
theorem dL_law_321 : decode cL_law 321 = .ok (.if_icmp .eq 529, 3) := by decide +kernel
theorem dL_law_324 : decode cL_law 324 = .ok (.iconst 0, 1) := by decide +kernel
theorem dL_law_325 : decode cL_law 325 = .ok (.ireturn, 1) := by decide +kernel
theorem dL_law_326 : decode cL_law 326 = .ok (.aload_n 1, 1) := by decide +kernel
theorem dL_law_327 : decode cL_law 327 = .ok (.aload_n 0, 1) := by decide +kernel
theorem dL_law_328 : decode cL_law 328 = .ok (.iload_n 3, 1) := by decide +kernel
theorem dL_law_329 : decode cL_law 329 = .ok (.iconst 1, 1) := by decide +kernel
theorem dL_law_330 : decode cL_law 330 = .ok (.iadd, 1) := by decide +kernel
theorem dL_law_331 : decode cL_law 331 = .ok (.iaload, 1) := by decide +kernel
theorem dL_law_332 : decode cL_law 332 = .ok (.invokevirtual 48, 3) := by decide +kernel
theorem dL_law_335 : decode cL_law 335 = .ok (.aload_n 2, 1) := by decide +kernel
theorem dL_law_336 : decode cL_law 336 = .ok (.aload_n 0, 1) := by decide +kernel
theorem dL_law_337 : decode cL_law 337 = .ok (.iload_n 3, 1) := by decide +kernel
theorem dL_law_338 : decode cL_law 338 = .ok (.iconst 1, 1) := by decide +kernel
theorem dL_law_339 : decode cL_law 339 = .ok (.iadd, 1) := by decide +kernel
theorem dL_law_340 : decode cL_law 340 = .ok (.iaload, 1) := by decide +kernel
theorem dL_law_341 : decode cL_law 341 = .ok (.invokevirtual 51, 3) := by decide +kernel
theorem dL_law_344 : decode cL_law 344 = .ok (.if_icmp .eq 506, 3) := by decide +kernel
theorem dL_law_347 : decode cL_law 347 = .ok (.iconst 0, 1) := by decide +kernel
theorem dL_law_348 : decode cL_law 348 = .ok (.ireturn, 1) := by decide +kernel
theorem dL_law_349 : decode cL_law 349 = .ok (.aload_n 1, 1) := by decide +kernel
theorem dL_law_350 : decode cL_law 350 = .ok (.aload_n 0, 1) := by decide +kernel
theorem dL_law_351 : decode cL_law 351 = .ok (.iload_n 3, 1) := by decide +kernel
theorem dL_law_352 : decode cL_law 352 = .ok (.iconst 1, 1) := by decide +kernel
theorem dL_law_353 : decode cL_law 353 = .ok (.iadd, 1) := by decide +kernel
theorem dL_law_354 : decode cL_law 354 = .ok (.iaload, 1) := by decide +kernel
theorem dL_law_355 : decode cL_law 355 = .ok (.aload_n 0, 1) := by decide +kernel
theorem dL_law_356 : decode cL_law 356 = .ok (.iload_n 3, 1) := by decide +kernel
theorem dL_law_357 : decode cL_law 357 = .ok (.iconst 2, 1) := by decide +kernel
theorem dL_law_358 : decode cL_law 358 = .ok (.iadd, 1) := by decide +kernel
theorem dL_law_359 : decode cL_law 359 = .ok (.iaload, 1) := by decide +kernel
theorem dL_law_360 : decode cL_law 360 = .ok (.invokevirtual 52, 3) := by decide +kernel
theorem dL_law_363 : decode cL_law 363 = .ok (.aload_n 2, 1) := by decide +kernel
theorem dL_law_364 : decode cL_law 364 = .ok (.aload_n 0, 1) := by decide +kernel
theorem dL_law_365 : decode cL_law 365 = .ok (.iload_n 3, 1) := by decide +kernel
theorem dL_law_366 : decode cL_law 366 = .ok (.iconst 1, 1) := by decide +kernel
theorem dL_law_367 : decode cL_law 367 = .ok (.iadd, 1) := by decide +kernel
theorem dL_law_368 : decode cL_law 368 = .ok (.iaload, 1) := by decide +kernel
theorem dL_law_369 : decode cL_law 369 = .ok (.aload_n 0, 1) := by decide +kernel
theorem dL_law_370 : decode cL_law 370 = .ok (.iload_n 3, 1) := by decide +kernel
theorem dL_law_371 : decode cL_law 371 = .ok (.iconst 2, 1) := by decide +kernel
theorem dL_law_372 : decode cL_law 372 = .ok (.iadd, 1) := by decide +kernel
theorem dL_law_373 : decode cL_law 373 = .ok (.iaload, 1) := by decide +kernel
theorem dL_law_374 : decode cL_law 374 = .ok (.invokevirtual 55, 3) := by decide +kernel
theorem dL_law_377 : decode cL_law 377 = .ok (.if_icmp .eq 473, 3) := by decide +kernel
theorem dL_law_380 : decode cL_law 380 = .ok (.iconst 0, 1) := by decide +kernel
theorem dL_law_381 : decode cL_law 381 = .ok (.ireturn, 1) := by decide +kernel
theorem dL_law_382 : decode cL_law 382 = .ok (.aload_n 1, 1) := by decide +kernel
theorem dL_law_383 : decode cL_law 383 = .ok (.aload_n 0, 1) := by decide +kernel
theorem dL_law_384 : decode cL_law 384 = .ok (.iload_n 3, 1) := by decide +kernel
theorem dL_law_385 : decode cL_law 385 = .ok (.iconst 1, 1) := by decide +kernel
theorem dL_law_386 : decode cL_law 386 = .ok (.iadd, 1) := by decide +kernel
theorem dL_law_387 : decode cL_law 387 = .ok (.iaload, 1) := by decide +kernel
theorem dL_law_388 : decode cL_law 388 = .ok (.aload_n 0, 1) := by decide +kernel
theorem dL_law_389 : decode cL_law 389 = .ok (.iload_n 3, 1) := by decide +kernel
theorem dL_law_390 : decode cL_law 390 = .ok (.iconst 2, 1) := by decide +kernel
theorem dL_law_391 : decode cL_law 391 = .ok (.iadd, 1) := by decide +kernel
theorem dL_law_392 : decode cL_law 392 = .ok (.iaload, 1) := by decide +kernel
theorem dL_law_393 : decode cL_law 393 = .ok (.aload_n 0, 1) := by decide +kernel
theorem dL_law_394 : decode cL_law 394 = .ok (.iload_n 3, 1) := by decide +kernel
theorem dL_law_395 : decode cL_law 395 = .ok (.iconst 3, 1) := by decide +kernel
theorem dL_law_396 : decode cL_law 396 = .ok (.iadd, 1) := by decide +kernel
theorem dL_law_397 : decode cL_law 397 = .ok (.iaload, 1) := by decide +kernel
theorem dL_law_398 : decode cL_law 398 = .ok (.invokevirtual 56, 3) := by decide +kernel
theorem dL_law_401 : decode cL_law 401 = .ok (.aload_n 2, 1) := by decide +kernel
theorem dL_law_402 : decode cL_law 402 = .ok (.aload_n 0, 1) := by decide +kernel
theorem dL_law_403 : decode cL_law 403 = .ok (.iload_n 3, 1) := by decide +kernel
theorem dL_law_404 : decode cL_law 404 = .ok (.iconst 1, 1) := by decide +kernel
theorem dL_law_405 : decode cL_law 405 = .ok (.iadd, 1) := by decide +kernel
theorem dL_law_406 : decode cL_law 406 = .ok (.iaload, 1) := by decide +kernel
theorem dL_law_407 : decode cL_law 407 = .ok (.aload_n 0, 1) := by decide +kernel
theorem dL_law_408 : decode cL_law 408 = .ok (.iload_n 3, 1) := by decide +kernel
theorem dL_law_409 : decode cL_law 409 = .ok (.iconst 2, 1) := by decide +kernel
theorem dL_law_410 : decode cL_law 410 = .ok (.iadd, 1) := by decide +kernel
theorem dL_law_411 : decode cL_law 411 = .ok (.iaload, 1) := by decide +kernel
theorem dL_law_412 : decode cL_law 412 = .ok (.aload_n 0, 1) := by decide +kernel
theorem dL_law_413 : decode cL_law 413 = .ok (.iload_n 3, 1) := by decide +kernel
theorem dL_law_414 : decode cL_law 414 = .ok (.iconst 3, 1) := by decide +kernel
theorem dL_law_415 : decode cL_law 415 = .ok (.iadd, 1) := by decide +kernel
theorem dL_law_416 : decode cL_law 416 = .ok (.iaload, 1) := by decide +kernel
theorem dL_law_417 : decode cL_law 417 = .ok (.invokevirtual 60, 3) := by decide +kernel
theorem dL_law_420 : decode cL_law 420 = .ok (.if_icmp .eq 430, 3) := by decide +kernel
theorem dL_law_423 : decode cL_law 423 = .ok (.iconst 0, 1) := by decide +kernel
theorem dL_law_424 : decode cL_law 424 = .ok (.ireturn, 1) := by decide +kernel
theorem dL_law_425 : decode cL_law 425 = .ok (.aload_n 1, 1) := by decide +kernel
theorem dL_law_426 : decode cL_law 426 = .ok (.aload_n 0, 1) := by decide +kernel
theorem dL_law_427 : decode cL_law 427 = .ok (.iload_n 3, 1) := by decide +kernel
theorem dL_law_428 : decode cL_law 428 = .ok (.iconst 1, 1) := by decide +kernel
theorem dL_law_429 : decode cL_law 429 = .ok (.iadd, 1) := by decide +kernel
theorem dL_law_430 : decode cL_law 430 = .ok (.iaload, 1) := by decide +kernel
theorem dL_law_431 : decode cL_law 431 = .ok (.aload_n 0, 1) := by decide +kernel
theorem dL_law_432 : decode cL_law 432 = .ok (.iload_n 3, 1) := by decide +kernel
theorem dL_law_433 : decode cL_law 433 = .ok (.iconst 2, 1) := by decide +kernel
theorem dL_law_434 : decode cL_law 434 = .ok (.iadd, 1) := by decide +kernel
theorem dL_law_435 : decode cL_law 435 = .ok (.iaload, 1) := by decide +kernel
theorem dL_law_436 : decode cL_law 436 = .ok (.invokevirtual 61, 3) := by decide +kernel
theorem dL_law_439 : decode cL_law 439 = .ok (.aload_n 2, 1) := by decide +kernel
theorem dL_law_440 : decode cL_law 440 = .ok (.aload_n 0, 1) := by decide +kernel
theorem dL_law_441 : decode cL_law 441 = .ok (.iload_n 3, 1) := by decide +kernel
theorem dL_law_442 : decode cL_law 442 = .ok (.iconst 1, 1) := by decide +kernel
theorem dL_law_443 : decode cL_law 443 = .ok (.iadd, 1) := by decide +kernel
theorem dL_law_444 : decode cL_law 444 = .ok (.iaload, 1) := by decide +kernel
theorem dL_law_445 : decode cL_law 445 = .ok (.aload_n 0, 1) := by decide +kernel
theorem dL_law_446 : decode cL_law 446 = .ok (.iload_n 3, 1) := by decide +kernel
theorem dL_law_447 : decode cL_law 447 = .ok (.iconst 2, 1) := by decide +kernel
theorem dL_law_448 : decode cL_law 448 = .ok (.iadd, 1) := by decide +kernel
theorem dL_law_449 : decode cL_law 449 = .ok (.iaload, 1) := by decide +kernel
theorem dL_law_450 : decode cL_law 450 = .ok (.invokevirtual 64, 3) := by decide +kernel
theorem dL_law_453 : decode cL_law 453 = .ok (.if_icmp .eq 397, 3) := by decide +kernel
theorem dL_law_456 : decode cL_law 456 = .ok (.iconst 0, 1) := by decide +kernel
theorem dL_law_457 : decode cL_law 457 = .ok (.ireturn, 1) := by decide +kernel
theorem dL_law_458 : decode cL_law 458 = .ok (.aload_n 1, 1) := by decide +kernel
theorem dL_law_459 : decode cL_law 459 = .ok (.aload_n 0, 1) := by decide +kernel
theorem dL_law_460 : decode cL_law 460 = .ok (.iload_n 3, 1) := by decide +kernel
theorem dL_law_461 : decode cL_law 461 = .ok (.iconst 1, 1) := by decide +kernel
theorem dL_law_462 : decode cL_law 462 = .ok (.iadd, 1) := by decide +kernel
theorem dL_law_463 : decode cL_law 463 = .ok (.iaload, 1) := by decide +kernel
theorem dL_law_464 : decode cL_law 464 = .ok (.aload_n 0, 1) := by decide +kernel
theorem dL_law_465 : decode cL_law 465 = .ok (.iload_n 3, 1) := by decide +kernel
theorem dL_law_466 : decode cL_law 466 = .ok (.iconst 2, 1) := by decide +kernel
theorem dL_law_467 : decode cL_law 467 = .ok (.iadd, 1) := by decide +kernel
theorem dL_law_468 : decode cL_law 468 = .ok (.iaload, 1) := by decide +kernel
theorem dL_law_469 : decode cL_law 469 = .ok (.invokevirtual 65, 3) := by decide +kernel
theorem dL_law_472 : decode cL_law 472 = .ok (.aload_n 2, 1) := by decide +kernel
theorem dL_law_473 : decode cL_law 473 = .ok (.aload_n 0, 1) := by decide +kernel
theorem dL_law_474 : decode cL_law 474 = .ok (.iload_n 3, 1) := by decide +kernel
theorem dL_law_475 : decode cL_law 475 = .ok (.iconst 1, 1) := by decide +kernel
theorem dL_law_476 : decode cL_law 476 = .ok (.iadd, 1) := by decide +kernel
theorem dL_law_477 : decode cL_law 477 = .ok (.iaload, 1) := by decide +kernel
theorem dL_law_478 : decode cL_law 478 = .ok (.aload_n 0, 1) := by decide +kernel
theorem dL_law_479 : decode cL_law 479 = .ok (.iload_n 3, 1) := by decide +kernel
theorem dL_law_480 : decode cL_law 480 = .ok (.iconst 2, 1) := by decide +kernel
theorem dL_law_481 : decode cL_law 481 = .ok (.iadd, 1) := by decide +kernel
theorem dL_law_482 : decode cL_law 482 = .ok (.iaload, 1) := by decide +kernel
theorem dL_law_483 : decode cL_law 483 = .ok (.invokevirtual 68, 3) := by decide +kernel
theorem dL_law_486 : decode cL_law 486 = .ok (.if_icmp .eq 364, 3) := by decide +kernel
theorem dL_law_489 : decode cL_law 489 = .ok (.iconst 0, 1) := by decide +kernel
theorem dL_law_490 : decode cL_law 490 = .ok (.ireturn, 1) := by decide +kernel
theorem dL_law_491 : decode cL_law 491 = .ok (.aload_n 1, 1) := by decide +kernel
theorem dL_law_492 : decode cL_law 492 = .ok (.aload_n 0, 1) := by decide +kernel
theorem dL_law_493 : decode cL_law 493 = .ok (.iload_n 3, 1) := by decide +kernel
theorem dL_law_494 : decode cL_law 494 = .ok (.iconst 1, 1) := by decide +kernel
theorem dL_law_495 : decode cL_law 495 = .ok (.iadd, 1) := by decide +kernel
theorem dL_law_496 : decode cL_law 496 = .ok (.iaload, 1) := by decide +kernel
theorem dL_law_497 : decode cL_law 497 = .ok (.invokevirtual 69, 3) := by decide +kernel
theorem dL_law_500 : decode cL_law 500 = .ok (.aload_n 2, 1) := by decide +kernel
theorem dL_law_501 : decode cL_law 501 = .ok (.aload_n 0, 1) := by decide +kernel
theorem dL_law_502 : decode cL_law 502 = .ok (.iload_n 3, 1) := by decide +kernel
theorem dL_law_503 : decode cL_law 503 = .ok (.iconst 1, 1) := by decide +kernel
theorem dL_law_504 : decode cL_law 504 = .ok (.iadd, 1) := by decide +kernel
theorem dL_law_505 : decode cL_law 505 = .ok (.iaload, 1) := by decide +kernel
theorem dL_law_506 : decode cL_law 506 = .ok (.invokevirtual 72, 3) := by decide +kernel
theorem dL_law_509 : decode cL_law 509 = .ok (.if_icmp .eq 341, 3) := by decide +kernel
theorem dL_law_512 : decode cL_law 512 = .ok (.iconst 0, 1) := by decide +kernel
theorem dL_law_513 : decode cL_law 513 = .ok (.ireturn, 1) := by decide +kernel
theorem dL_law_514 : decode cL_law 514 = .ok (.aload_n 1, 1) := by decide +kernel
theorem dL_law_515 : decode cL_law 515 = .ok (.invokevirtual 73, 3) := by decide +kernel
theorem dL_law_518 : decode cL_law 518 = .ok (.aload_n 2, 1) := by decide +kernel
theorem dL_law_519 : decode cL_law 519 = .ok (.invokevirtual 76, 3) := by decide +kernel
theorem dL_law_522 : decode cL_law 522 = .ok (.if_icmp .eq 328, 3) := by decide +kernel
theorem dL_law_525 : decode cL_law 525 = .ok (.iconst 0, 1) := by decide +kernel
theorem dL_law_526 : decode cL_law 526 = .ok (.ireturn, 1) := by decide +kernel
theorem dL_law_527 : decode cL_law 527 = .ok (.aload_n 1, 1) := by decide +kernel
theorem dL_law_528 : decode cL_law 528 = .ok (.aload_n 0, 1) := by decide +kernel
theorem dL_law_529 : decode cL_law 529 = .ok (.iload_n 3, 1) := by decide +kernel
theorem dL_law_530 : decode cL_law 530 = .ok (.iconst 1, 1) := by decide +kernel
theorem dL_law_531 : decode cL_law 531 = .ok (.iadd, 1) := by decide +kernel
theorem dL_law_532 : decode cL_law 532 = .ok (.iaload, 1) := by decide +kernel
theorem dL_law_533 : decode cL_law 533 = .ok (.invokevirtual 77, 3) := by decide +kernel
theorem dL_law_536 : decode cL_law 536 = .ok (.aload_n 2, 1) := by decide +kernel
theorem dL_law_537 : decode cL_law 537 = .ok (.aload_n 0, 1) := by decide +kernel
theorem dL_law_538 : decode cL_law 538 = .ok (.iload_n 3, 1) := by decide +kernel
theorem dL_law_539 : decode cL_law 539 = .ok (.iconst 1, 1) := by decide +kernel
theorem dL_law_540 : decode cL_law 540 = .ok (.iadd, 1) := by decide +kernel
theorem dL_law_541 : decode cL_law 541 = .ok (.iaload, 1) := by decide +kernel
theorem dL_law_542 : decode cL_law 542 = .ok (.invokevirtual 80, 3) := by decide +kernel
theorem dL_law_545 : decode cL_law 545 = .ok (.if_icmp .eq 305, 3) := by decide +kernel
theorem dL_law_548 : decode cL_law 548 = .ok (.iconst 0, 1) := by decide +kernel
theorem dL_law_549 : decode cL_law 549 = .ok (.ireturn, 1) := by decide +kernel
theorem dL_law_550 : decode cL_law 550 = .ok (.aload_n 1, 1) := by decide +kernel
theorem dL_law_551 : decode cL_law 551 = .ok (.aload_n 0, 1) := by decide +kernel
theorem dL_law_552 : decode cL_law 552 = .ok (.iload_n 3, 1) := by decide +kernel
theorem dL_law_553 : decode cL_law 553 = .ok (.iconst 1, 1) := by decide +kernel
theorem dL_law_554 : decode cL_law 554 = .ok (.iadd, 1) := by decide +kernel
theorem dL_law_555 : decode cL_law 555 = .ok (.iaload, 1) := by decide +kernel
theorem dL_law_556 : decode cL_law 556 = .ok (.invokevirtual 81, 3) := by decide +kernel
theorem dL_law_559 : decode cL_law 559 = .ok (.aload_n 2, 1) := by decide +kernel
theorem dL_law_560 : decode cL_law 560 = .ok (.aload_n 0, 1) := by decide +kernel
theorem dL_law_561 : decode cL_law 561 = .ok (.iload_n 3, 1) := by decide +kernel
theorem dL_law_562 : decode cL_law 562 = .ok (.iconst 1, 1) := by decide +kernel
theorem dL_law_563 : decode cL_law 563 = .ok (.iadd, 1) := by decide +kernel
theorem dL_law_564 : decode cL_law 564 = .ok (.iaload, 1) := by decide +kernel
theorem dL_law_565 : decode cL_law 565 = .ok (.invokevirtual 84, 3) := by decide +kernel
theorem dL_law_568 : decode cL_law 568 = .ok (.if_icmp .eq 282, 3) := by decide +kernel
theorem dL_law_571 : decode cL_law 571 = .ok (.iconst 0, 1) := by decide +kernel
theorem dL_law_572 : decode cL_law 572 = .ok (.ireturn, 1) := by decide +kernel
theorem dL_law_573 : decode cL_law 573 = .ok (.aload_n 1, 1) := by decide +kernel
theorem dL_law_574 : decode cL_law 574 = .ok (.invokevirtual 85, 3) := by decide +kernel
theorem dL_law_577 : decode cL_law 577 = .ok (.aload_n 2, 1) := by decide +kernel
theorem dL_law_578 : decode cL_law 578 = .ok (.invokevirtual 88, 3) := by decide +kernel
theorem dL_law_581 : decode cL_law 581 = .ok (.if_icmp .eq 269, 3) := by decide +kernel
theorem dL_law_584 : decode cL_law 584 = .ok (.iconst 0, 1) := by decide +kernel
theorem dL_law_585 : decode cL_law 585 = .ok (.ireturn, 1) := by decide +kernel
theorem dL_law_586 : decode cL_law 586 = .ok (.aload_n 1, 1) := by decide +kernel
theorem dL_law_587 : decode cL_law 587 = .ok (.aload_n 0, 1) := by decide +kernel
theorem dL_law_588 : decode cL_law 588 = .ok (.iload_n 3, 1) := by decide +kernel
theorem dL_law_589 : decode cL_law 589 = .ok (.iconst 1, 1) := by decide +kernel
theorem dL_law_590 : decode cL_law 590 = .ok (.iadd, 1) := by decide +kernel
theorem dL_law_591 : decode cL_law 591 = .ok (.iaload, 1) := by decide +kernel
theorem dL_law_592 : decode cL_law 592 = .ok (.aload_n 0, 1) := by decide +kernel
theorem dL_law_593 : decode cL_law 593 = .ok (.iload_n 3, 1) := by decide +kernel
theorem dL_law_594 : decode cL_law 594 = .ok (.iconst 2, 1) := by decide +kernel
theorem dL_law_595 : decode cL_law 595 = .ok (.iadd, 1) := by decide +kernel
theorem dL_law_596 : decode cL_law 596 = .ok (.iaload, 1) := by decide +kernel
theorem dL_law_597 : decode cL_law 597 = .ok (.invokevirtual 89, 3) := by decide +kernel
theorem dL_law_600 : decode cL_law 600 = .ok (.aload_n 2, 1) := by decide +kernel
theorem dL_law_601 : decode cL_law 601 = .ok (.aload_n 0, 1) := by decide +kernel
theorem dL_law_602 : decode cL_law 602 = .ok (.iload_n 3, 1) := by decide +kernel
theorem dL_law_603 : decode cL_law 603 = .ok (.iconst 1, 1) := by decide +kernel
theorem dL_law_604 : decode cL_law 604 = .ok (.iadd, 1) := by decide +kernel
theorem dL_law_605 : decode cL_law 605 = .ok (.iaload, 1) := by decide +kernel
theorem dL_law_606 : decode cL_law 606 = .ok (.aload_n 0, 1) := by decide +kernel
theorem dL_law_607 : decode cL_law 607 = .ok (.iload_n 3, 1) := by decide +kernel
theorem dL_law_608 : decode cL_law 608 = .ok (.iconst 2, 1) := by decide +kernel
theorem dL_law_609 : decode cL_law 609 = .ok (.iadd, 1) := by decide +kernel
theorem dL_law_610 : decode cL_law 610 = .ok (.iaload, 1) := by decide +kernel
theorem dL_law_611 : decode cL_law 611 = .ok (.invokevirtual 92, 3) := by decide +kernel
theorem dL_law_614 : decode cL_law 614 = .ok (.if_icmp .eq 236, 3) := by decide +kernel
theorem dL_law_617 : decode cL_law 617 = .ok (.iconst 0, 1) := by decide +kernel
theorem dL_law_618 : decode cL_law 618 = .ok (.ireturn, 1) := by decide +kernel
theorem dL_law_619 : decode cL_law 619 = .ok (.aload_n 1, 1) := by decide +kernel
theorem dL_law_620 : decode cL_law 620 = .ok (.aload_n 0, 1) := by decide +kernel
theorem dL_law_621 : decode cL_law 621 = .ok (.iload_n 3, 1) := by decide +kernel
theorem dL_law_622 : decode cL_law 622 = .ok (.iconst 1, 1) := by decide +kernel
theorem dL_law_623 : decode cL_law 623 = .ok (.iadd, 1) := by decide +kernel
theorem dL_law_624 : decode cL_law 624 = .ok (.iaload, 1) := by decide +kernel
theorem dL_law_625 : decode cL_law 625 = .ok (.aload_n 0, 1) := by decide +kernel
theorem dL_law_626 : decode cL_law 626 = .ok (.iload_n 3, 1) := by decide +kernel
theorem dL_law_627 : decode cL_law 627 = .ok (.iconst 2, 1) := by decide +kernel
theorem dL_law_628 : decode cL_law 628 = .ok (.iadd, 1) := by decide +kernel
theorem dL_law_629 : decode cL_law 629 = .ok (.iaload, 1) := by decide +kernel
theorem dL_law_630 : decode cL_law 630 = .ok (.aload_n 0, 1) := by decide +kernel
theorem dL_law_631 : decode cL_law 631 = .ok (.iload_n 3, 1) := by decide +kernel
theorem dL_law_632 : decode cL_law 632 = .ok (.iconst 3, 1) := by decide +kernel
theorem dL_law_633 : decode cL_law 633 = .ok (.iadd, 1) := by decide +kernel
theorem dL_law_634 : decode cL_law 634 = .ok (.iaload, 1) := by decide +kernel
theorem dL_law_635 : decode cL_law 635 = .ok (.invokevirtual 93, 3) := by decide +kernel
theorem dL_law_638 : decode cL_law 638 = .ok (.aload_n 2, 1) := by decide +kernel
theorem dL_law_639 : decode cL_law 639 = .ok (.aload_n 0, 1) := by decide +kernel
theorem dL_law_640 : decode cL_law 640 = .ok (.iload_n 3, 1) := by decide +kernel
theorem dL_law_641 : decode cL_law 641 = .ok (.iconst 1, 1) := by decide +kernel
theorem dL_law_642 : decode cL_law 642 = .ok (.iadd, 1) := by decide +kernel
theorem dL_law_643 : decode cL_law 643 = .ok (.iaload, 1) := by decide +kernel
theorem dL_law_644 : decode cL_law 644 = .ok (.aload_n 0, 1) := by decide +kernel
theorem dL_law_645 : decode cL_law 645 = .ok (.iload_n 3, 1) := by decide +kernel
theorem dL_law_646 : decode cL_law 646 = .ok (.iconst 2, 1) := by decide +kernel
theorem dL_law_647 : decode cL_law 647 = .ok (.iadd, 1) := by decide +kernel
theorem dL_law_648 : decode cL_law 648 = .ok (.iaload, 1) := by decide +kernel
theorem dL_law_649 : decode cL_law 649 = .ok (.aload_n 0, 1) := by decide +kernel
theorem dL_law_650 : decode cL_law 650 = .ok (.iload_n 3, 1) := by decide +kernel
theorem dL_law_651 : decode cL_law 651 = .ok (.iconst 3, 1) := by decide +kernel
theorem dL_law_652 : decode cL_law 652 = .ok (.iadd, 1) := by decide +kernel
theorem dL_law_653 : decode cL_law 653 = .ok (.iaload, 1) := by decide +kernel
theorem dL_law_654 : decode cL_law 654 = .ok (.invokevirtual 96, 3) := by decide +kernel
theorem dL_law_657 : decode cL_law 657 = .ok (.if_icmp .eq 193, 3) := by decide +kernel
theorem dL_law_660 : decode cL_law 660 = .ok (.iconst 0, 1) := by decide +kernel
theorem dL_law_661 : decode cL_law 661 = .ok (.ireturn, 1) := by decide +kernel
theorem dL_law_662 : decode cL_law 662 = .ok (.aload_n 1, 1) := by decide +kernel
theorem dL_law_663 : decode cL_law 663 = .ok (.aload_n 0, 1) := by decide +kernel
theorem dL_law_664 : decode cL_law 664 = .ok (.iload_n 3, 1) := by decide +kernel
theorem dL_law_665 : decode cL_law 665 = .ok (.iconst 1, 1) := by decide +kernel
theorem dL_law_666 : decode cL_law 666 = .ok (.iadd, 1) := by decide +kernel
theorem dL_law_667 : decode cL_law 667 = .ok (.iaload, 1) := by decide +kernel
theorem dL_law_668 : decode cL_law 668 = .ok (.invokevirtual 97, 3) := by decide +kernel
theorem dL_law_671 : decode cL_law 671 = .ok (.aload_n 2, 1) := by decide +kernel
theorem dL_law_672 : decode cL_law 672 = .ok (.aload_n 0, 1) := by decide +kernel
theorem dL_law_673 : decode cL_law 673 = .ok (.iload_n 3, 1) := by decide +kernel
theorem dL_law_674 : decode cL_law 674 = .ok (.iconst 1, 1) := by decide +kernel
theorem dL_law_675 : decode cL_law 675 = .ok (.iadd, 1) := by decide +kernel
theorem dL_law_676 : decode cL_law 676 = .ok (.iaload, 1) := by decide +kernel
theorem dL_law_677 : decode cL_law 677 = .ok (.invokevirtual 100, 3) := by decide +kernel
theorem dL_law_680 : decode cL_law 680 = .ok (.if_icmp .eq 170, 3) := by decide +kernel
theorem dL_law_683 : decode cL_law 683 = .ok (.iconst 0, 1) := by decide +kernel
theorem dL_law_684 : decode cL_law 684 = .ok (.ireturn, 1) := by decide +kernel
theorem dL_law_685 : decode cL_law 685 = .ok (.aload_n 1, 1) := by decide +kernel
theorem dL_law_686 : decode cL_law 686 = .ok (.aload_n 0, 1) := by decide +kernel
theorem dL_law_687 : decode cL_law 687 = .ok (.iload_n 3, 1) := by decide +kernel
theorem dL_law_688 : decode cL_law 688 = .ok (.iconst 1, 1) := by decide +kernel
theorem dL_law_689 : decode cL_law 689 = .ok (.iadd, 1) := by decide +kernel
theorem dL_law_690 : decode cL_law 690 = .ok (.iaload, 1) := by decide +kernel
theorem dL_law_691 : decode cL_law 691 = .ok (.aload_n 0, 1) := by decide +kernel
theorem dL_law_692 : decode cL_law 692 = .ok (.iload_n 3, 1) := by decide +kernel
theorem dL_law_693 : decode cL_law 693 = .ok (.iconst 2, 1) := by decide +kernel
theorem dL_law_694 : decode cL_law 694 = .ok (.iadd, 1) := by decide +kernel
theorem dL_law_695 : decode cL_law 695 = .ok (.iaload, 1) := by decide +kernel
theorem dL_law_696 : decode cL_law 696 = .ok (.invokevirtual 101, 3) := by decide +kernel
theorem dL_law_699 : decode cL_law 699 = .ok (.aload_n 2, 1) := by decide +kernel
theorem dL_law_700 : decode cL_law 700 = .ok (.aload_n 0, 1) := by decide +kernel
theorem dL_law_701 : decode cL_law 701 = .ok (.iload_n 3, 1) := by decide +kernel
theorem dL_law_702 : decode cL_law 702 = .ok (.iconst 1, 1) := by decide +kernel
theorem dL_law_703 : decode cL_law 703 = .ok (.iadd, 1) := by decide +kernel
theorem dL_law_704 : decode cL_law 704 = .ok (.iaload, 1) := by decide +kernel
theorem dL_law_705 : decode cL_law 705 = .ok (.aload_n 0, 1) := by decide +kernel
theorem dL_law_706 : decode cL_law 706 = .ok (.iload_n 3, 1) := by decide +kernel
theorem dL_law_707 : decode cL_law 707 = .ok (.iconst 2, 1) := by decide +kernel
theorem dL_law_708 : decode cL_law 708 = .ok (.iadd, 1) := by decide +kernel
theorem dL_law_709 : decode cL_law 709 = .ok (.iaload, 1) := by decide +kernel
theorem dL_law_710 : decode cL_law 710 = .ok (.invokevirtual 104, 3) := by decide +kernel
theorem dL_law_713 : decode cL_law 713 = .ok (.if_icmp .eq 137, 3) := by decide +kernel
theorem dL_law_716 : decode cL_law 716 = .ok (.iconst 0, 1) := by decide +kernel
theorem dL_law_717 : decode cL_law 717 = .ok (.ireturn, 1) := by decide +kernel
theorem dL_law_718 : decode cL_law 718 = .ok (.aload_n 1, 1) := by decide +kernel
theorem dL_law_719 : decode cL_law 719 = .ok (.aload_n 0, 1) := by decide +kernel
theorem dL_law_720 : decode cL_law 720 = .ok (.iload_n 3, 1) := by decide +kernel
theorem dL_law_721 : decode cL_law 721 = .ok (.iconst 1, 1) := by decide +kernel
theorem dL_law_722 : decode cL_law 722 = .ok (.iadd, 1) := by decide +kernel
theorem dL_law_723 : decode cL_law 723 = .ok (.iaload, 1) := by decide +kernel
theorem dL_law_724 : decode cL_law 724 = .ok (.aload_n 0, 1) := by decide +kernel
theorem dL_law_725 : decode cL_law 725 = .ok (.iload_n 3, 1) := by decide +kernel
theorem dL_law_726 : decode cL_law 726 = .ok (.iconst 2, 1) := by decide +kernel
theorem dL_law_727 : decode cL_law 727 = .ok (.iadd, 1) := by decide +kernel
theorem dL_law_728 : decode cL_law 728 = .ok (.iaload, 1) := by decide +kernel
theorem dL_law_729 : decode cL_law 729 = .ok (.invokevirtual 105, 3) := by decide +kernel
theorem dL_law_732 : decode cL_law 732 = .ok (.aload_n 2, 1) := by decide +kernel
theorem dL_law_733 : decode cL_law 733 = .ok (.aload_n 0, 1) := by decide +kernel
theorem dL_law_734 : decode cL_law 734 = .ok (.iload_n 3, 1) := by decide +kernel
theorem dL_law_735 : decode cL_law 735 = .ok (.iconst 1, 1) := by decide +kernel
theorem dL_law_736 : decode cL_law 736 = .ok (.iadd, 1) := by decide +kernel
theorem dL_law_737 : decode cL_law 737 = .ok (.iaload, 1) := by decide +kernel
theorem dL_law_738 : decode cL_law 738 = .ok (.aload_n 0, 1) := by decide +kernel
theorem dL_law_739 : decode cL_law 739 = .ok (.iload_n 3, 1) := by decide +kernel
theorem dL_law_740 : decode cL_law 740 = .ok (.iconst 2, 1) := by decide +kernel
theorem dL_law_741 : decode cL_law 741 = .ok (.iadd, 1) := by decide +kernel
theorem dL_law_742 : decode cL_law 742 = .ok (.iaload, 1) := by decide +kernel
theorem dL_law_743 : decode cL_law 743 = .ok (.invokevirtual 108, 3) := by decide +kernel
theorem dL_law_746 : decode cL_law 746 = .ok (.if_icmp .eq 104, 3) := by decide +kernel
theorem dL_law_749 : decode cL_law 749 = .ok (.iconst 0, 1) := by decide +kernel
theorem dL_law_750 : decode cL_law 750 = .ok (.ireturn, 1) := by decide +kernel
theorem dL_law_751 : decode cL_law 751 = .ok (.aload_n 1, 1) := by decide +kernel
theorem dL_law_752 : decode cL_law 752 = .ok (.aload_n 0, 1) := by decide +kernel
theorem dL_law_753 : decode cL_law 753 = .ok (.iload_n 3, 1) := by decide +kernel
theorem dL_law_754 : decode cL_law 754 = .ok (.iconst 1, 1) := by decide +kernel
theorem dL_law_755 : decode cL_law 755 = .ok (.iadd, 1) := by decide +kernel
theorem dL_law_756 : decode cL_law 756 = .ok (.iaload, 1) := by decide +kernel
theorem dL_law_757 : decode cL_law 757 = .ok (.aload_n 0, 1) := by decide +kernel
theorem dL_law_758 : decode cL_law 758 = .ok (.iload_n 3, 1) := by decide +kernel
theorem dL_law_759 : decode cL_law 759 = .ok (.iconst 2, 1) := by decide +kernel
theorem dL_law_760 : decode cL_law 760 = .ok (.iadd, 1) := by decide +kernel
theorem dL_law_761 : decode cL_law 761 = .ok (.iaload, 1) := by decide +kernel
theorem dL_law_762 : decode cL_law 762 = .ok (.aload_n 0, 1) := by decide +kernel
theorem dL_law_763 : decode cL_law 763 = .ok (.iload_n 3, 1) := by decide +kernel
theorem dL_law_764 : decode cL_law 764 = .ok (.iconst 3, 1) := by decide +kernel
theorem dL_law_765 : decode cL_law 765 = .ok (.iadd, 1) := by decide +kernel
theorem dL_law_766 : decode cL_law 766 = .ok (.iaload, 1) := by decide +kernel
theorem dL_law_767 : decode cL_law 767 = .ok (.invokevirtual 109, 3) := by decide +kernel
theorem dL_law_770 : decode cL_law 770 = .ok (.aload_n 2, 1) := by decide +kernel
theorem dL_law_771 : decode cL_law 771 = .ok (.aload_n 0, 1) := by decide +kernel
theorem dL_law_772 : decode cL_law 772 = .ok (.iload_n 3, 1) := by decide +kernel
theorem dL_law_773 : decode cL_law 773 = .ok (.iconst 1, 1) := by decide +kernel
theorem dL_law_774 : decode cL_law 774 = .ok (.iadd, 1) := by decide +kernel
theorem dL_law_775 : decode cL_law 775 = .ok (.iaload, 1) := by decide +kernel
theorem dL_law_776 : decode cL_law 776 = .ok (.aload_n 0, 1) := by decide +kernel
theorem dL_law_777 : decode cL_law 777 = .ok (.iload_n 3, 1) := by decide +kernel
theorem dL_law_778 : decode cL_law 778 = .ok (.iconst 2, 1) := by decide +kernel
theorem dL_law_779 : decode cL_law 779 = .ok (.iadd, 1) := by decide +kernel
theorem dL_law_780 : decode cL_law 780 = .ok (.iaload, 1) := by decide +kernel
theorem dL_law_781 : decode cL_law 781 = .ok (.aload_n 0, 1) := by decide +kernel
theorem dL_law_782 : decode cL_law 782 = .ok (.iload_n 3, 1) := by decide +kernel
theorem dL_law_783 : decode cL_law 783 = .ok (.iconst 3, 1) := by decide +kernel
theorem dL_law_784 : decode cL_law 784 = .ok (.iadd, 1) := by decide +kernel
theorem dL_law_785 : decode cL_law 785 = .ok (.iaload, 1) := by decide +kernel
theorem dL_law_786 : decode cL_law 786 = .ok (.invokevirtual 112, 3) := by decide +kernel
theorem dL_law_789 : decode cL_law 789 = .ok (.if_icmp .eq 61, 3) := by decide +kernel
theorem dL_law_792 : decode cL_law 792 = .ok (.iconst 0, 1) := by decide +kernel
theorem dL_law_793 : decode cL_law 793 = .ok (.ireturn, 1) := by decide +kernel
theorem dL_law_794 : decode cL_law 794 = .ok (.aload_n 1, 1) := by decide +kernel
theorem dL_law_795 : decode cL_law 795 = .ok (.aload_n 0, 1) := by decide +kernel
theorem dL_law_796 : decode cL_law 796 = .ok (.iload_n 3, 1) := by decide +kernel
theorem dL_law_797 : decode cL_law 797 = .ok (.iconst 1, 1) := by decide +kernel
theorem dL_law_798 : decode cL_law 798 = .ok (.iadd, 1) := by decide +kernel
theorem dL_law_799 : decode cL_law 799 = .ok (.iaload, 1) := by decide +kernel
theorem dL_law_800 : decode cL_law 800 = .ok (.aload_n 0, 1) := by decide +kernel
theorem dL_law_801 : decode cL_law 801 = .ok (.iload_n 3, 1) := by decide +kernel
theorem dL_law_802 : decode cL_law 802 = .ok (.iconst 2, 1) := by decide +kernel
theorem dL_law_803 : decode cL_law 803 = .ok (.iadd, 1) := by decide +kernel
theorem dL_law_804 : decode cL_law 804 = .ok (.iaload, 1) := by decide +kernel
theorem dL_law_805 : decode cL_law 805 = .ok (.invokevirtual 113, 3) := by decide +kernel
theorem dL_law_808 : decode cL_law 808 = .ok (.aload_n 2, 1) := by decide +kernel
theorem dL_law_809 : decode cL_law 809 = .ok (.aload_n 0, 1) := by decide +kernel
theorem dL_law_810 : decode cL_law 810 = .ok (.iload_n 3, 1) := by decide +kernel
theorem dL_law_811 : decode cL_law 811 = .ok (.iconst 1, 1) := by decide +kernel
theorem dL_law_812 : decode cL_law 812 = .ok (.iadd, 1) := by decide +kernel
theorem dL_law_813 : decode cL_law 813 = .ok (.iaload, 1) := by decide +kernel
theorem dL_law_814 : decode cL_law 814 = .ok (.aload_n 0, 1) := by decide +kernel
theorem dL_law_815 : decode cL_law 815 = .ok (.iload_n 3, 1) := by decide +kernel
theorem dL_law_816 : decode cL_law 816 = .ok (.iconst 2, 1) := by decide +kernel
theorem dL_law_817 : decode cL_law 817 = .ok (.iadd, 1) := by decide +kernel
theorem dL_law_818 : decode cL_law 818 = .ok (.iaload, 1) := by decide +kernel
theorem dL_law_819 : decode cL_law 819 = .ok (.invokevirtual 116, 3) := by decide +kernel
theorem dL_law_822 : decode cL_law 822 = .ok (.if_icmp .eq 28, 3) := by decide +kernel
theorem dL_law_825 : decode cL_law 825 = .ok (.iconst 0, 1) := by decide +kernel
theorem dL_law_826 : decode cL_law 826 = .ok (.ireturn, 1) := by decide +kernel
theorem dL_law_827 : decode cL_law 827 = .ok (.aload_n 1, 1) := by decide +kernel
theorem dL_law_828 : decode cL_law 828 = .ok (.aload_n 0, 1) := by decide +kernel
theorem dL_law_829 : decode cL_law 829 = .ok (.iload_n 3, 1) := by decide +kernel
theorem dL_law_830 : decode cL_law 830 = .ok (.iconst 1, 1) := by decide +kernel
theorem dL_law_831 : decode cL_law 831 = .ok (.iadd, 1) := by decide +kernel
theorem dL_law_832 : decode cL_law 832 = .ok (.iaload, 1) := by decide +kernel
theorem dL_law_833 : decode cL_law 833 = .ok (.invokevirtual 117, 3) := by decide +kernel
theorem dL_law_836 : decode cL_law 836 = .ok (.aload_n 2, 1) := by decide +kernel
theorem dL_law_837 : decode cL_law 837 = .ok (.aload_n 0, 1) := by decide +kernel
theorem dL_law_838 : decode cL_law 838 = .ok (.iload_n 3, 1) := by decide +kernel
theorem dL_law_839 : decode cL_law 839 = .ok (.iconst 1, 1) := by decide +kernel
theorem dL_law_840 : decode cL_law 840 = .ok (.iadd, 1) := by decide +kernel
theorem dL_law_841 : decode cL_law 841 = .ok (.iaload, 1) := by decide +kernel
theorem dL_law_842 : decode cL_law 842 = .ok (.invokevirtual 120, 3) := by decide +kernel
theorem dL_law_845 : decode cL_law 845 = .ok (.if_icmp .eq 5, 3) := by decide +kernel
theorem dL_law_848 : decode cL_law 848 = .ok (.iconst 0, 1) := by decide +kernel
theorem dL_law_849 : decode cL_law 849 = .ok (.ireturn, 1) := by decide +kernel
theorem dL_law_850 : decode cL_law 850 = .ok (.iinc 3 4, 3) := by decide +kernel
theorem dL_law_853 : decode cL_law 853 = .ok (.goto (-835), 3) := by decide +kernel
theorem dL_law_856 : decode cL_law 856 = .ok (.iconst 1, 1) := by decide +kernel
theorem dL_law_857 : decode cL_law 857 = .ok (.ireturn, 1) := by decide +kernel
end
section
/-! ===== pool numbers of the nest words and of the texts ===== -/
abbrev nwTi : Cond := .methodLinkNest "LateChecks" 9 yX2_init "LateChecks"
abbrev nwEi : Cond := .methodLinkNest "LateChecks" 288 yX1_init "LateChecks"
abbrev nwEb : Cond := .methodLinkNest "LateChecks$Entry" 48 yX3_bit "LateChecks"
abbrev nwDb : Cond := .methodLinkNest "LateChecks$Deal" 53 yX3_bit "LateChecks"
abbrev nwEh : Cond := .methodLinkNest "LateChecks$Entry" 52 yX3_has "LateChecks"
def entJ : List Nat := [88, 90, 92, 94, 96, 98, 100, 102, 104, 106, 108, 110, 112]
def txtJ : List String := ["all", "item", "limit", "begin", "read", "write", "send", "", "IV", "N", "D", "DI", "DIV"]
def lenJ : List Nat := [3, 4, 5, 5, 4, 5, 4, 0, 2, 1, 1, 2, 3]
def bytJ : List (List Int32) := [[97, 108, 108], [105, 116, 101, 109], [108, 105, 109, 105, 116], [98, 101, 103, 105, 110], [114, 101, 97, 100], [119, 114, 105, 116, 101], [115, 101, 110, 100], [], [73, 86], [78], [68], [68, 73], [68, 73, 86]]
/-! ===== what the tables say, carried by every contract ===== -/
abbrev Cx : Type := va_G × (Nat → ClassId) × (Nat → Nat) × (Nat → Nat)
def tysG (k : Nat → ClassId) : List (ClassId × FieldType) := [(k 0, .int), (k 1, .boolean), (k 2, .object "LateChecks$Deal"), (k 3, .object "LateChecks$Entry")]
def KN (U : State) : Prop := va_Nw nwTi U ∧ va_Nw nwEi U ∧ va_Nw nwEb U ∧ va_Nw nwDb U ∧ va_Nw nwEh U
def KJ (G : Cx) (A : Nat → Prop) (U : State) : Prop := vk_S 13 lenJ bytJ G.2.2.1 G.2.2.2 A U U.heap ∧ (∀ i, i < 13 → vk_R "LateChecks$Text" (entJ.getD i 0) (txtJ.getD i "") (G.2.2.1 i) U) ∧ va_Z "java/lang/String" "COMPACT_STRINGS" "Z" (.int 1) A U U.heap ∧ va_Zq "jdk/internal/util/Preconditions" "SIOOBE_FORMATTER" "Ljava/util/function/BiFunction;" A U U.heap
def KT (G : Cx) (A : Nat → Prop) (U : State) : Prop := va_K G.1 vwCl (tysG G.2.1) U ∧ KN U ∧ (va_AO "LateChecks$Deal" U ∧ va_AO "LateChecks$Entry" U) ∧ KJ G A U
theorem KN.warm {s U : State} (hW : s.WarmedH U.vm) (h : KN s) : KN U := ⟨va_Nw.warmM hW h.1, va_Nw.warmM hW h.2.1, va_Nw.warmM hW h.2.2.1, va_Nw.warmM hW h.2.2.2.1, va_Nw.warmM hW h.2.2.2.2⟩
theorem KN.same {u U : State} (hv : u.vm = U.vm) (h : KN u) : KN U := ⟨va_Nw.same rfl hv h.1, va_Nw.same rfl hv h.2.1, va_Nw.same rfl hv h.2.2.1, va_Nw.same rfl hv h.2.2.2.1, va_Nw.same rfl hv h.2.2.2.2⟩
theorem KT.call {G : Cx} {A A' : Nat → Prop} {s U : State} {H : Heap} {locs : List Loc} (h : KT G A s) (hS : va_S A s.heap H locs) (hA : ∀ q, A' q → A q) (hU : U.heap = H) (hW : s.WarmedH U.vm) : KT G A' U := by
  obtain ⟨h1, h2, ⟨a1, a2⟩, h4, h5, h6, h7⟩ := h
  have ha := hW.alike
  subst hU
  exact ⟨va_K.moved ha h1, h2.warm hW, ⟨a1.moved ha, a2.moved ha⟩, ((h4.kept hS.2.1).narrow hA).moved ha, fun i hi => (h5 i hi).warm hW, ((h6.kept hS.2.1).narrow hA).moved ha, ((h7.kept hS.2.1).narrow hA).moved ha⟩
theorem KT.blind {G : Cx} {A : Nat → Prop} {U : State} (g : JFrame) (mk : MethodId) (a : Array Value) (h : KT G A U) : KT G A (U.calling g mk a) := by
  obtain ⟨h1, h2, ⟨a1, a2⟩, h4, h5, h6, h7⟩ := h
  have ha : U.vm.Alike (U.calling g mk a).vm := Vm.Alike.refl U.vm
  exact ⟨va_K.moved ha h1, h2.same rfl, ⟨a1.moved ha, a2.moved ha⟩, h4.moved ha, fun i hi => (h5 i hi).same rfl, h6.moved ha, h7.moved ha⟩
/-! ===== a world, and what a method may rely on while it runs ===== -/
def Wd (G : Cx) (A : Nat → Prop) (s : State) (H : Heap) (locs : List Loc) (w : va_W) : Prop := va_P G.1 vwCl w H ∧ va_D A w ∧ va_S A s.heap H locs ∧ KT G A s ∧ ∀ q, s.heap.size ≤ q → A q
def PreW (G : Cx) (w : va_W) (sz : Nat) (U : State) : Prop := U.heap.size = sz ∧ va_P G.1 vwCl w U.heap ∧ va_D (fun _ => True) w ∧ KT G (va_A w sz) U
def PostW {S : Type} (G : Cx) (wf : S → va_W) (A : Nat → Prop) (u : S) (t : State) : Prop := va_P G.1 vwCl (wf u) t.heap ∧ va_D A (wf u)
/-- contracts: an int (or boolean), nothing, a reference or null -/
def Ci {S : Type} (l : Launch) (G : Cx) (y : MethodName) (co : ByteArray) (n : Nat) (rt : FieldType) (rm : Room) (wf : S → va_W) (av : List Value) (x : S) (post : Int32 → S → Prop) : Prop := ∀ sz, Met l y (.code y co n (some rt) :: gW) rm (va_Pc av (PreW G (wf x) sz)) (va_Qi post (PostW G wf (va_A (wf x) sz)) (va_A (wf x) sz)) rm.cells rm.slots (va_A (wf x) sz)
def Cv {S : Type} (l : Launch) (G : Cx) (y : MethodName) (co : ByteArray) (n : Nat) (rm : Room) (wf : S → va_W) (av : List Value) (x : S) (post : S → Prop) : Prop := ∀ sz, Met l y (.code y co n none :: gW) rm (va_Pc av (PreW G (wf x) sz)) (va_Qv post (PostW G wf (va_A (wf x) sz)) (va_A (wf x) sz)) rm.cells rm.slots (va_A (wf x) sz)
def Cq {S : Type} (l : Launch) (G : Cx) (y : MethodName) (co : ByteArray) (n : Nat) (rt : FieldType) (rm : Room) (wf : S → va_W) (av : List Value) (x : S) (post : Option Nat → S → Prop) : Prop := ∀ sz, Met l y (.code y co n (some rt) :: gW) rm (va_Pc av (PreW G (wf x) sz)) (va_Qq post (PostW G wf (va_A (wf x) sz)) (va_A (wf x) sz)) rm.cells rm.slots (va_A (wf x) sz)
/-- of a method that changes nothing and has no world but the texts -/
def Si (l : Launch) (G : Cx) (y : MethodName) (co : ByteArray) (n : Nat) (rt : FieldType) (rm : Room) (av : List Value) (post : Int32 → Prop) : Prop := ∀ A : Nat → Prop, Met l y (.code y co n (some rt) :: gW) rm (va_Pc av (KT G A)) (vp_Si post) 0 0 (fun _ => False)
def Sq (l : Launch) (G : Cx) (y : MethodName) (co : ByteArray) (n : Nat) (rt : FieldType) (rm : Room) (av : List Value) (post : Option Nat → Prop) : Prop := ∀ A : Nat → Prop, Met l y (.code y co n (some rt) :: gW) rm (va_Pc av (KT G A)) (va_Sq post) 0 0 (fun _ => False)
def Sv (l : Launch) (G : Cx) (y : MethodName) (co : ByteArray) (n : Nat) (rm : Room) (av : List Value) : Prop := ∀ A : Nat → Prop, Met l y (.code y co n none :: gW) rm (va_Pc av (KT G A)) (va_Sv (fun _ => True)) 0 0 (fun _ => False)
/-- how a method's proof begins -/
def Go (l : Launch) (y : MethodName) (co : ByteArray) (n : Nat) (rt : Option FieldType) (p : Program) (s : State) (m : MethodId) (args : Array Value) (meth : Method) (c : Code) : Prop := p.tables.exec = Jvm.exec ∧ c.code = co ∧ meth.sig.returnType = rt ∧ c.maxLocals = n ∧ s.vm.findClass y.cls = some m.cls ∧ (∀ w ∈ gW, w.before args s = true) ∧ meth.locks = false ∧ meth.name = y.name
theorem Wd.of {G : Cx} {w : va_W} {s : State} (hP : va_P G.1 vwCl w s.heap) (hD : va_D (fun _ => True) w) (hK : KT G (va_A w s.heap.size) s) : Wd G (va_A w s.heap.size) s s.heap [] w := ⟨hP, hD.self, va_S.rf, hK, fun _ h => Or.inr h⟩
theorem Go.of {l : Launch} {y : MethodName} {co : ByteArray} {n : Nat} {rt : Option FieldType} {rm : Room} {p : Program} {e : Env} {s : State} {m : MethodId} {args : Array Value} {below : List Frame} {meth : Method} {c : Code} {s₁ : State} (B : BodyLoose p l y (headSpec (.code y co n rt :: gW) rm) co n rt e s m args below meth c s₁) (hml : c.maxLocals = n) : Go l y co n rt p s m args meth c :=
  ⟨B.exec, B.bytes, B.returns, hml, findClass_of_methodNamed B.named, fun w h => atoms_spec (ws := .code y co n rt :: gW) B.pre w (List.mem_cons_of_mem _ h), B.notSynchronized, (name_of_methodNamed B.named B.method).1⟩
section VB
variable {S : Type} {l : Launch} {G : Cx} {y : MethodName} {co : ByteArray} {n : Nat} {rm : Room} {wf : S → va_W} {av : List Value} {x : S}
theorem Ci.mk {rt : FieldType} {post : Int32 → S → Prop} (hy : plainName y.cls = true) (hlen : (lg_sl av).length ≤ n)
    (body : ∀ (p : Program) (e : Env) (s : State) (m : MethodId) (below : List Frame) (meth : Method) (c : Code) (A : Nat → Prop) (ls : Array Slot), Go l y co n (some rt) p s m av.toArray meth c → Wd G A s s.heap [] (wf x) → lv_has ls n (lv_args 0 av) →
      W p l e rm s m av.toArray below meth c s.heap [] 0 0 (MQ below (va_Qi post (PostW G wf A) A) av.toArray s rm.cells rm.slots A) (F0 m 0 ls [])) : Ci l G y co n rt rm wf av x post := by
  intro sz
  refine Met.ofW (cc := co) (maxL := n) (ret := some rt) hy rfl ?_
  intro p e s m args below meth c s₁ B hml hv
  obtain ⟨rfl, hsz, hP, hD, hK⟩ := hv
  subst hsz
  rw [lg_entry_eq]
  exact body p e s m below meth c _ _ (Go.of B hml) (Wd.of hP hD hK) (lv_entry av hlen)
theorem Cv.mk {post : S → Prop} (hy : plainName y.cls = true) (hlen : (lg_sl av).length ≤ n)
    (body : ∀ (p : Program) (e : Env) (s : State) (m : MethodId) (below : List Frame) (meth : Method) (c : Code) (A : Nat → Prop) (ls : Array Slot), Go l y co n none p s m av.toArray meth c → Wd G A s s.heap [] (wf x) → lv_has ls n (lv_args 0 av) →
      W p l e rm s m av.toArray below meth c s.heap [] 0 0 (MQ below (va_Qv post (PostW G wf A) A) av.toArray s rm.cells rm.slots A) (F0 m 0 ls [])) : Cv l G y co n rm wf av x post := by
  intro sz
  refine Met.ofW (cc := co) (maxL := n) (ret := none) hy rfl ?_
  intro p e s m args below meth c s₁ B hml hv
  obtain ⟨rfl, hsz, hP, hD, hK⟩ := hv
  subst hsz
  rw [lg_entry_eq]
  exact body p e s m below meth c _ _ (Go.of B hml) (Wd.of hP hD hK) (lv_entry av hlen)
theorem Cq.mk {rt : FieldType} {post : Option Nat → S → Prop} (hy : plainName y.cls = true) (hlen : (lg_sl av).length ≤ n)
    (body : ∀ (p : Program) (e : Env) (s : State) (m : MethodId) (below : List Frame) (meth : Method) (c : Code) (A : Nat → Prop) (ls : Array Slot), Go l y co n (some rt) p s m av.toArray meth c → Wd G A s s.heap [] (wf x) → lv_has ls n (lv_args 0 av) →
      W p l e rm s m av.toArray below meth c s.heap [] 0 0 (MQ below (va_Qq post (PostW G wf A) A) av.toArray s rm.cells rm.slots A) (F0 m 0 ls [])) : Cq l G y co n rt rm wf av x post := by
  intro sz
  refine Met.ofW (cc := co) (maxL := n) (ret := some rt) hy rfl ?_
  intro p e s m args below meth c s₁ B hml hv
  obtain ⟨rfl, hsz, hP, hD, hK⟩ := hv
  subst hsz
  rw [lg_entry_eq]
  exact body p e s m below meth c _ _ (Go.of B hml) (Wd.of hP hD hK) (lv_entry av hlen)
theorem Si.mk {rt : FieldType} {post : Int32 → Prop} (hy : plainName y.cls = true) (hlen : (lg_sl av).length ≤ n)
    (body : ∀ (p : Program) (e : Env) (s : State) (m : MethodId) (below : List Frame) (meth : Method) (c : Code) (A : Nat → Prop) (ls : Array Slot), Go l y co n (some rt) p s m av.toArray meth c → KT G A s → lv_has ls n (lv_args 0 av) →
      W p l e rm s m av.toArray below meth c s.heap [] 0 0 (MQ below (vp_Si post) av.toArray s 0 0 (fun _ => False)) (F0 m 0 ls [])) : Si l G y co n rt rm av post := by
  intro A
  refine Met.ofW (cc := co) (maxL := n) (ret := some rt) hy rfl ?_
  intro p e s m args below meth c s₁ B hml hv
  obtain ⟨rfl, hk⟩ := hv
  rw [lg_entry_eq]
  exact body p e s m below meth c A _ (Go.of B hml) hk (lv_entry av hlen)
theorem Sq.mk {rt : FieldType} {post : Option Nat → Prop} (hy : plainName y.cls = true) (hlen : (lg_sl av).length ≤ n)
    (body : ∀ (p : Program) (e : Env) (s : State) (m : MethodId) (below : List Frame) (meth : Method) (c : Code) (A : Nat → Prop) (ls : Array Slot), Go l y co n (some rt) p s m av.toArray meth c → KT G A s → lv_has ls n (lv_args 0 av) →
      W p l e rm s m av.toArray below meth c s.heap [] 0 0 (MQ below (va_Sq post) av.toArray s 0 0 (fun _ => False)) (F0 m 0 ls [])) : Sq l G y co n rt rm av post := by
  intro A
  refine Met.ofW (cc := co) (maxL := n) (ret := some rt) hy rfl ?_
  intro p e s m args below meth c s₁ B hml hv
  obtain ⟨rfl, hk⟩ := hv
  rw [lg_entry_eq]
  exact body p e s m below meth c A _ (Go.of B hml) hk (lv_entry av hlen)
theorem Sv.mk (hy : plainName y.cls = true) (hlen : (lg_sl av).length ≤ n)
    (body : ∀ (p : Program) (e : Env) (s : State) (m : MethodId) (below : List Frame) (meth : Method) (c : Code) (A : Nat → Prop) (ls : Array Slot), Go l y co n none p s m av.toArray meth c → KT G A s → lv_has ls n (lv_args 0 av) →
      W p l e rm s m av.toArray below meth c s.heap [] 0 0 (MQ below (va_Sv (fun _ => True)) av.toArray s 0 0 (fun _ => False)) (F0 m 0 ls [])) : Sv l G y co n rm av := by
  intro A
  refine Met.ofW (cc := co) (maxL := n) (ret := none) hy rfl ?_
  intro p e s m args below meth c s₁ B hml hv
  obtain ⟨rfl, hk⟩ := hv
  rw [lg_entry_eq]
  exact body p e s m below meth c A _ (Go.of B hml) hk (lv_entry av hlen)
end VB
/-! ===== ends ===== -/
section VE
variable {S : Type} {p : Program} {l : Launch} {e : Env} {R : Room} {s : State} {m : MethodId} {args : Array Value} {below : List Frame} {meth : Method} {c : Code} {H : Heap} {locs : List Loc} {cells slots : Nat} {y : MethodName} {co : ByteArray} {n : Nat} {G : Cx} {wf : S → va_W} {A : Nat → Prop} {u : S} {pc : Nat} {ls : Array Slot}
theorem ret_i {post : Int32 → S → Prop} {r : Int32} (g : Go l y co n (some .int) p s m args meth c) (hw : Wd G A s H locs (wf u)) (hdg : decode co pc = .ok (.ireturn, 1)) (hp : post r u) : W p l e R s m args below meth c H locs cells slots (MQ below (va_Qi post (PostW G wf A) A) args s cells slots A) (F0 m pc ls [.int r]) :=
  W.iret g.1 g.2.1 g.2.2.1 (fun t ht _ => ⟨⟨r, u, rfl, hp, by rw [ht]; exact hw.1, hw.2.1⟩, hw.2.2.1.F ht⟩) hw.2.2.1.2.2 hdg (hlocks := g.2.2.2.2.2.2.1)
theorem ret_z {post : Int32 → S → Prop} {r : Int32} (g : Go l y co n (some .boolean) p s m args meth c) (hw : Wd G A s H locs (wf u)) (hdg : decode co pc = .ok (.ireturn, 1)) (hn : narrow .boolean (.int r) = .int r) (hp : post r u) : W p l e R s m args below meth c H locs cells slots (MQ below (va_Qi post (PostW G wf A) A) args s cells slots A) (F0 m pc ls [.int r]) :=
  W.zret g.1 g.2.1 g.2.2.1 hn (fun t ht _ => ⟨⟨r, u, rfl, hp, by rw [ht]; exact hw.1, hw.2.1⟩, hw.2.2.1.F ht⟩) hw.2.2.1.2.2 hdg (hlocks := g.2.2.2.2.2.2.1)
theorem ret_v {post : S → Prop} (g : Go l y co n none p s m args meth c) (hw : Wd G A s H locs (wf u)) (hdg : decode co pc = .ok (.return_, 1)) (hp : post u) : W p l e R s m args below meth c H locs cells slots (MQ below (va_Qv post (PostW G wf A) A) args s cells slots A) (F0 m pc ls []) :=
  W.vret g.1 g.2.1 g.2.2.1 (fun t ht _ => ⟨⟨u, rfl, hp, by rw [ht]; exact hw.1, hw.2.1⟩, hw.2.2.1.F ht⟩) hw.2.2.1.2.2 hdg (hlocks := g.2.2.2.2.2.2.1)
theorem ret_q {post : Option Nat → S → Prop} {C : String} {r : Option Nat} (g : Go l y co n (some (.object C)) p s m args meth c) (hw : Wd G A s H locs (wf u)) (hdg : decode co pc = .ok (.areturn, 1)) (hp : post r u) : W p l e R s m args below meth c H locs cells slots (MQ below (va_Qq post (PostW G wf A) A) args s cells slots A) (F0 m pc ls [va_rf r]) :=
  W.aret g.1 g.2.1 g.2.2.1 (Or.inl ⟨_, rfl⟩) (va_rf_or r) (fun t ht _ => ⟨⟨r, u, rfl, hp, by rw [ht]; exact hw.1, hw.2.1⟩, hw.2.2.1.F ht⟩) hw.2.2.1.2.2 hdg (hlocks := g.2.2.2.2.2.2.1)
theorem ret_si {post : Int32 → Prop} {r : Int32} (g : Go l y co n (some .int) p s m args meth c) (hdg : decode co pc = .ok (.ireturn, 1)) (hp : post r) : W p l e R s m args below meth c s.heap [] 0 0 (MQ below (vp_Si post) args s 0 0 (fun _ => False)) (F0 m pc ls [.int r]) :=
  W.iret g.1 g.2.1 g.2.2.1 (fun t ht _ => ⟨r, rfl, hp, ht⟩) (fun _ h => by cases h) hdg (hlocks := g.2.2.2.2.2.2.1)
theorem ret_sz {post : Int32 → Prop} {r : Int32} (g : Go l y co n (some .boolean) p s m args meth c) (hdg : decode co pc = .ok (.ireturn, 1)) (hn : narrow .boolean (.int r) = .int r) (hp : post r) : W p l e R s m args below meth c s.heap [] 0 0 (MQ below (vp_Si post) args s 0 0 (fun _ => False)) (F0 m pc ls [.int r]) :=
  W.zret g.1 g.2.1 g.2.2.1 hn (fun t ht _ => ⟨r, rfl, hp, ht⟩) (fun _ h => by cases h) hdg (hlocks := g.2.2.2.2.2.2.1)
theorem ret_sc {ty : FieldType} {post : Int32 → Prop} {r : Int32} (g : Go l y co n (some ty) p s m args meth c) (hdg : decode co pc = .ok (.ireturn, 1)) (hn : narrow ty (.int r) = .int r) (hp : post r) : W p l e R s m args below meth c s.heap [] 0 0 (MQ below (vp_Si post) args s 0 0 (fun _ => False)) (F0 m pc ls [.int r]) :=
  W.zret g.1 g.2.1 g.2.2.1 hn (fun t ht _ => ⟨r, rfl, hp, ht⟩) (fun _ h => by cases h) hdg (hlocks := g.2.2.2.2.2.2.1)
theorem ret_sv (g : Go l y co n none p s m args meth c) (hdg : decode co pc = .ok (.return_, 1)) : W p l e R s m args below meth c s.heap [] 0 0 (MQ below (va_Sv (fun _ => True)) args s 0 0 (fun _ => False)) (F0 m pc ls []) :=
  W.vret g.1 g.2.1 g.2.2.1 (fun t ht _ => ⟨rfl, trivial, ht⟩) (fun _ h => by cases h) hdg (hlocks := g.2.2.2.2.2.2.1)
theorem ret_sq {C : String} {post : Option Nat → Prop} {r : Option Nat} (g : Go l y co n (some (.object C)) p s m args meth c) (hdg : decode co pc = .ok (.areturn, 1)) (hp : post r) : W p l e R s m args below meth c s.heap [] 0 0 (MQ below (va_Sq post) args s 0 0 (fun _ => False)) (F0 m pc ls [va_rf r]) :=
  W.aret g.1 g.2.1 g.2.2.1 (Or.inl ⟨_, rfl⟩) (va_rf_or r) (fun t ht _ => ⟨r, rfl, hp, ht⟩) (fun _ h => by cases h) hdg (hlocks := g.2.2.2.2.2.2.1)
end VE
end
section
/-! ===== calls by contract, the callee's world being the caller's ===== -/
theorem gW_of {y : MethodName} {co : ByteArray} {n : Nat} {rt : Option FieldType} (hc : Cond.code y co n rt ∈ gW) : GoodIn gW (.code y co n rt :: gW) := fun w h => by
  rcases List.mem_cons.mp h with h | h
  · subst h; exact ⟨hc, gW_good _ hc⟩
  · exact ⟨h, gW_good _ h⟩
theorem blindW {G : Cx} {av : List Value} {w : va_W} {sz : Nat} : FrameBlind (va_Pc av (PreW G w sz)) := fun a U g mk q => ⟨q.1, q.2.1, q.2.2.1, q.2.2.2.1, q.2.2.2.2.blind g mk a⟩
theorem blindK {G : Cx} {av : List Value} {A : Nat → Prop} : FrameBlind (va_Pc av (KT G A)) := fun a U g mk q => ⟨q.1, q.2.blind g mk a⟩
theorem Wd.free {G : Cx} {A : Nat → Prop} {s : State} {H : Heap} {locs : List Loc} {w : va_W} (hw : Wd G A s H locs w) : ∀ q, va_A w H.size q → A q := by
  intro q h
  rcases h with ⟨k, e, h⟩ | h
  · exact hw.2.1.2 k (q, e) h
  · exact hw.2.2.2.2 q (Nat.le_trans hw.2.2.1.1 h)
theorem Wd.pre {G : Cx} {A : Nat → Prop} {s U : State} {H : Heap} {locs : List Loc} {w : va_W} (hw : Wd G A s H locs w) (hU : U.heap = H) (hW : s.WarmedH U.vm) : PreW G w H.size U :=
  ⟨by rw [hU], by rw [hU]; exact hw.1, hw.2.1.weaken (fun _ _ _ _ => trivial), hw.2.2.2.1.call hw.2.2.1 hw.free hU hW⟩
theorem Wd.post {S : Type} {G : Cx} {A : Nat → Prop} {s t : State} {H H1 : Heap} {locs locs1 : List Loc} {w : va_W} {wf : S → va_W} {u : S} (hw : Wd G A s H locs w) (ht : t.heap = H1) (hB : PostW G wf (va_A w H.size) u t) (hS : va_S A s.heap H1 locs1) : Wd G A s H1 locs1 (wf u) :=
  ⟨by rw [← ht]; exact hB.1, hB.2.weaken (fun _ _ _ h => hw.free _ h), hS, hw.2.2.2.1, hw.2.2.2.2⟩
/-- a receiver of the world -/
def Rc (w : va_W) (b : Nat) (C : String) : Prop := ∃ (k ci : Nat) (q : vw_C) (fs : List Value), vwCl[ci]? = some q ∧ q.1 = C ∧ w[k]? = some (b, .inr (ci, fs))
theorem Rc.cell {w : va_W} {b : Nat} {C : String} {G : Cx} {A : Nat → Prop} {s : State} {H : Heap} {locs : List Loc} (h : Rc w b C) (hw : Wd G A s H locs w) : ∃ cell : Cell, H[b]? = some cell ∧ cell.vm.isStatics = false ∧ s.vm.findClass C = some cell.cls := by
  obtain ⟨k, ci, q, fs, h1, rfl, h3⟩ := h
  exact va_recv hw.2.2.2.1.1 hw.1 h1 h3
/-- what is asked of the tables for a call -/
def Lk (y0 : MethodName) (idx : Nat) (y : MethodName) (co : ByteArray) (n : Nat) (rt : Option FieldType) : Prop := Cond.methodLink y0.cls idx y ∈ gW ∧ Cond.initialized y.cls ∈ gW ∧ Cond.code y co n rt ∈ gW
def Ky (y : MethodName) (k : Nat) : Prop := y.cls ≠ "java/lang/invoke/MethodHandle" ∧ y.cls ≠ "java/lang/invoke/VarHandle" ∧ (parseMethodDescriptor y.desc).map (fun d => d.parameters.length) = some k
section VC
variable {S : Type} {p : Program} {l : Launch} {e : Env} {R : Room} {s : State} {m : MethodId} {args : Array Value} {below : List Frame} {meth : Method} {c : Code} {H : Heap} {locs : List Loc} {cells slots : Nat} {Q : State → Prop}
variable {y0 : MethodName} {co0 : ByteArray} {n0 : Nat} {rt0 : Option FieldType} {G : Cx} {wf : S → va_W} {A : Nat → Prop} {x : S} {pc idx : Nat} {ls : Array Slot} {st0 rest As : List Value} {y : MethodName} {co : ByteArray} {n k : Nat} {rm : Room} {b : Nat}
theorem callB_gW {rt : Option FieldType} (g : Go l y0 co0 n0 rt0 p s m args meth c) (hL : Lk y0 idx y co n rt) (hK : Ky y k) (hR : rm.frames + 1 ≤ R.frames ∧ 8 + (n + 11) + rm.locals ≤ R.locals) : CallB R s args y0.cls idx y co n rt (.code y co n rt :: gW) rm rm.cells rm.slots k :=
  callB_of k g.2.2.2.2.2.1 (gW_of hL.2.2) rfl rfl rfl (g.2.2.2.2.2.1 _ hL.2.1) (g.2.2.2.2.2.1 _ hL.1) hK hR
theorem cal_Vi {rt : FieldType} {post : Int32 → S → Prop} (hM : Ci l G y co n rt rm wf (.ref b :: As) x post) (g : Go l y0 co0 n0 rt0 p s m args meth c) (hw : Wd G A s H locs (wf x)) (hdg : decode co0 pc = .ok (.invokevirtual idx, 3)) (hL : Lk y0 idx y co n (some rt)) (hi : Cond.instanceMethod y ∈ gW) (hse : Cond.selects y.cls y y ∈ gW) (hK : Ky y As.length) (hR : rm.frames + 1 ≤ R.frames ∧ 8 + (n + 11) + rm.locals ≤ R.locals) (hrc : Rc (wf x) b y.cls) (hl : ls.size = n0) (hst : st0 = As.reverse ++ .ref b :: rest) (hcat : (rest.map fun v => v.category).sum ≤ 8) (hf : cells + rm.cells ≤ R.cells ∧ slots + rm.slots ≤ R.slots)
    (kk : ∀ (r : Int32) (u : S) (H1 : Heap) (locs1 : List Loc), post r u → Wd G A s H1 locs1 (wf u) → W p l e R s m args below meth c H1 locs1 (cells + rm.cells) (slots + rm.slots) Q (F0 m (pc + 3) ls (.int r :: rest))) : W p l e R s m args below meth c H locs cells slots Q (F0 m pc ls st0) :=
  va_calli (va_runV (As := As) (rest := rest) ⟨g.1, g.2.1, g.2.2.2.1, g.2.2.2.2.1, g.2.2.2.2.2.1⟩ (hM H.size) ⟨callB_gW g hL hK hR, g.2.2.2.2.2.1 _ hi, g.2.2.2.2.2.1 _ hse⟩ ⟨blindW, hrc.cell hw, fun U hU hW => ⟨rfl, hw.pre hU hW⟩⟩ rfl rfl hl hst (lv_room hcat) hdg hf) hw.2.2.1 (fun q _ h => hw.free q h) hw.free (fun r u t H1 locs1 ht _ hp hB _ _ hS => kk r u H1 locs1 hp (hw.post ht hB hS))
theorem cal_Vv {post : S → Prop} (hM : Cv l G y co n rm wf (.ref b :: As) x post) (g : Go l y0 co0 n0 rt0 p s m args meth c) (hw : Wd G A s H locs (wf x)) (hdg : decode co0 pc = .ok (.invokevirtual idx, 3)) (hL : Lk y0 idx y co n none) (hi : Cond.instanceMethod y ∈ gW) (hse : Cond.selects y.cls y y ∈ gW) (hK : Ky y As.length) (hR : rm.frames + 1 ≤ R.frames ∧ 8 + (n + 11) + rm.locals ≤ R.locals) (hrc : Rc (wf x) b y.cls) (hl : ls.size = n0) (hst : st0 = As.reverse ++ .ref b :: rest) (hcat : (rest.map fun v => v.category).sum ≤ 8) (hf : cells + rm.cells ≤ R.cells ∧ slots + rm.slots ≤ R.slots)
    (kk : ∀ (u : S) (H1 : Heap) (locs1 : List Loc), post u → Wd G A s H1 locs1 (wf u) → W p l e R s m args below meth c H1 locs1 (cells + rm.cells) (slots + rm.slots) Q (F0 m (pc + 3) ls rest)) : W p l e R s m args below meth c H locs cells slots Q (F0 m pc ls st0) :=
  va_callv (va_runV (As := As) (rest := rest) ⟨g.1, g.2.1, g.2.2.2.1, g.2.2.2.2.1, g.2.2.2.2.2.1⟩ (hM H.size) ⟨callB_gW g hL hK hR, g.2.2.2.2.2.1 _ hi, g.2.2.2.2.2.1 _ hse⟩ ⟨blindW, hrc.cell hw, fun U hU hW => ⟨rfl, hw.pre hU hW⟩⟩ rfl rfl hl hst (lv_room hcat) hdg hf) hw.2.2.1 (fun q _ h => hw.free q h) hw.free (fun u t H1 locs1 ht _ hp hB _ _ hS => kk u H1 locs1 hp (hw.post ht hB hS))
theorem cal_Vq {rt : FieldType} {post : Option Nat → S → Prop} (hM : Cq l G y co n rt rm wf (.ref b :: As) x post) (g : Go l y0 co0 n0 rt0 p s m args meth c) (hw : Wd G A s H locs (wf x)) (hdg : decode co0 pc = .ok (.invokevirtual idx, 3)) (hL : Lk y0 idx y co n (some rt)) (hi : Cond.instanceMethod y ∈ gW) (hse : Cond.selects y.cls y y ∈ gW) (hK : Ky y As.length) (hR : rm.frames + 1 ≤ R.frames ∧ 8 + (n + 11) + rm.locals ≤ R.locals) (hrc : Rc (wf x) b y.cls) (hl : ls.size = n0) (hst : st0 = As.reverse ++ .ref b :: rest) (hcat : (rest.map fun v => v.category).sum ≤ 8) (hf : cells + rm.cells ≤ R.cells ∧ slots + rm.slots ≤ R.slots)
    (kk : ∀ (r : Option Nat) (u : S) (H1 : Heap) (locs1 : List Loc), post r u → Wd G A s H1 locs1 (wf u) → W p l e R s m args below meth c H1 locs1 (cells + rm.cells) (slots + rm.slots) Q (F0 m (pc + 3) ls (va_rf r :: rest))) : W p l e R s m args below meth c H locs cells slots Q (F0 m pc ls st0) :=
  va_callq (va_runV (As := As) (rest := rest) ⟨g.1, g.2.1, g.2.2.2.1, g.2.2.2.2.1, g.2.2.2.2.2.1⟩ (hM H.size) ⟨callB_gW g hL hK hR, g.2.2.2.2.2.1 _ hi, g.2.2.2.2.2.1 _ hse⟩ ⟨blindW, hrc.cell hw, fun U hU hW => ⟨rfl, hw.pre hU hW⟩⟩ rfl rfl hl hst (lv_room hcat) hdg hf) hw.2.2.1 (fun q _ h => hw.free q h) hw.free (fun r u t H1 locs1 ht _ hp hB _ _ hS => kk r u H1 locs1 hp (hw.post ht hB hS))
/-- the same, where the end is told by an equation -/
theorem cal_Vi' {rt : FieldType} {v : Int32} {x' : S} (hM : Ci l G y co n rt rm wf (.ref b :: As) x (fun r u => r = v ∧ u = x')) (g : Go l y0 co0 n0 rt0 p s m args meth c) (hw : Wd G A s H locs (wf x)) (hdg : decode co0 pc = .ok (.invokevirtual idx, 3)) (hL : Lk y0 idx y co n (some rt)) (hi : Cond.instanceMethod y ∈ gW) (hse : Cond.selects y.cls y y ∈ gW) (hK : Ky y As.length) (hR : rm.frames + 1 ≤ R.frames ∧ 8 + (n + 11) + rm.locals ≤ R.locals) (hrc : Rc (wf x) b y.cls) (hl : ls.size = n0) (hst : st0 = As.reverse ++ .ref b :: rest) (hcat : (rest.map fun v => v.category).sum ≤ 8) (h0 : rm.cells = 0 ∧ rm.slots = 0) (hf : cells ≤ R.cells ∧ slots ≤ R.slots)
    (kk : ∀ (H1 : Heap) (locs1 : List Loc), Wd G A s H1 locs1 (wf x') → W p l e R s m args below meth c H1 locs1 cells slots Q (F0 m (pc + 3) ls (.int v :: rest))) : W p l e R s m args below meth c H locs cells slots Q (F0 m pc ls st0) := by
  refine cal_Vi hM g hw hdg hL hi hse hK hR hrc hl hst hcat (by rw [h0.1, h0.2]; exact hf) (fun r u H1 locs1 hp hw1 => ?_)
  obtain ⟨rfl, rfl⟩ := hp
  rw [h0.1, h0.2]
  exact kk H1 locs1 hw1
theorem cal_Vv' {x' : S} (hM : Cv l G y co n rm wf (.ref b :: As) x (fun u => u = x')) (g : Go l y0 co0 n0 rt0 p s m args meth c) (hw : Wd G A s H locs (wf x)) (hdg : decode co0 pc = .ok (.invokevirtual idx, 3)) (hL : Lk y0 idx y co n none) (hi : Cond.instanceMethod y ∈ gW) (hse : Cond.selects y.cls y y ∈ gW) (hK : Ky y As.length) (hR : rm.frames + 1 ≤ R.frames ∧ 8 + (n + 11) + rm.locals ≤ R.locals) (hrc : Rc (wf x) b y.cls) (hl : ls.size = n0) (hst : st0 = As.reverse ++ .ref b :: rest) (hcat : (rest.map fun v => v.category).sum ≤ 8) (h0 : rm.cells = 0 ∧ rm.slots = 0) (hf : cells ≤ R.cells ∧ slots ≤ R.slots)
    (kk : ∀ (H1 : Heap) (locs1 : List Loc), Wd G A s H1 locs1 (wf x') → W p l e R s m args below meth c H1 locs1 cells slots Q (F0 m (pc + 3) ls rest)) : W p l e R s m args below meth c H locs cells slots Q (F0 m pc ls st0) := by
  refine cal_Vv hM g hw hdg hL hi hse hK hR hrc hl hst hcat (by rw [h0.1, h0.2]; exact hf) (fun u H1 locs1 hp hw1 => ?_)
  subst hp
  rw [h0.1, h0.2]
  exact kk H1 locs1 hw1
/-- a call that changes nothing: static, by its own host; by a nest mate; on a text -/
theorem cs_run {post : Int32 → Prop} {a : Array Value} (hr : va_Run p l e R s m args below meth c H locs cells slots 0 0 (F0 m pc ls st0) rest (vp_Si post a) (fun _ => False))
    (kk : ∀ r : Int32, post r → W p l e R s m args below meth c H locs cells slots Q (F0 m (pc + 3) ls (.int r :: rest))) : W p l e R s m args below meth c H locs cells slots Q (F0 m pc ls st0) := by
  intro T hT X
  obtain ⟨v, st₀, t, T', L, h0, X', hL, e1, e2, ⟨r, hv, hp, hh⟩, st⟩ := hr T hT X
  cases hv
  obtain ⟨t2, a1, b1⟩ := kk r hp T' (by rw [e1, hh, h0]) (Stand.forget X' (fun q h => (hL q h).elim))
  exact ⟨t2, st t2 a1, b1⟩
theorem cs_runq {post : Option Nat → Prop} {a : Array Value} (hr : va_Run p l e R s m args below meth c H locs cells slots 0 0 (F0 m pc ls st0) rest (va_Sq post a) (fun _ => False))
    (kk : ∀ r : Option Nat, post r → W p l e R s m args below meth c H locs cells slots Q (F0 m (pc + 3) ls (va_rf r :: rest))) : W p l e R s m args below meth c H locs cells slots Q (F0 m pc ls st0) := by
  intro T hT X
  obtain ⟨v, st₀, t, T', L, h0, X', hL, e1, e2, ⟨r, hv, hp, hh⟩, st⟩ := hr T hT X
  cases hv
  obtain ⟨t2, a1, b1⟩ := kk r hp T' (by rw [e1, hh, h0]) (Stand.forget X' (fun q h => (hL q h).elim))
  exact ⟨t2, st t2 a1, b1⟩
theorem cs_runv {a : Array Value} (hr : va_Run p l e R s m args below meth c H locs cells slots 0 0 (F0 m pc ls st0) rest (va_Sv (fun _ => True) a) (fun _ => False))
    (kk : W p l e R s m args below meth c H locs cells slots Q (F0 m (pc + 3) ls rest)) : W p l e R s m args below meth c H locs cells slots Q (F0 m pc ls st0) := by
  intro T hT X
  obtain ⟨v, st₀, t, T', L, h0, X', hL, e1, e2, ⟨hv, hp, hh⟩, st⟩ := hr T hT X
  cases hv
  obtain ⟨t2, a1, b1⟩ := kk T' (by rw [e1, hh, h0]) (Stand.forget X' (fun q h => (hL q h).elim))
  exact ⟨t2, st t2 a1, b1⟩
theorem cal_S {rt : FieldType} {v : Int32} (hM : Si l G y co n rt rm As (fun r => r = v)) (g : Go l y0 co0 n0 rt0 p s m args meth c) (hS : va_S A s.heap H locs) (hk : KT G A s) (hdg : decode co0 pc = .ok (.invokestatic idx, 3)) (hL : Lk y0 idx y co n (some rt)) (hi : Cond.static y ∈ gW) (hK : Ky y As.length) (h0 : rm.cells = 0 ∧ rm.slots = 0) (hR : rm.frames + 1 ≤ R.frames ∧ 8 + (n + 11) + rm.locals ≤ R.locals) (hl : ls.size = n0) (hst : st0 = As.reverse ++ rest) (hcat : (rest.map fun v => v.category).sum ≤ 8) (hf : cells ≤ R.cells ∧ slots ≤ R.slots)
    (kk : W p l e R s m args below meth c H locs cells slots Q (F0 m (pc + 3) ls (.int v :: rest))) : W p l e R s m args below meth c H locs cells slots Q (F0 m pc ls st0) := by
  have cb := callB_gW (R := R) g hL hK hR
  rw [h0.1, h0.2] at cb
  exact cs_run (va_runS (As := As) (rest := rest) ⟨g.1, g.2.1, g.2.2.2.1, g.2.2.2.2.1, g.2.2.2.2.2.1⟩ (hM A) ⟨cb, g.2.2.2.2.2.1 _ hi⟩ ⟨blindK, fun U hU hW => ⟨rfl, hk.call hS (fun _ h => h) hU hW⟩⟩ rfl rfl hl hst (lv_room hcat) hdg hf) (fun r hr => by subst hr; exact kk)
theorem cal_SN {rt : FieldType} {v : Int32} {host : String} (hM : Si l G y co n rt rm As (fun r => r = v)) (g : Go l y0 co0 n0 rt0 p s m args meth c) (hS : va_S A s.heap H locs) (hk : KT G A s) (hdg : decode co0 pc = .ok (.invokestatic idx, 3)) (hL : va_Nw (.methodLinkNest y0.cls idx y host) s ∧ Cond.initialized y.cls ∈ gW ∧ Cond.code y co n (some rt) ∈ gW) (hi : Cond.static y ∈ gW) (hK : Ky y As.length) (h0 : rm.cells = 0 ∧ rm.slots = 0) (hR : rm.frames + 1 ≤ R.frames ∧ 8 + (n + 11) + rm.locals ≤ R.locals) (hl : ls.size = n0) (hst : st0 = As.reverse ++ rest) (hcat : (rest.map fun v => v.category).sum ≤ 8) (hf : cells ≤ R.cells ∧ slots ≤ R.slots)
    (kk : W p l e R s m args below meth c H locs cells slots Q (F0 m (pc + 3) ls (.int v :: rest))) : W p l e R s m args below meth c H locs cells slots Q (F0 m pc ls st0) :=
  cs_run (va_runSN (As := As) (rest := rest) ⟨g.1, g.2.1, g.2.2.2.1, g.2.2.2.2.1, g.2.2.2.2.2.1⟩ (hM A) ⟨va_cnB As.length g.2.2.2.2.2.1 (gW_of hL.2.2) rfl h0.1 h0.2 hL.1 (g.2.2.2.2.2.1 _ hL.2.1) hK hR, g.2.2.2.2.2.1 _ hi, trivial⟩ ⟨blindK, fun U hU hW => ⟨rfl, hk.call hS (fun _ h => h) hU hW⟩⟩ rfl rfl hl hst (lv_room hcat) hdg hf) (fun r hr => by subst hr; exact kk)
theorem cal_Sq {rt : FieldType} {v : Option Nat} (hM : Sq l G y co n rt rm As (fun r => r = v)) (g : Go l y0 co0 n0 rt0 p s m args meth c) (hS : va_S A s.heap H locs) (hk : KT G A s) (hdg : decode co0 pc = .ok (.invokestatic idx, 3)) (hL : Lk y0 idx y co n (some rt)) (hi : Cond.static y ∈ gW) (hK : Ky y As.length) (h0 : rm.cells = 0 ∧ rm.slots = 0) (hR : rm.frames + 1 ≤ R.frames ∧ 8 + (n + 11) + rm.locals ≤ R.locals) (hl : ls.size = n0) (hst : st0 = As.reverse ++ rest) (hcat : (rest.map fun v => v.category).sum ≤ 8) (hf : cells ≤ R.cells ∧ slots ≤ R.slots)
    (kk : W p l e R s m args below meth c H locs cells slots Q (F0 m (pc + 3) ls (va_rf v :: rest))) : W p l e R s m args below meth c H locs cells slots Q (F0 m pc ls st0) := by
  have cb := callB_gW (R := R) g hL hK hR
  rw [h0.1, h0.2] at cb
  exact cs_runq (va_runS (As := As) (rest := rest) ⟨g.1, g.2.1, g.2.2.2.1, g.2.2.2.2.1, g.2.2.2.2.2.1⟩ (hM A) ⟨cb, g.2.2.2.2.2.1 _ hi⟩ ⟨blindK, fun U hU hW => ⟨rfl, hk.call hS (fun _ h => h) hU hW⟩⟩ rfl rfl hl hst (lv_room hcat) hdg hf) (fun r hr => by subst hr; exact kk)
theorem cal_Sv (hM : Sv l G y co n rm As) (g : Go l y0 co0 n0 rt0 p s m args meth c) (hS : va_S A s.heap H locs) (hk : KT G A s) (hdg : decode co0 pc = .ok (.invokestatic idx, 3)) (hL : Lk y0 idx y co n none) (hi : Cond.static y ∈ gW) (hK : Ky y As.length) (h0 : rm.cells = 0 ∧ rm.slots = 0) (hR : rm.frames + 1 ≤ R.frames ∧ 8 + (n + 11) + rm.locals ≤ R.locals) (hl : ls.size = n0) (hst : st0 = As.reverse ++ rest) (hcat : (rest.map fun v => v.category).sum ≤ 8) (hf : cells ≤ R.cells ∧ slots ≤ R.slots)
    (kk : W p l e R s m args below meth c H locs cells slots Q (F0 m (pc + 3) ls rest)) : W p l e R s m args below meth c H locs cells slots Q (F0 m pc ls st0) := by
  have cb := callB_gW (R := R) g hL hK hR
  rw [h0.1, h0.2] at cb
  exact cs_runv (va_runS (As := As) (rest := rest) ⟨g.1, g.2.1, g.2.2.2.1, g.2.2.2.2.1, g.2.2.2.2.2.1⟩ (hM A) ⟨cb, g.2.2.2.2.2.1 _ hi⟩ ⟨blindK, fun U hU hW => ⟨rfl, hk.call hS (fun _ h => h) hU hW⟩⟩ rfl rfl hl hst (lv_room hcat) hdg hf) kk
theorem cal_VS {rt : FieldType} {v : Int32} (hM : Si l G y co n rt rm (.ref b :: As) (fun r => r = v)) (g : Go l y0 co0 n0 rt0 p s m args meth c) (hS : va_S A s.heap H locs) (hk : KT G A s) (hdg : decode co0 pc = .ok (.invokevirtual idx, 3)) (hL : Lk y0 idx y co n (some rt)) (hi : Cond.instanceMethod y ∈ gW) (hse : Cond.selects y.cls y y ∈ gW) (hK : Ky y As.length) (h0 : rm.cells = 0 ∧ rm.slots = 0) (hR : rm.frames + 1 ≤ R.frames ∧ 8 + (n + 11) + rm.locals ≤ R.locals) (hrc : ∃ cell : Cell, H[b]? = some cell ∧ cell.vm.isStatics = false ∧ s.vm.findClass y.cls = some cell.cls) (hl : ls.size = n0) (hst : st0 = As.reverse ++ .ref b :: rest) (hcat : (rest.map fun v => v.category).sum ≤ 8) (hf : cells ≤ R.cells ∧ slots ≤ R.slots)
    (kk : W p l e R s m args below meth c H locs cells slots Q (F0 m (pc + 3) ls (.int v :: rest))) : W p l e R s m args below meth c H locs cells slots Q (F0 m pc ls st0) := by
  have cb := callB_gW (R := R) g hL hK hR
  rw [h0.1, h0.2] at cb
  exact cs_run (va_runV (As := As) (rest := rest) ⟨g.1, g.2.1, g.2.2.2.1, g.2.2.2.2.1, g.2.2.2.2.2.1⟩ (hM A) ⟨cb, g.2.2.2.2.2.1 _ hi, g.2.2.2.2.2.1 _ hse⟩ ⟨blindK, hrc, fun U hU hW => ⟨rfl, hk.call hS (fun _ h => h) hU hW⟩⟩ rfl rfl hl hst (lv_room hcat) hdg hf) (fun r hr => by subst hr; exact kk)
end VC
end
section
/-! ===== the states: the class's (ints by object and slot, arrays by object and slot, how many entries were made, their addresses), the reference's ===== -/
def wl {I : Type} (L : List I) (ad : I → Nat) (E : I → va_E) : va_W := L.map (fun i => (ad i, E i))
theorem wl_get {I : Type} {L : List I} {ad : I → Nat} {E : I → va_E} {i : I} (h : i ∈ L) : ∃ k : Nat, (wl L ad E)[k]? = some (ad i, E i) := List.getElem?_of_mem (List.mem_map.mpr ⟨i, h, rfl⟩)
theorem wl_set {I : Type} {A : Nat → Prop} {L : List I} {ad : I → Nat} {E E' : I → va_E} {i : I} {k : Nat} {e : va_E} (hD : va_D A (wl L ad E)) (h : i ∈ L) (hk : (wl L ad E)[k]? = some (ad i, E i)) (h0 : E' i = e) (hE : ∀ j, j ∈ L → j ≠ i → E' j = E j) : (wl L ad E).set k (ad i, e) = wl L ad E' := by
  have hl := (List.getElem?_eq_some_iff.mp hk).1
  obtain ⟨k0, hk0⟩ := List.getElem?_of_mem h
  have hw0 : (wl L ad E)[k0]? = some (ad i, E i) := by simp only [wl, List.getElem?_map, hk0]; rfl
  have e0 : k0 = k := hD.1 k0 k _ _ hw0 hk rfl
  subst e0
  apply List.ext_getElem?
  intro j
  by_cases hj : j = k0
  · subst hj
    rw [List.getElem?_set_self hl]
    simp only [wl, List.getElem?_map, hk0, Option.map_some, h0]
  · rw [List.getElem?_set_ne (Ne.symm hj)]
    simp only [wl, List.getElem?_map]
    cases hb : L[j]? with
    | none => rfl
    | some b =>
      have hne : b ≠ i := by
        intro hbi
        subst hbi
        have hw : (wl L ad E)[j]? = some (ad b, E b) := by simp only [wl, List.getElem?_map, hb]; rfl
        exact hj (hD.1 j k0 _ _ hw hk rfl)
      simp only [Option.map_some, hE b (List.mem_of_getElem? hb) hne]
/-- the class's state: addresses of entries; ints; arrays; how many entries there are -/
abbrev Sg : Type := (Nat → Nat → Nat) × (Nat → Nat → Int32) × (Nat → Nat → Nat → Int32) × Nat
def sE (x : Sg) (n k : Nat) : Nat := x.1 n k
def sI (x : Sg) (o k : Nat) : Int32 := x.2.1 o k
def sA (x : Sg) (o k : Nat) : Nat → Int32 := x.2.2.1 o k
def sN (x : Sg) : Nat := x.2.2.2
def pI (x : Sg) (o k : Nat) (v : Int32) : Sg := (x.1, (fun o' k' => if o' = o ∧ k' = k then v else x.2.1 o' k'), x.2.2.1, x.2.2.2)
def pA (x : Sg) (o k : Nat) (f : Nat → Int32) : Sg := (x.1, x.2.1, (fun o' k' => if o' = o ∧ k' = k then f else x.2.2.1 o' k'), x.2.2.2)
theorem sI_pI (x : Sg) (o k : Nat) (v : Int32) (o' k' : Nat) : sI (pI x o k v) o' k' = if o' = o ∧ k' = k then v else sI x o' k' := rfl
theorem sA_pI (x : Sg) (o k : Nat) (v : Int32) (o' k' : Nat) : sA (pI x o k v) o' k' = sA x o' k' := rfl
theorem sN_pI (x : Sg) (o k : Nat) (v : Int32) : sN (pI x o k v) = sN x := rfl
theorem sE_pI (x : Sg) (o k : Nat) (v : Int32) (n j : Nat) : sE (pI x o k v) n j = sE x n j := rfl
theorem sI_pA (x : Sg) (o k : Nat) (f : Nat → Int32) (o' k' : Nat) : sI (pA x o k f) o' k' = sI x o' k' := rfl
theorem sA_pA (x : Sg) (o k : Nat) (f : Nat → Int32) (o' k' : Nat) : sA (pA x o k f) o' k' = if o' = o ∧ k' = k then f else sA x o' k' := rfl
theorem sN_pA (x : Sg) (o k : Nat) (f : Nat → Int32) : sN (pA x o k f) = sN x := rfl
theorem sE_pA (x : Sg) (o k : Nat) (f : Nat → Int32) (n j : Nat) : sE (pA x o k f) n j = sE x n j := rfl
def fX (g : Nat → Nat → Nat) (x : Sg) : List Value := [.ref (g 1 0), .ref (g 0 2), .ref (g 0 3), .ref (g 0 4), .ref (g 0 5), .int (sI x 0 5), .int (sI x 0 6), .int (sI x 0 7), .int (sI x 0 8), .int (sI x 0 9), .int (sI x 0 10), .int (sI x 0 11)]
def fT (g : Nat → Nat → Nat) (x : Sg) : List Value := [.ref (g 1 1), .int (sI x 1 1), .ref (g 1 3), .ref (g 1 4), .int (sI x 1 4), .int (sI x 1 5), .int (sI x 1 6)]
def fD (g : Nat → Nat → Nat) (x : Sg) (o : Nat) : List Value := [.int (sI x o 0), .int (sI x o 1), .int (sI x o 2), .int (sI x o 3), .int (sI x o 4), .int (sI x o 5), .int (sI x o 6), .int (sI x o 7), .int (sI x o 8), .ref (g o 10), .ref (g o 11), .ref (g o 12), .ref (g o 13)]
def fE (x : Sg) (o : Nat) : List Value := [.int (sI x o 0), .int (sI x o 1), .int (sI x o 2), .int (sI x o 3), .int (sI x o 4), .int (sI x o 5), .ref (sE x (o - 8) 7), .ref (sE x (o - 8) 8)]
abbrev aR (f : Nat → Option Nat) : (Nat → Int32) ⊕ (Nat → Int64) ⊕ (Nat → UInt32) ⊕ (Nat → UInt64) ⊕ (Nat → Option Nat) := .inr (.inr (.inr (.inr f)))
def entF (x : Sg) (n : Nat) : Option Nat := if n < sN x then some (sE x n 0) else none
def c0 (G : Cx) (g : Nat → Nat → Nat) (x : Sg) (k : Nat) : va_E := if k = 0 then .inr (3, fX g x) else if k = 4 then .inl (G.2.1 2, 6, aR (fun d => some (g (2 + d) 0))) else if k = 5 then .inl (G.2.1 3, 512, aR (entF x)) else .inl (G.2.1 0, 8, .inl (sA x 0 (k - 1)))
def c1 (G : Cx) (g : Nat → Nat → Nat) (x : Sg) (k : Nat) : va_E := if k = 0 then .inr (2, fT g x) else .inl (G.2.1 0, (if k = 1 then 200 else if k = 3 then 24 else 72), .inl (sA x 1 (k - 1)))
def c2 (G : Cx) (g : Nat → Nat → Nat) (x : Sg) (o k : Nat) : va_E := if k = 0 then .inr (0, fD g x o) else .inl (G.2.1 0, (if k = 13 then 2 else 8), .inl (sA x o (k - 1)))
def c3 (G : Cx) (x : Sg) (o k : Nat) : va_E := if k = 0 then .inr (1, fE x o) else .inl (G.2.1 0, 8, .inl (sA x o (k - 1)))
def cE (G : Cx) (g : Nat → Nat → Nat) (x : Sg) (i : Nat × Nat) : va_E := if i.1 = 0 then c0 G g x i.2 else if i.1 = 1 then c1 G g x i.2 else if i.1 < 8 then c2 G g x i.1 i.2 else c3 G x i.1 i.2
def cad (g : Nat → Nat → Nat) (x : Sg) (i : Nat × Nat) : Nat := if i.1 < 8 then g i.1 i.2 else sE x (i.1 - 8) i.2
def cIx (n : Nat) : List (Nat × Nat) := [(0, 0), (0, 2), (0, 3), (0, 4), (0, 5), (1, 0), (1, 1), (1, 3), (1, 4)] ++ ((List.range 6).flatMap (fun d => [(2 + d, 0), (2 + d, 10), (2 + d, 11), (2 + d, 12), (2 + d, 13)]) ++ (List.range n).flatMap (fun k => [(8 + k, 0), (8 + k, 7), (8 + k, 8)]))
def cw (G : Cx) (g : Nat → Nat → Nat) (x : Sg) : va_W := wl (cIx (sN x)) (cad g x) (cE G g x)
theorem cIx_0 {n k : Nat} (h : k = 0 ∨ k = 2 ∨ k = 3 ∨ k = 4 ∨ k = 5) : (0, k) ∈ cIx n := by
  refine List.mem_append_left _ ?_
  rcases h with rfl | rfl | rfl | rfl | rfl <;> decide
theorem cIx_1 {n k : Nat} (h : k = 0 ∨ k = 1 ∨ k = 3 ∨ k = 4) : (1, k) ∈ cIx n := by
  refine List.mem_append_left _ ?_
  rcases h with rfl | rfl | rfl | rfl <;> decide
theorem cIx_D {n d k : Nat} (hd : d < 6) (h : k = 0 ∨ k = 10 ∨ k = 11 ∨ k = 12 ∨ k = 13) : (2 + d, k) ∈ cIx n := by
  refine List.mem_append_right _ (List.mem_append_left _ (List.mem_flatMap.mpr ⟨d, List.mem_range.mpr hd, ?_⟩))
  rcases h with rfl | rfl | rfl | rfl | rfl <;> simp
theorem cIx_E {n e k : Nat} (he : e < n) (h : k = 0 ∨ k = 7 ∨ k = 8) : (8 + e, k) ∈ cIx n := by
  refine List.mem_append_right _ (List.mem_append_right _ (List.mem_flatMap.mpr ⟨e, List.mem_range.mpr he, ?_⟩))
  rcases h with rfl | rfl | rfl <;> simp
theorem cE_pI_ne {G : Cx} {g : Nat → Nat → Nat} {x : Sg} {o k : Nat} {v : Int32} {i : Nat × Nat} (h : i ≠ (o, 0)) : cE G g (pI x o k v) i = cE G g x i := by
  obtain ⟨a, b⟩ := i
  by_cases hb : b = 0
  · subst hb
    have ha : ¬ a = o := fun q => h (by rw [q])
    simp only [cE, c0, c1, c2, c3, fX, fT, fD, fE, sI_pI, sA_pI, sE_pI, entF, sN_pI]
    by_cases h0 : a = 0
    · subst h0; simp [ha]
    · by_cases h1 : a = 1
      · subst h1; simp [ha]
      · simp [ha, h0, h1]
  · simp only [cE, c0, c1, c2, c3, hb, if_false, sA_pI, entF, sN_pI, sE_pI]
    rfl
theorem cE_pA_ne {G : Cx} {g : Nat → Nat → Nat} {x : Sg} {o k : Nat} {f : Nat → Int32} {i : Nat × Nat} (h : i ≠ (o, k + 1)) : cE G g (pA x o k f) i = cE G g x i := by
  obtain ⟨a, b⟩ := i
  by_cases hb : b = 0
  · subst hb
    simp only [cE, c0, c1, c2, c3, fX, fT, fD, fE, sI_pA, sE_pA, entF, sN_pA, if_true]
  · have hc : ¬ (a = o ∧ b - 1 = k) := fun q => h (by rw [q.1, ← q.2, Nat.sub_add_cancel (by omega)])
    have e1 : ∀ a', a' = a → sA (pA x o k f) a' (b - 1) = sA x a' (b - 1) := fun a' ha => by rw [sA_pA, if_neg (by rw [ha]; exact hc)]
    simp only [cE, c0, c1, c2, c3, hb, if_false, entF, sN_pA, sE_pA]
    by_cases h0 : a = 0
    · subst h0; simp only [e1 0 rfl]
      rfl
    · by_cases h1 : a = 1
      · subst h1; simp only [if_neg (show ¬ (1 : Nat) = 0 by decide), if_true, e1 1 rfl]
      · simp only [h0, h1, if_false, e1 a rfl]
theorem cw_pI {G : Cx} {g : Nat → Nat → Nat} {x : Sg} {A : Nat → Prop} {o k q : Nat} {v : Int32} {e : va_E} (hD : va_D A (cw G g x)) (hm : (o, 0) ∈ cIx (sN x)) (hq : (cw G g x)[q]? = some (cad g x (o, 0), cE G g x (o, 0))) (he : cE G g (pI x o k v) (o, 0) = e) : (cw G g x).set q (cad g x (o, 0), e) = cw G g (pI x o k v) :=
  wl_set hD hm hq he (fun _ _ hj => cE_pI_ne hj)
theorem cw_pA {G : Cx} {g : Nat → Nat → Nat} {x : Sg} {A : Nat → Prop} {o k q : Nat} {f : Nat → Int32} {e : va_E} (hD : va_D A (cw G g x)) (hm : (o, k + 1) ∈ cIx (sN x)) (hq : (cw G g x)[q]? = some (cad g x (o, k + 1), cE G g x (o, k + 1))) (he : cE G g (pA x o k f) (o, k + 1) = e) : (cw G g x).set q (cad g x (o, k + 1), e) = cw G g (pA x o k f) :=
  wl_set hD hm hq he (fun _ _ hj => cE_pA_ne hj)
/-! the reference's state: ints by slot, arrays by slot -/
abbrev Rg : Type := (Nat → Int32) × (Nat → Nat → Int32)
def rI (x : Rg) (k : Nat) : Int32 := x.1 k
def rA (x : Rg) (k : Nat) : Nat → Int32 := x.2 k
def qI (x : Rg) (k : Nat) (v : Int32) : Rg := ((fun j => if j = k then v else x.1 j), x.2)
def qA (x : Rg) (k : Nat) (f : Nat → Int32) : Rg := (x.1, (fun j => if j = k then f else x.2 j))
theorem rI_qI (x : Rg) (k : Nat) (v : Int32) (j : Nat) : rI (qI x k v) j = if j = k then v else rI x j := rfl
theorem rA_qI (x : Rg) (k : Nat) (v : Int32) (j : Nat) : rA (qI x k v) j = rA x j := rfl
theorem rI_qA (x : Rg) (k : Nat) (f : Nat → Int32) (j : Nat) : rI (qA x k f) j = rI x j := rfl
theorem rA_qA (x : Rg) (k : Nat) (f : Nat → Int32) (j : Nat) : rA (qA x k f) j = if j = k then f else rA x j := rfl
def rL (k : Nat) : Nat := if k < 2 then 8 else if k = 3 then 13200 else if k < 11 then 6 else if k < 14 then 48 else if k = 14 then 6 else if k = 15 then 12 else if k = 22 then 200 else if k = 28 then 3 else 35
def fM (h : Nat → Nat) (x : Rg) : List Value := [.ref (h 1), .ref (h 2), .int (rI x 2), .ref (h 4), .ref (h 5), .ref (h 6), .ref (h 7), .ref (h 8), .ref (h 9), .ref (h 10), .ref (h 11), .ref (h 12), .ref (h 13), .ref (h 14), .ref (h 15), .ref (h 16), .int (rI x 16), .int (rI x 17), .int (rI x 18), .int (rI x 19), .int (rI x 20), .int (rI x 21), .ref (h 23), .int (rI x 23), .int (rI x 24), .int (rI x 25), .int (rI x 26), .int (rI x 27), .ref (h 29), .ref (h 30)]
def rE (G : Cx) (h : Nat → Nat) (x : Rg) (i : Nat) : va_E := if i = 0 then .inr (4, fM h x) else .inl ((if i = 9 then G.2.1 1 else G.2.1 0), rL (i - 1), .inl (rA x (i - 1)))
def rIx : List Nat := [0, 1, 2, 4, 5, 6, 7, 8, 9, 10, 11, 12, 13, 14, 15, 16, 23, 29, 30]
def rw' (G : Cx) (h : Nat → Nat) (x : Rg) : va_W := wl rIx h (rE G h x)
theorem rE_qI_ne {G : Cx} {h : Nat → Nat} {x : Rg} {k i : Nat} {v : Int32} (hi : i ≠ 0) : rE G h (qI x k v) i = rE G h x i := by
  simp only [rE, hi, if_false, rA_qI]
theorem rE_qA_ne {G : Cx} {h : Nat → Nat} {x : Rg} {k i : Nat} {f : Nat → Int32} (hi : i ≠ k + 1) : rE G h (qA x k f) i = rE G h x i := by
  by_cases h0 : i = 0
  · subst h0; simp only [rE, if_true, fM, rI_qA]
  · have : ¬ i - 1 = k := by omega
    simp only [rE, h0, if_false, rA_qA, this]
theorem rw_qI {G : Cx} {h : Nat → Nat} {x : Rg} {A : Nat → Prop} {k q : Nat} {v : Int32} {e : va_E} (hD : va_D A (rw' G h x)) (hq : (rw' G h x)[q]? = some (h 0, rE G h x 0)) (he : rE G h (qI x k v) 0 = e) : (rw' G h x).set q (h 0, e) = rw' G h (qI x k v) :=
  wl_set hD (by decide) hq he (fun _ _ hj => rE_qI_ne hj)
theorem rw_qA {G : Cx} {h : Nat → Nat} {x : Rg} {A : Nat → Prop} {k q : Nat} {f : Nat → Int32} {e : va_E} (hD : va_D A (rw' G h x)) (hm : k + 1 ∈ rIx) (hq : (rw' G h x)[q]? = some (h (k + 1), rE G h x (k + 1))) (he : rE G h (qA x k f) (k + 1) = e) : (rw' G h x).set q (h (k + 1), e) = rw' G h (qA x k f) :=
  wl_set hD hm hq he (fun _ _ hj => rE_qA_ne hj)
end
section
/-! ===== rows over the class's world ===== -/
theorem cw_rc {G : Cx} {g : Nat → Nat → Nat} {x : Sg} {i : Nat × Nat} {b ci : Nat} {q : vw_C} {fs : List Value} {C : String} (hm : i ∈ cIx (sN x)) (hb : cad g x i = b) (hE : cE G g x i = .inr (ci, fs)) (hc : vwCl[ci]? = some q) (hC : q.1 = C) : Rc (cw G g x) b C := by
  obtain ⟨k, hk⟩ := wl_get (ad := cad g x) (E := cE G g x) hm
  rw [hb, hE] at hk
  exact ⟨k, ci, q, fs, hc, hC, hk⟩
theorem rc_X {G : Cx} {g : Nat → Nat → Nat} {x : Sg} : Rc (cw G g x) (g 0 0) RX3 := cw_rc (i := (0, 0)) (cIx_0 (Or.inl rfl)) rfl rfl rfl rfl
theorem rc_T {G : Cx} {g : Nat → Nat → Nat} {x : Sg} : Rc (cw G g x) (g 1 0) RX2 := cw_rc (i := (1, 0)) (cIx_1 (Or.inl rfl)) rfl rfl rfl rfl
theorem cadD (g : Nat → Nat → Nat) (x : Sg) {d : Nat} (hd : d < 6) (k : Nat) : cad g x (2 + d, k) = g (2 + d) k := by simp only [cad]; rw [if_pos (by omega)]
theorem cadE (g : Nat → Nat → Nat) (x : Sg) (n k : Nat) : cad g x (8 + n, k) = sE x n k := by simp only [cad]; rw [if_neg (by omega), Nat.add_sub_cancel_left]
theorem cE_D (G : Cx) (g : Nat → Nat → Nat) (x : Sg) {d : Nat} (hd : d < 6) (k : Nat) : cE G g x (2 + d, k) = c2 G g x (2 + d) k := by simp only [cE]; rw [if_neg (by omega), if_neg (by omega), if_pos (by omega)]
theorem cE_E (G : Cx) (g : Nat → Nat → Nat) (x : Sg) (n k : Nat) : cE G g x (8 + n, k) = c3 G x (8 + n) k := by simp only [cE]; rw [if_neg (by omega), if_neg (by omega), if_neg (by omega)]
theorem rc_D {G : Cx} {g : Nat → Nat → Nat} {x : Sg} {d : Nat} (hd : d < 6) : Rc (cw G g x) (g (2 + d) 0) RX0 := cw_rc (i := (2 + d, 0)) (cIx_D hd (Or.inl rfl)) (cadD g x hd 0) (cE_D G g x hd 0) rfl rfl
theorem rc_E {G : Cx} {g : Nat → Nat → Nat} {x : Sg} {n : Nat} (hn : n < sN x) : Rc (cw G g x) (sE x n 0) RX1 := cw_rc (i := (8 + n, 0)) (cIx_E hn (Or.inl rfl)) (cadE g x n 0) (cE_E G g x n 0) rfl rfl
section RW
variable {p : Program} {l : Launch} {e : Env} {R : Room} {s : State} {m : MethodId} {args : Array Value} {below : List Frame} {meth : Method} {c : Code} {H : Heap} {locs : List Loc} {cells slots : Nat} {Q : State → Prop}
variable {y0 : MethodName} {co0 : ByteArray} {n0 : Nat} {rt0 : Option FieldType} {G : Cx} {A : Nat → Prop} {pc idx : Nat} {ls : Array Slot} {rest : List Value} {g : Nat → Nat → Nat} {x : Sg}
/-- a field is read: of the object at (o, 0) -/
theorem get_o {o ci N a : Nat} {T : u_T} {C : String} {fs : List Value} {k : Nat} {v : Value} (hc : vwCl[ci]? = some (C, T, N)) (hin : ∀ w ∈ u_ws C T N, w ∈ gW) (hm : (o, 0) ∈ cIx (sN x)) (ha : cad g x (o, 0) = a) (hE : cE G g x (o, 0) = .inr (ci, fs)) (hv : fs[k]? = some v) (hk : k < N) (hT : (T k).1 = C) (go : Go l y0 co0 n0 rt0 p s m args meth c) (hw : Wd G A s H locs (cw G g x)) (hdg : decode co0 pc = .ok (.getfield idx, 3)) (hl : Cond.fieldLink y0.cls idx C (T k).2.1 (T k).2.2.1 ∈ gW)
    (kk : W p l e R s m args below meth c H locs cells slots Q (F0 m (pc + 3) ls (v :: rest))) : W p l e R s m args below meth c H locs cells slots Q (F0 m pc ls (.ref a :: rest)) := by
  obtain ⟨q, hq⟩ := wl_get (ad := cad g x) (E := cE G g x) hm
  rw [ha, hE] at hq
  exact va_get go.1 go.2.1 go.2.2.2.2.2.1 hin go.2.2.2.2.1 hw.2.2.2.1.1 hw.1 q hq hc k hk (go.2.2.2.2.2.1 _ hl) (fun z hz => by rw [hT] at hz; exact hz) hv hdg kk
theorem put_o {o ci N a : Nat} {T : u_T} {C : String} {ty0 : Nat → FieldType} {fs : List Value} {k : Nat} {v : Int32} {ty : FieldType} (hc : vwCl[ci]? = some (C, T, N)) (hin : ∀ w ∈ u_ws C T N, w ∈ gW) (hty : ∀ k, k < N → parseFieldDescriptor (T k).2.2.1 = some (ty0 k)) (hnm : ∀ a, a < N → ∀ b, b < N → a ≠ b → (T a).2.1 ≠ (T b).2.1) (hm : (o, 0) ∈ cIx (sN x)) (ha : cad g x (o, 0) = a) (hE : cE G g x (o, 0) = .inr (ci, fs)) (hE2 : cE G g (pI x o k v) (o, 0) = .inr (ci, fs.set k (.int v))) (hk : k < N) (hkl : k < fs.length) (hT : (T k).1 = C) (hfin : (T k).2.2.2 = false) (hd : parseFieldDescriptor (T k).2.2.1 = some ty) (hn : narrow ty (.int v) = .int v) (hfit : fits ty (.int v) = true) (go : Go l y0 co0 n0 rt0 p s m args meth c) (hw : Wd G A s H locs (cw G g x)) (hdg : decode co0 pc = .ok (.putfield idx, 3)) (hl : Cond.fieldLink y0.cls idx C (T k).2.1 (T k).2.2.1 ∈ gW)
    (kk : ∀ (H1 : Heap) (locs1 : List Loc), Wd G A s H1 locs1 (cw G g (pI x o k v)) → W p l e R s m args below meth c H1 locs1 cells slots Q (F0 m (pc + 3) ls rest)) : W p l e R s m args below meth c H locs cells slots Q (F0 m pc ls (.int v :: .ref a :: rest)) := by
  obtain ⟨q, hq⟩ := wl_get (ad := cad g x) (E := cE G g x) hm
  have hset := cw_pI (G := G) (k := k) hw.2.1 hm hq hE2
  rw [ha, hE] at hq
  rw [ha] at hset
  refine va_put go.1 go.2.1 go.2.2.2.2.2.1 hin ty0 hty hnm go.2.2.2.2.1 hw.2.2.2.1.1 hw.1 hw.2.1 hw.2.2.1 q hq hc k hk (go.2.2.2.2.2.1 _ hl) (fun z hz => by rw [hT] at hz; exact hz) hfin hd hn hfit hkl hdg (fun H1 locs1 hP hD hS => ?_)
  rw [hset] at hP hD
  exact kk H1 locs1 ⟨hP, hD, hS, hw.2.2.2.1, hw.2.2.2.2⟩
theorem ald_o {o k a n : Nat} {i : Int32} (hm : (o, k + 1) ∈ cIx (sN x)) (ha : cad g x (o, k + 1) = a) (hE : cE G g x (o, k + 1) = .inl (G.2.1 0, n, .inl (sA x o k))) (hi : vp_in i n) (go : Go l y0 co0 n0 rt0 p s m args meth c) (hw : Wd G A s H locs (cw G g x)) (hdg : decode co0 pc = .ok (.iaload, 1))
    (kk : W p l e R s m args below meth c H locs cells slots Q (F0 m (pc + 1) ls (.int (sA x o k i.toNatClampNeg) :: rest))) : W p l e R s m args below meth c H locs cells slots Q (F0 m pc ls (.int i :: .ref a :: rest)) := by
  obtain ⟨q, hq⟩ := wl_get (ad := cad g x) (E := cE G g x) hm
  rw [ha, hE] at hq
  exact va_iald go.1 go.2.1 hw.2.2.2.1.1 hw.1 q 0 hq rfl hi hdg kk
theorem ast_o {o k a n : Nat} {i v : Int32} (hm : (o, k + 1) ∈ cIx (sN x)) (ha : cad g x (o, k + 1) = a) (hE : ∀ x : Sg, cE G g x (o, k + 1) = .inl (G.2.1 0, n, .inl (sA x o k))) (hi : vp_in i n) (go : Go l y0 co0 n0 rt0 p s m args meth c) (hw : Wd G A s H locs (cw G g x)) (hdg : decode co0 pc = .ok (.iastore, 1))
    (kk : ∀ (H1 : Heap) (locs1 : List Loc), Wd G A s H1 locs1 (cw G g (pA x o k (upd (sA x o k) i.toNatClampNeg v))) → W p l e R s m args below meth c H1 locs1 cells slots Q (F0 m (pc + 1) ls rest)) : W p l e R s m args below meth c H locs cells slots Q (F0 m pc ls (.int v :: .int i :: .ref a :: rest)) := by
  obtain ⟨q, hq⟩ := wl_get (ad := cad g x) (E := cE G g x) hm
  have hset := cw_pA (G := G) (k := k) (f := upd (sA x o k) i.toNatClampNeg v) hw.2.1 hm hq (e := .inl (G.2.1 0, n, .inl (upd (sA x o k) i.toNatClampNeg v))) (by rw [hE, sA_pA, if_pos ⟨rfl, rfl⟩])
  rw [ha, hE] at hq
  rw [ha] at hset
  refine va_iast go.1 go.2.1 hw.2.2.2.1.1 hw.1 hw.2.1 hw.2.2.1 q 0 hq rfl hi hdg (fun H1 locs1 hP hD hS => ?_)
  rw [hset] at hP hD
  exact kk H1 locs1 ⟨hP, hD, hS, hw.2.2.2.1, hw.2.2.2.2⟩
/-! the class's own object -/
theorem gX {k : Nat} {v : Value} (hv : (fX g x)[k]? = some v) (hk : k < 12) (hT : (TX3 k).1 = RX3) (go : Go l y0 co0 n0 rt0 p s m args meth c) (hw : Wd G A s H locs (cw G g x)) (hdg : decode co0 pc = .ok (.getfield idx, 3)) (hl : Cond.fieldLink y0.cls idx RX3 (TX3 k).2.1 (TX3 k).2.2.1 ∈ gW)
    (kk : W p l e R s m args below meth c H locs cells slots Q (F0 m (pc + 3) ls (v :: rest))) : W p l e R s m args below meth c H locs cells slots Q (F0 m pc ls (.ref (g 0 0) :: rest)) :=
  get_o (o := 0) (ci := 3) rfl inX3 (cIx_0 (Or.inl rfl)) rfl rfl hv hk hT go hw hdg hl kk
theorem gT {k : Nat} {v : Value} (hv : (fT g x)[k]? = some v) (hk : k < 7) (hT : (TX2 k).1 = RX2) (go : Go l y0 co0 n0 rt0 p s m args meth c) (hw : Wd G A s H locs (cw G g x)) (hdg : decode co0 pc = .ok (.getfield idx, 3)) (hl : Cond.fieldLink y0.cls idx RX2 (TX2 k).2.1 (TX2 k).2.2.1 ∈ gW)
    (kk : W p l e R s m args below meth c H locs cells slots Q (F0 m (pc + 3) ls (v :: rest))) : W p l e R s m args below meth c H locs cells slots Q (F0 m pc ls (.ref (g 1 0) :: rest)) :=
  get_o (o := 1) (ci := 2) rfl inX2 (cIx_1 (Or.inl rfl)) rfl rfl hv hk hT go hw hdg hl kk
theorem gD {d k : Nat} {v : Value} (hd : d < 6) (hv : (fD g x (2 + d))[k]? = some v) (hk : k < 13) (hT : (TX0 k).1 = RX0) (go : Go l y0 co0 n0 rt0 p s m args meth c) (hw : Wd G A s H locs (cw G g x)) (hdg : decode co0 pc = .ok (.getfield idx, 3)) (hl : Cond.fieldLink y0.cls idx RX0 (TX0 k).2.1 (TX0 k).2.2.1 ∈ gW)
    (kk : W p l e R s m args below meth c H locs cells slots Q (F0 m (pc + 3) ls (v :: rest))) : W p l e R s m args below meth c H locs cells slots Q (F0 m pc ls (.ref (g (2 + d) 0) :: rest)) :=
  get_o (o := 2 + d) (ci := 0) rfl inX0 (cIx_D hd (Or.inl rfl)) (cadD g x hd 0) (cE_D G g x hd 0) hv hk hT go hw hdg hl kk
theorem gE {n k : Nat} {v : Value} (hn : n < sN x) (hv : (fE x (8 + n))[k]? = some v) (hk : k < 8) (hT : (TX1 k).1 = RX1) (go : Go l y0 co0 n0 rt0 p s m args meth c) (hw : Wd G A s H locs (cw G g x)) (hdg : decode co0 pc = .ok (.getfield idx, 3)) (hl : Cond.fieldLink y0.cls idx RX1 (TX1 k).2.1 (TX1 k).2.2.1 ∈ gW)
    (kk : W p l e R s m args below meth c H locs cells slots Q (F0 m (pc + 3) ls (v :: rest))) : W p l e R s m args below meth c H locs cells slots Q (F0 m pc ls (.ref (sE x n 0) :: rest)) :=
  get_o (o := 8 + n) (ci := 1) rfl inX1 (cIx_E hn (Or.inl rfl)) (cadE g x n 0) (cE_E G g x n 0) hv hk hT go hw hdg hl kk
theorem fE_n (n : Nat) : fE x (8 + n) = [.int (sI x (8 + n) 0), .int (sI x (8 + n) 1), .int (sI x (8 + n) 2), .int (sI x (8 + n) 3), .int (sI x (8 + n) 4), .int (sI x (8 + n) 5), .ref (sE x n 7), .ref (sE x n 8)] := by simp only [fE, Nat.add_sub_cancel_left]
theorem pX {k : Nat} {v : Int32} (hk : 5 ≤ k ∧ k < 12) (go : Go l y0 co0 n0 rt0 p s m args meth c) (hw : Wd G A s H locs (cw G g x)) (hdg : decode co0 pc = .ok (.putfield idx, 3)) (hl : Cond.fieldLink y0.cls idx RX3 (TX3 k).2.1 (TX3 k).2.2.1 ∈ gW)
    (kk : ∀ (H1 : Heap) (locs1 : List Loc), Wd G A s H1 locs1 (cw G g (pI x 0 k v)) → W p l e R s m args below meth c H1 locs1 cells slots Q (F0 m (pc + 3) ls rest)) : W p l e R s m args below meth c H locs cells slots Q (F0 m pc ls (.int v :: .ref (g 0 0) :: rest)) := by
  have hE2 : cE G g (pI x 0 k v) (0, 0) = .inr (3, (fX g x).set k (.int v)) := by
    rcases (show k = 5 ∨ k = 6 ∨ k = 7 ∨ k = 8 ∨ k = 9 ∨ k = 10 ∨ k = 11 by omega) with rfl | rfl | rfl | rfl | rfl | rfl | rfl <;> rfl
  have h5 : (TX3 k).1 = RX3 ∧ (TX3 k).2.2.2 = false ∧ parseFieldDescriptor (TX3 k).2.2.1 = some .int := by
    rcases (show k = 5 ∨ k = 6 ∨ k = 7 ∨ k = 8 ∨ k = 9 ∨ k = 10 ∨ k = 11 by omega) with rfl | rfl | rfl | rfl | rfl | rfl | rfl <;> decide +kernel
  exact put_o (o := 0) (ci := 3) (ty := .int) rfl inX3 tyX3_ok nmX3 (cIx_0 (Or.inl rfl)) rfl rfl hE2 hk.2 hk.2 h5.1 h5.2.1 h5.2.2 rfl rfl go hw hdg hl kk
theorem pT {k : Nat} {v : Int32} (hk : k = 1 ∨ k = 4 ∨ k = 5 ∨ k = 6) (go : Go l y0 co0 n0 rt0 p s m args meth c) (hw : Wd G A s H locs (cw G g x)) (hdg : decode co0 pc = .ok (.putfield idx, 3)) (hl : Cond.fieldLink y0.cls idx RX2 (TX2 k).2.1 (TX2 k).2.2.1 ∈ gW)
    (kk : ∀ (H1 : Heap) (locs1 : List Loc), Wd G A s H1 locs1 (cw G g (pI x 1 k v)) → W p l e R s m args below meth c H1 locs1 cells slots Q (F0 m (pc + 3) ls rest)) : W p l e R s m args below meth c H locs cells slots Q (F0 m pc ls (.int v :: .ref (g 1 0) :: rest)) := by
  have hE2 : cE G g (pI x 1 k v) (1, 0) = .inr (2, (fT g x).set k (.int v)) := by
    rcases hk with rfl | rfl | rfl | rfl <;> rfl
  have h5 : (TX2 k).1 = RX2 ∧ (TX2 k).2.2.2 = false ∧ parseFieldDescriptor (TX2 k).2.2.1 = some .int := by
    rcases hk with rfl | rfl | rfl | rfl <;> decide +kernel
  have h7 : k < 7 := by omega
  exact put_o (o := 1) (ci := 2) (ty := .int) rfl inX2 tyX2_ok nmX2 (cIx_1 (Or.inl rfl)) rfl rfl hE2 h7 h7 h5.1 h5.2.1 h5.2.2 rfl rfl go hw hdg hl kk
theorem pD {d k : Nat} {v : Int32} (hd : d < 6) (hk : 1 ≤ k ∧ k < 8) (go : Go l y0 co0 n0 rt0 p s m args meth c) (hw : Wd G A s H locs (cw G g x)) (hdg : decode co0 pc = .ok (.putfield idx, 3)) (hl : Cond.fieldLink y0.cls idx RX0 (TX0 k).2.1 (TX0 k).2.2.1 ∈ gW)
    (kk : ∀ (H1 : Heap) (locs1 : List Loc), Wd G A s H1 locs1 (cw G g (pI x (2 + d) k v)) → W p l e R s m args below meth c H1 locs1 cells slots Q (F0 m (pc + 3) ls rest)) : W p l e R s m args below meth c H locs cells slots Q (F0 m pc ls (.int v :: .ref (g (2 + d) 0) :: rest)) := by
  have hE2 : cE G g (pI x (2 + d) k v) (2 + d, 0) = .inr (0, (fD g x (2 + d)).set k (.int v)) := by
    rw [cE_D G g _ hd]
    rcases (show k = 1 ∨ k = 2 ∨ k = 3 ∨ k = 4 ∨ k = 5 ∨ k = 6 ∨ k = 7 by omega) with rfl | rfl | rfl | rfl | rfl | rfl | rfl <;> simp [c2, fD, sI_pI]
  have h5 : (TX0 k).1 = RX0 ∧ (TX0 k).2.2.2 = false ∧ parseFieldDescriptor (TX0 k).2.2.1 = some .int := by
    rcases (show k = 1 ∨ k = 2 ∨ k = 3 ∨ k = 4 ∨ k = 5 ∨ k = 6 ∨ k = 7 by omega) with rfl | rfl | rfl | rfl | rfl | rfl | rfl <;> decide +kernel
  have h13 : k < 13 := by omega
  exact put_o (o := 2 + d) (ci := 0) (ty := .int) rfl inX0 tyX0_ok nmX0 (cIx_D hd (Or.inl rfl)) (cadD g x hd 0) (cE_D G g x hd 0) hE2 h13 h13 h5.1 h5.2.1 h5.2.2 rfl rfl go hw hdg hl kk
/-- the flag 'lost' -/
theorem pDz {d : Nat} {v : Int32} (hd : d < 6) (hv : narrow .boolean (.int v) = .int v ∧ fits .boolean (.int v) = true) (go : Go l y0 co0 n0 rt0 p s m args meth c) (hw : Wd G A s H locs (cw G g x)) (hdg : decode co0 pc = .ok (.putfield idx, 3)) (hl : Cond.fieldLink y0.cls idx RX0 (TX0 8).2.1 (TX0 8).2.2.1 ∈ gW)
    (kk : ∀ (H1 : Heap) (locs1 : List Loc), Wd G A s H1 locs1 (cw G g (pI x (2 + d) 8 v)) → W p l e R s m args below meth c H1 locs1 cells slots Q (F0 m (pc + 3) ls rest)) : W p l e R s m args below meth c H locs cells slots Q (F0 m pc ls (.int v :: .ref (g (2 + d) 0) :: rest)) := by
  have hE2 : cE G g (pI x (2 + d) 8 v) (2 + d, 0) = .inr (0, (fD g x (2 + d)).set 8 (.int v)) := by
    rw [cE_D G g _ hd]
    simp [c2, fD, sI_pI]
  exact put_o (o := 2 + d) (ci := 0) (ty := .boolean) rfl inX0 tyX0_ok nmX0 (cIx_D hd (Or.inl rfl)) (cadD g x hd 0) (cE_D G g x hd 0) hE2 (by decide) (by decide : 8 < 13) rfl rfl (by decide +kernel) hv.1 hv.2 go hw hdg hl kk
theorem pE {n k : Nat} {v : Int32} (hn : n < sN x) (hk : k < 6) (go : Go l y0 co0 n0 rt0 p s m args meth c) (hw : Wd G A s H locs (cw G g x)) (hdg : decode co0 pc = .ok (.putfield idx, 3)) (hl : Cond.fieldLink y0.cls idx RX1 (TX1 k).2.1 (TX1 k).2.2.1 ∈ gW)
    (kk : ∀ (H1 : Heap) (locs1 : List Loc), Wd G A s H1 locs1 (cw G g (pI x (8 + n) k v)) → W p l e R s m args below meth c H1 locs1 cells slots Q (F0 m (pc + 3) ls rest)) : W p l e R s m args below meth c H locs cells slots Q (F0 m pc ls (.int v :: .ref (sE x n 0) :: rest)) := by
  have hE2 : cE G g (pI x (8 + n) k v) (8 + n, 0) = .inr (1, (fE x (8 + n)).set k (.int v)) := by
    rw [cE_E G g]
    rcases (show k = 0 ∨ k = 1 ∨ k = 2 ∨ k = 3 ∨ k = 4 ∨ k = 5 by omega) with rfl | rfl | rfl | rfl | rfl | rfl <;> simp [c3, fE, sI_pI, sE_pI]
  have h5 : (TX1 k).1 = RX1 ∧ (TX1 k).2.2.2 = false ∧ parseFieldDescriptor (TX1 k).2.2.1 = some .int := by
    rcases (show k = 0 ∨ k = 1 ∨ k = 2 ∨ k = 3 ∨ k = 4 ∨ k = 5 by omega) with rfl | rfl | rfl | rfl | rfl | rfl <;> decide +kernel
  have h8 : k < 8 := by omega
  exact put_o (o := 8 + n) (ci := 1) (ty := .int) rfl inX1 tyX1_ok nmX1 (cIx_E hn (Or.inl rfl)) (cadE g x n 0) (cE_E G g x n 0) hE2 h8 h8 h5.1 h5.2.1 h5.2.2 rfl rfl go hw hdg hl kk
/-! int arrays: values, stamps; letters, kinds, numbers; a deal's; an entry's: read and written at a place given as a number -/
theorem aX {k j : Nat} (hk : k = 1 ∨ k = 2) (hj : j < 8) (go : Go l y0 co0 n0 rt0 p s m args meth c) (hw : Wd G A s H locs (cw G g x)) (hdg : decode co0 pc = .ok (.iaload, 1))
    (kk : W p l e R s m args below meth c H locs cells slots Q (F0 m (pc + 1) ls (.int (sA x 0 k j) :: rest))) : W p l e R s m args below meth c H locs cells slots Q (F0 m pc ls (.int (nI j) :: .ref (g 0 (k + 1)) :: rest)) := by
  refine ald_o (o := 0) (k := k) (n := 8) (cIx_0 (by omega)) rfl (by rcases hk with rfl | rfl <;> rfl) (vp_in_nI hj (by omega)) go hw hdg ?_
  rw [nI_clamp (by omega)]
  exact kk
theorem sX {k j : Nat} {v : Int32} (hk : k = 1 ∨ k = 2) (hj : j < 8) (go : Go l y0 co0 n0 rt0 p s m args meth c) (hw : Wd G A s H locs (cw G g x)) (hdg : decode co0 pc = .ok (.iastore, 1))
    (kk : ∀ (H1 : Heap) (locs1 : List Loc), Wd G A s H1 locs1 (cw G g (pA x 0 k (upd (sA x 0 k) j v))) → W p l e R s m args below meth c H1 locs1 cells slots Q (F0 m (pc + 1) ls rest)) : W p l e R s m args below meth c H locs cells slots Q (F0 m pc ls (.int v :: .int (nI j) :: .ref (g 0 (k + 1)) :: rest)) := by
  refine ast_o (o := 0) (k := k) (n := 8) (cIx_0 (by omega)) rfl (fun x => by rcases hk with rfl | rfl <;> rfl) (vp_in_nI hj (by omega)) go hw hdg ?_
  rw [nI_clamp (by omega)]
  exact kk
def tL (k : Nat) : Nat := if k = 0 then 200 else if k = 2 then 24 else 72
theorem aT {k j : Nat} (hk : k = 0 ∨ k = 2 ∨ k = 3) (hj : j < tL k) (go : Go l y0 co0 n0 rt0 p s m args meth c) (hw : Wd G A s H locs (cw G g x)) (hdg : decode co0 pc = .ok (.iaload, 1))
    (kk : W p l e R s m args below meth c H locs cells slots Q (F0 m (pc + 1) ls (.int (sA x 1 k j) :: rest))) : W p l e R s m args below meth c H locs cells slots Q (F0 m pc ls (.int (nI j) :: .ref (g 1 (k + 1)) :: rest)) := by
  have h200 : tL k ≤ 200 := by rcases hk with rfl | rfl | rfl <;> decide
  refine ald_o (o := 1) (k := k) (n := tL k) (cIx_1 (by omega)) rfl (by rcases hk with rfl | rfl | rfl <;> rfl) (vp_in_nI hj (by omega)) go hw hdg ?_
  rw [nI_clamp (by omega)]
  exact kk
theorem sT {k j : Nat} {v : Int32} (hk : k = 0 ∨ k = 2 ∨ k = 3) (hj : j < tL k) (go : Go l y0 co0 n0 rt0 p s m args meth c) (hw : Wd G A s H locs (cw G g x)) (hdg : decode co0 pc = .ok (.iastore, 1))
    (kk : ∀ (H1 : Heap) (locs1 : List Loc), Wd G A s H1 locs1 (cw G g (pA x 1 k (upd (sA x 1 k) j v))) → W p l e R s m args below meth c H1 locs1 cells slots Q (F0 m (pc + 1) ls rest)) : W p l e R s m args below meth c H locs cells slots Q (F0 m pc ls (.int v :: .int (nI j) :: .ref (g 1 (k + 1)) :: rest)) := by
  have h200 : tL k ≤ 200 := by rcases hk with rfl | rfl | rfl <;> decide
  refine ast_o (o := 1) (k := k) (n := tL k) (cIx_1 (by omega)) rfl (fun x => by rcases hk with rfl | rfl | rfl <;> rfl) (vp_in_nI hj (by omega)) go hw hdg ?_
  rw [nI_clamp (by omega)]
  exact kk
def dL (k : Nat) : Nat := if k = 12 then 2 else 8
theorem cE_Da (G : Cx) (g : Nat → Nat → Nat) (x : Sg) {d k : Nat} (hd : d < 6) (hk : k = 9 ∨ k = 10 ∨ k = 11 ∨ k = 12) : cE G g x (2 + d, k + 1) = .inl (G.2.1 0, dL k, .inl (sA x (2 + d) k)) := by
  rw [cE_D G g x hd]
  rcases hk with rfl | rfl | rfl | rfl <;> rfl
theorem aD {d k j : Nat} (hd : d < 6) (hk : k = 9 ∨ k = 10 ∨ k = 11 ∨ k = 12) (hj : j < dL k) (go : Go l y0 co0 n0 rt0 p s m args meth c) (hw : Wd G A s H locs (cw G g x)) (hdg : decode co0 pc = .ok (.iaload, 1))
    (kk : W p l e R s m args below meth c H locs cells slots Q (F0 m (pc + 1) ls (.int (sA x (2 + d) k j) :: rest))) : W p l e R s m args below meth c H locs cells slots Q (F0 m pc ls (.int (nI j) :: .ref (g (2 + d) (k + 1)) :: rest)) := by
  have h8 : dL k ≤ 8 := by unfold dL; split <;> omega
  refine ald_o (o := 2 + d) (k := k) (n := dL k) (cIx_D hd (by omega)) (cadD g x hd _) (cE_Da G g x hd hk) (vp_in_nI hj (by omega)) go hw hdg ?_
  rw [nI_clamp (by omega)]
  exact kk
theorem sD {d k j : Nat} {v : Int32} (hd : d < 6) (hk : k = 9 ∨ k = 10 ∨ k = 11 ∨ k = 12) (hj : j < dL k) (go : Go l y0 co0 n0 rt0 p s m args meth c) (hw : Wd G A s H locs (cw G g x)) (hdg : decode co0 pc = .ok (.iastore, 1))
    (kk : ∀ (H1 : Heap) (locs1 : List Loc), Wd G A s H1 locs1 (cw G g (pA x (2 + d) k (upd (sA x (2 + d) k) j v))) → W p l e R s m args below meth c H1 locs1 cells slots Q (F0 m (pc + 1) ls rest)) : W p l e R s m args below meth c H locs cells slots Q (F0 m pc ls (.int v :: .int (nI j) :: .ref (g (2 + d) (k + 1)) :: rest)) := by
  have h8 : dL k ≤ 8 := by unfold dL; split <;> omega
  refine ast_o (o := 2 + d) (k := k) (n := dL k) (cIx_D hd (by omega)) (cadD g x hd _) (fun x => cE_Da G g x hd hk) (vp_in_nI hj (by omega)) go hw hdg ?_
  rw [nI_clamp (by omega)]
  exact kk
theorem cE_Ea (G : Cx) (g : Nat → Nat → Nat) (x : Sg) {n k : Nat} (hk : k = 6 ∨ k = 7) : cE G g x (8 + n, k + 1) = .inl (G.2.1 0, 8, .inl (sA x (8 + n) k)) := by
  rw [cE_E G g x]
  rcases hk with rfl | rfl <;> rfl
theorem aE {n k j : Nat} (hn : n < sN x) (hk : k = 6 ∨ k = 7) (hj : j < 8) (go : Go l y0 co0 n0 rt0 p s m args meth c) (hw : Wd G A s H locs (cw G g x)) (hdg : decode co0 pc = .ok (.iaload, 1))
    (kk : W p l e R s m args below meth c H locs cells slots Q (F0 m (pc + 1) ls (.int (sA x (8 + n) k j) :: rest))) : W p l e R s m args below meth c H locs cells slots Q (F0 m pc ls (.int (nI j) :: .ref (sE x n (k + 1)) :: rest)) := by
  refine ald_o (o := 8 + n) (k := k) (n := 8) (cIx_E hn (by omega)) (cadE g x n _) (cE_Ea G g x hk) (vp_in_nI hj (by omega)) go hw hdg ?_
  rw [nI_clamp (by omega)]
  exact kk
theorem sEa {n k j : Nat} {v : Int32} (hn : n < sN x) (hk : k = 6 ∨ k = 7) (hj : j < 8) (go : Go l y0 co0 n0 rt0 p s m args meth c) (hw : Wd G A s H locs (cw G g x)) (hdg : decode co0 pc = .ok (.iastore, 1))
    (kk : ∀ (H1 : Heap) (locs1 : List Loc), Wd G A s H1 locs1 (cw G g (pA x (8 + n) k (upd (sA x (8 + n) k) j v))) → W p l e R s m args below meth c H1 locs1 cells slots Q (F0 m (pc + 1) ls rest)) : W p l e R s m args below meth c H locs cells slots Q (F0 m pc ls (.int v :: .int (nI j) :: .ref (sE x n (k + 1)) :: rest)) := by
  refine ast_o (o := 8 + n) (k := k) (n := 8) (cIx_E hn (by omega)) (cadE g x n _) (fun x => cE_Ea G g x hk) (vp_in_nI hj (by omega)) go hw hdg ?_
  rw [nI_clamp (by omega)]
  exact kk
/-- deals[d], entries[n], and their lengths -/
theorem aDl {d : Nat} (hd : d < 6) (go : Go l y0 co0 n0 rt0 p s m args meth c) (hw : Wd G A s H locs (cw G g x)) (hdg : decode co0 pc = .ok (.aaload, 1))
    (kk : W p l e R s m args below meth c H locs cells slots Q (F0 m (pc + 1) ls (.ref (g (2 + d) 0) :: rest))) : W p l e R s m args below meth c H locs cells slots Q (F0 m pc ls (.int (nI d) :: .ref (g 0 4) :: rest)) := by
  obtain ⟨q, hq⟩ := wl_get (ad := cad g x) (E := cE G g x) (i := (0, 4)) (cIx_0 (n := sN x) (by omega))
  refine va_aldq go.1 go.2.1 hw.2.2.2.1.1 hw.1 q 2 (n := 6) (f := fun d => some (g (2 + d) 0)) hq rfl (vp_in_nI hd (by omega)) hdg ?_
  rw [nI_clamp (by omega)]
  exact kk
theorem aEn {n : Nat} (hn : n < 512) (go : Go l y0 co0 n0 rt0 p s m args meth c) (hw : Wd G A s H locs (cw G g x)) (hdg : decode co0 pc = .ok (.aaload, 1))
    (kk : W p l e R s m args below meth c H locs cells slots Q (F0 m (pc + 1) ls (va_rf (entF x n) :: rest))) : W p l e R s m args below meth c H locs cells slots Q (F0 m pc ls (.int (nI n) :: .ref (g 0 5) :: rest)) := by
  obtain ⟨q, hq⟩ := wl_get (ad := cad g x) (E := cE G g x) (i := (0, 5)) (cIx_0 (n := sN x) (by omega))
  refine va_aldq go.1 go.2.1 hw.2.2.2.1.1 hw.1 q 3 (n := 512) (f := entF x) hq rfl (vp_in_nI hn (by omega)) hdg ?_
  rw [nI_clamp (by omega)]
  exact kk
theorem lDl (go : Go l y0 co0 n0 rt0 p s m args meth c) (hw : Wd G A s H locs (cw G g x)) (hdg : decode co0 pc = .ok (.arraylength, 1))
    (kk : W p l e R s m args below meth c H locs cells slots Q (F0 m (pc + 1) ls (.int (nI 6) :: rest))) : W p l e R s m args below meth c H locs cells slots Q (F0 m pc ls (.ref (g 0 4) :: rest)) := by
  obtain ⟨q, hq⟩ := wl_get (ad := cad g x) (E := cE G g x) (i := (0, 4)) (cIx_0 (n := sN x) (by omega))
  exact va_alen go.1 go.2.1 hw.2.2.2.1.1 hw.1 q 2 (x := (6, aR (fun d => some (g (2 + d) 0)))) hq rfl rfl hdg kk
theorem lX (go : Go l y0 co0 n0 rt0 p s m args meth c) (hw : Wd G A s H locs (cw G g x)) (hdg : decode co0 pc = .ok (.arraylength, 1))
    (kk : W p l e R s m args below meth c H locs cells slots Q (F0 m (pc + 1) ls (.int (nI 8) :: rest))) : W p l e R s m args below meth c H locs cells slots Q (F0 m pc ls (.ref (g 0 2) :: rest)) := by
  obtain ⟨q, hq⟩ := wl_get (ad := cad g x) (E := cE G g x) (i := (0, 2)) (cIx_0 (n := sN x) (by omega))
  exact va_alen go.1 go.2.1 hw.2.2.2.1.1 hw.1 q 0 (x := (8, .inl (sA x 0 1))) hq rfl rfl hdg kk
theorem lV {d : Nat} (hd : d < 6) (go : Go l y0 co0 n0 rt0 p s m args meth c) (hw : Wd G A s H locs (cw G g x)) (hdg : decode co0 pc = .ok (.arraylength, 1))
    (kk : W p l e R s m args below meth c H locs cells slots Q (F0 m (pc + 1) ls (.int (nI 2) :: rest))) : W p l e R s m args below meth c H locs cells slots Q (F0 m pc ls (.ref (g (2 + d) 13) :: rest)) := by
  obtain ⟨q, hq⟩ := wl_get (ad := cad g x) (E := cE G g x) (i := (2 + d, 13)) (cIx_D (n := sN x) hd (by omega))
  rw [cadD g x hd, cE_Da G g x hd (k := 12) (by omega)] at hq
  exact va_alen go.1 go.2.1 hw.2.2.2.1.1 hw.1 q 0 (x := (2, .inl (sA x (2 + d) 12))) hq rfl rfl hdg kk
end RW
/-! ===== rows over the reference's world ===== -/
theorem rc_M {G : Cx} {h : Nat → Nat} {x : Rg} : Rc (rw' G h x) (h 0) RX4 := by
  obtain ⟨k, hk⟩ := wl_get (L := rIx) (ad := h) (E := rE G h x) (i := 0) (by decide)
  exact ⟨k, 4, _, _, rfl, rfl, hk⟩
section RM
variable {p : Program} {l : Launch} {e : Env} {R : Room} {s : State} {m : MethodId} {args : Array Value} {below : List Frame} {meth : Method} {c : Code} {H : Heap} {locs : List Loc} {cells slots : Nat} {Q : State → Prop}
variable {y0 : MethodName} {co0 : ByteArray} {n0 : Nat} {rt0 : Option FieldType} {G : Cx} {A : Nat → Prop} {pc idx : Nat} {ls : Array Slot} {rest : List Value} {h : Nat → Nat} {x : Rg}
theorem gM {k : Nat} {v : Value} (hv : (fM h x)[k]? = some v) (hk : k < 30) (hT : (TX4 k).1 = RX4) (go : Go l y0 co0 n0 rt0 p s m args meth c) (hw : Wd G A s H locs (rw' G h x)) (hdg : decode co0 pc = .ok (.getfield idx, 3)) (hl : Cond.fieldLink y0.cls idx RX4 (TX4 k).2.1 (TX4 k).2.2.1 ∈ gW)
    (kk : W p l e R s m args below meth c H locs cells slots Q (F0 m (pc + 3) ls (v :: rest))) : W p l e R s m args below meth c H locs cells slots Q (F0 m pc ls (.ref (h 0) :: rest)) := by
  obtain ⟨q, hq⟩ := wl_get (L := rIx) (ad := h) (E := rE G h x) (i := 0) (by decide)
  exact va_get go.1 go.2.1 go.2.2.2.2.2.1 inX4 go.2.2.2.2.1 hw.2.2.2.1.1 hw.1 q hq rfl k hk (go.2.2.2.2.2.1 _ hl) (fun z hz => by rw [hT] at hz; exact hz) hv hdg kk
def mI (k : Nat) : Bool := k == 2 || k == 16 || k == 17 || k == 18 || k == 19 || k == 20 || k == 21 || k == 23 || k == 24 || k == 25 || k == 26
theorem mI_cases {k : Nat} (hk : mI k = true) : k = 2 ∨ k = 16 ∨ k = 17 ∨ k = 18 ∨ k = 19 ∨ k = 20 ∨ k = 21 ∨ k = 23 ∨ k = 24 ∨ k = 25 ∨ k = 26 := by
  simp only [mI, Bool.or_eq_true, beq_iff_eq] at hk
  omega
theorem pM {k : Nat} {v : Int32} (hk : mI k = true) (go : Go l y0 co0 n0 rt0 p s m args meth c) (hw : Wd G A s H locs (rw' G h x)) (hdg : decode co0 pc = .ok (.putfield idx, 3)) (hl : Cond.fieldLink y0.cls idx RX4 (TX4 k).2.1 (TX4 k).2.2.1 ∈ gW)
    (kk : ∀ (H1 : Heap) (locs1 : List Loc), Wd G A s H1 locs1 (rw' G h (qI x k v)) → W p l e R s m args below meth c H1 locs1 cells slots Q (F0 m (pc + 3) ls rest)) : W p l e R s m args below meth c H locs cells slots Q (F0 m pc ls (.int v :: .ref (h 0) :: rest)) := by
  obtain ⟨q, hq⟩ := wl_get (L := rIx) (ad := h) (E := rE G h x) (i := 0) (by decide)
  have hE2 : rE G h (qI x k v) 0 = .inr (4, (fM h x).set k (.int v)) := by
    rcases mI_cases hk with rfl | rfl | rfl | rfl | rfl | rfl | rfl | rfl | rfl | rfl | rfl <;> rfl
  have h5 : k < 30 ∧ (TX4 k).1 = RX4 ∧ (TX4 k).2.2.2 = false ∧ parseFieldDescriptor (TX4 k).2.2.1 = some .int := by
    rcases mI_cases hk with rfl | rfl | rfl | rfl | rfl | rfl | rfl | rfl | rfl | rfl | rfl <;> decide +kernel
  have hset := rw_qI (G := G) (k := k) hw.2.1 hq hE2
  refine va_put go.1 go.2.1 go.2.2.2.2.2.1 inX4 tyX4 tyX4_ok nmX4 go.2.2.2.2.1 hw.2.2.2.1.1 hw.1 hw.2.1 hw.2.2.1 q hq rfl k h5.1 (go.2.2.2.2.2.1 _ hl) (fun z hz => by rw [h5.2.1] at hz; exact hz) h5.2.2.1 h5.2.2.2 rfl rfl h5.1 hdg (fun H1 locs1 hP hD hS => ?_)
  rw [hset] at hP hD
  exact kk H1 locs1 ⟨hP, hD, hS, hw.2.2.2.1, hw.2.2.2.2⟩
/-- the flag 'doing' -/
theorem pMz {v : Int32} (hv : narrow .boolean (.int v) = .int v ∧ fits .boolean (.int v) = true) (go : Go l y0 co0 n0 rt0 p s m args meth c) (hw : Wd G A s H locs (rw' G h x)) (hdg : decode co0 pc = .ok (.putfield idx, 3)) (hl : Cond.fieldLink y0.cls idx RX4 (TX4 27).2.1 (TX4 27).2.2.1 ∈ gW)
    (kk : ∀ (H1 : Heap) (locs1 : List Loc), Wd G A s H1 locs1 (rw' G h (qI x 27 v)) → W p l e R s m args below meth c H1 locs1 cells slots Q (F0 m (pc + 3) ls rest)) : W p l e R s m args below meth c H locs cells slots Q (F0 m pc ls (.int v :: .ref (h 0) :: rest)) := by
  obtain ⟨q, hq⟩ := wl_get (L := rIx) (ad := h) (E := rE G h x) (i := 0) (by decide)
  have hset := rw_qI (G := G) (k := 27) (v := v) hw.2.1 hq rfl
  refine va_put go.1 go.2.1 go.2.2.2.2.2.1 inX4 tyX4 tyX4_ok nmX4 go.2.2.2.2.1 hw.2.2.2.1.1 hw.1 hw.2.1 hw.2.2.1 q hq rfl 27 (by decide) (go.2.2.2.2.2.1 _ hl) (fun z hz => hz) rfl (ty := .boolean) (by decide +kernel) hv.1 hv.2 (by decide : 27 < 30) hdg (fun H1 locs1 hP hD hS => ?_)
  have hP : va_P G.1 vwCl ((rw' G h x).set q (h 0, rE G h (qI x 27 v) 0)) H1 := hP
  have hD : va_D A ((rw' G h x).set q (h 0, rE G h (qI x 27 v) 0)) := hD
  rw [hset] at hP hD
  exact kk H1 locs1 ⟨hP, hD, hS, hw.2.2.2.1, hw.2.2.2.2⟩
theorem rL_lt (k : Nat) : rL k < 2 ^ 31 := by
  unfold rL
  split; · decide
  split; · decide
  split; · decide
  split; · decide
  split; · decide
  split; · decide
  split; · decide
  split; · decide
  decide
theorem aM {k j : Nat} (hk : rIx.contains (k + 1) = true) (h8 : ¬ k = 8) (hj : j < rL k) (go : Go l y0 co0 n0 rt0 p s m args meth c) (hw : Wd G A s H locs (rw' G h x)) (hdg : decode co0 pc = .ok (.iaload, 1))
    (kk : W p l e R s m args below meth c H locs cells slots Q (F0 m (pc + 1) ls (.int (rA x k j) :: rest))) : W p l e R s m args below meth c H locs cells slots Q (F0 m pc ls (.int (nI j) :: .ref (h (k + 1)) :: rest)) := by
  obtain ⟨q, hq⟩ := wl_get (L := rIx) (ad := h) (E := rE G h x) (i := k + 1) (List.contains_iff_mem.mp hk)
  have hb := rL_lt k
  rw [show rE G h x (k + 1) = .inl (G.2.1 0, rL k, .inl (rA x k)) by simp [rE, h8]] at hq
  refine va_iald go.1 go.2.1 hw.2.2.2.1.1 hw.1 q 0 hq rfl (vp_in_nI hj hb) hdg ?_
  rw [nI_clamp (by omega)]
  exact kk
theorem sM {k j : Nat} {v : Int32} (hk : rIx.contains (k + 1) = true) (h8 : ¬ k = 8) (hj : j < rL k) (go : Go l y0 co0 n0 rt0 p s m args meth c) (hw : Wd G A s H locs (rw' G h x)) (hdg : decode co0 pc = .ok (.iastore, 1))
    (kk : ∀ (H1 : Heap) (locs1 : List Loc), Wd G A s H1 locs1 (rw' G h (qA x k (upd (rA x k) j v))) → W p l e R s m args below meth c H1 locs1 cells slots Q (F0 m (pc + 1) ls rest)) : W p l e R s m args below meth c H locs cells slots Q (F0 m pc ls (.int v :: .int (nI j) :: .ref (h (k + 1)) :: rest)) := by
  have hm := List.contains_iff_mem.mp hk
  obtain ⟨q, hq⟩ := wl_get (L := rIx) (ad := h) (E := rE G h x) (i := k + 1) hm
  have hb := rL_lt k
  have e1 : ∀ x : Rg, rE G h x (k + 1) = .inl (G.2.1 0, rL k, .inl (rA x k)) := fun x => by simp [rE, h8]
  have hset := rw_qA (G := G) (k := k) (f := upd (rA x k) j v) hw.2.1 hm hq (e := .inl (G.2.1 0, rL k, .inl (upd (rA x k) j v))) (by rw [e1, rA_qA, if_pos rfl])
  rw [e1] at hq
  refine va_iast go.1 go.2.1 hw.2.2.2.1.1 hw.1 hw.2.1 hw.2.2.1 q 0 hq rfl (vp_in_nI hj hb) hdg (fun H1 locs1 hP hD hS => ?_)
  rw [nI_clamp (by omega), hset] at hP hD
  exact kk H1 locs1 ⟨hP, hD, hS, hw.2.2.2.1, hw.2.2.2.2⟩
/-- the flags 'isLost' -/
theorem aMz {j : Nat} (hj : j < 6) (go : Go l y0 co0 n0 rt0 p s m args meth c) (hw : Wd G A s H locs (rw' G h x)) (hdg : decode co0 pc = .ok (.baload, 1))
    (kk : W p l e R s m args below meth c H locs cells slots Q (F0 m (pc + 1) ls (.int (rA x 8 j) :: rest))) : W p l e R s m args below meth c H locs cells slots Q (F0 m pc ls (.int (nI j) :: .ref (h 9) :: rest)) := by
  obtain ⟨q, hq⟩ := wl_get (L := rIx) (ad := h) (E := rE G h x) (i := 9) (by decide)
  refine va_zald go.1 go.2.1 hw.2.2.2.1.1 hw.1 q 1 (cA := G.2.1 1) (n := 6) (f := rA x 8) hq rfl (vp_in_nI hj (by omega)) hdg ?_
  rw [nI_clamp (by omega)]
  exact kk
theorem sMz {j : Nat} {v : Int32} (hv : vp_nar .boolean v = v) (hj : j < 6) (go : Go l y0 co0 n0 rt0 p s m args meth c) (hw : Wd G A s H locs (rw' G h x)) (hdg : decode co0 pc = .ok (.bastore, 1))
    (kk : ∀ (H1 : Heap) (locs1 : List Loc), Wd G A s H1 locs1 (rw' G h (qA x 8 (upd (rA x 8) j v))) → W p l e R s m args below meth c H1 locs1 cells slots Q (F0 m (pc + 1) ls rest)) : W p l e R s m args below meth c H locs cells slots Q (F0 m pc ls (.int v :: .int (nI j) :: .ref (h 9) :: rest)) := by
  obtain ⟨q, hq⟩ := wl_get (L := rIx) (ad := h) (E := rE G h x) (i := 9) (by decide)
  have hset := rw_qA (G := G) (k := 8) (f := upd (rA x 8) j v) hw.2.1 (by decide) hq (e := .inl (G.2.1 1, 6, .inl (upd (rA x 8) j v))) rfl
  refine va_zast go.1 go.2.1 hw.2.2.2.1.1 hw.1 hw.2.1 hw.2.2.1 q 1 (cA := G.2.1 1) (n := 6) (f := rA x 8) hq rfl (vp_in_nI hj (by omega)) hdg (fun H1 locs1 hP hD hS => ?_)
  rw [hv, nI_clamp (by omega), hset] at hP hD
  exact kk H1 locs1 ⟨hP, hD, hS, hw.2.2.2.1, hw.2.2.2.2⟩
end RM
end
section
/-! ===== more rows: ints by an equation, loops, numbers ===== -/
abbrev Rm (f n : Nat) : Room := { frames := f, cells := 0, slots := 0, locals := n }
def bI (b : Bool) : Int32 := if b then 1 else 0
theorem bI_t : bI true = 1 := rfl
theorem bI_f : bI false = 0 := rfl
theorem bI_0 {b : Bool} (h : bI b = 0) : b = false := by cases b <;> first | rfl | exact absurd h (by decide)
theorem bI_1 {b : Bool} (h : ¬ bI b = 0) : b = true := by cases b <;> first | rfl | exact absurd rfl h
theorem bI_z (b : Bool) : narrow .boolean (.int (bI b)) = .int (bI b) ∧ fits .boolean (.int (bI b)) = true := by cases b <;> exact ⟨by rfl, by rfl⟩
theorem bI_nar (b : Bool) : vp_nar .boolean (bI b) = bI b := by cases b <;> rfl
theorem z01 {r : Int32} (h : r = 0 ∨ r = 1) : narrow .boolean (.int r) = .int r := by rcases h with rfl | rfl <;> rfl
theorem sI_eq {x : Sg} {o k : Nat} {v : Int32} : sI (pI x o k v) o k = v := if_pos ⟨rfl, rfl⟩
theorem sI_ne {x : Sg} {o k o' k' : Nat} {v : Int32} (h : ¬ (o' = o ∧ k' = k)) : sI (pI x o k v) o' k' = sI x o' k' := if_neg h
theorem sA_eq {x : Sg} {o k : Nat} {f : Nat → Int32} : sA (pA x o k f) o k = f := if_pos ⟨rfl, rfl⟩
theorem sA_ne {x : Sg} {o k o' k' : Nat} {f : Nat → Int32} (h : ¬ (o' = o ∧ k' = k)) : sA (pA x o k f) o' k' = sA x o' k' := if_neg h
theorem lp_end {i N : Nat} {a b : Int32} (h : a ≤ b) (ha : a = nI N) (hb : b = nI i) (hi : i ≤ N) (hN : N < 2 ^ 31) : i = N := by
  subst ha; subst hb
  have := (nI_leI hN (by omega)).mp h
  omega
theorem lp_in {i N : Nat} {a b : Int32} (h : ¬ a ≤ b) (ha : a = nI N) (hb : b = nI i) (hi : i ≤ N) (hN : N < 2 ^ 31) : i < N := by
  subst ha; subst hb
  rcases Nat.lt_or_ge i N with q | q
  · exact q
  · exact absurd (nI_le q (by omega)) h
theorem loop_up {N : Nat} {P : Nat → Heap → List Loc → Array Slot → Prop} {X : Heap → List Loc → Array Slot → Prop} (hs : ∀ i, i ≤ N → (∀ H locs ls, i + 1 ≤ N → P (i + 1) H locs ls → X H locs ls) → ∀ H locs ls, P i H locs ls → X H locs ls) (i : Nat) (hi : i ≤ N) : ∀ H locs ls, P i H locs ls → X H locs ls := by
  have key : ∀ k i, i ≤ N → N - i = k → ∀ H locs ls, P i H locs ls → X H locs ls := by
    intro k
    induction k with
    | zero => intro i hi hk; exact hs i hi (fun _ _ _ h => absurd h (by omega))
    | succ k ih => intro i hi hk; exact hs i hi (fun H locs ls h1 h2 => ih (i + 1) h1 (by omega) H locs ls h2)
  exact key _ i hi rfl
section RW2
variable {p : Program} {l : Launch} {e : Env} {R : Room} {s : State} {m : MethodId} {args : Array Value} {below : List Frame} {meth : Method} {c : Code} {H : Heap} {locs : List Loc} {cells slots : Nat} {Q : State → Prop}
variable {y0 : MethodName} {co0 : ByteArray} {n0 : Nat} {rt0 : Option FieldType} {G : Cx} {A : Nat → Prop} {pc idx : Nat} {ls : Array Slot} {rest : List Value} {g : Nat → Nat → Nat} {x : Sg} {h : Nat → Nat} {z : Rg}
theorem toI {a b : Int32} (he : a = b) (kk : W p l e R s m args below meth c H locs cells slots Q (F0 m pc ls (.int b :: rest))) : W p l e R s m args below meth c H locs cells slots Q (F0 m pc ls (.int a :: rest)) := he ▸ kk
theorem toI2 {v : Value} {a b : Int32} (he : a = b) (kk : W p l e R s m args below meth c H locs cells slots Q (F0 m pc ls (v :: .int b :: rest))) : W p l e R s m args below meth c H locs cells slots Q (F0 m pc ls (v :: .int a :: rest)) := he ▸ kk
theorem gXi {k : Nat} {v : Int32} (hk : 5 ≤ k ∧ k < 12) (hv : sI x 0 k = v) (go : Go l y0 co0 n0 rt0 p s m args meth c) (hw : Wd G A s H locs (cw G g x)) (hdg : decode co0 pc = .ok (.getfield idx, 3)) (hl : Cond.fieldLink y0.cls idx RX3 (TX3 k).2.1 (TX3 k).2.2.1 ∈ gW)
    (kk : W p l e R s m args below meth c H locs cells slots Q (F0 m (pc + 3) ls (.int v :: rest))) : W p l e R s m args below meth c H locs cells slots Q (F0 m pc ls (.ref (g 0 0) :: rest)) := by
  have h5 : (fX g x)[k]? = some (.int (sI x 0 k)) ∧ (TX3 k).1 = RX3 := by
    rcases (show k = 5 ∨ k = 6 ∨ k = 7 ∨ k = 8 ∨ k = 9 ∨ k = 10 ∨ k = 11 by omega) with rfl | rfl | rfl | rfl | rfl | rfl | rfl <;> exact ⟨rfl, rfl⟩
  exact gX (v := .int v) (by rw [← hv]; exact h5.1) hk.2 h5.2 go hw hdg hl kk
theorem gTi {k : Nat} {v : Int32} (hk : k = 1 ∨ k = 4 ∨ k = 5 ∨ k = 6) (hv : sI x 1 k = v) (go : Go l y0 co0 n0 rt0 p s m args meth c) (hw : Wd G A s H locs (cw G g x)) (hdg : decode co0 pc = .ok (.getfield idx, 3)) (hl : Cond.fieldLink y0.cls idx RX2 (TX2 k).2.1 (TX2 k).2.2.1 ∈ gW)
    (kk : W p l e R s m args below meth c H locs cells slots Q (F0 m (pc + 3) ls (.int v :: rest))) : W p l e R s m args below meth c H locs cells slots Q (F0 m pc ls (.ref (g 1 0) :: rest)) := by
  have h5 : (fT g x)[k]? = some (.int (sI x 1 k)) ∧ (TX2 k).1 = RX2 := by
    rcases hk with rfl | rfl | rfl | rfl <;> exact ⟨rfl, rfl⟩
  exact gT (v := .int v) (by rw [← hv]; exact h5.1) (by omega) h5.2 go hw hdg hl kk
theorem gDi {d k : Nat} {v : Int32} (hd : d < 6) (hk : k < 9) (hv : sI x (2 + d) k = v) (go : Go l y0 co0 n0 rt0 p s m args meth c) (hw : Wd G A s H locs (cw G g x)) (hdg : decode co0 pc = .ok (.getfield idx, 3)) (hl : Cond.fieldLink y0.cls idx RX0 (TX0 k).2.1 (TX0 k).2.2.1 ∈ gW)
    (kk : W p l e R s m args below meth c H locs cells slots Q (F0 m (pc + 3) ls (.int v :: rest))) : W p l e R s m args below meth c H locs cells slots Q (F0 m pc ls (.ref (g (2 + d) 0) :: rest)) := by
  have h5 : (fD g x (2 + d))[k]? = some (.int (sI x (2 + d) k)) ∧ (TX0 k).1 = RX0 := by
    rcases (show k = 0 ∨ k = 1 ∨ k = 2 ∨ k = 3 ∨ k = 4 ∨ k = 5 ∨ k = 6 ∨ k = 7 ∨ k = 8 by omega) with rfl | rfl | rfl | rfl | rfl | rfl | rfl | rfl | rfl <;> exact ⟨rfl, rfl⟩
  exact gD hd (v := .int v) (by rw [← hv]; exact h5.1) (by omega) h5.2 go hw hdg hl kk
theorem gEi {n k : Nat} {v : Int32} (hn : n < sN x) (hk : k < 6) (hv : sI x (8 + n) k = v) (go : Go l y0 co0 n0 rt0 p s m args meth c) (hw : Wd G A s H locs (cw G g x)) (hdg : decode co0 pc = .ok (.getfield idx, 3)) (hl : Cond.fieldLink y0.cls idx RX1 (TX1 k).2.1 (TX1 k).2.2.1 ∈ gW)
    (kk : W p l e R s m args below meth c H locs cells slots Q (F0 m (pc + 3) ls (.int v :: rest))) : W p l e R s m args below meth c H locs cells slots Q (F0 m pc ls (.ref (sE x n 0) :: rest)) := by
  have h5 : (fE x (8 + n))[k]? = some (.int (sI x (8 + n) k)) ∧ (TX1 k).1 = RX1 := by
    rcases (show k = 0 ∨ k = 1 ∨ k = 2 ∨ k = 3 ∨ k = 4 ∨ k = 5 by omega) with rfl | rfl | rfl | rfl | rfl | rfl <;> exact ⟨rfl, rfl⟩
  exact gE hn (v := .int v) (by rw [← hv]; exact h5.1) (by omega) h5.2 go hw hdg hl kk
theorem gEr {n k : Nat} (hn : n < sN x) (hk : k = 6 ∨ k = 7) (go : Go l y0 co0 n0 rt0 p s m args meth c) (hw : Wd G A s H locs (cw G g x)) (hdg : decode co0 pc = .ok (.getfield idx, 3)) (hl : Cond.fieldLink y0.cls idx RX1 (TX1 k).2.1 (TX1 k).2.2.1 ∈ gW)
    (kk : W p l e R s m args below meth c H locs cells slots Q (F0 m (pc + 3) ls (.ref (sE x n (k + 1)) :: rest))) : W p l e R s m args below meth c H locs cells slots Q (F0 m pc ls (.ref (sE x n 0) :: rest)) := by
  have h5 : (fE x (8 + n))[k]? = some (.ref (sE x n (k + 1))) ∧ (TX1 k).1 = RX1 := by
    rw [fE_n]
    rcases hk with rfl | rfl <;> exact ⟨rfl, rfl⟩
  exact gE hn h5.1 (by omega) h5.2 go hw hdg hl kk
theorem gMi {k : Nat} {v : Int32} (hk : mI k = true ∨ k = 27) (hv : rI z k = v) (go : Go l y0 co0 n0 rt0 p s m args meth c) (hw : Wd G A s H locs (rw' G h z)) (hdg : decode co0 pc = .ok (.getfield idx, 3)) (hl : Cond.fieldLink y0.cls idx RX4 (TX4 k).2.1 (TX4 k).2.2.1 ∈ gW)
    (kk : W p l e R s m args below meth c H locs cells slots Q (F0 m (pc + 3) ls (.int v :: rest))) : W p l e R s m args below meth c H locs cells slots Q (F0 m pc ls (.ref (h 0) :: rest)) := by
  have h5 : (fM h z)[k]? = some (.int (rI z k)) ∧ (TX4 k).1 = RX4 ∧ k < 30 := by
    rcases hk with hk | rfl
    · rcases mI_cases hk with rfl | rfl | rfl | rfl | rfl | rfl | rfl | rfl | rfl | rfl | rfl <;> exact ⟨rfl, rfl, by decide⟩
    · exact ⟨rfl, rfl, by decide⟩
  exact gM (v := .int v) (by rw [← hv]; exact h5.1) h5.2.2 h5.2.1 go hw hdg hl kk
theorem rI_eq {x : Rg} {k : Nat} {v : Int32} : rI (qI x k v) k = v := if_pos rfl
theorem rI_ne {x : Rg} {k k' : Nat} {v : Int32} (h : ¬ k' = k) : rI (qI x k v) k' = rI x k' := if_neg h
theorem rA_eq {x : Rg} {k : Nat} {f : Nat → Int32} : rA (qA x k f) k = f := if_pos rfl
theorem rA_ne {x : Rg} {k k' : Nat} {f : Nat → Int32} (h : ¬ k' = k) : rA (qA x k f) k' = rA x k' := if_neg h
end RW2
end
section
/-! ===== what the small methods answer ===== -/
def inB (n x : Int32) : Bool := !decide (x < 0) && !decide (n ≤ x)
def vaB (x : Int32) : Bool := !decide (x < 0) && !decide (9999 < x)
def bt (x : Int32) : Int32 := (1 : Int32) <<< (x &&& 31)
def hasB (b x : Int32) : Bool := !decide (b &&& bt x = 0)
def cntB (p : Nat → Bool) : Nat → Nat
  | 0 => 0
  | n + 1 => cntB p n + (if p n then 1 else 0)
def howM (x : Sg) (st : Int32) : Nat := cntB (fun d => decide (sI x (2 + d) 1 = st)) 6
def orB (p : Nat → Bool) : Nat → Int32
  | 0 => 0
  | n + 1 => if p n then orB p n ||| bt (nI n) else orB p n
theorem cntB_t {p : Nat → Bool} {n : Nat} (h : p n = true) : nI (cntB p n) + 1 = nI (cntB p (n + 1)) := by rw [nI_1, cntB, h]; rfl
theorem cntB_f {p : Nat → Bool} {n : Nat} (h : p n = false) : nI (cntB p n) = nI (cntB p (n + 1)) := by rw [cntB, h]; rfl
theorem orB_t {p : Nat → Bool} {n : Nat} (h : p n = true) : orB p n ||| bt (nI n) = orB p (n + 1) := by rw [orB, if_pos h]
theorem orB_f {p : Nat → Bool} {n : Nat} (h : p n = false) : orB p n = orB p (n + 1) := by rw [orB, if_neg (by rw [h]; decide)]
theorem lv_to {ls : Array Slot} {n : Nat} {l l' : List (Nat × Value)} (h : lv_has ls n l) (e : l = l') : lv_has ls n l' := e ▸ h
theorem lc {a : Nat} {x y : Int32} {t t' : List (Nat × Value)} (h : x = y) (ht : t = t') : (a, Value.int x) :: t = (a, Value.int y) :: t' := by rw [h, ht]
theorem lr {q : Nat × Value} {t t' : List (Nat × Value)} (ht : t = t') : q :: t = q :: t' := by rw [ht]
theorem inB_of {n : Nat} {x N : Int32} (h : inB N x = true) (hN : N = nI n) (hn : n < 2 ^ 31) : ∃ j : Nat, j < n ∧ x = nI j := by
  simp only [inB, Bool.and_eq_true, Bool.not_eq_true', decide_eq_false_iff_not] at h
  rcases pk_ix x hn with q | q | q
  · exact absurd q h.1
  · exact absurd (by rw [hN]; exact q) h.2
  · exact q
theorem inB_nI {n : Nat} {N : Int32} (j : Nat) (hj : j < n) (hN : N = nI n) (hn : n < 2 ^ 31) : inB N (nI j) = true := by
  simp only [inB, Bool.and_eq_true, Bool.not_eq_true', decide_eq_false_iff_not]
  exact ⟨nI_pos (by omega), by rw [hN]; exact nI_ge hj hn⟩

theorem kyJ0_charAt_5068e : Ky yJ0_charAt_5068e 1 := by unfold Ky; decide +kernel
theorem kyJ0_checkIndex_df160 : Ky yJ0_checkIndex_df160 2 := by unfold Ky; decide +kernel
theorem kyJ0_coder_7d493 : Ky yJ0_coder_7d493 0 := by unfold Ky; decide +kernel
theorem kyJ0_isLatin1_aae02 : Ky yJ0_isLatin1_aae02 0 := by unfold Ky; decide +kernel
theorem kyJ0_length_8abf5 : Ky yJ0_length_8abf5 0 := by unfold Ky; decide +kernel
theorem kyJ1_charAt_3b067 : Ky yJ1_charAt_3b067 2 := by unfold Ky; decide +kernel
theorem kyJ2_charAt_3b067 : Ky yJ2_charAt_3b067 2 := by unfold Ky; decide +kernel
theorem kyJ2_checkIndex_2214a : Ky yJ2_checkIndex_2214a 2 := by unfold Ky; decide +kernel
theorem kyJ2_getChar_3b067 : Ky yJ2_getChar_3b067 2 := by unfold Ky; decide +kernel
theorem kyJ2_length_9d52b : Ky yJ2_length_9d52b 1 := by unfold Ky; decide +kernel
theorem kyJ3_checkIndex_8e157 : Ky yJ3_checkIndex_8e157 3 := by unfold Ky; decide +kernel
theorem kyJ6_bitCount_0f7a4 : Ky yJ6_bitCount_0f7a4 1 := by unfold Ky; decide +kernel
theorem kyL_law : Ky yL_law 1 := by unfold Ky; decide +kernel
theorem kyX0_becomeFree : Ky yX0_becomeFree 1 := by unfold Ky; decide +kernel
theorem kyX0_becomeOpen : Ky yX0_becomeOpen 3 := by unfold Ky; decide +kernel
theorem kyX0_becomeSent : Ky yX0_becomeSent 1 := by unfold Ky; decide +kernel
theorem kyX0_hasAllVotes : Ky yX0_hasAllVotes 0 := by unfold Ky; decide +kernel
theorem kyX0_hasOnlyYes : Ky yX0_hasOnlyYes 0 := by unfold Ky; decide +kernel
theorem kyX0_init : Ky yX0_init 1 := by unfold Ky; decide +kernel
theorem kyX0_note : Ky yX0_note 3 := by unfold Ky; decide +kernel
theorem kyX1_hasNoted : Ky yX1_hasNoted 1 := by unfold Ky; decide +kernel
theorem kyX1_init : Ky yX1_init 0 := by unfold Ky; decide +kernel
theorem kyX1_keepDeal : Ky yX1_keepDeal 2 := by unfold Ky; decide +kernel
theorem kyX1_keepWrite : Ky yX1_keepWrite 2 := by unfold Ky; decide +kernel
theorem kyX2_append : Ky yX2_append 1 := by unfold Ky; decide +kernel
theorem kyX2_areOfOneRow : Ky yX2_areOfOneRow 2 := by unfold Ky; decide +kernel
theorem kyX2_formOf : Ky yX2_formOf 1 := by unfold Ky; decide +kernel
theorem kyX2_init : Ky yX2_init 0 := by unfold Ky; decide +kernel
theorem kyX2_isDigit : Ky yX2_isDigit 1 := by unfold Ky; decide +kernel
theorem kyX2_isSmall : Ky yX2_isSmall 1 := by unfold Ky; decide +kernel
theorem kyX2_kindOf : Ky yX2_kindOf 1 := by unfold Ky; decide +kernel
theorem kyX2_kindOfToken : Ky yX2_kindOfToken 0 := by unfold Ky; decide +kernel
theorem kyX2_leastOf : Ky yX2_leastOf 1 := by unfold Ky; decide +kernel
theorem kyX2_letterAt : Ky yX2_letterAt 1 := by unfold Ky; decide +kernel
theorem kyX2_mostOf : Ky yX2_mostOf 1 := by unfold Ky; decide +kernel
theorem kyX2_nextToken : Ky yX2_nextToken 0 := by unfold Ky; decide +kernel
theorem kyX2_numberOf : Ky yX2_numberOf 2 := by unfold Ky; decide +kernel
theorem kyX2_numberOfToken : Ky yX2_numberOfToken 0 := by unfold Ky; decide +kernel
theorem kyX2_parse : Ky yX2_parse 0 := by unfold Ky; decide +kernel
theorem kyX2_takeClause : Ky yX2_takeClause 1 := by unfold Ky; decide +kernel
theorem kyX2_tokenIs : Ky yX2_tokenIs 1 := by unfold Ky; decide +kernel
theorem kyX2_wordOf : Ky yX2_wordOf 1 := by unfold Ky; decide +kernel
theorem kyX3_abort : Ky yX3_abort 1 := by unfold Ky; decide +kernel
theorem kyX3_allValues : Ky yX3_allValues 0 := by unfold Ky; decide +kernel
theorem kyX3_ballot : Ky yX3_ballot 2 := by unfold Ky; decide +kernel
theorem kyX3_begin : Ky yX3_begin 1 := by unfold Ky; decide +kernel
theorem kyX3_behind : Ky yX3_behind 2 := by unfold Ky; decide +kernel
theorem kyX3_bit : Ky yX3_bit 1 := by unfold Ky; decide +kernel
theorem kyX3_change : Ky yX3_change 2 := by unfold Ky; decide +kernel
theorem kyX3_commit : Ky yX3_commit 2 := by unfold Ky; decide +kernel
theorem kyX3_count : Ky yX3_count 1 := by unfold Ky; decide +kernel
theorem kyX3_crossedOf : Ky yX3_crossedOf 1 := by unfold Ky; decide +kernel
theorem kyX3_deal : Ky yX3_deal 2 := by unfold Ky; decide +kernel
theorem kyX3_doClause : Ky yX3_doClause 1 := by unfold Ky; decide +kernel
theorem kyX3_doomAll : Ky yX3_doomAll 1 := by unfold Ky; decide +kernel
theorem kyX3_entryOf : Ky yX3_entryOf 1 := by unfold Ky; decide +kernel
theorem kyX3_erase : Ky yX3_erase 0 := by unfold Ky; decide +kernel
theorem kyX3_fault : Ky yX3_fault 0 := by unfold Ky; decide +kernel
theorem kyX3_firstWithoutVote : Ky yX3_firstWithoutVote 1 := by unfold Ky; decide +kernel
theorem kyX3_foretell : Ky yX3_foretell 2 := by unfold Ky; decide +kernel
theorem kyX3_goesFirst : Ky yX3_goesFirst 2 := by unfold Ky; decide +kernel
theorem kyX3_has : Ky yX3_has 2 := by unfold Ky; decide +kernel
theorem kyX3_howMany : Ky yX3_howMany 1 := by unfold Ky; decide +kernel
theorem kyX3_init : Ky yX3_init 0 := by unfold Ky; decide +kernel
theorem kyX3_isDeal : Ky yX3_isDeal 1 := by unfold Ky; decide +kernel
theorem kyX3_isFailure : Ky yX3_isFailure 1 := by unfold Ky; decide +kernel
theorem kyX3_isItem : Ky yX3_isItem 1 := by unfold Ky; decide +kernel
theorem kyX3_isStubborn : Ky yX3_isStubborn 1 := by unfold Ky; decide +kernel
theorem kyX3_isValidator : Ky yX3_isValidator 1 := by unfold Ky; decide +kernel
theorem kyX3_isValue : Ky yX3_isValue 1 := by unfold Ky; decide +kernel
theorem kyX3_item : Ky yX3_item 2 := by unfold Ky; decide +kernel
theorem kyX3_itemsOf : Ky yX3_itemsOf 1 := by unfold Ky; decide +kernel
theorem kyX3_keep : Ky yX3_keep 2 := by unfold Ky; decide +kernel
theorem kyX3_lay : Ky yX3_lay 3 := by unfold Ky; decide +kernel
theorem kyX3_limit : Ky yX3_limit 1 := by unfold Ky; decide +kernel
theorem kyX3_log : Ky yX3_log 2 := by unfold Ky; decide +kernel
theorem kyX3_logged : Ky yX3_logged 3 := by unfold Ky; decide +kernel
theorem kyX3_lose : Ky yX3_lose 2 := by unfold Ky; decide +kernel
theorem kyX3_mustYield : Ky yX3_mustYield 1 := by unfold Ky; decide +kernel
theorem kyX3_nextEntry : Ky yX3_nextEntry 0 := by unfold Ky; decide +kernel
theorem kyX3_noted : Ky yX3_noted 3 := by unfold Ky; decide +kernel
theorem kyX3_opinion : Ky yX3_opinion 2 := by unfold Ky; decide +kernel
theorem kyX3_peek : Ky yX3_peek 2 := by unfold Ky; decide +kernel
theorem kyX3_promisedBefore : Ky yX3_promisedBefore 2 := by unfold Ky; decide +kernel
theorem kyX3_put : Ky yX3_put 2 := by unfold Ky; decide +kernel
theorem kyX3_read : Ky yX3_read 2 := by unfold Ky; decide +kernel
theorem kyX3_retry : Ky yX3_retry 1 := by unfold Ky; decide +kernel
theorem kyX3_rivalsOf : Ky yX3_rivalsOf 1 := by unfold Ky; decide +kernel
theorem kyX3_send : Ky yX3_send 1 := by unfold Ky; decide +kernel
theorem kyX3_sent : Ky yX3_sent 1 := by unfold Ky; decide +kernel
theorem kyX3_sentAt : Ky yX3_sentAt 1 := by unfold Ky; decide +kernel
theorem kyX3_sentBefore : Ky yX3_sentBefore 1 := by unfold Ky; decide +kernel
theorem kyX3_settle : Ky yX3_settle 0 := by unfold Ky; decide +kernel
theorem kyX3_staleOf : Ky yX3_staleOf 1 := by unfold Ky; decide +kernel
theorem kyX3_startAnew : Ky yX3_startAnew 0 := by unfold Ky; decide +kernel
theorem kyX3_sweep : Ky yX3_sweep 0 := by unfold Ky; decide +kernel
theorem kyX3_tell : Ky yX3_tell 0 := by unfold Ky; decide +kernel
theorem kyX3_vote : Ky yX3_vote 1 := by unfold Ky; decide +kernel
theorem kyX3_write : Ky yX3_write 1 := by unfold Ky; decide +kernel
theorem kyX4_abort : Ky yX4_abort 1 := by unfold Ky; decide +kernel
theorem kyX4_allAnew : Ky yX4_allAnew 0 := by unfold Ky; decide +kernel
theorem kyX4_allValues : Ky yX4_allValues 0 := by unfold Ky; decide +kernel
theorem kyX4_ballot : Ky yX4_ballot 2 := by unfold Ky; decide +kernel
theorem kyX4_begin : Ky yX4_begin 1 := by unfold Ky; decide +kernel
theorem kyX4_behind : Ky yX4_behind 2 := by unfold Ky; decide +kernel
theorem kyX4_checks : Ky yX4_checks 2 := by unfold Ky; decide +kernel
theorem kyX4_commit : Ky yX4_commit 2 := by unfold Ky; decide +kernel
theorem kyX4_commits : Ky yX4_commits 2 := by unfold Ky; decide +kernel
theorem kyX4_count : Ky yX4_count 1 := by unfold Ky; decide +kernel
theorem kyX4_crossed : Ky yX4_crossed 1 := by unfold Ky; decide +kernel
theorem kyX4_deal : Ky yX4_deal 2 := by unfold Ky; decide +kernel
theorem kyX4_does : Ky yX4_does 1 := by unfold Ky; decide +kernel
theorem kyX4_erase : Ky yX4_erase 0 := by unfold Ky; decide +kernel
theorem kyX4_fails : Ky yX4_fails 2 := by unfold Ky; decide +kernel
theorem kyX4_fault : Ky yX4_fault 0 := by unfold Ky; decide +kernel
theorem kyX4_firstSent : Ky yX4_firstSent 1 := by unfold Ky; decide +kernel
theorem kyX4_frees : Ky yX4_frees 2 := by unfold Ky; decide +kernel
theorem kyX4_has : Ky yX4_has 2 := by unfold Ky; decide +kernel
theorem kyX4_in : Ky yX4_in 3 := by unfold Ky; decide +kernel
theorem kyX4_inState : Ky yX4_inState 1 := by unfold Ky; decide +kernel
theorem kyX4_init : Ky yX4_init 0 := by unfold Ky; decide +kernel
theorem kyX4_isCommit : Ky yX4_isCommit 1 := by unfold Ky; decide +kernel
theorem kyX4_isDeal : Ky yX4_isDeal 1 := by unfold Ky; decide +kernel
theorem kyX4_isDigit : Ky yX4_isDigit 1 := by unfold Ky; decide +kernel
theorem kyX4_isItem : Ky yX4_isItem 1 := by unfold Ky; decide +kernel
theorem kyX4_isSmall : Ky yX4_isSmall 1 := by unfold Ky; decide +kernel
theorem kyX4_isStubborn : Ky yX4_isStubborn 1 := by unfold Ky; decide +kernel
theorem kyX4_isWeaker : Ky yX4_isWeaker 2 := by unfold Ky; decide +kernel
theorem kyX4_item : Ky yX4_item 2 := by unfold Ky; decide +kernel
theorem kyX4_lay : Ky yX4_lay 3 := by unfold Ky; decide +kernel
theorem kyX4_limit : Ky yX4_limit 1 := by unfold Ky; decide +kernel
theorem kyX4_log : Ky yX4_log 2 := by unfold Ky; decide +kernel
theorem kyX4_logged : Ky yX4_logged 3 := by unfold Ky; decide +kernel
theorem kyX4_logs : Ky yX4_logs 2 := by unfold Ky; decide +kernel
theorem kyX4_next : Ky yX4_next 0 := by unfold Ky; decide +kernel
theorem kyX4_noted : Ky yX4_noted 3 := by unfold Ky; decide +kernel
theorem kyX4_ones : Ky yX4_ones 1 := by unfold Ky; decide +kernel
theorem kyX4_opens : Ky yX4_opens 1 := by unfold Ky; decide +kernel
theorem kyX4_peek : Ky yX4_peek 2 := by unfold Ky; decide +kernel
theorem kyX4_put : Ky yX4_put 2 := by unfold Ky; decide +kernel
theorem kyX4_puts : Ky yX4_puts 2 := by unfold Ky; decide +kernel
theorem kyX4_read : Ky yX4_read 2 := by unfold Ky; decide +kernel
theorem kyX4_reads : Ky yX4_reads 3 := by unfold Ky; decide +kernel
theorem kyX4_readsAll : Ky yX4_readsAll 1 := by unfold Ky; decide +kernel
theorem kyX4_readsClause : Ky yX4_readsClause 0 := by unfold Ky; decide +kernel
theorem kyX4_readsRest : Ky yX4_readsRest 1 := by unfold Ky; decide +kernel
theorem kyX4_refused : Ky yX4_refused 2 := by unfold Ky; decide +kernel
theorem kyX4_retry : Ky yX4_retry 1 := by unfold Ky; decide +kernel
theorem kyX4_rivals : Ky yX4_rivals 1 := by unfold Ky; decide +kernel
theorem kyX4_send : Ky yX4_send 1 := by unfold Ky; decide +kernel
theorem kyX4_sent : Ky yX4_sent 1 := by unfold Ky; decide +kernel
theorem kyX4_settle : Ky yX4_settle 0 := by unfold Ky; decide +kernel
theorem kyX4_stale : Ky yX4_stale 1 := by unfold Ky; decide +kernel
theorem kyX4_sweep : Ky yX4_sweep 0 := by unfold Ky; decide +kernel
theorem kyX4_tell : Ky yX4_tell 0 := by unfold Ky; decide +kernel
theorem kyX4_vote : Ky yX4_vote 1 := by unfold Ky; decide +kernel
theorem kyX4_wordHere : Ky yX4_wordHere 0 := by unfold Ky; decide +kernel
theorem kyX4_write : Ky yX4_write 1 := by unfold Ky; decide +kernel

set_option maxHeartbeats 4000000 in
set_option maxRecDepth 100000 in
theorem kX3_isItem (l : Launch) (G : Cx) (x : Int32) : Si l G yX3_isItem cX3_isItem 1 .boolean (Rm 0 0) [.int x] (fun r => r = bI (inB 8 x)) := by
  refine Si.mk (by decide) (Nat.le_of_ble_eq_true rfl) ?_
  intro p e s m below meth c A ls go hk hl
  have hS : va_S A s.heap s.heap [] := va_S.rf
  have hx := go.1
  have hb := go.2.1
  have hl : lv_has ls 1 [(0, .int x)] := hl
  refine lv_iload_n hx hb dX3_isItem_0 rfl (lv_at hl 0 rfl) ?_
  refine lv_if_lt (tgt := 14) hx hb dX3_isItem_1 (by decide) (fun h1 => ?_) (fun h1 => ?_)
  · skip
    refine lv_iconst (v := 0) hx hb dX3_isItem_14 (by decide) ?_
    refine ret_sz go dX3_isItem_15 rfl ?_
    simp [inB, bI, *]
  · skip
    refine lv_iload_n hx hb dX3_isItem_4 rfl (lv_at hl 0 rfl) ?_
    refine lv_bipush (v := 8) hx hb dX3_isItem_5 (by decide) ?_
    refine lv_icmp_ge (tgt := 14) hx hb dX3_isItem_7 (by decide) (fun h7 => ?_) (fun h7 => ?_)
    · skip
      refine lv_iconst (v := 0) hx hb dX3_isItem_14 (by decide) ?_
      refine ret_sz go dX3_isItem_15 rfl ?_
      simp [inB, bI, *]
    · skip
      refine lv_iconst (v := 1) hx hb dX3_isItem_10 (by decide) ?_
      refine lv_goto (tgt := 15) hx hb dX3_isItem_11 (by decide) ?_
      refine ret_sz go dX3_isItem_15 rfl ?_
      simp [inB, bI, *]

set_option maxHeartbeats 4000000 in
set_option maxRecDepth 100000 in
theorem kX3_isDeal (l : Launch) (G : Cx) (x : Int32) : Si l G yX3_isDeal cX3_isDeal 1 .boolean (Rm 0 0) [.int x] (fun r => r = bI (inB 6 x)) := by
  refine Si.mk (by decide) (Nat.le_of_ble_eq_true rfl) ?_
  intro p e s m below meth c A ls go hk hl
  have hS : va_S A s.heap s.heap [] := va_S.rf
  have hx := go.1
  have hb := go.2.1
  have hl : lv_has ls 1 [(0, .int x)] := hl
  refine lv_iload_n hx hb dX3_isDeal_0 rfl (lv_at hl 0 rfl) ?_
  refine lv_if_lt (tgt := 14) hx hb dX3_isDeal_1 (by decide) (fun h1 => ?_) (fun h1 => ?_)
  · skip
    refine lv_iconst (v := 0) hx hb dX3_isDeal_14 (by decide) ?_
    refine ret_sz go dX3_isDeal_15 rfl ?_
    simp [inB, bI, *]
  · skip
    refine lv_iload_n hx hb dX3_isDeal_4 rfl (lv_at hl 0 rfl) ?_
    refine lv_bipush (v := 6) hx hb dX3_isDeal_5 (by decide) ?_
    refine lv_icmp_ge (tgt := 14) hx hb dX3_isDeal_7 (by decide) (fun h7 => ?_) (fun h7 => ?_)
    · skip
      refine lv_iconst (v := 0) hx hb dX3_isDeal_14 (by decide) ?_
      refine ret_sz go dX3_isDeal_15 rfl ?_
      simp [inB, bI, *]
    · skip
      refine lv_iconst (v := 1) hx hb dX3_isDeal_10 (by decide) ?_
      refine lv_goto (tgt := 15) hx hb dX3_isDeal_11 (by decide) ?_
      refine ret_sz go dX3_isDeal_15 rfl ?_
      simp [inB, bI, *]

set_option maxHeartbeats 4000000 in
set_option maxRecDepth 100000 in
theorem kX3_isValidator (l : Launch) (G : Cx) (x : Int32) : Si l G yX3_isValidator cX3_isValidator 1 .boolean (Rm 0 0) [.int x] (fun r => r = bI (inB 2 x)) := by
  refine Si.mk (by decide) (Nat.le_of_ble_eq_true rfl) ?_
  intro p e s m below meth c A ls go hk hl
  have hS : va_S A s.heap s.heap [] := va_S.rf
  have hx := go.1
  have hb := go.2.1
  have hl : lv_has ls 1 [(0, .int x)] := hl
  refine lv_iload_n hx hb dX3_isValidator_0 rfl (lv_at hl 0 rfl) ?_
  refine lv_if_lt (tgt := 13) hx hb dX3_isValidator_1 (by decide) (fun h1 => ?_) (fun h1 => ?_)
  · skip
    refine lv_iconst (v := 0) hx hb dX3_isValidator_13 (by decide) ?_
    refine ret_sz go dX3_isValidator_14 rfl ?_
    simp [inB, bI, *]
  · skip
    refine lv_iload_n hx hb dX3_isValidator_4 rfl (lv_at hl 0 rfl) ?_
    refine lv_iconst (v := 2) hx hb dX3_isValidator_5 (by decide) ?_
    refine lv_icmp_ge (tgt := 13) hx hb dX3_isValidator_6 (by decide) (fun h6 => ?_) (fun h6 => ?_)
    · skip
      refine lv_iconst (v := 0) hx hb dX3_isValidator_13 (by decide) ?_
      refine ret_sz go dX3_isValidator_14 rfl ?_
      simp [inB, bI, *]
    · skip
      refine lv_iconst (v := 1) hx hb dX3_isValidator_9 (by decide) ?_
      refine lv_goto (tgt := 14) hx hb dX3_isValidator_10 (by decide) ?_
      refine ret_sz go dX3_isValidator_14 rfl ?_
      simp [inB, bI, *]

set_option maxHeartbeats 4000000 in
set_option maxRecDepth 100000 in
theorem kX3_isValue (l : Launch) (G : Cx) (x : Int32) : Si l G yX3_isValue cX3_isValue 1 .boolean (Rm 0 0) [.int x] (fun r => r = bI (vaB x)) := by
  refine Si.mk (by decide) (Nat.le_of_ble_eq_true rfl) ?_
  intro p e s m below meth c A ls go hk hl
  have hS : va_S A s.heap s.heap [] := va_S.rf
  have hx := go.1
  have hb := go.2.1
  have hl : lv_has ls 1 [(0, .int x)] := hl
  refine lv_iload_n hx hb dX3_isValue_0 rfl (lv_at hl 0 rfl) ?_
  refine lv_if_lt (tgt := 15) hx hb dX3_isValue_1 (by decide) (fun h1 => ?_) (fun h1 => ?_)
  · skip
    refine lv_iconst (v := 0) hx hb dX3_isValue_15 (by decide) ?_
    refine ret_sz go dX3_isValue_16 rfl ?_
    simp [vaB, bI, *]
  · skip
    refine lv_iload_n hx hb dX3_isValue_4 rfl (lv_at hl 0 rfl) ?_
    refine lv_sipush (v := 9999) hx hb dX3_isValue_5 (by decide) ?_
    refine lv_icmp_gt (tgt := 15) hx hb dX3_isValue_8 (by decide) (fun h8 => ?_) (fun h8 => ?_)
    · skip
      refine lv_iconst (v := 0) hx hb dX3_isValue_15 (by decide) ?_
      refine ret_sz go dX3_isValue_16 rfl ?_
      simp [vaB, bI, *]
    · skip
      refine lv_iconst (v := 1) hx hb dX3_isValue_11 (by decide) ?_
      refine lv_goto (tgt := 16) hx hb dX3_isValue_12 (by decide) ?_
      refine ret_sz go dX3_isValue_16 rfl ?_
      simp [vaB, bI, *]

set_option maxHeartbeats 4000000 in
set_option maxRecDepth 100000 in
theorem kX3_bit (l : Launch) (G : Cx) (x : Int32) : Si l G yX3_bit cX3_bit 1 .int (Rm 0 0) [.int x] (fun r => r = bt x) := by
  refine Si.mk (by decide) (Nat.le_of_ble_eq_true rfl) ?_
  intro p e s m below meth c A ls go hk hl
  have hS : va_S A s.heap s.heap [] := va_S.rf
  have hx := go.1
  have hb := go.2.1
  have hl : lv_has ls 1 [(0, .int x)] := hl
  refine lv_iconst (v := 1) hx hb dX3_bit_0 (by decide) ?_
  refine lv_iload_n hx hb dX3_bit_1 rfl (lv_at hl 0 rfl) ?_
  refine lv_ishl hx hb dX3_bit_2 ?_
  refine ret_si go dX3_bit_3 ?_
  rfl

set_option maxHeartbeats 4000000 in
set_option maxRecDepth 100000 in
theorem kX3_has (l : Launch) (G : Cx) (b x : Int32) : Si l G yX3_has cX3_has 2 .boolean (Rm 1 20) [.int b, .int x] (fun r => r = bI (hasB b x)) := by
  refine Si.mk (by decide) (Nat.le_of_ble_eq_true rfl) ?_
  intro p e s m below meth c A ls go hk hl
  have hS : va_S A s.heap s.heap [] := va_S.rf
  have hx := go.1
  have hb := go.2.1
  have hl : lv_has ls 2 [(0, .int b), (1, .int x)] := hl
  refine lv_iload_n hx hb dX3_has_0 rfl (lv_at hl 0 rfl) ?_
  refine lv_iload_n hx hb dX3_has_1 rfl (lv_at hl 1 rfl) ?_
  refine cal_S (kX3_bit l G x) go hS hk dX3_has_2 (And.intro q396 (And.intro q1 q369)) q368 kyX3_bit ⟨rfl, rfl⟩ ⟨Nat.le_of_ble_eq_true rfl, Nat.le_of_ble_eq_true rfl⟩ hl.1 rfl (Nat.le_of_ble_eq_true rfl) ⟨Nat.le_of_ble_eq_true rfl, Nat.le_of_ble_eq_true rfl⟩ ?_
  refine lv_iand hx hb dX3_has_5 ?_
  refine lv_if_eq (tgt := 13) hx hb dX3_has_6 (by decide) (fun h6 => ?_) (fun h6 => ?_)
  · skip
    refine lv_iconst (v := 0) hx hb dX3_has_13 (by decide) ?_
    refine ret_sz go dX3_has_14 rfl ?_
    simp [hasB, bI, *]
  · skip
    refine lv_iconst (v := 1) hx hb dX3_has_9 (by decide) ?_
    refine lv_goto (tgt := 14) hx hb dX3_has_10 (by decide) ?_
    refine ret_sz go dX3_has_14 rfl ?_
    simp [hasB, bI, *]

/-- a deal is free -/
def frD (x : Sg) (d : Nat) (b : Bool) : Sg :=
  let y := pI (pI (pI (pI (pI (pI x (2 + d) 1 0) (2 + d) 8 (bI b)) (2 + d) 2 0) (2 + d) 5 0) (2 + d) 6 0) (2 + d) 7 (-1)
  if b then y else pI (pI y (2 + d) 3 0) (2 + d) 4 0

set_option maxHeartbeats 4000000 in
set_option maxRecDepth 100000 in
theorem kX0_becomeFree (l : Launch) (G : Cx) (g : Nat → Nat → Nat) (x : Sg) (d : Nat) (hd : d < 6) (b : Bool) : Cv l G yX0_becomeFree cX0_becomeFree 2 (Rm 0 0) (cw G g) [.ref (g (2 + d) 0), .int (bI b)] x (fun u => u = frD x d b) := by
  refine Cv.mk (by decide) (Nat.le_of_ble_eq_true rfl) ?_
  intro p e s m below meth c A ls go hw hl
  generalize s.heap = H at hw ⊢
  generalize ([] : List Loc) = locs at hw ⊢
  have hx := go.1
  have hb := go.2.1
  have hl : lv_has ls 2 [(0, .ref (g (2 + d) 0)), (1, .int (bI b))] := hl
  refine lv_aload_n hx hb dX0_becomeFree_0 rfl (lv_at hl 0 rfl) ?_
  refine lv_iconst (v := 0) hx hb dX0_becomeFree_1 (by decide) ?_
  refine pD (d := d) (k := 1) hd ⟨by decide, by decide⟩ go hw dX0_becomeFree_2 q62 (fun H locs hw => ?_)
  refine lv_aload_n hx hb dX0_becomeFree_5 rfl (lv_at hl 0 rfl) ?_
  refine lv_iload_n hx hb dX0_becomeFree_6 rfl (lv_at hl 1 rfl) ?_
  refine pDz (d := d) hd (bI_z _) go hw dX0_becomeFree_7 q80 (fun H locs hw => ?_)
  refine lv_aload_n hx hb dX0_becomeFree_10 rfl (lv_at hl 0 rfl) ?_
  refine lv_iconst (v := 0) hx hb dX0_becomeFree_11 (by decide) ?_
  refine pD (d := d) (k := 2) hd ⟨by decide, by decide⟩ go hw dX0_becomeFree_12 q64 (fun H locs hw => ?_)
  refine lv_aload_n hx hb dX0_becomeFree_15 rfl (lv_at hl 0 rfl) ?_
  refine lv_iconst (v := 0) hx hb dX0_becomeFree_16 (by decide) ?_
  refine pD (d := d) (k := 5) hd ⟨by decide, by decide⟩ go hw dX0_becomeFree_17 q72 (fun H locs hw => ?_)
  refine lv_aload_n hx hb dX0_becomeFree_20 rfl (lv_at hl 0 rfl) ?_
  refine lv_iconst (v := 0) hx hb dX0_becomeFree_21 (by decide) ?_
  refine pD (d := d) (k := 6) hd ⟨by decide, by decide⟩ go hw dX0_becomeFree_22 q75 (fun H locs hw => ?_)
  refine lv_aload_n hx hb dX0_becomeFree_25 rfl (lv_at hl 0 rfl) ?_
  refine lv_iconst (v := (-1)) hx hb dX0_becomeFree_26 (by decide) ?_
  refine pD (d := d) (k := 7) hd ⟨by decide, by decide⟩ go hw dX0_becomeFree_27 q78 (fun H locs hw => ?_)
  refine lv_iload_n hx hb dX0_becomeFree_30 rfl (lv_at hl 1 rfl) ?_
  refine lv_if_ne (tgt := 44) hx hb dX0_becomeFree_31 (by decide) (fun h31 => ?_) (fun h31 => ?_)
  · skip
    have h31 := bI_1 h31
    refine ret_v (wf := cw G g) go hw dX0_becomeFree_44 ?_
    simp [frD, *]
  · skip
    have h31 := bI_0 h31
    refine lv_aload_n hx hb dX0_becomeFree_34 rfl (lv_at hl 0 rfl) ?_
    refine lv_iconst (v := 0) hx hb dX0_becomeFree_35 (by decide) ?_
    refine pD (d := d) (k := 3) hd ⟨by decide, by decide⟩ go hw dX0_becomeFree_36 q67 (fun H locs hw => ?_)
    refine lv_aload_n hx hb dX0_becomeFree_39 rfl (lv_at hl 0 rfl) ?_
    refine lv_iconst (v := 0) hx hb dX0_becomeFree_40 (by decide) ?_
    refine pD (d := d) (k := 4) hd ⟨by decide, by decide⟩ go hw dX0_becomeFree_41 q70 (fun H locs hw => ?_)
    refine ret_v (wf := cw G g) go hw dX0_becomeFree_44 ?_
    simp [frD, *]

set_option maxHeartbeats 4000000 in
set_option maxRecDepth 100000 in
theorem kX3_howMany (l : Launch) (G : Cx) (g : Nat → Nat → Nat) (x : Sg) (st : Int32) : Ci l G yX3_howMany cX3_howMany 7 .int (Rm 0 0) (cw G g) [.ref (g 0 0), .int st] x (fun r u => r = nI (howM x st) ∧ u = x) := by
  refine Ci.mk (by decide) (Nat.le_of_ble_eq_true rfl) ?_
  intro p e s m below meth c A ls go hw hl
  generalize s.heap = H at hw ⊢
  generalize ([] : List Loc) = locs at hw ⊢
  have hx := go.1
  have hb := go.2.1
  have hl : lv_has ls 7 [(0, .ref (g 0 0)), (1, .int st)] := hl
  refine lv_iconst (v := 0) hx hb dX3_howMany_0 (by decide) ?_
  refine lv_istore_n (lv' := [(2, .int 0), (0, .ref (g 0 0)), (1, .int st)]) hx hb dX3_howMany_1 rfl hl (by decide) rfl (fun ls hl => ?_)
  refine lv_aload_n hx hb dX3_howMany_2 rfl (lv_at hl 1 rfl) ?_
  refine gX (k := 3) (v := .ref (g 0 4)) rfl (by decide) rfl go hw dX3_howMany_3 q130 ?_
  refine lv_astore_n (lv' := [(3, .ref (g 0 4)), (2, .int 0), (0, .ref (g 0 0)), (1, .int st)]) hx hb dX3_howMany_6 rfl hl (by decide) rfl (fun ls hl => ?_)
  refine lv_aload_n hx hb dX3_howMany_7 rfl (lv_at hl 0 rfl) ?_
  refine lDl go hw dX3_howMany_8 ?_
  refine lv_istore (lv' := [(4, .int (nI 6)), (3, .ref (g 0 4)), (2, .int 0), (0, .ref (g 0 0)), (1, .int st)]) hx hb dX3_howMany_9 hl (by decide) rfl (fun ls hl => ?_)
  refine lv_iconst (v := 0) hx hb dX3_howMany_11 (by decide) ?_
  refine lv_istore (lv' := [(5, .int 0), (4, .int (nI 6)), (3, .ref (g 0 4)), (2, .int 0), (0, .ref (g 0 0)), (1, .int st)]) hx hb dX3_howMany_12 hl (by decide) rfl (fun ls hl => ?_)
  have hl0 : lv_has ls 7 [(0, .ref (g 0 0)), (1, .int st), (2, .int (nI (cntB (fun d => decide (sI x (2 + d) 1 = st)) 0))), (3, .ref (g 0 4)), (4, .int (nI 6)), (5, .int (nI 0))] := lv_to (lv_sub (l' := [(0, .ref (g 0 0)), (1, .int st), (2, .int 0), (3, .ref (g 0 4)), (4, .int (nI 6)), (5, .int 0)]) hl [4, 5, 3, 2, 1, 0] rfl) (lr (lr (lc (show (0 : Int32) = nI (cntB (fun d => decide (sI x (2 + d) 1 = st)) 0) from rfl) (lr (lr (lc (show (0 : Int32) = nI 0 from rfl) rfl))))))
  refine loop_up (N := 6) (P := fun i H locs ls => Wd G A s H locs (cw G g x) ∧ lv_has ls 7 [(0, .ref (g 0 0)), (1, .int st), (2, .int (nI (cntB (fun d => decide (sI x (2 + d) 1 = st)) i))), (3, .ref (g 0 4)), (4, .int (nI 6)), (5, .int (nI i))]) (X := fun H locs ls => W p l e (Rm 0 0) s m ([.ref (g 0 0), .int st] : List Value).toArray below meth c H locs 0 0 (MQ below (va_Qi (fun r u => r = nI (howM x st) ∧ u = x) (PostW G (cw G g) A) A) ([.ref (g 0 0), .int st] : List Value).toArray s (Rm 0 0).cells (Rm 0 0).slots A) (F0 m 14 ls [])) ?_ 0 (by omega) H locs ls ⟨hw, hl0⟩
  clear hl0 hl hw
  intro i hi ih H locs ls hP
  obtain ⟨hw, hl⟩ := hP
  refine lv_iload hx hb dX3_howMany_14 (lv_at hl 5 rfl) ?_
  refine lv_iload hx hb dX3_howMany_16 (lv_at hl 4 rfl) ?_
  refine lv_icmp_ge (tgt := 45) hx hb dX3_howMany_18 (by decide) (fun h18 => ?_) (fun h18 => ?_)
  · skip
    have hE : i = 6 := lp_end h18 rfl rfl hi (by decide)
    subst hE
    refine lv_iload_n hx hb dX3_howMany_45 rfl (lv_at hl 2 rfl) ?_
    refine ret_i (wf := cw G g) go hw dX3_howMany_46 ?_
    exact ⟨rfl, rfl⟩
  · skip
    have hlt : i < 6 := lp_in h18 rfl rfl hi (by decide)
    refine lv_aload_n hx hb dX3_howMany_21 rfl (lv_at hl 3 rfl) ?_
    refine lv_iload hx hb dX3_howMany_22 (lv_at hl 5 rfl) ?_
    refine aDl (d := i) (by omega) go hw dX3_howMany_24 ?_
    refine lv_astore (lv' := [(6, .ref (g (2 + i) 0)), (0, .ref (g 0 0)), (1, .int st), (2, .int (nI (cntB (fun d => decide (sI x (2 + d) 1 = st)) i))), (3, .ref (g 0 4)), (4, .int (nI 6)), (5, .int (nI i))]) hx hb dX3_howMany_25 hl (by decide) rfl (fun ls hl => ?_)
    refine lv_aload hx hb dX3_howMany_27 (lv_at hl 0 rfl) ?_
    refine gDi (d := i) (k := 1) (v := sI x (2 + i) 1) (by omega) (by decide) rfl go hw dX3_howMany_29 q63 ?_
    refine lv_iload_n hx hb dX3_howMany_32 rfl (lv_at hl 2 rfl) ?_
    refine lv_icmp_ne (tgt := 39) hx hb dX3_howMany_33 (by decide) (fun h33 => ?_) (fun h33 => ?_)
    · skip
      refine lv_iinc (v := nI (i + 1)) (lv' := [(5, .int (nI (i + 1))), (6, .ref (g (2 + i) 0)), (0, .ref (g 0 0)), (1, .int st), (2, .int (nI (cntB (fun d => decide (sI x (2 + d) 1 = st)) i))), (3, .ref (g 0 4)), (4, .int (nI 6))]) hx hb dX3_howMany_39 hl (k := 6) rfl (nI_1 _) (by decide) rfl (fun ls hl => ?_)
      refine lv_goto (tgt := 14) hx hb dX3_howMany_42 (by decide) ?_
      have hl9 : lv_has ls 7 [(0, .ref (g 0 0)), (1, .int st), (2, .int (nI (cntB (fun d => decide (sI x (2 + d) 1 = st)) (i + 1)))), (3, .ref (g 0 4)), (4, .int (nI 6)), (5, .int (nI (i + 1)))] := lv_to (lv_sub (l' := [(0, .ref (g 0 0)), (1, .int st), (2, .int (nI (cntB (fun d => decide (sI x (2 + d) 1 = st)) i))), (3, .ref (g 0 4)), (4, .int (nI 6)), (5, .int (nI (i + 1)))]) hl [2, 3, 4, 5, 6, 0] rfl) (lr (lr (lc (show (nI (cntB (fun d => decide (sI x (2 + d) 1 = st)) i) : Int32) = nI (cntB (fun d => decide (sI x (2 + d) 1 = st)) (i + 1)) from by first | exact cntB_t (by simp [*]) | exact cntB_f (by simp [*])) (lr (lr (lr rfl))))))
      exact ih _ _ _ (by omega) ⟨hw, hl9⟩
    · skip
      refine lv_iinc (v := nI (cntB (fun d => decide (sI x (2 + d) 1 = st)) i) + 1) (lv' := [(2, .int (nI (cntB (fun d => decide (sI x (2 + d) 1 = st)) i) + 1)), (6, .ref (g (2 + i) 0)), (0, .ref (g 0 0)), (1, .int st), (3, .ref (g 0 4)), (4, .int (nI 6)), (5, .int (nI i))]) hx hb dX3_howMany_36 hl (k := 3) rfl rfl (by decide) rfl (fun ls hl => ?_)
      refine lv_iinc (v := nI (i + 1)) (lv' := [(5, .int (nI (i + 1))), (2, .int (nI (cntB (fun d => decide (sI x (2 + d) 1 = st)) i) + 1)), (6, .ref (g (2 + i) 0)), (0, .ref (g 0 0)), (1, .int st), (3, .ref (g 0 4)), (4, .int (nI 6))]) hx hb dX3_howMany_39 hl (k := 6) rfl (nI_1 _) (by decide) rfl (fun ls hl => ?_)
      refine lv_goto (tgt := 14) hx hb dX3_howMany_42 (by decide) ?_
      have hl9 : lv_has ls 7 [(0, .ref (g 0 0)), (1, .int st), (2, .int (nI (cntB (fun d => decide (sI x (2 + d) 1 = st)) (i + 1)))), (3, .ref (g 0 4)), (4, .int (nI 6)), (5, .int (nI (i + 1)))] := lv_to (lv_sub (l' := [(0, .ref (g 0 0)), (1, .int st), (2, .int (nI (cntB (fun d => decide (sI x (2 + d) 1 = st)) i) + 1)), (3, .ref (g 0 4)), (4, .int (nI 6)), (5, .int (nI (i + 1)))]) hl [3, 4, 1, 5, 6, 0] rfl) (lr (lr (lc (show (nI (cntB (fun d => decide (sI x (2 + d) 1 = st)) i) + 1 : Int32) = nI (cntB (fun d => decide (sI x (2 + d) 1 = st)) (i + 1)) from by first | exact cntB_t (by simp [*]) | exact cntB_f (by simp [*])) (lr (lr (lr rfl))))))
      exact ih _ _ _ (by omega) ⟨hw, hl9⟩
end
section
/-! ===== what the class's inner methods answer, and do ===== -/
def exB (p : Nat → Bool) : Nat → Bool
  | 0 => false
  | n + 1 => exB p n || p n
theorem exB_f {p : Nat → Bool} : ∀ {n : Nat}, (∀ j, j < n → p j = false) → exB p n = false
  | 0, _ => rfl
  | n + 1, h => by rw [exB, exB_f (fun j hj => h j (by omega)), h n (by omega)]; rfl
theorem exB_t {p : Nat → Bool} {i : Nat} (hp : p i = true) : ∀ {n : Nat}, i < n → exB p n = true
  | 0, h => absurd h (by omega)
  | n + 1, h => by
    rw [exB]
    by_cases e : i = n
    · subst e; rw [hp, Bool.or_true]
    · rw [exB_t hp (by omega), Bool.true_or]
def fstN (p : Nat → Bool) : Nat → Nat
  | 0 => 0
  | n + 1 => if fstN p n < n then fstN p n else if p n then n else n + 1
theorem fstN_no {p : Nat → Bool} : ∀ {n : Nat}, (∀ j, j < n → p j = false) → fstN p n = n
  | 0, _ => rfl
  | n + 1, h => by rw [fstN, fstN_no (fun j hj => h j (by omega)), if_neg (by omega), h n (by omega)]; rfl
theorem fstN_at {p : Nat → Bool} {i : Nat} (hp : p i = true) (hn : ∀ j, j < i → p j = false) : ∀ {n : Nat}, i < n → fstN p n = i
  | 0, h => absurd h (by omega)
  | n + 1, h => by
    rw [fstN]
    by_cases e : i = n
    · subst e; rw [fstN_no hn, if_neg (by omega), hp]; rfl
    · have := fstN_at hp hn (n := n) (by omega)
      rw [this, if_pos (by omega)]
/-- the first place, or NONE -/
def fstI (p : Nat → Bool) (n : Nat) : Int32 := if fstN p n < n then nI (fstN p n) else -1
theorem fstI_no {p : Nat → Bool} {n : Nat} (h : ∀ j, j < n → p j = false) : fstI p n = -1 := by rw [fstI, fstN_no h, if_neg (by omega)]
theorem fstI_at {p : Nat → Bool} {i n : Nat} (hp : p i = true) (hn : ∀ j, j < i → p j = false) (h : i < n) : fstI p n = nI i := by rw [fstI, fstN_at hp hn h, if_pos h]
def foS (f : Sg → Nat → Sg) (x : Sg) : Nat → Sg
  | 0 => x
  | n + 1 => f (foS f x n) n
def foI (f : Nat → Int32 → Int32) (a : Int32) : Nat → Int32
  | 0 => a
  | n + 1 => f n (foI f a n)
def Nm (x : Sg) : Prop := ∀ e, e < 6 → sI x (2 + e) 0 = nI e
def opD (x : Sg) (d : Nat) (a b c : Int32) : Sg := pI (pI (pI (pI (pI x (2 + d) 1 1) (2 + d) 8 0) (2 + d) 2 a) (2 + d) 3 b) (2 + d) 4 c
def seD (x : Sg) (d : Nat) (t : Int32) : Sg := foS (fun y v => pA y (2 + d) 12 (upd (sA y (2 + d) 12) v (-1))) (pI (pI x (2 + d) 1 3) (2 + d) 7 t) 2
def noD (x : Sg) (d i : Nat) (v t : Int32) : Sg := pA (pA (pI x (2 + d) 5 (sI x (2 + d) 5 ||| bt (nI i))) (2 + d) 9 (upd (sA x (2 + d) 9) i v)) (2 + d) 10 (upd (sA x (2 + d) 10) i t)
def cpF (f h : Nat → Int32) (i : Nat) : Nat → Int32 := fun j => if j < i then h j else f j
theorem cpF_0 (f h : Nat → Int32) : cpF f h 0 = f := by funext j; simp [cpF]
theorem cpF_s (f h : Nat → Int32) (i : Nat) : upd (cpF f h i) i (h i) = cpF f h (i + 1) := by
  funext j
  by_cases e : j = i
  · subst e; simp [cpF, upd]
  · by_cases q : j < i
    · rw [pk_un e, cpF, cpF, if_pos q, if_pos (by omega)]
    · rw [pk_un e, cpF, cpF, if_neg q, if_neg (by omega)]
theorem pA_self (x : Sg) (o k : Nat) : pA x o k (sA x o k) = x := by
  refine Prod.ext rfl (Prod.ext rfl (Prod.ext (funext fun o' => funext fun k' => ?_) rfl))
  by_cases h : o' = o ∧ k' = k
  · show (if o' = o ∧ k' = k then x.2.2.1 o k else x.2.2.1 o' k') = _
    rw [if_pos h, h.1, h.2]
  · exact if_neg h
theorem pA_over (x : Sg) (o a b : Nat) (f h f' h' : Nat → Int32) : pA (pA (pA (pA x o a f) o b h) o a f') o b h' = pA (pA x o a f') o b h' := by
  refine Prod.ext rfl (Prod.ext rfl (Prod.ext (funext fun o' => funext fun k' => ?_) rfl))
  show (if o' = o ∧ k' = b then h' else if o' = o ∧ k' = a then f' else if o' = o ∧ k' = b then h else if o' = o ∧ k' = a then f else x.2.2.1 o' k') = if o' = o ∧ k' = b then h' else if o' = o ∧ k' = a then f' else x.2.2.1 o' k'
  by_cases h1 : o' = o ∧ k' = b
  · rw [if_pos h1, if_pos h1]
  · rw [if_neg h1, if_neg h1, if_neg h1]
    by_cases h2 : o' = o ∧ k' = a
    · rw [if_pos h2, if_pos h2]
    · rw [if_neg h2, if_neg h2, if_neg h2]
def kd0 (x : Sg) (n d : Nat) (w : Int32) : Sg := pI (pI (pI (pI (pI (pI x (8 + n) 0 (sI x (2 + d) 0)) (8 + n) 1 (sI x (2 + d) 3)) (8 + n) 2 (sI x (2 + d) 4)) (8 + n) 3 (sI x (2 + d) 5)) (8 + n) 4 (sI x (2 + d) 6)) (8 + n) 5 w
def kdE (x : Sg) (n d : Nat) (w : Int32) : Sg := pA (pA (kd0 x n d w) (8 + n) 6 (cpF (sA x (8 + n) 6) (sA x (2 + d) 10) 8)) (8 + n) 7 (cpF (sA x (8 + n) 7) (sA x (2 + d) 11) 8)
def kwE (x : Sg) (n i : Nat) (v : Int32) : Sg := pA (pI (pI (pI (pI (pI (pI x (8 + n) 0 (-1)) (8 + n) 1 0) (8 + n) 2 0) (8 + n) 3 0) (8 + n) 4 (bt (nI i))) (8 + n) 5 4) (8 + n) 7 (upd (sA x (8 + n) 7) i v)
def hnB (x : Sg) (n : Nat) (t : Int32) : Bool := exB (fun i => hasB (sI x (8 + n) 3) (nI i) && decide (sA x (8 + n) 6 i = t)) 8
def stB (x : Sg) (d : Nat) : Bool := !decide (sI x (2 + d) 4 < sI x 0 6)
def stl (x : Sg) (d : Nat) : Int32 := orB (fun i => hasB (sI x (2 + d) 5) (nI i) && !decide (sA x 0 2 i = sA x (2 + d) 10 i)) 8
def crs (x : Sg) (d : Nat) : Int32 := orB (fun i => hasB (sI x (2 + d) 5) (nI i) && !decide (sA x 0 2 i ≤ sI x (2 + d) 2)) 8
def riv (x : Sg) (d : Nat) : Int32 := orB (fun e => !decide (nI e = nI d) && (decide (sI x (2 + e) 1 = 1) && !decide (sI x (2 + e) 5 &&& sI x (2 + d) 6 = 0))) 6
def gfB (x : Sg) (a b : Nat) : Bool := if bI (stB x a) = bI (stB x b) then !decide (sI x (2 + b) 3 ≤ sI x (2 + a) 3) else stB x a
def myB (x : Sg) (d : Nat) : Bool := exB (fun e => hasB (riv x d) (nI e) && gfB x e d) 6
def dmS (b : Int32) (y : Sg) (e : Nat) : Sg := if hasB b (nI e) then pI y (2 + e) 1 2 else y
def dmA (x : Sg) (b : Int32) : Sg := foS (dmS b) x 6
def faB (a : Int32) : Bool := decide (a = -11) || (decide (a = -12) || decide (a = -13))
def loS (x : Sg) (d : Nat) (w : Int32) : Sg :=
  let y := pI x 0 9 (sI x 0 9 + 1)
  let y := if w = -12 then pI y 0 10 (sI x 0 10 + 1) else y
  let y := if w = -13 then pI y 0 11 (sI x 0 11 + 1) else y
  frD y d true
def chS (x : Sg) (i : Nat) (v : Int32) : Sg := pA (pA x 0 1 (upd (sA x 0 1) i v)) 0 2 (upd (sA x 0 2) i (sI x 0 5))
def sbN (x : Sg) (d : Nat) : Nat := cntB (fun e => decide (sI x (2 + e) 1 = 3) && !decide (sI x (2 + d) 7 ≤ sI x (2 + e) 7)) 6
def saI (x : Sg) (k : Int32) : Int32 := fstI (fun d => decide (sI x (2 + d) 1 = 3) && decide (nI (sbN x d) = k)) 6
def prI (x : Sg) (v d : Nat) : Int32 := foI (fun e a => if sI x (2 + e) 1 = 3 ∧ ¬ sI x (2 + d) 7 ≤ sI x (2 + e) 7 ∧ sA x (2 + e) 12 v = 1 then a ||| sI x (2 + e) 6 else a) 0 6
def itO (v : Int32) : Int32 := (bt 4 - 1) <<< ((v * 4) &&& 31)
def opI (x : Sg) (v d : Nat) : Bool := decide ((stl x d ||| (sI x (2 + d) 5 &&& prI x v d)) &&& itO (nI v) = 0)
/-- what commit() would answer -/
def ftI (x : Sg) (d : Nat) (w : Int32) : Int32 :=
  if w < 0 ∨ ¬ w ≤ 2 then -3 else
  if ¬ sI x (2 + d) 1 = 1 ∨ ¬ nI (howM x 3) ≤ 0 then -4 else
  if ¬ sI x 0 5 < 512 then -5 else
  if ¬ stl x d = 0 then -11 else
  if w = 0 ∧ ¬ crs x d = 0 then -12 else
  if w = 2 ∧ myB x d = true then -13 else sI x 0 5 + 1

set_option maxHeartbeats 4000000 in
set_option maxRecDepth 100000 in
theorem kX0_becomeOpen (l : Launch) (G : Cx) (g : Nat → Nat → Nat) (x : Sg) (d : Nat) (hd : d < 6) (a b z : Int32) : Cv l G yX0_becomeOpen cX0_becomeOpen 4 (Rm 0 0) (cw G g) [.ref (g (2 + d) 0), .int a, .int b, .int z] x (fun u => u = opD x d a b z) := by
  refine Cv.mk (by decide) (Nat.le_of_ble_eq_true rfl) ?_
  intro p e s m below meth c A ls go hw hl
  generalize s.heap = H at hw ⊢
  generalize ([] : List Loc) = locs at hw ⊢
  have hx := go.1
  have hb := go.2.1
  have hl : lv_has ls 4 [(0, .ref (g (2 + d) 0)), (1, .int a), (2, .int b), (3, .int z)] := hl
  refine lv_aload_n hx hb dX0_becomeOpen_0 rfl (lv_at hl 0 rfl) ?_
  refine lv_iconst (v := 1) hx hb dX0_becomeOpen_1 (by decide) ?_
  refine pD (d := d) (k := 1) hd ⟨by decide, by decide⟩ go hw dX0_becomeOpen_2 q62 (fun H locs hw => ?_)
  refine lv_aload_n hx hb dX0_becomeOpen_5 rfl (lv_at hl 0 rfl) ?_
  refine lv_iconst (v := 0) hx hb dX0_becomeOpen_6 (by decide) ?_
  refine pDz (d := d) hd ⟨by rfl, by rfl⟩ go hw dX0_becomeOpen_7 q80 (fun H locs hw => ?_)
  refine lv_aload_n hx hb dX0_becomeOpen_10 rfl (lv_at hl 0 rfl) ?_
  refine lv_iload_n hx hb dX0_becomeOpen_11 rfl (lv_at hl 1 rfl) ?_
  refine pD (d := d) (k := 2) hd ⟨by decide, by decide⟩ go hw dX0_becomeOpen_12 q64 (fun H locs hw => ?_)
  refine lv_aload_n hx hb dX0_becomeOpen_15 rfl (lv_at hl 0 rfl) ?_
  refine lv_iload_n hx hb dX0_becomeOpen_16 rfl (lv_at hl 2 rfl) ?_
  refine pD (d := d) (k := 3) hd ⟨by decide, by decide⟩ go hw dX0_becomeOpen_17 q67 (fun H locs hw => ?_)
  refine lv_aload_n hx hb dX0_becomeOpen_20 rfl (lv_at hl 0 rfl) ?_
  refine lv_iload_n hx hb dX0_becomeOpen_21 rfl (lv_at hl 3 rfl) ?_
  refine pD (d := d) (k := 4) hd ⟨by decide, by decide⟩ go hw dX0_becomeOpen_22 q70 (fun H locs hw => ?_)
  refine ret_v (wf := cw G g) go hw dX0_becomeOpen_25 ?_
  rfl

set_option maxHeartbeats 4000000 in
set_option maxRecDepth 100000 in
theorem kX0_becomeSent (l : Launch) (G : Cx) (g : Nat → Nat → Nat) (x : Sg) (d : Nat) (hd : d < 6) (t : Int32) : Cv l G yX0_becomeSent cX0_becomeSent 3 (Rm 0 0) (cw G g) [.ref (g (2 + d) 0), .int t] x (fun u => u = seD x d t) := by
  refine Cv.mk (by decide) (Nat.le_of_ble_eq_true rfl) ?_
  intro p e s m below meth c A ls go hw hl
  generalize s.heap = H at hw ⊢
  generalize ([] : List Loc) = locs at hw ⊢
  have hx := go.1
  have hb := go.2.1
  have hl : lv_has ls 3 [(0, .ref (g (2 + d) 0)), (1, .int t)] := hl
  refine lv_aload_n hx hb dX0_becomeSent_0 rfl (lv_at hl 0 rfl) ?_
  refine lv_iconst (v := 3) hx hb dX0_becomeSent_1 (by decide) ?_
  refine pD (d := d) (k := 1) hd ⟨by decide, by decide⟩ go hw dX0_becomeSent_2 q62 (fun H locs hw => ?_)
  refine lv_aload_n hx hb dX0_becomeSent_5 rfl (lv_at hl 0 rfl) ?_
  refine lv_iload_n hx hb dX0_becomeSent_6 rfl (lv_at hl 1 rfl) ?_
  refine pD (d := d) (k := 7) hd ⟨by decide, by decide⟩ go hw dX0_becomeSent_7 q78 (fun H locs hw => ?_)
  refine lv_iconst (v := 0) hx hb dX0_becomeSent_10 (by decide) ?_
  refine lv_istore_n (lv' := [(2, .int 0), (0, .ref (g (2 + d) 0)), (1, .int t)]) hx hb dX0_becomeSent_11 rfl hl (by decide) rfl (fun ls hl => ?_)
  rw [show pI (pI x (2 + d) 1 3) (2 + d) 7 t = foS (fun y v => pA y (2 + d) 12 (upd (sA y (2 + d) 12) v (-1))) (pI (pI x (2 + d) 1 3) (2 + d) 7 t) 0 from by rfl] at hw
  have hl0 : lv_has ls 3 [(0, .ref (g (2 + d) 0)), (2, .int (nI 0))] := lv_to (lv_sub (l' := [(0, .ref (g (2 + d) 0)), (2, .int 0)]) hl [1, 0] rfl) (lr (lc (show (0 : Int32) = nI 0 from rfl) rfl))
  refine loop_up (N := 2) (P := fun i H locs ls => Wd G A s H locs (cw G g (foS (fun y v => pA y (2 + d) 12 (upd (sA y (2 + d) 12) v (-1))) (pI (pI x (2 + d) 1 3) (2 + d) 7 t) i)) ∧ lv_has ls 3 [(0, .ref (g (2 + d) 0)), (2, .int (nI i))]) (X := fun H locs ls => W p l e (Rm 0 0) s m ([.ref (g (2 + d) 0), .int t] : List Value).toArray below meth c H locs 0 0 (MQ below (va_Qv (fun u => u = seD x d t) (PostW G (cw G g) A) A) ([.ref (g (2 + d) 0), .int t] : List Value).toArray s (Rm 0 0).cells (Rm 0 0).slots A) (F0 m 12 ls [])) ?_ 0 (by omega) H locs ls ⟨hw, hl0⟩
  clear hl0 hl hw
  intro i hi ih H locs ls hP
  obtain ⟨hw, hl⟩ := hP
  refine lv_iload_n hx hb dX0_becomeSent_12 rfl (lv_at hl 1 rfl) ?_
  refine lv_iconst (v := 2) hx hb dX0_becomeSent_13 (by decide) ?_
  refine lv_icmp_ge (tgt := 30) hx hb dX0_becomeSent_14 (by decide) (fun h14 => ?_) (fun h14 => ?_)
  · skip
    have hE : i = 2 := lp_end h14 rfl rfl hi (by decide)
    subst hE
    refine ret_v (wf := cw G g) go hw dX0_becomeSent_30 ?_
    rfl
  · skip
    have hlt : i < 2 := lp_in h14 rfl rfl hi (by decide)
    refine lv_aload_n hx hb dX0_becomeSent_17 rfl (lv_at hl 0 rfl) ?_
    refine gD (d := d) (k := 12) (v := .ref (g (2 + d) 13)) hd rfl (by decide) rfl go hw dX0_becomeSent_18 q90 ?_
    refine lv_iload_n hx hb dX0_becomeSent_21 rfl (lv_at hl 1 rfl) ?_
    refine lv_iconst (v := (-1)) hx hb dX0_becomeSent_22 (by decide) ?_
    refine sD (d := d) (k := 12) (j := i) hd (by decide) (by exact hlt) go hw dX0_becomeSent_23 (fun H locs hw => ?_)
    refine lv_iinc (v := nI (i + 1)) (lv' := [(2, .int (nI (i + 1))), (0, .ref (g (2 + d) 0))]) hx hb dX0_becomeSent_24 hl (k := 1) rfl (nI_1 _) (by decide) rfl (fun ls hl => ?_)
    refine lv_goto (tgt := 12) hx hb dX0_becomeSent_27 (by decide) ?_
    have hl9 : lv_has ls 3 [(0, .ref (g (2 + d) 0)), (2, .int (nI (i + 1)))] := lv_sub hl [1, 0] rfl
    rw [show pA (foS (fun y v => pA y (2 + d) 12 (upd (sA y (2 + d) 12) v (-1))) (pI (pI x (2 + d) 1 3) (2 + d) 7 t) i) (2 + d) 12 (upd (sA (foS (fun y v => pA y (2 + d) 12 (upd (sA y (2 + d) 12) v (-1))) (pI (pI x (2 + d) 1 3) (2 + d) 7 t) i) (2 + d) 12) i (-1)) = foS (fun y v => pA y (2 + d) 12 (upd (sA y (2 + d) 12) v (-1))) (pI (pI x (2 + d) 1 3) (2 + d) 7 t) (i + 1) from by rfl] at hw
    exact ih _ _ _ (by omega) ⟨hw, hl9⟩

set_option maxHeartbeats 4000000 in
set_option maxRecDepth 100000 in
theorem kX0_note (l : Launch) (G : Cx) (g : Nat → Nat → Nat) (x : Sg) (d : Nat) (hd : d < 6) (i : Nat) (hi : i < 8) (v t : Int32) : Cv l G yX0_note cX0_note 4 (Rm 1 20) (cw G g) [.ref (g (2 + d) 0), .int (nI i), .int v, .int t] x (fun u => u = noD x d i v t) := by
  refine Cv.mk (by decide) (Nat.le_of_ble_eq_true rfl) ?_
  intro p e s m below meth c A ls go hw hl
  generalize s.heap = H at hw ⊢
  generalize ([] : List Loc) = locs at hw ⊢
  have hx := go.1
  have hb := go.2.1
  have hl : lv_has ls 4 [(0, .ref (g (2 + d) 0)), (1, .int (nI i)), (2, .int v), (3, .int t)] := hl
  refine lv_aload_n hx hb dX0_note_0 rfl (lv_at hl 0 rfl) ?_
  refine lv_dup hx hb dX0_note_1 rfl ?_
  refine gDi (d := d) (k := 5) (v := sI x (2 + d) 5) hd (by decide) rfl go hw dX0_note_2 q72 ?_
  refine lv_iload_n hx hb dX0_note_5 rfl (lv_at hl 1 rfl) ?_
  refine cal_SN (kX3_bit l G (nI i)) go hw.2.2.1 hw.2.2.2.1 dX0_note_6 (And.intro hw.2.2.2.1.2.1.2.2.2.1 (And.intro q1 q369)) q368 kyX3_bit ⟨rfl, rfl⟩ ⟨Nat.le_of_ble_eq_true rfl, Nat.le_of_ble_eq_true rfl⟩ hl.1 rfl (Nat.le_of_ble_eq_true rfl) ⟨Nat.le_of_ble_eq_true rfl, Nat.le_of_ble_eq_true rfl⟩ ?_
  refine lv_ior hx hb dX0_note_9 ?_
  refine pD (d := d) (k := 5) hd ⟨by decide, by decide⟩ go hw dX0_note_10 q72 (fun H locs hw => ?_)
  refine lv_aload_n hx hb dX0_note_13 rfl (lv_at hl 0 rfl) ?_
  refine gD (d := d) (k := 9) (v := .ref (g (2 + d) 10)) hd rfl (by decide) rfl go hw dX0_note_14 q82 ?_
  refine lv_iload_n hx hb dX0_note_17 rfl (lv_at hl 1 rfl) ?_
  refine lv_iload_n hx hb dX0_note_18 rfl (lv_at hl 2 rfl) ?_
  refine sD (d := d) (k := 9) (j := i) hd (by decide) (by exact hi) go hw dX0_note_19 (fun H locs hw => ?_)
  rw [show sA (pI x (2 + d) 5 ((sI x (2 + d) 5) ||| (bt (nI i)))) (2 + d) 9 = sA x (2 + d) 9 from ((sA_pI _ _ _ _ _ _).trans rfl)] at hw
  refine lv_aload_n hx hb dX0_note_20 rfl (lv_at hl 0 rfl) ?_
  refine gD (d := d) (k := 10) (v := .ref (g (2 + d) 11)) hd rfl (by decide) rfl go hw dX0_note_21 q84 ?_
  refine lv_iload_n hx hb dX0_note_24 rfl (lv_at hl 1 rfl) ?_
  refine lv_iload_n hx hb dX0_note_25 rfl (lv_at hl 3 rfl) ?_
  refine sD (d := d) (k := 10) (j := i) hd (by decide) (by exact hi) go hw dX0_note_26 (fun H locs hw => ?_)
  rw [show sA (pA (pI x (2 + d) 5 ((sI x (2 + d) 5) ||| (bt (nI i)))) (2 + d) 9 (upd (sA x (2 + d) 9) i v)) (2 + d) 10 = sA x (2 + d) 10 from ((sA_ne (by omega)).trans ((sA_pI _ _ _ _ _ _).trans rfl))] at hw
  refine ret_v (wf := cw G g) go hw dX0_note_27 ?_
  rfl

def haB (x : Sg) (d : Nat) : Bool := !exB (fun j => !(!decide (sA x (2 + d) 12 j = -1))) 2

set_option maxHeartbeats 4000000 in
set_option maxRecDepth 100000 in
theorem kX0_hasAllVotes (l : Launch) (G : Cx) (g : Nat → Nat → Nat) (x : Sg) (d : Nat) (hd : d < 6) : Ci l G yX0_hasAllVotes cX0_hasAllVotes 5 .boolean (Rm 0 0) (cw G g) [.ref (g (2 + d) 0)] x (fun r u => r = bI (haB x d) ∧ u = x) := by
  refine Ci.mk (by decide) (Nat.le_of_ble_eq_true rfl) ?_
  intro p e s m below meth c A ls go hw hl
  generalize s.heap = H at hw ⊢
  generalize ([] : List Loc) = locs at hw ⊢
  have hx := go.1
  have hb := go.2.1
  have hl : lv_has ls 5 [(0, .ref (g (2 + d) 0))] := hl
  refine lv_aload_n hx hb dX0_hasAllVotes_0 rfl (lv_at hl 0 rfl) ?_
  refine gD (d := d) (k := 12) (v := .ref (g (2 + d) 13)) hd rfl (by decide) rfl go hw dX0_hasAllVotes_1 q90 ?_
  refine lv_astore_n (lv' := [(1, .ref (g (2 + d) 13)), (0, .ref (g (2 + d) 0))]) hx hb dX0_hasAllVotes_4 rfl hl (by decide) rfl (fun ls hl => ?_)
  refine lv_aload_n hx hb dX0_hasAllVotes_5 rfl (lv_at hl 0 rfl) ?_
  refine lV hd go hw dX0_hasAllVotes_6 ?_
  refine lv_istore_n (lv' := [(2, .int (nI 2)), (1, .ref (g (2 + d) 13)), (0, .ref (g (2 + d) 0))]) hx hb dX0_hasAllVotes_7 rfl hl (by decide) rfl (fun ls hl => ?_)
  refine lv_iconst (v := 0) hx hb dX0_hasAllVotes_8 (by decide) ?_
  refine lv_istore_n (lv' := [(3, .int 0), (2, .int (nI 2)), (1, .ref (g (2 + d) 13)), (0, .ref (g (2 + d) 0))]) hx hb dX0_hasAllVotes_9 rfl hl (by decide) rfl (fun ls hl => ?_)
  have hl0 : lv_has ls 5 [(0, .ref (g (2 + d) 0)), (1, .ref (g (2 + d) 13)), (2, .int (nI 2)), (3, .int (nI 0))] := lv_to (lv_sub (l' := [(0, .ref (g (2 + d) 0)), (1, .ref (g (2 + d) 13)), (2, .int (nI 2)), (3, .int 0)]) hl [3, 2, 1, 0] rfl) (lr (lr (lr (lc (show (0 : Int32) = nI 0 from rfl) rfl))))
  refine loop_up (N := 2) (P := fun i H locs ls => Wd G A s H locs (cw G g x) ∧ lv_has ls 5 [(0, .ref (g (2 + d) 0)), (1, .ref (g (2 + d) 13)), (2, .int (nI 2)), (3, .int (nI i))] ∧ (∀ j, j < i → (fun j => !(!decide (sA x (2 + d) 12 j = -1))) j = false)) (X := fun H locs ls => W p l e (Rm 0 0) s m ([.ref (g (2 + d) 0)] : List Value).toArray below meth c H locs 0 0 (MQ below (va_Qi (fun r u => r = bI (haB x d) ∧ u = x) (PostW G (cw G g) A) A) ([.ref (g (2 + d) 0)] : List Value).toArray s (Rm 0 0).cells (Rm 0 0).slots A) (F0 m 10 ls [])) ?_ 0 (by omega) H locs ls ⟨hw, hl0, (fun j hj => absurd hj (by omega))⟩
  clear hl0 hl hw
  intro i hi ih H locs ls hP
  obtain ⟨hw, hl, hE0⟩ := hP
  refine lv_iload_n hx hb dX0_hasAllVotes_10 rfl (lv_at hl 3 rfl) ?_
  refine lv_iload_n hx hb dX0_hasAllVotes_11 rfl (lv_at hl 2 rfl) ?_
  refine lv_icmp_ge (tgt := 34) hx hb dX0_hasAllVotes_12 (by decide) (fun h12 => ?_) (fun h12 => ?_)
  · skip
    have hE : i = 2 := lp_end h12 rfl rfl hi (by decide)
    subst hE
    refine lv_iconst (v := 1) hx hb dX0_hasAllVotes_34 (by decide) ?_
    refine ret_z (wf := cw G g) go hw dX0_hasAllVotes_35 rfl ?_
    exact ⟨by rw [haB, exB_f hE0]; rfl, rfl⟩
  · skip
    have hlt : i < 2 := lp_in h12 rfl rfl hi (by decide)
    refine lv_aload_n hx hb dX0_hasAllVotes_15 rfl (lv_at hl 1 rfl) ?_
    refine lv_iload_n hx hb dX0_hasAllVotes_16 rfl (lv_at hl 3 rfl) ?_
    refine aD (d := d) (k := 12) (j := i) hd (by decide) (by exact hlt) go hw dX0_hasAllVotes_17 ?_
    refine lv_istore (lv' := [(4, .int (sA x (2 + d) 12 i)), (0, .ref (g (2 + d) 0)), (1, .ref (g (2 + d) 13)), (2, .int (nI 2)), (3, .int (nI i))]) hx hb dX0_hasAllVotes_18 hl (by decide) rfl (fun ls hl => ?_)
    refine lv_iload hx hb dX0_hasAllVotes_20 (lv_at hl 0 rfl) ?_
    refine lv_iconst (v := (-1)) hx hb dX0_hasAllVotes_22 (by decide) ?_
    refine lv_icmp_ne (tgt := 28) hx hb dX0_hasAllVotes_23 (by decide) (fun h23 => ?_) (fun h23 => ?_)
    · skip
      refine lv_iinc (v := nI (i + 1)) (lv' := [(3, .int (nI (i + 1))), (4, .int (sA x (2 + d) 12 i)), (0, .ref (g (2 + d) 0)), (1, .ref (g (2 + d) 13)), (2, .int (nI 2))]) hx hb dX0_hasAllVotes_28 hl (k := 4) rfl (nI_1 _) (by decide) rfl (fun ls hl => ?_)
      refine lv_goto (tgt := 10) hx hb dX0_hasAllVotes_31 (by decide) ?_
      have hl9 : lv_has ls 5 [(0, .ref (g (2 + d) 0)), (1, .ref (g (2 + d) 13)), (2, .int (nI 2)), (3, .int (nI (i + 1)))] := lv_sub hl [2, 3, 4, 0] rfl
      exact ih _ _ _ (by omega) ⟨hw, hl9, (lt_s hE0 (by simp [*]))⟩
    · skip
      refine lv_iconst (v := 0) hx hb dX0_hasAllVotes_26 (by decide) ?_
      refine ret_z (wf := cw G g) go hw dX0_hasAllVotes_27 rfl ?_
      exact ⟨by rw [haB, exB_t (p := (fun j => !(!decide (sA x (2 + d) 12 j = -1)))) (i := i) (by simp [*]) hlt]; rfl, rfl⟩

def hoB (x : Sg) (d : Nat) : Bool := !exB (fun j => !(decide (sA x (2 + d) 12 j = 1))) 2

set_option maxHeartbeats 4000000 in
set_option maxRecDepth 100000 in
theorem kX0_hasOnlyYes (l : Launch) (G : Cx) (g : Nat → Nat → Nat) (x : Sg) (d : Nat) (hd : d < 6) : Ci l G yX0_hasOnlyYes cX0_hasOnlyYes 5 .boolean (Rm 0 0) (cw G g) [.ref (g (2 + d) 0)] x (fun r u => r = bI (hoB x d) ∧ u = x) := by
  refine Ci.mk (by decide) (Nat.le_of_ble_eq_true rfl) ?_
  intro p e s m below meth c A ls go hw hl
  generalize s.heap = H at hw ⊢
  generalize ([] : List Loc) = locs at hw ⊢
  have hx := go.1
  have hb := go.2.1
  have hl : lv_has ls 5 [(0, .ref (g (2 + d) 0))] := hl
  refine lv_aload_n hx hb dX0_hasOnlyYes_0 rfl (lv_at hl 0 rfl) ?_
  refine gD (d := d) (k := 12) (v := .ref (g (2 + d) 13)) hd rfl (by decide) rfl go hw dX0_hasOnlyYes_1 q90 ?_
  refine lv_astore_n (lv' := [(1, .ref (g (2 + d) 13)), (0, .ref (g (2 + d) 0))]) hx hb dX0_hasOnlyYes_4 rfl hl (by decide) rfl (fun ls hl => ?_)
  refine lv_aload_n hx hb dX0_hasOnlyYes_5 rfl (lv_at hl 0 rfl) ?_
  refine lV hd go hw dX0_hasOnlyYes_6 ?_
  refine lv_istore_n (lv' := [(2, .int (nI 2)), (1, .ref (g (2 + d) 13)), (0, .ref (g (2 + d) 0))]) hx hb dX0_hasOnlyYes_7 rfl hl (by decide) rfl (fun ls hl => ?_)
  refine lv_iconst (v := 0) hx hb dX0_hasOnlyYes_8 (by decide) ?_
  refine lv_istore_n (lv' := [(3, .int 0), (2, .int (nI 2)), (1, .ref (g (2 + d) 13)), (0, .ref (g (2 + d) 0))]) hx hb dX0_hasOnlyYes_9 rfl hl (by decide) rfl (fun ls hl => ?_)
  have hl0 : lv_has ls 5 [(0, .ref (g (2 + d) 0)), (1, .ref (g (2 + d) 13)), (2, .int (nI 2)), (3, .int (nI 0))] := lv_to (lv_sub (l' := [(0, .ref (g (2 + d) 0)), (1, .ref (g (2 + d) 13)), (2, .int (nI 2)), (3, .int 0)]) hl [3, 2, 1, 0] rfl) (lr (lr (lr (lc (show (0 : Int32) = nI 0 from rfl) rfl))))
  refine loop_up (N := 2) (P := fun i H locs ls => Wd G A s H locs (cw G g x) ∧ lv_has ls 5 [(0, .ref (g (2 + d) 0)), (1, .ref (g (2 + d) 13)), (2, .int (nI 2)), (3, .int (nI i))] ∧ (∀ j, j < i → (fun j => !(decide (sA x (2 + d) 12 j = 1))) j = false)) (X := fun H locs ls => W p l e (Rm 0 0) s m ([.ref (g (2 + d) 0)] : List Value).toArray below meth c H locs 0 0 (MQ below (va_Qi (fun r u => r = bI (hoB x d) ∧ u = x) (PostW G (cw G g) A) A) ([.ref (g (2 + d) 0)] : List Value).toArray s (Rm 0 0).cells (Rm 0 0).slots A) (F0 m 10 ls [])) ?_ 0 (by omega) H locs ls ⟨hw, hl0, (fun j hj => absurd hj (by omega))⟩
  clear hl0 hl hw
  intro i hi ih H locs ls hP
  obtain ⟨hw, hl, hE0⟩ := hP
  refine lv_iload_n hx hb dX0_hasOnlyYes_10 rfl (lv_at hl 3 rfl) ?_
  refine lv_iload_n hx hb dX0_hasOnlyYes_11 rfl (lv_at hl 2 rfl) ?_
  refine lv_icmp_ge (tgt := 34) hx hb dX0_hasOnlyYes_12 (by decide) (fun h12 => ?_) (fun h12 => ?_)
  · skip
    have hE : i = 2 := lp_end h12 rfl rfl hi (by decide)
    subst hE
    refine lv_iconst (v := 1) hx hb dX0_hasOnlyYes_34 (by decide) ?_
    refine ret_z (wf := cw G g) go hw dX0_hasOnlyYes_35 rfl ?_
    exact ⟨by rw [hoB, exB_f hE0]; rfl, rfl⟩
  · skip
    have hlt : i < 2 := lp_in h12 rfl rfl hi (by decide)
    refine lv_aload_n hx hb dX0_hasOnlyYes_15 rfl (lv_at hl 1 rfl) ?_
    refine lv_iload_n hx hb dX0_hasOnlyYes_16 rfl (lv_at hl 3 rfl) ?_
    refine aD (d := d) (k := 12) (j := i) hd (by decide) (by exact hlt) go hw dX0_hasOnlyYes_17 ?_
    refine lv_istore (lv' := [(4, .int (sA x (2 + d) 12 i)), (0, .ref (g (2 + d) 0)), (1, .ref (g (2 + d) 13)), (2, .int (nI 2)), (3, .int (nI i))]) hx hb dX0_hasOnlyYes_18 hl (by decide) rfl (fun ls hl => ?_)
    refine lv_iload hx hb dX0_hasOnlyYes_20 (lv_at hl 0 rfl) ?_
    refine lv_iconst (v := 1) hx hb dX0_hasOnlyYes_22 (by decide) ?_
    refine lv_icmp_eq (tgt := 28) hx hb dX0_hasOnlyYes_23 (by decide) (fun h23 => ?_) (fun h23 => ?_)
    · skip
      refine lv_iinc (v := nI (i + 1)) (lv' := [(3, .int (nI (i + 1))), (4, .int (sA x (2 + d) 12 i)), (0, .ref (g (2 + d) 0)), (1, .ref (g (2 + d) 13)), (2, .int (nI 2))]) hx hb dX0_hasOnlyYes_28 hl (k := 4) rfl (nI_1 _) (by decide) rfl (fun ls hl => ?_)
      refine lv_goto (tgt := 10) hx hb dX0_hasOnlyYes_31 (by decide) ?_
      have hl9 : lv_has ls 5 [(0, .ref (g (2 + d) 0)), (1, .ref (g (2 + d) 13)), (2, .int (nI 2)), (3, .int (nI (i + 1)))] := lv_sub hl [2, 3, 4, 0] rfl
      exact ih _ _ _ (by omega) ⟨hw, hl9, (lt_s hE0 (by simp [*]))⟩
    · skip
      refine lv_iconst (v := 0) hx hb dX0_hasOnlyYes_26 (by decide) ?_
      refine ret_z (wf := cw G g) go hw dX0_hasOnlyYes_27 rfl ?_
      exact ⟨by rw [hoB, exB_t (p := (fun j => !(decide (sA x (2 + d) 12 j = 1)))) (i := i) (by simp [*]) hlt]; rfl, rfl⟩

set_option maxHeartbeats 4000000 in
set_option maxRecDepth 100000 in
theorem kX1_keepDeal (l : Launch) (G : Cx) (g : Nat → Nat → Nat) (x : Sg) (n : Nat) (hn : n < sN x) (d : Nat) (hd : d < 6) (w : Int32) : Cv l G yX1_keepDeal cX1_keepDeal 4 (Rm 0 0) (cw G g) [.ref (sE x n 0), .ref (g (2 + d) 0), .int w] x (fun u => u = kdE x n d w) := by
  refine Cv.mk (by decide) (Nat.le_of_ble_eq_true rfl) ?_
  intro p e s m below meth c A ls go hw hl
  generalize s.heap = H at hw ⊢
  generalize ([] : List Loc) = locs at hw ⊢
  have hx := go.1
  have hb := go.2.1
  have hl : lv_has ls 4 [(0, .ref (sE x n 0)), (1, .ref (g (2 + d) 0)), (2, .int w)] := hl
  refine lv_aload_n hx hb dX1_keepDeal_0 rfl (lv_at hl 0 rfl) ?_
  refine lv_aload_n hx hb dX1_keepDeal_1 rfl (lv_at hl 1 rfl) ?_
  refine gDi (d := d) (k := 0) (v := sI x (2 + d) 0) hd (by decide) rfl go hw dX1_keepDeal_2 q60 ?_
  refine pE (x := x) (n := n) (k := 0) hn (by decide) go hw dX1_keepDeal_5 q330 (fun H locs hw => ?_)
  refine lv_aload_n hx hb dX1_keepDeal_8 rfl (lv_at hl 0 rfl) ?_
  refine lv_aload_n hx hb dX1_keepDeal_9 rfl (lv_at hl 1 rfl) ?_
  refine gDi (d := d) (k := 3) (v := sI x (2 + d) 3) hd (by decide) ((sI_ne (by omega)).trans rfl) go hw dX1_keepDeal_10 q66 ?_
  refine pE (x := pI x (8 + n) 0 (sI x (2 + d) 0)) (n := n) (k := 1) hn (by decide) go hw dX1_keepDeal_13 q332 (fun H locs hw => ?_)
  refine lv_aload_n hx hb dX1_keepDeal_16 rfl (lv_at hl 0 rfl) ?_
  refine lv_aload_n hx hb dX1_keepDeal_17 rfl (lv_at hl 1 rfl) ?_
  refine gDi (d := d) (k := 4) (v := sI x (2 + d) 4) hd (by decide) ((sI_ne (by omega)).trans ((sI_ne (by omega)).trans rfl)) go hw dX1_keepDeal_18 q69 ?_
  refine pE (x := pI (pI x (8 + n) 0 (sI x (2 + d) 0)) (8 + n) 1 (sI x (2 + d) 3)) (n := n) (k := 2) hn (by decide) go hw dX1_keepDeal_21 q334 (fun H locs hw => ?_)
  refine lv_aload_n hx hb dX1_keepDeal_24 rfl (lv_at hl 0 rfl) ?_
  refine lv_aload_n hx hb dX1_keepDeal_25 rfl (lv_at hl 1 rfl) ?_
  refine gDi (d := d) (k := 5) (v := sI x (2 + d) 5) hd (by decide) ((sI_ne (by omega)).trans ((sI_ne (by omega)).trans ((sI_ne (by omega)).trans rfl))) go hw dX1_keepDeal_26 q73 ?_
  refine pE (x := pI (pI (pI x (8 + n) 0 (sI x (2 + d) 0)) (8 + n) 1 (sI x (2 + d) 3)) (8 + n) 2 (sI x (2 + d) 4)) (n := n) (k := 3) hn (by decide) go hw dX1_keepDeal_29 q336 (fun H locs hw => ?_)
  refine lv_aload_n hx hb dX1_keepDeal_32 rfl (lv_at hl 0 rfl) ?_
  refine lv_aload_n hx hb dX1_keepDeal_33 rfl (lv_at hl 1 rfl) ?_
  refine gDi (d := d) (k := 6) (v := sI x (2 + d) 6) hd (by decide) ((sI_ne (by omega)).trans ((sI_ne (by omega)).trans ((sI_ne (by omega)).trans ((sI_ne (by omega)).trans rfl)))) go hw dX1_keepDeal_34 q76 ?_
  refine pE (x := pI (pI (pI (pI x (8 + n) 0 (sI x (2 + d) 0)) (8 + n) 1 (sI x (2 + d) 3)) (8 + n) 2 (sI x (2 + d) 4)) (8 + n) 3 (sI x (2 + d) 5)) (n := n) (k := 4) hn (by decide) go hw dX1_keepDeal_37 q338 (fun H locs hw => ?_)
  refine lv_aload_n hx hb dX1_keepDeal_40 rfl (lv_at hl 0 rfl) ?_
  refine lv_iload_n hx hb dX1_keepDeal_41 rfl (lv_at hl 2 rfl) ?_
  refine pE (x := pI (pI (pI (pI (pI x (8 + n) 0 (sI x (2 + d) 0)) (8 + n) 1 (sI x (2 + d) 3)) (8 + n) 2 (sI x (2 + d) 4)) (8 + n) 3 (sI x (2 + d) 5)) (8 + n) 4 (sI x (2 + d) 6)) (n := n) (k := 5) hn (by decide) go hw dX1_keepDeal_42 q340 (fun H locs hw => ?_)
  refine lv_iconst (v := 0) hx hb dX1_keepDeal_45 (by decide) ?_
  refine lv_istore_n (lv' := [(3, .int 0), (0, .ref (sE x n 0)), (1, .ref (g (2 + d) 0)), (2, .int w)]) hx hb dX1_keepDeal_46 rfl hl (by decide) rfl (fun ls hl => ?_)
  rw [show pI (pI (pI (pI (pI (pI x (8 + n) 0 (sI x (2 + d) 0)) (8 + n) 1 (sI x (2 + d) 3)) (8 + n) 2 (sI x (2 + d) 4)) (8 + n) 3 (sI x (2 + d) 5)) (8 + n) 4 (sI x (2 + d) 6)) (8 + n) 5 w = pA (pA (kd0 x n d w) (8 + n) 6 (cpF (sA x (8 + n) 6) (sA x (2 + d) 10) 0)) (8 + n) 7 (cpF (sA x (8 + n) 7) (sA x (2 + d) 11) 0) from by rw [cpF_0, cpF_0]; exact ((congrArg (fun z => pA z (8 + n) 7 (sA x (8 + n) 7)) (pA_self (kd0 x n d w) (8 + n) 6)).trans (pA_self (kd0 x n d w) (8 + n) 7)).symm] at hw
  have hl0 : lv_has ls 4 [(0, .ref (sE x n 0)), (1, .ref (g (2 + d) 0)), (3, .int (nI 0))] := lv_to (lv_sub (l' := [(0, .ref (sE x n 0)), (1, .ref (g (2 + d) 0)), (3, .int 0)]) hl [1, 2, 0] rfl) (lr (lr (lc (show (0 : Int32) = nI 0 from rfl) rfl)))
  refine loop_up (N := 8) (P := fun i H locs ls => Wd G A s H locs (cw G g (pA (pA (kd0 x n d w) (8 + n) 6 (cpF (sA x (8 + n) 6) (sA x (2 + d) 10) i)) (8 + n) 7 (cpF (sA x (8 + n) 7) (sA x (2 + d) 11) i))) ∧ lv_has ls 4 [(0, .ref (sE x n 0)), (1, .ref (g (2 + d) 0)), (3, .int (nI i))]) (X := fun H locs ls => W p l e (Rm 0 0) s m ([.ref (sE x n 0), .ref (g (2 + d) 0), .int w] : List Value).toArray below meth c H locs 0 0 (MQ below (va_Qv (fun u => u = kdE x n d w) (PostW G (cw G g) A) A) ([.ref (sE x n 0), .ref (g (2 + d) 0), .int w] : List Value).toArray s (Rm 0 0).cells (Rm 0 0).slots A) (F0 m 47 ls [])) ?_ 0 (by omega) H locs ls ⟨hw, hl0⟩
  clear hl0 hl hw
  intro i hi ih H locs ls hP
  obtain ⟨hw, hl⟩ := hP
  refine lv_iload_n hx hb dX1_keepDeal_47 rfl (lv_at hl 2 rfl) ?_
  refine lv_bipush (v := 8) hx hb dX1_keepDeal_48 (by decide) ?_
  refine lv_icmp_ge (tgt := 83) hx hb dX1_keepDeal_50 (by decide) (fun h50 => ?_) (fun h50 => ?_)
  · skip
    have hE : i = 8 := lp_end h50 rfl rfl hi (by decide)
    subst hE
    refine ret_v (wf := cw G g) go hw dX1_keepDeal_83 ?_
    rfl
  · skip
    have hlt : i < 8 := lp_in h50 rfl rfl hi (by decide)
    refine lv_aload_n hx hb dX1_keepDeal_53 rfl (lv_at hl 0 rfl) ?_
    refine gEr (x := pA (pA (kd0 x n d w) (8 + n) 6 (cpF (sA x (8 + n) 6) (sA x (2 + d) 10) i)) (8 + n) 7 (cpF (sA x (8 + n) 7) (sA x (2 + d) 11) i)) (n := n) (k := 6) hn (by decide) go hw dX1_keepDeal_54 q342 ?_
    refine lv_iload_n hx hb dX1_keepDeal_57 rfl (lv_at hl 2 rfl) ?_
    refine lv_aload_n hx hb dX1_keepDeal_58 rfl (lv_at hl 1 rfl) ?_
    refine gD (d := d) (k := 10) (v := .ref (g (2 + d) 11)) hd rfl (by decide) rfl go hw dX1_keepDeal_59 q85 ?_
    refine lv_iload_n hx hb dX1_keepDeal_62 rfl (lv_at hl 2 rfl) ?_
    refine aD (d := d) (k := 10) (j := i) hd (by decide) (by exact hlt) go hw dX1_keepDeal_63 ?_
    refine toI (show sA (pA (pA (kd0 x n d w) (8 + n) 6 (cpF (sA x (8 + n) 6) (sA x (2 + d) 10) i)) (8 + n) 7 (cpF (sA x (8 + n) 7) (sA x (2 + d) 11) i)) (2 + d) 10 i = sA (kd0 x n d w) (2 + d) 10 i from congrFun ((sA_ne (by omega)).trans ((sA_ne (by omega)).trans rfl)) i) ?_
    refine toI (show sA (kd0 x n d w) (2 + d) 10 i = sA x (2 + d) 10 i from by first | rfl | (simp [sA_pA, sA_pI, kd0]; done)) ?_
    refine sEa (x := pA (pA (kd0 x n d w) (8 + n) 6 (cpF (sA x (8 + n) 6) (sA x (2 + d) 10) i)) (8 + n) 7 (cpF (sA x (8 + n) 7) (sA x (2 + d) 11) i)) (n := n) (k := 6) (j := i) hn (by decide) (by exact hlt) go hw dX1_keepDeal_64 (fun H locs hw => ?_)
    rw [show sA (pA (pA (kd0 x n d w) (8 + n) 6 (cpF (sA x (8 + n) 6) (sA x (2 + d) 10) i)) (8 + n) 7 (cpF (sA x (8 + n) 7) (sA x (2 + d) 11) i)) (8 + n) 6 = cpF (sA x (8 + n) 6) (sA x (2 + d) 10) i from ((sA_ne (by omega)).trans sA_eq)] at hw
    refine lv_aload_n hx hb dX1_keepDeal_65 rfl (lv_at hl 0 rfl) ?_
    refine gEr (x := pA (pA (pA (kd0 x n d w) (8 + n) 6 (cpF (sA x (8 + n) 6) (sA x (2 + d) 10) i)) (8 + n) 7 (cpF (sA x (8 + n) 7) (sA x (2 + d) 11) i)) (8 + n) 6 (upd (cpF (sA x (8 + n) 6) (sA x (2 + d) 10) i) i (sA x (2 + d) 10 i))) (n := n) (k := 7) hn (by decide) go hw dX1_keepDeal_66 q344 ?_
    refine lv_iload_n hx hb dX1_keepDeal_69 rfl (lv_at hl 2 rfl) ?_
    refine lv_aload_n hx hb dX1_keepDeal_70 rfl (lv_at hl 1 rfl) ?_
    refine gD (d := d) (k := 11) (v := .ref (g (2 + d) 12)) hd rfl (by decide) rfl go hw dX1_keepDeal_71 q88 ?_
    refine lv_iload_n hx hb dX1_keepDeal_74 rfl (lv_at hl 2 rfl) ?_
    refine aD (d := d) (k := 11) (j := i) hd (by decide) (by exact hlt) go hw dX1_keepDeal_75 ?_
    refine toI (show sA (pA (pA (pA (kd0 x n d w) (8 + n) 6 (cpF (sA x (8 + n) 6) (sA x (2 + d) 10) i)) (8 + n) 7 (cpF (sA x (8 + n) 7) (sA x (2 + d) 11) i)) (8 + n) 6 (upd (cpF (sA x (8 + n) 6) (sA x (2 + d) 10) i) i (sA x (2 + d) 10 i))) (2 + d) 11 i = sA (kd0 x n d w) (2 + d) 11 i from congrFun ((sA_ne (by omega)).trans ((sA_ne (by omega)).trans ((sA_ne (by omega)).trans rfl))) i) ?_
    refine toI (show sA (kd0 x n d w) (2 + d) 11 i = sA x (2 + d) 11 i from by first | rfl | (simp [sA_pA, sA_pI, kd0]; done)) ?_
    refine sEa (x := pA (pA (pA (kd0 x n d w) (8 + n) 6 (cpF (sA x (8 + n) 6) (sA x (2 + d) 10) i)) (8 + n) 7 (cpF (sA x (8 + n) 7) (sA x (2 + d) 11) i)) (8 + n) 6 (upd (cpF (sA x (8 + n) 6) (sA x (2 + d) 10) i) i (sA x (2 + d) 10 i))) (n := n) (k := 7) (j := i) hn (by decide) (by exact hlt) go hw dX1_keepDeal_76 (fun H locs hw => ?_)
    rw [show sA (pA (pA (pA (kd0 x n d w) (8 + n) 6 (cpF (sA x (8 + n) 6) (sA x (2 + d) 10) i)) (8 + n) 7 (cpF (sA x (8 + n) 7) (sA x (2 + d) 11) i)) (8 + n) 6 (upd (cpF (sA x (8 + n) 6) (sA x (2 + d) 10) i) i (sA x (2 + d) 10 i))) (8 + n) 7 = cpF (sA x (8 + n) 7) (sA x (2 + d) 11) i from ((sA_ne (by omega)).trans sA_eq)] at hw
    refine lv_iinc (v := nI (i + 1)) (lv' := [(3, .int (nI (i + 1))), (0, .ref (sE x n 0)), (1, .ref (g (2 + d) 0))]) hx hb dX1_keepDeal_77 hl (k := 2) rfl (nI_1 _) (by decide) rfl (fun ls hl => ?_)
    refine lv_goto (tgt := 47) hx hb dX1_keepDeal_80 (by decide) ?_
    have hl9 : lv_has ls 4 [(0, .ref (sE x n 0)), (1, .ref (g (2 + d) 0)), (3, .int (nI (i + 1)))] := lv_sub hl [1, 2, 0] rfl
    rw [show pA (pA (pA (pA (kd0 x n d w) (8 + n) 6 (cpF (sA x (8 + n) 6) (sA x (2 + d) 10) i)) (8 + n) 7 (cpF (sA x (8 + n) 7) (sA x (2 + d) 11) i)) (8 + n) 6 (upd (cpF (sA x (8 + n) 6) (sA x (2 + d) 10) i) i (sA x (2 + d) 10 i))) (8 + n) 7 (upd (cpF (sA x (8 + n) 7) (sA x (2 + d) 11) i) i (sA x (2 + d) 11 i)) = pA (pA (kd0 x n d w) (8 + n) 6 (cpF (sA x (8 + n) 6) (sA x (2 + d) 10) (i + 1))) (8 + n) 7 (cpF (sA x (8 + n) 7) (sA x (2 + d) 11) (i + 1)) from by rw [pA_over, cpF_s, cpF_s]] at hw
    exact ih _ _ _ (by omega) ⟨hw, hl9⟩

set_option maxHeartbeats 4000000 in
set_option maxRecDepth 100000 in
theorem kX1_keepWrite (l : Launch) (G : Cx) (g : Nat → Nat → Nat) (x : Sg) (n : Nat) (hn : n < sN x) (i : Nat) (hi : i < 8) (v : Int32) : Cv l G yX1_keepWrite cX1_keepWrite 3 (Rm 1 20) (cw G g) [.ref (sE x n 0), .int (nI i), .int v] x (fun u => u = kwE x n i v) := by
  refine Cv.mk (by decide) (Nat.le_of_ble_eq_true rfl) ?_
  intro p e s m below meth c A ls go hw hl
  generalize s.heap = H at hw ⊢
  generalize ([] : List Loc) = locs at hw ⊢
  have hx := go.1
  have hb := go.2.1
  have hl : lv_has ls 3 [(0, .ref (sE x n 0)), (1, .int (nI i)), (2, .int v)] := hl
  refine lv_aload_n hx hb dX1_keepWrite_0 rfl (lv_at hl 0 rfl) ?_
  refine lv_iconst (v := (-1)) hx hb dX1_keepWrite_1 (by decide) ?_
  refine pE (x := x) (n := n) (k := 0) hn (by decide) go hw dX1_keepWrite_2 q330 (fun H locs hw => ?_)
  refine lv_aload_n hx hb dX1_keepWrite_5 rfl (lv_at hl 0 rfl) ?_
  refine lv_iconst (v := 0) hx hb dX1_keepWrite_6 (by decide) ?_
  refine pE (x := pI x (8 + n) 0 (-1)) (n := n) (k := 1) hn (by decide) go hw dX1_keepWrite_7 q332 (fun H locs hw => ?_)
  refine lv_aload_n hx hb dX1_keepWrite_10 rfl (lv_at hl 0 rfl) ?_
  refine lv_iconst (v := 0) hx hb dX1_keepWrite_11 (by decide) ?_
  refine pE (x := pI (pI x (8 + n) 0 (-1)) (8 + n) 1 0) (n := n) (k := 2) hn (by decide) go hw dX1_keepWrite_12 q334 (fun H locs hw => ?_)
  refine lv_aload_n hx hb dX1_keepWrite_15 rfl (lv_at hl 0 rfl) ?_
  refine lv_iconst (v := 0) hx hb dX1_keepWrite_16 (by decide) ?_
  refine pE (x := pI (pI (pI x (8 + n) 0 (-1)) (8 + n) 1 0) (8 + n) 2 0) (n := n) (k := 3) hn (by decide) go hw dX1_keepWrite_17 q336 (fun H locs hw => ?_)
  refine lv_aload_n hx hb dX1_keepWrite_20 rfl (lv_at hl 0 rfl) ?_
  refine lv_iload_n hx hb dX1_keepWrite_21 rfl (lv_at hl 1 rfl) ?_
  refine cal_SN (kX3_bit l G (nI i)) go hw.2.2.1 hw.2.2.2.1 dX1_keepWrite_22 (And.intro hw.2.2.2.1.2.1.2.2.1 (And.intro q1 q369)) q368 kyX3_bit ⟨rfl, rfl⟩ ⟨Nat.le_of_ble_eq_true rfl, Nat.le_of_ble_eq_true rfl⟩ hl.1 rfl (Nat.le_of_ble_eq_true rfl) ⟨Nat.le_of_ble_eq_true rfl, Nat.le_of_ble_eq_true rfl⟩ ?_
  refine pE (x := pI (pI (pI (pI x (8 + n) 0 (-1)) (8 + n) 1 0) (8 + n) 2 0) (8 + n) 3 0) (n := n) (k := 4) hn (by decide) go hw dX1_keepWrite_25 q338 (fun H locs hw => ?_)
  refine lv_aload_n hx hb dX1_keepWrite_28 rfl (lv_at hl 0 rfl) ?_
  refine lv_iconst (v := 4) hx hb dX1_keepWrite_29 (by decide) ?_
  refine pE (x := pI (pI (pI (pI (pI x (8 + n) 0 (-1)) (8 + n) 1 0) (8 + n) 2 0) (8 + n) 3 0) (8 + n) 4 (bt (nI i))) (n := n) (k := 5) hn (by decide) go hw dX1_keepWrite_30 q340 (fun H locs hw => ?_)
  refine lv_aload_n hx hb dX1_keepWrite_33 rfl (lv_at hl 0 rfl) ?_
  refine gEr (x := pI (pI (pI (pI (pI (pI x (8 + n) 0 (-1)) (8 + n) 1 0) (8 + n) 2 0) (8 + n) 3 0) (8 + n) 4 (bt (nI i))) (8 + n) 5 4) (n := n) (k := 7) hn (by decide) go hw dX1_keepWrite_34 q344 ?_
  refine lv_iload_n hx hb dX1_keepWrite_37 rfl (lv_at hl 1 rfl) ?_
  refine lv_iload_n hx hb dX1_keepWrite_38 rfl (lv_at hl 2 rfl) ?_
  refine sEa (x := pI (pI (pI (pI (pI (pI x (8 + n) 0 (-1)) (8 + n) 1 0) (8 + n) 2 0) (8 + n) 3 0) (8 + n) 4 (bt (nI i))) (8 + n) 5 4) (n := n) (k := 7) (j := i) hn (by decide) (by exact hi) go hw dX1_keepWrite_39 (fun H locs hw => ?_)
  rw [show sA (pI (pI (pI (pI (pI (pI x (8 + n) 0 (-1)) (8 + n) 1 0) (8 + n) 2 0) (8 + n) 3 0) (8 + n) 4 (bt (nI i))) (8 + n) 5 4) (8 + n) 7 = sA x (8 + n) 7 from ((sA_pI _ _ _ _ _ _).trans ((sA_pI _ _ _ _ _ _).trans ((sA_pI _ _ _ _ _ _).trans ((sA_pI _ _ _ _ _ _).trans ((sA_pI _ _ _ _ _ _).trans ((sA_pI _ _ _ _ _ _).trans rfl))))))] at hw
  refine ret_v (wf := cw G g) go hw dX1_keepWrite_40 ?_
  rfl

set_option maxHeartbeats 4000000 in
set_option maxRecDepth 100000 in
theorem kX1_hasNoted (l : Launch) (G : Cx) (g : Nat → Nat → Nat) (x : Sg) (n : Nat) (hn : n < sN x) (t : Int32) : Ci l G yX1_hasNoted cX1_hasNoted 3 .boolean (Rm 2 41) (cw G g) [.ref (sE x n 0), .int t] x (fun r u => r = bI (hnB x n t) ∧ u = x) := by
  refine Ci.mk (by decide) (Nat.le_of_ble_eq_true rfl) ?_
  intro p e s m below meth c A ls go hw hl
  generalize s.heap = H at hw ⊢
  generalize ([] : List Loc) = locs at hw ⊢
  have hx := go.1
  have hb := go.2.1
  have hl : lv_has ls 3 [(0, .ref (sE x n 0)), (1, .int t)] := hl
  refine lv_iconst (v := 0) hx hb dX1_hasNoted_0 (by decide) ?_
  refine lv_istore_n (lv' := [(2, .int 0), (0, .ref (sE x n 0)), (1, .int t)]) hx hb dX1_hasNoted_1 rfl hl (by decide) rfl (fun ls hl => ?_)
  have hl0 : lv_has ls 3 [(0, .ref (sE x n 0)), (1, .int t), (2, .int (nI 0))] := lv_to (lv_sub (l' := [(0, .ref (sE x n 0)), (1, .int t), (2, .int 0)]) hl [1, 2, 0] rfl) (lr (lr (lc (show (0 : Int32) = nI 0 from rfl) rfl)))
  refine loop_up (N := 8) (P := fun i H locs ls => Wd G A s H locs (cw G g x) ∧ lv_has ls 3 [(0, .ref (sE x n 0)), (1, .int t), (2, .int (nI i))] ∧ (∀ j, j < i → (fun i => hasB (sI x (8 + n) 3) (nI i) && decide (sA x (8 + n) 6 i = t)) j = false)) (X := fun H locs ls => W p l e (Rm 2 41) s m ([.ref (sE x n 0), .int t] : List Value).toArray below meth c H locs 0 0 (MQ below (va_Qi (fun r u => r = bI (hnB x n t) ∧ u = x) (PostW G (cw G g) A) A) ([.ref (sE x n 0), .int t] : List Value).toArray s (Rm 2 41).cells (Rm 2 41).slots A) (F0 m 2 ls [])) ?_ 0 (by omega) H locs ls ⟨hw, hl0, (fun j hj => absurd hj (by omega))⟩
  clear hl0 hl hw
  intro i hi ih H locs ls hP
  obtain ⟨hw, hl, hE0⟩ := hP
  refine lv_iload_n hx hb dX1_hasNoted_2 rfl (lv_at hl 2 rfl) ?_
  refine lv_bipush (v := 8) hx hb dX1_hasNoted_3 (by decide) ?_
  refine lv_icmp_ge (tgt := 37) hx hb dX1_hasNoted_5 (by decide) (fun h5 => ?_) (fun h5 => ?_)
  · skip
    have hE : i = 8 := lp_end h5 rfl rfl hi (by decide)
    subst hE
    refine lv_iconst (v := 0) hx hb dX1_hasNoted_37 (by decide) ?_
    refine ret_z (wf := cw G g) go hw dX1_hasNoted_38 rfl ?_
    exact ⟨by rw [hnB, exB_f hE0]; rfl, rfl⟩
  · skip
    have hlt : i < 8 := lp_in h5 rfl rfl hi (by decide)
    refine lv_aload_n hx hb dX1_hasNoted_8 rfl (lv_at hl 0 rfl) ?_
    refine gEi (x := x) (n := n) (k := 3) (v := sI x (8 + n) 3) hn (by decide) rfl go hw dX1_hasNoted_9 q336 ?_
    refine lv_iload_n hx hb dX1_hasNoted_12 rfl (lv_at hl 2 rfl) ?_
    refine cal_SN (kX3_has l G (sI x (8 + n) 3) (nI i)) go hw.2.2.1 hw.2.2.2.1 dX1_hasNoted_13 (And.intro hw.2.2.2.1.2.1.2.2.2.2 (And.intro q1 q395)) q394 kyX3_has ⟨rfl, rfl⟩ ⟨Nat.le_of_ble_eq_true rfl, Nat.le_of_ble_eq_true rfl⟩ hl.1 rfl (Nat.le_of_ble_eq_true rfl) ⟨Nat.le_of_ble_eq_true rfl, Nat.le_of_ble_eq_true rfl⟩ ?_
    refine lv_if_eq (tgt := 31) hx hb dX1_hasNoted_16 (by decide) (fun h16 => ?_) (fun h16 => ?_)
    · skip
      have h16 := bI_0 h16
      refine lv_iinc (v := nI (i + 1)) (lv' := [(2, .int (nI (i + 1))), (0, .ref (sE x n 0)), (1, .int t)]) hx hb dX1_hasNoted_31 hl (k := 2) rfl (nI_1 _) (by decide) rfl (fun ls hl => ?_)
      refine lv_goto (tgt := 2) hx hb dX1_hasNoted_34 (by decide) ?_
      have hl9 : lv_has ls 3 [(0, .ref (sE x n 0)), (1, .int t), (2, .int (nI (i + 1)))] := lv_sub hl [1, 2, 0] rfl
      exact ih _ _ _ (by omega) ⟨hw, hl9, (lt_s hE0 (by simp [*]))⟩
    · skip
      have h16 := bI_1 h16
      refine lv_aload_n hx hb dX1_hasNoted_19 rfl (lv_at hl 0 rfl) ?_
      refine gEr (x := x) (n := n) (k := 6) hn (by decide) go hw dX1_hasNoted_20 q342 ?_
      refine lv_iload_n hx hb dX1_hasNoted_23 rfl (lv_at hl 2 rfl) ?_
      refine aE (x := x) (n := n) (k := 6) (j := i) hn (by decide) (by exact hlt) go hw dX1_hasNoted_24 ?_
      refine lv_iload_n hx hb dX1_hasNoted_25 rfl (lv_at hl 1 rfl) ?_
      refine lv_icmp_ne (tgt := 31) hx hb dX1_hasNoted_26 (by decide) (fun h26 => ?_) (fun h26 => ?_)
      · skip
        refine lv_iinc (v := nI (i + 1)) (lv' := [(2, .int (nI (i + 1))), (0, .ref (sE x n 0)), (1, .int t)]) hx hb dX1_hasNoted_31 hl (k := 2) rfl (nI_1 _) (by decide) rfl (fun ls hl => ?_)
        refine lv_goto (tgt := 2) hx hb dX1_hasNoted_34 (by decide) ?_
        have hl9 : lv_has ls 3 [(0, .ref (sE x n 0)), (1, .int t), (2, .int (nI (i + 1)))] := lv_sub hl [1, 2, 0] rfl
        exact ih _ _ _ (by omega) ⟨hw, hl9, (lt_s hE0 (by simp [*]))⟩
      · skip
        refine lv_iconst (v := 1) hx hb dX1_hasNoted_29 (by decide) ?_
        refine ret_z (wf := cw G g) go hw dX1_hasNoted_30 rfl ?_
        exact ⟨by rw [hnB, exB_t (p := (fun i => hasB (sI x (8 + n) 3) (nI i) && decide (sA x (8 + n) 6 i = t))) (i := i) (by simp [*]) hlt]; rfl, rfl⟩

set_option maxHeartbeats 4000000 in
set_option maxRecDepth 100000 in
theorem kX3_isStubborn (l : Launch) (G : Cx) (g : Nat → Nat → Nat) (x : Sg) (d : Nat) (hd : d < 6) : Ci l G yX3_isStubborn cX3_isStubborn 2 .boolean (Rm 0 0) (cw G g) [.ref (g 0 0), .ref (g (2 + d) 0)] x (fun r u => r = bI (stB x d) ∧ u = x) := by
  refine Ci.mk (by decide) (Nat.le_of_ble_eq_true rfl) ?_
  intro p e s m below meth c A ls go hw hl
  generalize s.heap = H at hw ⊢
  generalize ([] : List Loc) = locs at hw ⊢
  have hx := go.1
  have hb := go.2.1
  have hl : lv_has ls 2 [(0, .ref (g 0 0)), (1, .ref (g (2 + d) 0))] := hl
  refine lv_aload_n hx hb dX3_isStubborn_0 rfl (lv_at hl 1 rfl) ?_
  refine gDi (d := d) (k := 4) (v := sI x (2 + d) 4) hd (by decide) rfl go hw dX3_isStubborn_1 q71 ?_
  refine lv_aload_n hx hb dX3_isStubborn_4 rfl (lv_at hl 0 rfl) ?_
  refine gXi (k := 6) (v := sI x 0 6) ⟨by decide, by decide⟩ rfl go hw dX3_isStubborn_5 q133 ?_
  refine lv_icmp_lt (tgt := 15) hx hb dX3_isStubborn_8 (by decide) (fun h8 => ?_) (fun h8 => ?_)
  · skip
    refine lv_iconst (v := 0) hx hb dX3_isStubborn_15 (by decide) ?_
    refine ret_z (wf := cw G g) go hw dX3_isStubborn_16 rfl ?_
    exact ⟨by simp [stB, bI, *], rfl⟩
  · skip
    refine lv_iconst (v := 1) hx hb dX3_isStubborn_11 (by decide) ?_
    refine lv_goto (tgt := 16) hx hb dX3_isStubborn_12 (by decide) ?_
    refine ret_z (wf := cw G g) go hw dX3_isStubborn_16 rfl ?_
    exact ⟨by simp [stB, bI, *], rfl⟩

set_option maxHeartbeats 4000000 in
set_option maxRecDepth 100000 in
theorem kX3_staleOf (l : Launch) (G : Cx) (g : Nat → Nat → Nat) (x : Sg) (d : Nat) (hd : d < 6) : Ci l G yX3_staleOf cX3_staleOf 4 .int (Rm 2 41) (cw G g) [.ref (g 0 0), .ref (g (2 + d) 0)] x (fun r u => r = stl x d ∧ u = x) := by
  refine Ci.mk (by decide) (Nat.le_of_ble_eq_true rfl) ?_
  intro p e s m below meth c A ls go hw hl
  generalize s.heap = H at hw ⊢
  generalize ([] : List Loc) = locs at hw ⊢
  have hx := go.1
  have hb := go.2.1
  have hl : lv_has ls 4 [(0, .ref (g 0 0)), (1, .ref (g (2 + d) 0))] := hl
  refine lv_iconst (v := 0) hx hb dX3_staleOf_0 (by decide) ?_
  refine lv_istore_n (lv' := [(2, .int 0), (0, .ref (g 0 0)), (1, .ref (g (2 + d) 0))]) hx hb dX3_staleOf_1 rfl hl (by decide) rfl (fun ls hl => ?_)
  refine lv_iconst (v := 0) hx hb dX3_staleOf_2 (by decide) ?_
  refine lv_istore_n (lv' := [(3, .int 0), (2, .int 0), (0, .ref (g 0 0)), (1, .ref (g (2 + d) 0))]) hx hb dX3_staleOf_3 rfl hl (by decide) rfl (fun ls hl => ?_)
  have hl0 : lv_has ls 4 [(0, .ref (g 0 0)), (1, .ref (g (2 + d) 0)), (2, .int (orB (fun i => hasB (sI x (2 + d) 5) (nI i) && !decide (sA x 0 2 i = sA x (2 + d) 10 i)) 0)), (3, .int (nI 0))] := lv_to (lv_sub (l' := [(0, .ref (g 0 0)), (1, .ref (g (2 + d) 0)), (2, .int 0), (3, .int 0)]) hl [2, 3, 1, 0] rfl) (lr (lr (lc (show (0 : Int32) = orB (fun i => hasB (sI x (2 + d) 5) (nI i) && !decide (sA x 0 2 i = sA x (2 + d) 10 i)) 0 from rfl) (lc (show (0 : Int32) = nI 0 from rfl) rfl))))
  refine loop_up (N := 8) (P := fun i H locs ls => Wd G A s H locs (cw G g x) ∧ lv_has ls 4 [(0, .ref (g 0 0)), (1, .ref (g (2 + d) 0)), (2, .int (orB (fun i => hasB (sI x (2 + d) 5) (nI i) && !decide (sA x 0 2 i = sA x (2 + d) 10 i)) i)), (3, .int (nI i))]) (X := fun H locs ls => W p l e (Rm 2 41) s m ([.ref (g 0 0), .ref (g (2 + d) 0)] : List Value).toArray below meth c H locs 0 0 (MQ below (va_Qi (fun r u => r = stl x d ∧ u = x) (PostW G (cw G g) A) A) ([.ref (g 0 0), .ref (g (2 + d) 0)] : List Value).toArray s (Rm 2 41).cells (Rm 2 41).slots A) (F0 m 4 ls [])) ?_ 0 (by omega) H locs ls ⟨hw, hl0⟩
  clear hl0 hl hw
  intro i hi ih H locs ls hP
  obtain ⟨hw, hl⟩ := hP
  refine lv_iload_n hx hb dX3_staleOf_4 rfl (lv_at hl 3 rfl) ?_
  refine lv_bipush (v := 8) hx hb dX3_staleOf_5 (by decide) ?_
  refine lv_icmp_ge (tgt := 49) hx hb dX3_staleOf_7 (by decide) (fun h7 => ?_) (fun h7 => ?_)
  · skip
    have hE : i = 8 := lp_end h7 rfl rfl hi (by decide)
    subst hE
    refine lv_iload_n hx hb dX3_staleOf_49 rfl (lv_at hl 2 rfl) ?_
    refine ret_i (wf := cw G g) go hw dX3_staleOf_50 ?_
    exact ⟨rfl, rfl⟩
  · skip
    have hlt : i < 8 := lp_in h7 rfl rfl hi (by decide)
    refine lv_aload_n hx hb dX3_staleOf_10 rfl (lv_at hl 1 rfl) ?_
    refine gDi (d := d) (k := 5) (v := sI x (2 + d) 5) hd (by decide) rfl go hw dX3_staleOf_11 q74 ?_
    refine lv_iload_n hx hb dX3_staleOf_14 rfl (lv_at hl 3 rfl) ?_
    refine cal_S (kX3_has l G (sI x (2 + d) 5) (nI i)) go hw.2.2.1 hw.2.2.2.1 dX3_staleOf_15 (And.intro q393 (And.intro q1 q395)) q394 kyX3_has ⟨rfl, rfl⟩ ⟨Nat.le_of_ble_eq_true rfl, Nat.le_of_ble_eq_true rfl⟩ hl.1 rfl (Nat.le_of_ble_eq_true rfl) ⟨Nat.le_of_ble_eq_true rfl, Nat.le_of_ble_eq_true rfl⟩ ?_
    refine lv_if_eq (tgt := 43) hx hb dX3_staleOf_18 (by decide) (fun h18 => ?_) (fun h18 => ?_)
    · skip
      have h18 := bI_0 h18
      refine lv_iinc (v := nI (i + 1)) (lv' := [(3, .int (nI (i + 1))), (0, .ref (g 0 0)), (1, .ref (g (2 + d) 0)), (2, .int (orB (fun i => hasB (sI x (2 + d) 5) (nI i) && !decide (sA x 0 2 i = sA x (2 + d) 10 i)) i))]) hx hb dX3_staleOf_43 hl (k := 3) rfl (nI_1 _) (by decide) rfl (fun ls hl => ?_)
      refine lv_goto (tgt := 4) hx hb dX3_staleOf_46 (by decide) ?_
      have hl9 : lv_has ls 4 [(0, .ref (g 0 0)), (1, .ref (g (2 + d) 0)), (2, .int (orB (fun i => hasB (sI x (2 + d) 5) (nI i) && !decide (sA x 0 2 i = sA x (2 + d) 10 i)) (i + 1))), (3, .int (nI (i + 1)))] := lv_to (lv_sub (l' := [(0, .ref (g 0 0)), (1, .ref (g (2 + d) 0)), (2, .int (orB (fun i => hasB (sI x (2 + d) 5) (nI i) && !decide (sA x 0 2 i = sA x (2 + d) 10 i)) i)), (3, .int (nI (i + 1)))]) hl [1, 2, 3, 0] rfl) (lr (lr (lc (show (orB (fun i => hasB (sI x (2 + d) 5) (nI i) && !decide (sA x 0 2 i = sA x (2 + d) 10 i)) i : Int32) = orB (fun i => hasB (sI x (2 + d) 5) (nI i) && !decide (sA x 0 2 i = sA x (2 + d) 10 i)) (i + 1) from by first | exact orB_t (by simp [*]) | exact orB_f (by simp [*])) (lr rfl))))
      exact ih _ _ _ (by omega) ⟨hw, hl9⟩
    · skip
      have h18 := bI_1 h18
      refine lv_aload_n hx hb dX3_staleOf_21 rfl (lv_at hl 0 rfl) ?_
      refine gX (k := 2) (v := .ref (g 0 3)) rfl (by decide) rfl go hw dX3_staleOf_22 q129 ?_
      refine lv_iload_n hx hb dX3_staleOf_25 rfl (lv_at hl 3 rfl) ?_
      refine aX (k := 2) (j := i) (by decide) (by exact hlt) go hw dX3_staleOf_26 ?_
      refine lv_aload_n hx hb dX3_staleOf_27 rfl (lv_at hl 1 rfl) ?_
      refine gD (d := d) (k := 10) (v := .ref (g (2 + d) 11)) hd rfl (by decide) rfl go hw dX3_staleOf_28 q86 ?_
      refine lv_iload_n hx hb dX3_staleOf_31 rfl (lv_at hl 3 rfl) ?_
      refine aD (d := d) (k := 10) (j := i) hd (by decide) (by exact hlt) go hw dX3_staleOf_32 ?_
      refine lv_icmp_eq (tgt := 43) hx hb dX3_staleOf_33 (by decide) (fun h33 => ?_) (fun h33 => ?_)
      · skip
        refine lv_iinc (v := nI (i + 1)) (lv' := [(3, .int (nI (i + 1))), (0, .ref (g 0 0)), (1, .ref (g (2 + d) 0)), (2, .int (orB (fun i => hasB (sI x (2 + d) 5) (nI i) && !decide (sA x 0 2 i = sA x (2 + d) 10 i)) i))]) hx hb dX3_staleOf_43 hl (k := 3) rfl (nI_1 _) (by decide) rfl (fun ls hl => ?_)
        refine lv_goto (tgt := 4) hx hb dX3_staleOf_46 (by decide) ?_
        have hl9 : lv_has ls 4 [(0, .ref (g 0 0)), (1, .ref (g (2 + d) 0)), (2, .int (orB (fun i => hasB (sI x (2 + d) 5) (nI i) && !decide (sA x 0 2 i = sA x (2 + d) 10 i)) (i + 1))), (3, .int (nI (i + 1)))] := lv_to (lv_sub (l' := [(0, .ref (g 0 0)), (1, .ref (g (2 + d) 0)), (2, .int (orB (fun i => hasB (sI x (2 + d) 5) (nI i) && !decide (sA x 0 2 i = sA x (2 + d) 10 i)) i)), (3, .int (nI (i + 1)))]) hl [1, 2, 3, 0] rfl) (lr (lr (lc (show (orB (fun i => hasB (sI x (2 + d) 5) (nI i) && !decide (sA x 0 2 i = sA x (2 + d) 10 i)) i : Int32) = orB (fun i => hasB (sI x (2 + d) 5) (nI i) && !decide (sA x 0 2 i = sA x (2 + d) 10 i)) (i + 1) from by first | exact orB_t (by simp [*]) | exact orB_f (by simp [*])) (lr rfl))))
        exact ih _ _ _ (by omega) ⟨hw, hl9⟩
      · skip
        refine lv_iload_n hx hb dX3_staleOf_36 rfl (lv_at hl 2 rfl) ?_
        refine lv_iload_n hx hb dX3_staleOf_37 rfl (lv_at hl 3 rfl) ?_
        refine cal_S (kX3_bit l G (nI i)) go hw.2.2.1 hw.2.2.2.1 dX3_staleOf_38 (And.intro q396 (And.intro q1 q369)) q368 kyX3_bit ⟨rfl, rfl⟩ ⟨Nat.le_of_ble_eq_true rfl, Nat.le_of_ble_eq_true rfl⟩ hl.1 rfl (Nat.le_of_ble_eq_true rfl) ⟨Nat.le_of_ble_eq_true rfl, Nat.le_of_ble_eq_true rfl⟩ ?_
        refine lv_ior hx hb dX3_staleOf_41 ?_
        refine lv_istore_n (lv' := [(2, .int ((orB (fun i => hasB (sI x (2 + d) 5) (nI i) && !decide (sA x 0 2 i = sA x (2 + d) 10 i)) i) ||| (bt (nI i)))), (0, .ref (g 0 0)), (1, .ref (g (2 + d) 0)), (3, .int (nI i))]) hx hb dX3_staleOf_42 rfl hl (by decide) rfl (fun ls hl => ?_)
        refine lv_iinc (v := nI (i + 1)) (lv' := [(3, .int (nI (i + 1))), (2, .int ((orB (fun i => hasB (sI x (2 + d) 5) (nI i) && !decide (sA x 0 2 i = sA x (2 + d) 10 i)) i) ||| (bt (nI i)))), (0, .ref (g 0 0)), (1, .ref (g (2 + d) 0))]) hx hb dX3_staleOf_43 hl (k := 3) rfl (nI_1 _) (by decide) rfl (fun ls hl => ?_)
        refine lv_goto (tgt := 4) hx hb dX3_staleOf_46 (by decide) ?_
        have hl9 : lv_has ls 4 [(0, .ref (g 0 0)), (1, .ref (g (2 + d) 0)), (2, .int (orB (fun i => hasB (sI x (2 + d) 5) (nI i) && !decide (sA x 0 2 i = sA x (2 + d) 10 i)) (i + 1))), (3, .int (nI (i + 1)))] := lv_to (lv_sub (l' := [(0, .ref (g 0 0)), (1, .ref (g (2 + d) 0)), (2, .int ((orB (fun i => hasB (sI x (2 + d) 5) (nI i) && !decide (sA x 0 2 i = sA x (2 + d) 10 i)) i) ||| (bt (nI i)))), (3, .int (nI (i + 1)))]) hl [2, 3, 1, 0] rfl) (lr (lr (lc (show ((orB (fun i => hasB (sI x (2 + d) 5) (nI i) && !decide (sA x 0 2 i = sA x (2 + d) 10 i)) i) ||| (bt (nI i)) : Int32) = orB (fun i => hasB (sI x (2 + d) 5) (nI i) && !decide (sA x 0 2 i = sA x (2 + d) 10 i)) (i + 1) from by first | exact orB_t (by simp [*]) | exact orB_f (by simp [*])) (lr rfl))))
        exact ih _ _ _ (by omega) ⟨hw, hl9⟩

set_option maxHeartbeats 4000000 in
set_option maxRecDepth 100000 in
theorem kX3_crossedOf (l : Launch) (G : Cx) (g : Nat → Nat → Nat) (x : Sg) (d : Nat) (hd : d < 6) : Ci l G yX3_crossedOf cX3_crossedOf 4 .int (Rm 2 41) (cw G g) [.ref (g 0 0), .ref (g (2 + d) 0)] x (fun r u => r = crs x d ∧ u = x) := by
  refine Ci.mk (by decide) (Nat.le_of_ble_eq_true rfl) ?_
  intro p e s m below meth c A ls go hw hl
  generalize s.heap = H at hw ⊢
  generalize ([] : List Loc) = locs at hw ⊢
  have hx := go.1
  have hb := go.2.1
  have hl : lv_has ls 4 [(0, .ref (g 0 0)), (1, .ref (g (2 + d) 0))] := hl
  refine lv_iconst (v := 0) hx hb dX3_crossedOf_0 (by decide) ?_
  refine lv_istore_n (lv' := [(2, .int 0), (0, .ref (g 0 0)), (1, .ref (g (2 + d) 0))]) hx hb dX3_crossedOf_1 rfl hl (by decide) rfl (fun ls hl => ?_)
  refine lv_iconst (v := 0) hx hb dX3_crossedOf_2 (by decide) ?_
  refine lv_istore_n (lv' := [(3, .int 0), (2, .int 0), (0, .ref (g 0 0)), (1, .ref (g (2 + d) 0))]) hx hb dX3_crossedOf_3 rfl hl (by decide) rfl (fun ls hl => ?_)
  have hl0 : lv_has ls 4 [(0, .ref (g 0 0)), (1, .ref (g (2 + d) 0)), (2, .int (orB (fun i => hasB (sI x (2 + d) 5) (nI i) && !decide (sA x 0 2 i ≤ sI x (2 + d) 2)) 0)), (3, .int (nI 0))] := lv_to (lv_sub (l' := [(0, .ref (g 0 0)), (1, .ref (g (2 + d) 0)), (2, .int 0), (3, .int 0)]) hl [2, 3, 1, 0] rfl) (lr (lr (lc (show (0 : Int32) = orB (fun i => hasB (sI x (2 + d) 5) (nI i) && !decide (sA x 0 2 i ≤ sI x (2 + d) 2)) 0 from rfl) (lc (show (0 : Int32) = nI 0 from rfl) rfl))))
  refine loop_up (N := 8) (P := fun i H locs ls => Wd G A s H locs (cw G g x) ∧ lv_has ls 4 [(0, .ref (g 0 0)), (1, .ref (g (2 + d) 0)), (2, .int (orB (fun i => hasB (sI x (2 + d) 5) (nI i) && !decide (sA x 0 2 i ≤ sI x (2 + d) 2)) i)), (3, .int (nI i))]) (X := fun H locs ls => W p l e (Rm 2 41) s m ([.ref (g 0 0), .ref (g (2 + d) 0)] : List Value).toArray below meth c H locs 0 0 (MQ below (va_Qi (fun r u => r = crs x d ∧ u = x) (PostW G (cw G g) A) A) ([.ref (g 0 0), .ref (g (2 + d) 0)] : List Value).toArray s (Rm 2 41).cells (Rm 2 41).slots A) (F0 m 4 ls [])) ?_ 0 (by omega) H locs ls ⟨hw, hl0⟩
  clear hl0 hl hw
  intro i hi ih H locs ls hP
  obtain ⟨hw, hl⟩ := hP
  refine lv_iload_n hx hb dX3_crossedOf_4 rfl (lv_at hl 3 rfl) ?_
  refine lv_bipush (v := 8) hx hb dX3_crossedOf_5 (by decide) ?_
  refine lv_icmp_ge (tgt := 47) hx hb dX3_crossedOf_7 (by decide) (fun h7 => ?_) (fun h7 => ?_)
  · skip
    have hE : i = 8 := lp_end h7 rfl rfl hi (by decide)
    subst hE
    refine lv_iload_n hx hb dX3_crossedOf_47 rfl (lv_at hl 2 rfl) ?_
    refine ret_i (wf := cw G g) go hw dX3_crossedOf_48 ?_
    exact ⟨rfl, rfl⟩
  · skip
    have hlt : i < 8 := lp_in h7 rfl rfl hi (by decide)
    refine lv_aload_n hx hb dX3_crossedOf_10 rfl (lv_at hl 1 rfl) ?_
    refine gDi (d := d) (k := 5) (v := sI x (2 + d) 5) hd (by decide) rfl go hw dX3_crossedOf_11 q74 ?_
    refine lv_iload_n hx hb dX3_crossedOf_14 rfl (lv_at hl 3 rfl) ?_
    refine cal_S (kX3_has l G (sI x (2 + d) 5) (nI i)) go hw.2.2.1 hw.2.2.2.1 dX3_crossedOf_15 (And.intro q393 (And.intro q1 q395)) q394 kyX3_has ⟨rfl, rfl⟩ ⟨Nat.le_of_ble_eq_true rfl, Nat.le_of_ble_eq_true rfl⟩ hl.1 rfl (Nat.le_of_ble_eq_true rfl) ⟨Nat.le_of_ble_eq_true rfl, Nat.le_of_ble_eq_true rfl⟩ ?_
    refine lv_if_eq (tgt := 41) hx hb dX3_crossedOf_18 (by decide) (fun h18 => ?_) (fun h18 => ?_)
    · skip
      have h18 := bI_0 h18
      refine lv_iinc (v := nI (i + 1)) (lv' := [(3, .int (nI (i + 1))), (0, .ref (g 0 0)), (1, .ref (g (2 + d) 0)), (2, .int (orB (fun i => hasB (sI x (2 + d) 5) (nI i) && !decide (sA x 0 2 i ≤ sI x (2 + d) 2)) i))]) hx hb dX3_crossedOf_41 hl (k := 3) rfl (nI_1 _) (by decide) rfl (fun ls hl => ?_)
      refine lv_goto (tgt := 4) hx hb dX3_crossedOf_44 (by decide) ?_
      have hl9 : lv_has ls 4 [(0, .ref (g 0 0)), (1, .ref (g (2 + d) 0)), (2, .int (orB (fun i => hasB (sI x (2 + d) 5) (nI i) && !decide (sA x 0 2 i ≤ sI x (2 + d) 2)) (i + 1))), (3, .int (nI (i + 1)))] := lv_to (lv_sub (l' := [(0, .ref (g 0 0)), (1, .ref (g (2 + d) 0)), (2, .int (orB (fun i => hasB (sI x (2 + d) 5) (nI i) && !decide (sA x 0 2 i ≤ sI x (2 + d) 2)) i)), (3, .int (nI (i + 1)))]) hl [1, 2, 3, 0] rfl) (lr (lr (lc (show (orB (fun i => hasB (sI x (2 + d) 5) (nI i) && !decide (sA x 0 2 i ≤ sI x (2 + d) 2)) i : Int32) = orB (fun i => hasB (sI x (2 + d) 5) (nI i) && !decide (sA x 0 2 i ≤ sI x (2 + d) 2)) (i + 1) from by first | exact orB_t (by simp [*]) | exact orB_f (by simp [*])) (lr rfl))))
      exact ih _ _ _ (by omega) ⟨hw, hl9⟩
    · skip
      have h18 := bI_1 h18
      refine lv_aload_n hx hb dX3_crossedOf_21 rfl (lv_at hl 0 rfl) ?_
      refine gX (k := 2) (v := .ref (g 0 3)) rfl (by decide) rfl go hw dX3_crossedOf_22 q129 ?_
      refine lv_iload_n hx hb dX3_crossedOf_25 rfl (lv_at hl 3 rfl) ?_
      refine aX (k := 2) (j := i) (by decide) (by exact hlt) go hw dX3_crossedOf_26 ?_
      refine lv_aload_n hx hb dX3_crossedOf_27 rfl (lv_at hl 1 rfl) ?_
      refine gDi (d := d) (k := 2) (v := sI x (2 + d) 2) hd (by decide) rfl go hw dX3_crossedOf_28 q65 ?_
      refine lv_icmp_le (tgt := 41) hx hb dX3_crossedOf_31 (by decide) (fun h31 => ?_) (fun h31 => ?_)
      · skip
        refine lv_iinc (v := nI (i + 1)) (lv' := [(3, .int (nI (i + 1))), (0, .ref (g 0 0)), (1, .ref (g (2 + d) 0)), (2, .int (orB (fun i => hasB (sI x (2 + d) 5) (nI i) && !decide (sA x 0 2 i ≤ sI x (2 + d) 2)) i))]) hx hb dX3_crossedOf_41 hl (k := 3) rfl (nI_1 _) (by decide) rfl (fun ls hl => ?_)
        refine lv_goto (tgt := 4) hx hb dX3_crossedOf_44 (by decide) ?_
        have hl9 : lv_has ls 4 [(0, .ref (g 0 0)), (1, .ref (g (2 + d) 0)), (2, .int (orB (fun i => hasB (sI x (2 + d) 5) (nI i) && !decide (sA x 0 2 i ≤ sI x (2 + d) 2)) (i + 1))), (3, .int (nI (i + 1)))] := lv_to (lv_sub (l' := [(0, .ref (g 0 0)), (1, .ref (g (2 + d) 0)), (2, .int (orB (fun i => hasB (sI x (2 + d) 5) (nI i) && !decide (sA x 0 2 i ≤ sI x (2 + d) 2)) i)), (3, .int (nI (i + 1)))]) hl [1, 2, 3, 0] rfl) (lr (lr (lc (show (orB (fun i => hasB (sI x (2 + d) 5) (nI i) && !decide (sA x 0 2 i ≤ sI x (2 + d) 2)) i : Int32) = orB (fun i => hasB (sI x (2 + d) 5) (nI i) && !decide (sA x 0 2 i ≤ sI x (2 + d) 2)) (i + 1) from by first | exact orB_t (by simp [*]) | exact orB_f (by simp [*])) (lr rfl))))
        exact ih _ _ _ (by omega) ⟨hw, hl9⟩
      · skip
        refine lv_iload_n hx hb dX3_crossedOf_34 rfl (lv_at hl 2 rfl) ?_
        refine lv_iload_n hx hb dX3_crossedOf_35 rfl (lv_at hl 3 rfl) ?_
        refine cal_S (kX3_bit l G (nI i)) go hw.2.2.1 hw.2.2.2.1 dX3_crossedOf_36 (And.intro q396 (And.intro q1 q369)) q368 kyX3_bit ⟨rfl, rfl⟩ ⟨Nat.le_of_ble_eq_true rfl, Nat.le_of_ble_eq_true rfl⟩ hl.1 rfl (Nat.le_of_ble_eq_true rfl) ⟨Nat.le_of_ble_eq_true rfl, Nat.le_of_ble_eq_true rfl⟩ ?_
        refine lv_ior hx hb dX3_crossedOf_39 ?_
        refine lv_istore_n (lv' := [(2, .int ((orB (fun i => hasB (sI x (2 + d) 5) (nI i) && !decide (sA x 0 2 i ≤ sI x (2 + d) 2)) i) ||| (bt (nI i)))), (0, .ref (g 0 0)), (1, .ref (g (2 + d) 0)), (3, .int (nI i))]) hx hb dX3_crossedOf_40 rfl hl (by decide) rfl (fun ls hl => ?_)
        refine lv_iinc (v := nI (i + 1)) (lv' := [(3, .int (nI (i + 1))), (2, .int ((orB (fun i => hasB (sI x (2 + d) 5) (nI i) && !decide (sA x 0 2 i ≤ sI x (2 + d) 2)) i) ||| (bt (nI i)))), (0, .ref (g 0 0)), (1, .ref (g (2 + d) 0))]) hx hb dX3_crossedOf_41 hl (k := 3) rfl (nI_1 _) (by decide) rfl (fun ls hl => ?_)
        refine lv_goto (tgt := 4) hx hb dX3_crossedOf_44 (by decide) ?_
        have hl9 : lv_has ls 4 [(0, .ref (g 0 0)), (1, .ref (g (2 + d) 0)), (2, .int (orB (fun i => hasB (sI x (2 + d) 5) (nI i) && !decide (sA x 0 2 i ≤ sI x (2 + d) 2)) (i + 1))), (3, .int (nI (i + 1)))] := lv_to (lv_sub (l' := [(0, .ref (g 0 0)), (1, .ref (g (2 + d) 0)), (2, .int ((orB (fun i => hasB (sI x (2 + d) 5) (nI i) && !decide (sA x 0 2 i ≤ sI x (2 + d) 2)) i) ||| (bt (nI i)))), (3, .int (nI (i + 1)))]) hl [2, 3, 1, 0] rfl) (lr (lr (lc (show ((orB (fun i => hasB (sI x (2 + d) 5) (nI i) && !decide (sA x 0 2 i ≤ sI x (2 + d) 2)) i) ||| (bt (nI i)) : Int32) = orB (fun i => hasB (sI x (2 + d) 5) (nI i) && !decide (sA x 0 2 i ≤ sI x (2 + d) 2)) (i + 1) from by first | exact orB_t (by simp [*]) | exact orB_f (by simp [*])) (lr rfl))))
        exact ih _ _ _ (by omega) ⟨hw, hl9⟩

set_option maxHeartbeats 4000000 in
set_option maxRecDepth 100000 in
theorem kX3_rivalsOf (l : Launch) (G : Cx) (g : Nat → Nat → Nat) (x : Sg) (hN : Nm x) (d : Nat) (hd : d < 6) : Ci l G yX3_rivalsOf cX3_rivalsOf 7 .int (Rm 1 20) (cw G g) [.ref (g 0 0), .ref (g (2 + d) 0)] x (fun r u => r = riv x d ∧ u = x) := by
  refine Ci.mk (by decide) (Nat.le_of_ble_eq_true rfl) ?_
  intro p e s m below meth c A ls go hw hl
  generalize s.heap = H at hw ⊢
  generalize ([] : List Loc) = locs at hw ⊢
  have hx := go.1
  have hb := go.2.1
  have hl : lv_has ls 7 [(0, .ref (g 0 0)), (1, .ref (g (2 + d) 0))] := hl
  refine lv_iconst (v := 0) hx hb dX3_rivalsOf_0 (by decide) ?_
  refine lv_istore_n (lv' := [(2, .int 0), (0, .ref (g 0 0)), (1, .ref (g (2 + d) 0))]) hx hb dX3_rivalsOf_1 rfl hl (by decide) rfl (fun ls hl => ?_)
  refine lv_aload_n hx hb dX3_rivalsOf_2 rfl (lv_at hl 1 rfl) ?_
  refine gX (k := 3) (v := .ref (g 0 4)) rfl (by decide) rfl go hw dX3_rivalsOf_3 q130 ?_
  refine lv_astore_n (lv' := [(3, .ref (g 0 4)), (2, .int 0), (0, .ref (g 0 0)), (1, .ref (g (2 + d) 0))]) hx hb dX3_rivalsOf_6 rfl hl (by decide) rfl (fun ls hl => ?_)
  refine lv_aload_n hx hb dX3_rivalsOf_7 rfl (lv_at hl 0 rfl) ?_
  refine lDl go hw dX3_rivalsOf_8 ?_
  refine lv_istore (lv' := [(4, .int (nI 6)), (3, .ref (g 0 4)), (2, .int 0), (0, .ref (g 0 0)), (1, .ref (g (2 + d) 0))]) hx hb dX3_rivalsOf_9 hl (by decide) rfl (fun ls hl => ?_)
  refine lv_iconst (v := 0) hx hb dX3_rivalsOf_11 (by decide) ?_
  refine lv_istore (lv' := [(5, .int 0), (4, .int (nI 6)), (3, .ref (g 0 4)), (2, .int 0), (0, .ref (g 0 0)), (1, .ref (g (2 + d) 0))]) hx hb dX3_rivalsOf_12 hl (by decide) rfl (fun ls hl => ?_)
  have hl0 : lv_has ls 7 [(0, .ref (g 0 0)), (1, .ref (g (2 + d) 0)), (2, .int (orB (fun e => !decide (nI e = nI d) && (decide (sI x (2 + e) 1 = 1) && !decide (sI x (2 + e) 5 &&& sI x (2 + d) 6 = 0))) 0)), (3, .ref (g 0 4)), (4, .int (nI 6)), (5, .int (nI 0))] := lv_to (lv_sub (l' := [(0, .ref (g 0 0)), (1, .ref (g (2 + d) 0)), (2, .int 0), (3, .ref (g 0 4)), (4, .int (nI 6)), (5, .int 0)]) hl [4, 5, 3, 2, 1, 0] rfl) (lr (lr (lc (show (0 : Int32) = orB (fun e => !decide (nI e = nI d) && (decide (sI x (2 + e) 1 = 1) && !decide (sI x (2 + e) 5 &&& sI x (2 + d) 6 = 0))) 0 from rfl) (lr (lr (lc (show (0 : Int32) = nI 0 from rfl) rfl))))))
  refine loop_up (N := 6) (P := fun i H locs ls => Wd G A s H locs (cw G g x) ∧ lv_has ls 7 [(0, .ref (g 0 0)), (1, .ref (g (2 + d) 0)), (2, .int (orB (fun e => !decide (nI e = nI d) && (decide (sI x (2 + e) 1 = 1) && !decide (sI x (2 + e) 5 &&& sI x (2 + d) 6 = 0))) i)), (3, .ref (g 0 4)), (4, .int (nI 6)), (5, .int (nI i))]) (X := fun H locs ls => W p l e (Rm 1 20) s m ([.ref (g 0 0), .ref (g (2 + d) 0)] : List Value).toArray below meth c H locs 0 0 (MQ below (va_Qi (fun r u => r = riv x d ∧ u = x) (PostW G (cw G g) A) A) ([.ref (g 0 0), .ref (g (2 + d) 0)] : List Value).toArray s (Rm 1 20).cells (Rm 1 20).slots A) (F0 m 14 ls [])) ?_ 0 (by omega) H locs ls ⟨hw, hl0⟩
  clear hl0 hl hw
  intro i hi ih H locs ls hP
  obtain ⟨hw, hl⟩ := hP
  refine lv_iload hx hb dX3_rivalsOf_14 (lv_at hl 5 rfl) ?_
  refine lv_iload hx hb dX3_rivalsOf_16 (lv_at hl 4 rfl) ?_
  refine lv_icmp_ge (tgt := 78) hx hb dX3_rivalsOf_18 (by decide) (fun h18 => ?_) (fun h18 => ?_)
  · skip
    have hE : i = 6 := lp_end h18 rfl rfl hi (by decide)
    subst hE
    refine lv_iload_n hx hb dX3_rivalsOf_78 rfl (lv_at hl 2 rfl) ?_
    refine ret_i (wf := cw G g) go hw dX3_rivalsOf_79 ?_
    exact ⟨rfl, rfl⟩
  · skip
    have hlt : i < 6 := lp_in h18 rfl rfl hi (by decide)
    refine lv_aload_n hx hb dX3_rivalsOf_21 rfl (lv_at hl 3 rfl) ?_
    refine lv_iload hx hb dX3_rivalsOf_22 (lv_at hl 5 rfl) ?_
    refine aDl (d := i) (by exact hlt) go hw dX3_rivalsOf_24 ?_
    refine lv_astore (lv' := [(6, .ref (g (2 + i) 0)), (0, .ref (g 0 0)), (1, .ref (g (2 + d) 0)), (2, .int (orB (fun e => !decide (nI e = nI d) && (decide (sI x (2 + e) 1 = 1) && !decide (sI x (2 + e) 5 &&& sI x (2 + d) 6 = 0))) i)), (3, .ref (g 0 4)), (4, .int (nI 6)), (5, .int (nI i))]) hx hb dX3_rivalsOf_25 hl (by decide) rfl (fun ls hl => ?_)
    refine lv_aload hx hb dX3_rivalsOf_27 (lv_at hl 0 rfl) ?_
    refine gDi (d := i) (k := 0) (v := sI x (2 + i) 0) hlt (by decide) rfl go hw dX3_rivalsOf_29 q61 ?_
    refine toI (show sI x (2 + i) 0 = nI i from by exact hN i hlt) ?_
    refine lv_aload_n hx hb dX3_rivalsOf_32 rfl (lv_at hl 2 rfl) ?_
    refine gDi (d := d) (k := 0) (v := sI x (2 + d) 0) hd (by decide) rfl go hw dX3_rivalsOf_33 q61 ?_
    refine toI (show sI x (2 + d) 0 = nI d from by exact hN d hd) ?_
    refine lv_icmp_eq (tgt := 72) hx hb dX3_rivalsOf_36 (by decide) (fun h36 => ?_) (fun h36 => ?_)
    · skip
      refine lv_iinc (v := nI (i + 1)) (lv' := [(5, .int (nI (i + 1))), (6, .ref (g (2 + i) 0)), (0, .ref (g 0 0)), (1, .ref (g (2 + d) 0)), (2, .int (orB (fun e => !decide (nI e = nI d) && (decide (sI x (2 + e) 1 = 1) && !decide (sI x (2 + e) 5 &&& sI x (2 + d) 6 = 0))) i)), (3, .ref (g 0 4)), (4, .int (nI 6))]) hx hb dX3_rivalsOf_72 hl (k := 6) rfl (nI_1 _) (by decide) rfl (fun ls hl => ?_)
      refine lv_goto (tgt := 14) hx hb dX3_rivalsOf_75 (by decide) ?_
      have hl9 : lv_has ls 7 [(0, .ref (g 0 0)), (1, .ref (g (2 + d) 0)), (2, .int (orB (fun e => !decide (nI e = nI d) && (decide (sI x (2 + e) 1 = 1) && !decide (sI x (2 + e) 5 &&& sI x (2 + d) 6 = 0))) (i + 1))), (3, .ref (g 0 4)), (4, .int (nI 6)), (5, .int (nI (i + 1)))] := lv_to (lv_sub (l' := [(0, .ref (g 0 0)), (1, .ref (g (2 + d) 0)), (2, .int (orB (fun e => !decide (nI e = nI d) && (decide (sI x (2 + e) 1 = 1) && !decide (sI x (2 + e) 5 &&& sI x (2 + d) 6 = 0))) i)), (3, .ref (g 0 4)), (4, .int (nI 6)), (5, .int (nI (i + 1)))]) hl [2, 3, 4, 5, 6, 0] rfl) (lr (lr (lc (show (orB (fun e => !decide (nI e = nI d) && (decide (sI x (2 + e) 1 = 1) && !decide (sI x (2 + e) 5 &&& sI x (2 + d) 6 = 0))) i : Int32) = orB (fun e => !decide (nI e = nI d) && (decide (sI x (2 + e) 1 = 1) && !decide (sI x (2 + e) 5 &&& sI x (2 + d) 6 = 0))) (i + 1) from by first | exact orB_t (by simp [*]) | exact orB_f (by simp [*])) (lr (lr (lr rfl))))))
      exact ih _ _ _ (by omega) ⟨hw, hl9⟩
    · skip
      refine lv_aload hx hb dX3_rivalsOf_39 (lv_at hl 0 rfl) ?_
      refine gDi (d := i) (k := 1) (v := sI x (2 + i) 1) hlt (by decide) rfl go hw dX3_rivalsOf_41 q63 ?_
      refine lv_iconst (v := 1) hx hb dX3_rivalsOf_44 (by decide) ?_
      refine lv_icmp_ne (tgt := 72) hx hb dX3_rivalsOf_45 (by decide) (fun h45 => ?_) (fun h45 => ?_)
      · skip
        refine lv_iinc (v := nI (i + 1)) (lv' := [(5, .int (nI (i + 1))), (6, .ref (g (2 + i) 0)), (0, .ref (g 0 0)), (1, .ref (g (2 + d) 0)), (2, .int (orB (fun e => !decide (nI e = nI d) && (decide (sI x (2 + e) 1 = 1) && !decide (sI x (2 + e) 5 &&& sI x (2 + d) 6 = 0))) i)), (3, .ref (g 0 4)), (4, .int (nI 6))]) hx hb dX3_rivalsOf_72 hl (k := 6) rfl (nI_1 _) (by decide) rfl (fun ls hl => ?_)
        refine lv_goto (tgt := 14) hx hb dX3_rivalsOf_75 (by decide) ?_
        have hl9 : lv_has ls 7 [(0, .ref (g 0 0)), (1, .ref (g (2 + d) 0)), (2, .int (orB (fun e => !decide (nI e = nI d) && (decide (sI x (2 + e) 1 = 1) && !decide (sI x (2 + e) 5 &&& sI x (2 + d) 6 = 0))) (i + 1))), (3, .ref (g 0 4)), (4, .int (nI 6)), (5, .int (nI (i + 1)))] := lv_to (lv_sub (l' := [(0, .ref (g 0 0)), (1, .ref (g (2 + d) 0)), (2, .int (orB (fun e => !decide (nI e = nI d) && (decide (sI x (2 + e) 1 = 1) && !decide (sI x (2 + e) 5 &&& sI x (2 + d) 6 = 0))) i)), (3, .ref (g 0 4)), (4, .int (nI 6)), (5, .int (nI (i + 1)))]) hl [2, 3, 4, 5, 6, 0] rfl) (lr (lr (lc (show (orB (fun e => !decide (nI e = nI d) && (decide (sI x (2 + e) 1 = 1) && !decide (sI x (2 + e) 5 &&& sI x (2 + d) 6 = 0))) i : Int32) = orB (fun e => !decide (nI e = nI d) && (decide (sI x (2 + e) 1 = 1) && !decide (sI x (2 + e) 5 &&& sI x (2 + d) 6 = 0))) (i + 1) from by first | exact orB_t (by simp [*]) | exact orB_f (by simp [*])) (lr (lr (lr rfl))))))
        exact ih _ _ _ (by omega) ⟨hw, hl9⟩
      · skip
        refine lv_aload hx hb dX3_rivalsOf_48 (lv_at hl 0 rfl) ?_
        refine gDi (d := i) (k := 5) (v := sI x (2 + i) 5) hlt (by decide) rfl go hw dX3_rivalsOf_50 q74 ?_
        refine lv_aload_n hx hb dX3_rivalsOf_53 rfl (lv_at hl 2 rfl) ?_
        refine gDi (d := d) (k := 6) (v := sI x (2 + d) 6) hd (by decide) rfl go hw dX3_rivalsOf_54 q77 ?_
        refine lv_iand hx hb dX3_rivalsOf_57 ?_
        refine lv_if_eq (tgt := 72) hx hb dX3_rivalsOf_58 (by decide) (fun h58 => ?_) (fun h58 => ?_)
        · skip
          refine lv_iinc (v := nI (i + 1)) (lv' := [(5, .int (nI (i + 1))), (6, .ref (g (2 + i) 0)), (0, .ref (g 0 0)), (1, .ref (g (2 + d) 0)), (2, .int (orB (fun e => !decide (nI e = nI d) && (decide (sI x (2 + e) 1 = 1) && !decide (sI x (2 + e) 5 &&& sI x (2 + d) 6 = 0))) i)), (3, .ref (g 0 4)), (4, .int (nI 6))]) hx hb dX3_rivalsOf_72 hl (k := 6) rfl (nI_1 _) (by decide) rfl (fun ls hl => ?_)
          refine lv_goto (tgt := 14) hx hb dX3_rivalsOf_75 (by decide) ?_
          have hl9 : lv_has ls 7 [(0, .ref (g 0 0)), (1, .ref (g (2 + d) 0)), (2, .int (orB (fun e => !decide (nI e = nI d) && (decide (sI x (2 + e) 1 = 1) && !decide (sI x (2 + e) 5 &&& sI x (2 + d) 6 = 0))) (i + 1))), (3, .ref (g 0 4)), (4, .int (nI 6)), (5, .int (nI (i + 1)))] := lv_to (lv_sub (l' := [(0, .ref (g 0 0)), (1, .ref (g (2 + d) 0)), (2, .int (orB (fun e => !decide (nI e = nI d) && (decide (sI x (2 + e) 1 = 1) && !decide (sI x (2 + e) 5 &&& sI x (2 + d) 6 = 0))) i)), (3, .ref (g 0 4)), (4, .int (nI 6)), (5, .int (nI (i + 1)))]) hl [2, 3, 4, 5, 6, 0] rfl) (lr (lr (lc (show (orB (fun e => !decide (nI e = nI d) && (decide (sI x (2 + e) 1 = 1) && !decide (sI x (2 + e) 5 &&& sI x (2 + d) 6 = 0))) i : Int32) = orB (fun e => !decide (nI e = nI d) && (decide (sI x (2 + e) 1 = 1) && !decide (sI x (2 + e) 5 &&& sI x (2 + d) 6 = 0))) (i + 1) from by first | exact orB_t (by simp [*]) | exact orB_f (by simp [*])) (lr (lr (lr rfl))))))
          exact ih _ _ _ (by omega) ⟨hw, hl9⟩
        · skip
          refine lv_iload_n hx hb dX3_rivalsOf_61 rfl (lv_at hl 3 rfl) ?_
          refine lv_aload hx hb dX3_rivalsOf_62 (lv_at hl 0 rfl) ?_
          refine gDi (d := i) (k := 0) (v := sI x (2 + i) 0) hlt (by decide) rfl go hw dX3_rivalsOf_64 q61 ?_
          refine toI (show sI x (2 + i) 0 = nI i from by exact hN i hlt) ?_
          refine cal_S (kX3_bit l G (nI i)) go hw.2.2.1 hw.2.2.2.1 dX3_rivalsOf_67 (And.intro q396 (And.intro q1 q369)) q368 kyX3_bit ⟨rfl, rfl⟩ ⟨Nat.le_of_ble_eq_true rfl, Nat.le_of_ble_eq_true rfl⟩ hl.1 rfl (Nat.le_of_ble_eq_true rfl) ⟨Nat.le_of_ble_eq_true rfl, Nat.le_of_ble_eq_true rfl⟩ ?_
          refine lv_ior hx hb dX3_rivalsOf_70 ?_
          refine lv_istore_n (lv' := [(2, .int ((orB (fun e => !decide (nI e = nI d) && (decide (sI x (2 + e) 1 = 1) && !decide (sI x (2 + e) 5 &&& sI x (2 + d) 6 = 0))) i) ||| (bt (nI i)))), (6, .ref (g (2 + i) 0)), (0, .ref (g 0 0)), (1, .ref (g (2 + d) 0)), (3, .ref (g 0 4)), (4, .int (nI 6)), (5, .int (nI i))]) hx hb dX3_rivalsOf_71 rfl hl (by decide) rfl (fun ls hl => ?_)
          refine lv_iinc (v := nI (i + 1)) (lv' := [(5, .int (nI (i + 1))), (2, .int ((orB (fun e => !decide (nI e = nI d) && (decide (sI x (2 + e) 1 = 1) && !decide (sI x (2 + e) 5 &&& sI x (2 + d) 6 = 0))) i) ||| (bt (nI i)))), (6, .ref (g (2 + i) 0)), (0, .ref (g 0 0)), (1, .ref (g (2 + d) 0)), (3, .ref (g 0 4)), (4, .int (nI 6))]) hx hb dX3_rivalsOf_72 hl (k := 6) rfl (nI_1 _) (by decide) rfl (fun ls hl => ?_)
          refine lv_goto (tgt := 14) hx hb dX3_rivalsOf_75 (by decide) ?_
          have hl9 : lv_has ls 7 [(0, .ref (g 0 0)), (1, .ref (g (2 + d) 0)), (2, .int (orB (fun e => !decide (nI e = nI d) && (decide (sI x (2 + e) 1 = 1) && !decide (sI x (2 + e) 5 &&& sI x (2 + d) 6 = 0))) (i + 1))), (3, .ref (g 0 4)), (4, .int (nI 6)), (5, .int (nI (i + 1)))] := lv_to (lv_sub (l' := [(0, .ref (g 0 0)), (1, .ref (g (2 + d) 0)), (2, .int ((orB (fun e => !decide (nI e = nI d) && (decide (sI x (2 + e) 1 = 1) && !decide (sI x (2 + e) 5 &&& sI x (2 + d) 6 = 0))) i) ||| (bt (nI i)))), (3, .ref (g 0 4)), (4, .int (nI 6)), (5, .int (nI (i + 1)))]) hl [3, 4, 1, 5, 6, 0] rfl) (lr (lr (lc (show ((orB (fun e => !decide (nI e = nI d) && (decide (sI x (2 + e) 1 = 1) && !decide (sI x (2 + e) 5 &&& sI x (2 + d) 6 = 0))) i) ||| (bt (nI i)) : Int32) = orB (fun e => !decide (nI e = nI d) && (decide (sI x (2 + e) 1 = 1) && !decide (sI x (2 + e) 5 &&& sI x (2 + d) 6 = 0))) (i + 1) from by first | exact orB_t (by simp [*]) | exact orB_f (by simp [*])) (lr (lr (lr rfl))))))
          exact ih _ _ _ (by omega) ⟨hw, hl9⟩

set_option maxHeartbeats 4000000 in
set_option maxRecDepth 100000 in
theorem kX3_goesFirst (l : Launch) (G : Cx) (g : Nat → Nat → Nat) (x : Sg) (a : Nat) (ha : a < 6) (b : Nat) (hb0 : b < 6) : Ci l G yX3_goesFirst cX3_goesFirst 3 .boolean (Rm 1 21) (cw G g) [.ref (g 0 0), .ref (g (2 + a) 0), .ref (g (2 + b) 0)] x (fun r u => r = bI (gfB x a b) ∧ u = x) := by
  refine Ci.mk (by decide) (Nat.le_of_ble_eq_true rfl) ?_
  intro p e s m below meth c A ls go hw hl
  generalize s.heap = H at hw ⊢
  generalize ([] : List Loc) = locs at hw ⊢
  have hx := go.1
  have hb := go.2.1
  have hl : lv_has ls 3 [(0, .ref (g 0 0)), (1, .ref (g (2 + a) 0)), (2, .ref (g (2 + b) 0))] := hl
  refine lv_aload_n hx hb dX3_goesFirst_0 rfl (lv_at hl 0 rfl) ?_
  refine lv_aload_n hx hb dX3_goesFirst_1 rfl (lv_at hl 1 rfl) ?_
  refine cal_Vi' (kX3_isStubborn l G g x a ha) go hw dX3_goesFirst_2 (And.intro q461 (And.intro q1 q464)) q463 qs11 kyX3_isStubborn ⟨Nat.le_of_ble_eq_true rfl, Nat.le_of_ble_eq_true rfl⟩ rc_X hl.1 rfl (Nat.le_of_ble_eq_true rfl) ⟨rfl, rfl⟩ ⟨Nat.le_of_ble_eq_true rfl, Nat.le_of_ble_eq_true rfl⟩ (fun H locs hw => ?_)
  refine lv_aload_n hx hb dX3_goesFirst_5 rfl (lv_at hl 0 rfl) ?_
  refine lv_aload_n hx hb dX3_goesFirst_6 rfl (lv_at hl 2 rfl) ?_
  refine cal_Vi' (kX3_isStubborn l G g x b hb0) go hw dX3_goesFirst_7 (And.intro q461 (And.intro q1 q464)) q463 qs11 kyX3_isStubborn ⟨Nat.le_of_ble_eq_true rfl, Nat.le_of_ble_eq_true rfl⟩ rc_X hl.1 rfl (Nat.le_of_ble_eq_true rfl) ⟨rfl, rfl⟩ ⟨Nat.le_of_ble_eq_true rfl, Nat.le_of_ble_eq_true rfl⟩ (fun H locs hw => ?_)
  refine lv_icmp_eq (tgt := 19) hx hb dX3_goesFirst_10 (by decide) (fun h10 => ?_) (fun h10 => ?_)
  · skip
    refine lv_aload_n hx hb dX3_goesFirst_19 rfl (lv_at hl 1 rfl) ?_
    refine gDi (d := a) (k := 3) (v := sI x (2 + a) 3) ha (by decide) rfl go hw dX3_goesFirst_20 q68 ?_
    refine lv_aload_n hx hb dX3_goesFirst_23 rfl (lv_at hl 2 rfl) ?_
    refine gDi (d := b) (k := 3) (v := sI x (2 + b) 3) hb0 (by decide) rfl go hw dX3_goesFirst_24 q68 ?_
    refine lv_icmp_ge (tgt := 34) hx hb dX3_goesFirst_27 (by decide) (fun h27 => ?_) (fun h27 => ?_)
    · skip
      refine lv_iconst (v := 0) hx hb dX3_goesFirst_34 (by decide) ?_
      refine ret_z (wf := cw G g) go hw dX3_goesFirst_35 rfl ?_
      exact ⟨by rw [gfB, if_pos h10]; simp [bI, *], rfl⟩
    · skip
      refine lv_iconst (v := 1) hx hb dX3_goesFirst_30 (by decide) ?_
      refine lv_goto (tgt := 35) hx hb dX3_goesFirst_31 (by decide) ?_
      refine ret_z (wf := cw G g) go hw dX3_goesFirst_35 rfl ?_
      exact ⟨by rw [gfB, if_pos h10]; simp [bI, *], rfl⟩
  · skip
    refine lv_aload_n hx hb dX3_goesFirst_13 rfl (lv_at hl 0 rfl) ?_
    refine lv_aload_n hx hb dX3_goesFirst_14 rfl (lv_at hl 1 rfl) ?_
    refine cal_Vi' (kX3_isStubborn l G g x a ha) go hw dX3_goesFirst_15 (And.intro q461 (And.intro q1 q464)) q463 qs11 kyX3_isStubborn ⟨Nat.le_of_ble_eq_true rfl, Nat.le_of_ble_eq_true rfl⟩ rc_X hl.1 rfl (Nat.le_of_ble_eq_true rfl) ⟨rfl, rfl⟩ ⟨Nat.le_of_ble_eq_true rfl, Nat.le_of_ble_eq_true rfl⟩ (fun H locs hw => ?_)
    refine ret_z (wf := cw G g) go hw dX3_goesFirst_18 (bI_z _).1 ?_
    exact ⟨by rw [gfB, if_neg h10], rfl⟩

set_option maxHeartbeats 4000000 in
set_option maxRecDepth 100000 in
theorem kX3_mustYield (l : Launch) (G : Cx) (g : Nat → Nat → Nat) (x : Sg) (hN : Nm x) (d : Nat) (hd : d < 6) : Ci l G yX3_mustYield cX3_mustYield 7 .boolean (Rm 2 46) (cw G g) [.ref (g 0 0), .ref (g (2 + d) 0)] x (fun r u => r = bI (myB x d) ∧ u = x) := by
  refine Ci.mk (by decide) (Nat.le_of_ble_eq_true rfl) ?_
  intro p e s m below meth c A ls go hw hl
  generalize s.heap = H at hw ⊢
  generalize ([] : List Loc) = locs at hw ⊢
  have hx := go.1
  have hb := go.2.1
  have hl : lv_has ls 7 [(0, .ref (g 0 0)), (1, .ref (g (2 + d) 0))] := hl
  refine lv_aload_n hx hb dX3_mustYield_0 rfl (lv_at hl 0 rfl) ?_
  refine lv_aload_n hx hb dX3_mustYield_1 rfl (lv_at hl 1 rfl) ?_
  refine cal_Vi' (kX3_rivalsOf l G g x hN d hd) go hw dX3_mustYield_2 (And.intro q453 (And.intro q1 q456)) q455 qs9 kyX3_rivalsOf ⟨Nat.le_of_ble_eq_true rfl, Nat.le_of_ble_eq_true rfl⟩ rc_X hl.1 rfl (Nat.le_of_ble_eq_true rfl) ⟨rfl, rfl⟩ ⟨Nat.le_of_ble_eq_true rfl, Nat.le_of_ble_eq_true rfl⟩ (fun H locs hw => ?_)
  refine lv_istore_n (lv' := [(2, .int (riv x d)), (0, .ref (g 0 0)), (1, .ref (g (2 + d) 0))]) hx hb dX3_mustYield_5 rfl hl (by decide) rfl (fun ls hl => ?_)
  refine lv_aload_n hx hb dX3_mustYield_6 rfl (lv_at hl 1 rfl) ?_
  refine gX (k := 3) (v := .ref (g 0 4)) rfl (by decide) rfl go hw dX3_mustYield_7 q130 ?_
  refine lv_astore_n (lv' := [(3, .ref (g 0 4)), (2, .int (riv x d)), (0, .ref (g 0 0)), (1, .ref (g (2 + d) 0))]) hx hb dX3_mustYield_10 rfl hl (by decide) rfl (fun ls hl => ?_)
  refine lv_aload_n hx hb dX3_mustYield_11 rfl (lv_at hl 0 rfl) ?_
  refine lDl go hw dX3_mustYield_12 ?_
  refine lv_istore (lv' := [(4, .int (nI 6)), (3, .ref (g 0 4)), (2, .int (riv x d)), (0, .ref (g 0 0)), (1, .ref (g (2 + d) 0))]) hx hb dX3_mustYield_13 hl (by decide) rfl (fun ls hl => ?_)
  refine lv_iconst (v := 0) hx hb dX3_mustYield_15 (by decide) ?_
  refine lv_istore (lv' := [(5, .int 0), (4, .int (nI 6)), (3, .ref (g 0 4)), (2, .int (riv x d)), (0, .ref (g 0 0)), (1, .ref (g (2 + d) 0))]) hx hb dX3_mustYield_16 hl (by decide) rfl (fun ls hl => ?_)
  have hl0 : lv_has ls 7 [(0, .ref (g 0 0)), (1, .ref (g (2 + d) 0)), (2, .int (riv x d)), (3, .ref (g 0 4)), (4, .int (nI 6)), (5, .int (nI 0))] := lv_to (lv_sub (l' := [(0, .ref (g 0 0)), (1, .ref (g (2 + d) 0)), (2, .int (riv x d)), (3, .ref (g 0 4)), (4, .int (nI 6)), (5, .int 0)]) hl [4, 5, 3, 2, 1, 0] rfl) (lr (lr (lr (lr (lr (lc (show (0 : Int32) = nI 0 from rfl) rfl))))))
  refine loop_up (N := 6) (P := fun i H locs ls => Wd G A s H locs (cw G g x) ∧ lv_has ls 7 [(0, .ref (g 0 0)), (1, .ref (g (2 + d) 0)), (2, .int (riv x d)), (3, .ref (g 0 4)), (4, .int (nI 6)), (5, .int (nI i))] ∧ (∀ j, j < i → (fun e => hasB (riv x d) (nI e) && gfB x e d) j = false)) (X := fun H locs ls => W p l e (Rm 2 46) s m ([.ref (g 0 0), .ref (g (2 + d) 0)] : List Value).toArray below meth c H locs 0 0 (MQ below (va_Qi (fun r u => r = bI (myB x d) ∧ u = x) (PostW G (cw G g) A) A) ([.ref (g 0 0), .ref (g (2 + d) 0)] : List Value).toArray s (Rm 2 46).cells (Rm 2 46).slots A) (F0 m 18 ls [])) ?_ 0 (by omega) H locs ls ⟨hw, hl0, (fun j hj => absurd hj (by omega))⟩
  clear hl0 hl hw
  intro i hi ih H locs ls hP
  obtain ⟨hw, hl, hE0⟩ := hP
  refine lv_iload hx hb dX3_mustYield_18 (lv_at hl 5 rfl) ?_
  refine lv_iload hx hb dX3_mustYield_20 (lv_at hl 4 rfl) ?_
  refine lv_icmp_ge (tgt := 61) hx hb dX3_mustYield_22 (by decide) (fun h22 => ?_) (fun h22 => ?_)
  · skip
    have hE : i = 6 := lp_end h22 rfl rfl hi (by decide)
    subst hE
    refine lv_iconst (v := 0) hx hb dX3_mustYield_61 (by decide) ?_
    refine ret_z (wf := cw G g) go hw dX3_mustYield_62 rfl ?_
    exact ⟨by rw [myB, exB_f hE0]; rfl, rfl⟩
  · skip
    have hlt : i < 6 := lp_in h22 rfl rfl hi (by decide)
    refine lv_aload_n hx hb dX3_mustYield_25 rfl (lv_at hl 3 rfl) ?_
    refine lv_iload hx hb dX3_mustYield_26 (lv_at hl 5 rfl) ?_
    refine aDl (d := i) (by exact hlt) go hw dX3_mustYield_28 ?_
    refine lv_astore (lv' := [(6, .ref (g (2 + i) 0)), (0, .ref (g 0 0)), (1, .ref (g (2 + d) 0)), (2, .int (riv x d)), (3, .ref (g 0 4)), (4, .int (nI 6)), (5, .int (nI i))]) hx hb dX3_mustYield_29 hl (by decide) rfl (fun ls hl => ?_)
    refine lv_iload_n hx hb dX3_mustYield_31 rfl (lv_at hl 3 rfl) ?_
    refine lv_aload hx hb dX3_mustYield_32 (lv_at hl 0 rfl) ?_
    refine gDi (d := i) (k := 0) (v := sI x (2 + i) 0) hlt (by decide) rfl go hw dX3_mustYield_34 q61 ?_
    refine toI (show sI x (2 + i) 0 = nI i from by exact hN i hlt) ?_
    refine cal_S (kX3_has l G (riv x d) (nI i)) go hw.2.2.1 hw.2.2.2.1 dX3_mustYield_37 (And.intro q393 (And.intro q1 q395)) q394 kyX3_has ⟨rfl, rfl⟩ ⟨Nat.le_of_ble_eq_true rfl, Nat.le_of_ble_eq_true rfl⟩ hl.1 rfl (Nat.le_of_ble_eq_true rfl) ⟨Nat.le_of_ble_eq_true rfl, Nat.le_of_ble_eq_true rfl⟩ ?_
    refine lv_if_eq (tgt := 55) hx hb dX3_mustYield_40 (by decide) (fun h40 => ?_) (fun h40 => ?_)
    · skip
      have h40 := bI_0 h40
      refine lv_iinc (v := nI (i + 1)) (lv' := [(5, .int (nI (i + 1))), (6, .ref (g (2 + i) 0)), (0, .ref (g 0 0)), (1, .ref (g (2 + d) 0)), (2, .int (riv x d)), (3, .ref (g 0 4)), (4, .int (nI 6))]) hx hb dX3_mustYield_55 hl (k := 6) rfl (nI_1 _) (by decide) rfl (fun ls hl => ?_)
      refine lv_goto (tgt := 18) hx hb dX3_mustYield_58 (by decide) ?_
      have hl9 : lv_has ls 7 [(0, .ref (g 0 0)), (1, .ref (g (2 + d) 0)), (2, .int (riv x d)), (3, .ref (g 0 4)), (4, .int (nI 6)), (5, .int (nI (i + 1)))] := lv_sub hl [2, 3, 4, 5, 6, 0] rfl
      exact ih _ _ _ (by omega) ⟨hw, hl9, (lt_s hE0 (by simp [*]))⟩
    · skip
      have h40 := bI_1 h40
      refine lv_aload_n hx hb dX3_mustYield_43 rfl (lv_at hl 1 rfl) ?_
      refine lv_aload hx hb dX3_mustYield_44 (lv_at hl 0 rfl) ?_
      refine lv_aload_n hx hb dX3_mustYield_46 rfl (lv_at hl 2 rfl) ?_
      refine cal_Vi' (kX3_goesFirst l G g x i hlt d hd) go hw dX3_mustYield_47 (And.intro q457 (And.intro q1 q460)) q459 qs10 kyX3_goesFirst ⟨Nat.le_of_ble_eq_true rfl, Nat.le_of_ble_eq_true rfl⟩ rc_X hl.1 rfl (Nat.le_of_ble_eq_true rfl) ⟨rfl, rfl⟩ ⟨Nat.le_of_ble_eq_true rfl, Nat.le_of_ble_eq_true rfl⟩ (fun H locs hw => ?_)
      refine lv_if_eq (tgt := 55) hx hb dX3_mustYield_50 (by decide) (fun h50 => ?_) (fun h50 => ?_)
      · skip
        have h50 := bI_0 h50
        refine lv_iinc (v := nI (i + 1)) (lv' := [(5, .int (nI (i + 1))), (6, .ref (g (2 + i) 0)), (0, .ref (g 0 0)), (1, .ref (g (2 + d) 0)), (2, .int (riv x d)), (3, .ref (g 0 4)), (4, .int (nI 6))]) hx hb dX3_mustYield_55 hl (k := 6) rfl (nI_1 _) (by decide) rfl (fun ls hl => ?_)
        refine lv_goto (tgt := 18) hx hb dX3_mustYield_58 (by decide) ?_
        have hl9 : lv_has ls 7 [(0, .ref (g 0 0)), (1, .ref (g (2 + d) 0)), (2, .int (riv x d)), (3, .ref (g 0 4)), (4, .int (nI 6)), (5, .int (nI (i + 1)))] := lv_sub hl [2, 3, 4, 5, 6, 0] rfl
        exact ih _ _ _ (by omega) ⟨hw, hl9, (lt_s hE0 (by simp [*]))⟩
      · skip
        have h50 := bI_1 h50
        refine lv_iconst (v := 1) hx hb dX3_mustYield_53 (by decide) ?_
        refine ret_z (wf := cw G g) go hw dX3_mustYield_54 rfl ?_
        exact ⟨by rw [myB, exB_t (p := (fun e => hasB (riv x d) (nI e) && gfB x e d)) (i := i) (by simp [*]) hlt]; rfl, rfl⟩

set_option maxHeartbeats 4000000 in
set_option maxRecDepth 100000 in
theorem kX3_isFailure (l : Launch) (G : Cx) (a : Int32) : Si l G yX3_isFailure cX3_isFailure 1 .boolean (Rm 0 0) [.int a] (fun r => r = bI (faB a)) := by
  refine Si.mk (by decide) (Nat.le_of_ble_eq_true rfl) ?_
  intro p e s m below meth c A ls go hk hl
  have hS : va_S A s.heap s.heap [] := va_S.rf
  have hx := go.1
  have hb := go.2.1
  have hl : lv_has ls 1 [(0, .int a)] := hl
  refine lv_iload_n hx hb dX3_isFailure_0 rfl (lv_at hl 0 rfl) ?_
  refine lv_bipush (v := (-11)) hx hb dX3_isFailure_1 (by decide) ?_
  refine lv_icmp_eq (tgt := 18) hx hb dX3_isFailure_3 (by decide) (fun h3 => ?_) (fun h3 => ?_)
  · skip
    refine lv_iconst (v := 1) hx hb dX3_isFailure_18 (by decide) ?_
    refine lv_goto (tgt := 23) hx hb dX3_isFailure_19 (by decide) ?_
    refine ret_sz go dX3_isFailure_23 rfl ?_
    simp [faB, bI, *]
  · skip
    refine lv_iload_n hx hb dX3_isFailure_6 rfl (lv_at hl 0 rfl) ?_
    refine lv_bipush (v := (-12)) hx hb dX3_isFailure_7 (by decide) ?_
    refine lv_icmp_eq (tgt := 18) hx hb dX3_isFailure_9 (by decide) (fun h9 => ?_) (fun h9 => ?_)
    · skip
      refine lv_iconst (v := 1) hx hb dX3_isFailure_18 (by decide) ?_
      refine lv_goto (tgt := 23) hx hb dX3_isFailure_19 (by decide) ?_
      refine ret_sz go dX3_isFailure_23 rfl ?_
      simp [faB, bI, *]
    · skip
      refine lv_iload_n hx hb dX3_isFailure_12 rfl (lv_at hl 0 rfl) ?_
      refine lv_bipush (v := (-13)) hx hb dX3_isFailure_13 (by decide) ?_
      refine lv_icmp_ne (tgt := 22) hx hb dX3_isFailure_15 (by decide) (fun h15 => ?_) (fun h15 => ?_)
      · skip
        refine lv_iconst (v := 0) hx hb dX3_isFailure_22 (by decide) ?_
        refine ret_sz go dX3_isFailure_23 rfl ?_
        simp [faB, bI, *]
      · skip
        refine lv_iconst (v := 1) hx hb dX3_isFailure_18 (by decide) ?_
        refine lv_goto (tgt := 23) hx hb dX3_isFailure_19 (by decide) ?_
        refine ret_sz go dX3_isFailure_23 rfl ?_
        simp [faB, bI, *]

set_option maxHeartbeats 4000000 in
set_option maxRecDepth 100000 in
theorem kX3_itemsOf (l : Launch) (G : Cx) (v : Int32) : Si l G yX3_itemsOf cX3_itemsOf 2 .int (Rm 1 20) [.int v] (fun r => r = itO v) := by
  refine Si.mk (by decide) (Nat.le_of_ble_eq_true rfl) ?_
  intro p e s m below meth c A ls go hk hl
  have hS : va_S A s.heap s.heap [] := va_S.rf
  have hx := go.1
  have hb := go.2.1
  have hl : lv_has ls 2 [(0, .int v)] := hl
  refine lv_iconst (v := 4) hx hb dX3_itemsOf_0 (by decide) ?_
  refine cal_S (kX3_bit l G 4) go hS hk dX3_itemsOf_1 (And.intro q396 (And.intro q1 q369)) q368 kyX3_bit ⟨rfl, rfl⟩ ⟨Nat.le_of_ble_eq_true rfl, Nat.le_of_ble_eq_true rfl⟩ hl.1 rfl (Nat.le_of_ble_eq_true rfl) ⟨Nat.le_of_ble_eq_true rfl, Nat.le_of_ble_eq_true rfl⟩ ?_
  refine lv_iconst (v := 1) hx hb dX3_itemsOf_4 (by decide) ?_
  refine lv_isub hx hb dX3_itemsOf_5 ?_
  refine lv_istore_n (lv' := [(1, .int ((bt 4) - 1)), (0, .int v)]) hx hb dX3_itemsOf_6 rfl hl (by decide) rfl (fun ls hl => ?_)
  refine lv_iload_n hx hb dX3_itemsOf_7 rfl (lv_at hl 0 rfl) ?_
  refine lv_iload_n hx hb dX3_itemsOf_8 rfl (lv_at hl 1 rfl) ?_
  refine lv_iconst (v := 4) hx hb dX3_itemsOf_9 (by decide) ?_
  refine lv_imul hx hb dX3_itemsOf_10 ?_
  refine lv_ishl hx hb dX3_itemsOf_11 ?_
  refine ret_si go dX3_itemsOf_12 ?_
  rfl
end
section
/-! ===== the rest of the class's inner methods; the public ones that make nothing ===== -/
section VQ2
variable {S : Type} {p : Program} {l : Launch} {e : Env} {R : Room} {s : State} {m : MethodId} {args : Array Value} {below : List Frame} {meth : Method} {c : Code} {H : Heap} {locs : List Loc} {cells slots : Nat} {Q : State → Prop}
variable {y0 : MethodName} {co0 : ByteArray} {n0 : Nat} {rt0 : Option FieldType} {G : Cx} {wf : S → va_W} {A : Nat → Prop} {x : S} {pc idx : Nat} {ls : Array Slot} {st0 rest As : List Value} {y : MethodName} {co : ByteArray} {n k : Nat} {rm : Room} {b : Nat}
theorem cal_Vq' {rt : FieldType} {v : Option Nat} {x' : S} (hM : Cq l G y co n rt rm wf (.ref b :: As) x (fun r u => r = v ∧ u = x')) (g : Go l y0 co0 n0 rt0 p s m args meth c) (hw : Wd G A s H locs (wf x)) (hdg : decode co0 pc = .ok (.invokevirtual idx, 3)) (hL : Lk y0 idx y co n (some rt)) (hi : Cond.instanceMethod y ∈ gW) (hse : Cond.selects y.cls y y ∈ gW) (hK : Ky y As.length) (hR : rm.frames + 1 ≤ R.frames ∧ 8 + (n + 11) + rm.locals ≤ R.locals) (hrc : Rc (wf x) b y.cls) (hl : ls.size = n0) (hst : st0 = As.reverse ++ .ref b :: rest) (hcat : (rest.map fun v => v.category).sum ≤ 8) (h0 : rm.cells = 0 ∧ rm.slots = 0) (hf : cells ≤ R.cells ∧ slots ≤ R.slots)
    (kk : ∀ (H1 : Heap) (locs1 : List Loc), Wd G A s H1 locs1 (wf x') → W p l e R s m args below meth c H1 locs1 cells slots Q (F0 m (pc + 3) ls (va_rf v :: rest))) : W p l e R s m args below meth c H locs cells slots Q (F0 m pc ls st0) := by
  refine cal_Vq hM g hw hdg hL hi hse hK hR hrc hl hst hcat (by rw [h0.1, h0.2]; exact hf) (fun r u H1 locs1 hp hw1 => ?_)
  obtain ⟨rfl, rfl⟩ := hp
  rw [h0.1, h0.2]
  exact kk H1 locs1 hw1
end VQ2
theorem inB_cl {n : Nat} {x N : Int32} (h : inB N x = true) (hN : N = nI n) (hn : n < 2 ^ 31) : x = nI x.toNatClampNeg ∧ x.toNatClampNeg < n := by
  obtain ⟨j, hj, rfl⟩ := inB_of h hN hn
  rw [nI_clamp (by omega)]
  exact ⟨rfl, hj⟩
theorem dm_N (b : Int32) (x : Sg) (o : Nat) : ∀ n, sI (foS (dmS b) x n) o 0 = sI x o 0
  | 0 => rfl
  | n + 1 => by
    rw [foS, dmS]
    split
    · rw [sI_ne (by omega)]; exact dm_N b x o n
    · exact dm_N b x o n
def okE (c : Nat) (k : Int32) : Bool := !decide (k < 1) && !decide (nI c < k)
theorem okE_of {c : Nat} {k : Int32} (h : okE c k = true) (hc : c ≤ 512) : ∃ n, n < c ∧ k = nI (n + 1) := by
  simp only [okE, Bool.and_eq_true, Bool.not_eq_true', decide_eq_false_iff_not] at h
  have h0 : ¬ k < 0 := fun q => h.1 (Int32.lt_trans q (by decide))
  obtain ⟨j, hj, rfl⟩ := nI_of h0
  have h1 : 1 ≤ j := by
    rcases Nat.lt_or_ge j 1 with q | q
    · exact absurd (nI_lt (b := 1) q (by decide)) h.1
    · exact q
  have h2 : j ≤ c := by
    rcases Nat.lt_or_ge c j with q | q
    · exact absurd (nI_lt q hj) h.2
    · exact q
  exact ⟨j - 1, by omega, by rw [Nat.sub_add_cancel h1]⟩
def fwP (x : Sg) (v k : Nat) : Bool := inB 6 (saI x (nI k)) && decide (sA x (2 + (saI x (nI k)).toNatClampNeg) 12 v = -1)
def fwI (x : Sg) (v : Nat) : Int32 := if fstN (fwP x v) 6 < 6 then saI x (nI (fstN (fwP x v) 6)) else -1
theorem fwI_no {x : Sg} {v : Nat} (h : ∀ j, j < 6 → fwP x v j = false) : fwI x v = -1 := by rw [fwI, fstN_no h, if_neg (by omega)]
theorem fwI_at {x : Sg} {v i : Nat} (hp : fwP x v i = true) (hn : ∀ j, j < i → fwP x v j = false) (h : i < 6) : fwI x v = saI x (nI i) := by rw [fwI, fstN_at hp hn h, if_pos h]
def avI (x : Sg) : Int32 := foI (fun i a => a + sA x 0 1 i) 0 8
def apC (x : Sg) (t : Nat) (v : Int32) : Sg := pI (pA x 1 0 (upd (sA x 1 0) t v)) 1 1 (nI (t + 1))
def wrC (x : Sg) (t : Nat) (v : Int32) : Int32 × Sg := if v < 0 ∨ ¬ v ≤ 255 then (-3, x) else if t < 200 then (nI (t + 1), apC x t v) else (-5, x)
def itC (x : Sg) (a w : Int32) : Int32 := if inB 8 a = true then (if w = 0 then sA x 0 1 a.toNatClampNeg else if w = 1 then sA x 0 2 a.toNatClampNeg else -3) else -2
def liC (x : Sg) (n : Int32) : Int32 × Sg := if n < 1 ∨ ¬ n ≤ 9 then (-3, x) else (sI x 0 6, pI x 0 6 n)
def beC (x : Sg) (a : Int32) : Int32 × Sg := if inB 6 a = true then (if sI x (2 + a.toNatClampNeg) 1 = 0 then (sI x 0 7 + 1, opD (pI x 0 7 (sI x 0 7 + 1)) a.toNatClampNeg (sI x 0 5) (sI x 0 7 + 1) 0) else (-4, x)) else (-2, x)
def reC (x : Sg) (a : Int32) : Int32 × Sg := if inB 6 a = true then (if sI x (2 + a.toNatClampNeg) 8 = 0 then (-4, x) else (sI x (2 + a.toNatClampNeg) 4 + 1, opD x a.toNatClampNeg (sI x 0 5) (sI x (2 + a.toNatClampNeg) 3) (sI x (2 + a.toNatClampNeg) 4 + 1))) else (-2, x)
def rdC (x : Sg) (a b : Int32) : Int32 × Sg :=
  if inB 6 a = true ∧ inB 8 b = true then
    let d := a.toNatClampNeg
    let i := b.toNatClampNeg
    if sI x (2 + d) 1 = 1 then
      if hasB (sI x (2 + d) 6) b = true then (sA x (2 + d) 11 i, x)
      else if hasB (sI x (2 + d) 5) b = true then (sA x (2 + d) 9 i, x)
      else (sA x 0 1 i, noD x d i (sA x 0 1 i) (sA x 0 2 i))
    else (-4, x)
  else (-2, x)
def bcI (x : Int32) : Int32 :=
  let u (a : Int32) (k : Int32) : Int32 := (a.toUInt32 >>> (Int32.toUInt32 k &&& Int32.toUInt32 31)).toInt32
  let a := x - (u x 1 &&& 1431655765)
  let b := (a &&& 858993459) + (u a 2 &&& 858993459)
  let c := (b + u b 4) &&& 252645135
  let d := c + u c 8
  let e := d + u d 16
  e &&& 63
def laS (x : Sg) (d i : Nat) (v : Int32) : Sg := pA (pI x (2 + d) 6 (sI x (2 + d) 6 ||| bt (nI i))) (2 + d) 11 (upd (sA x (2 + d) 11) i v)
def laC (x : Sg) (a b v : Int32) : Int32 × Sg :=
  if inB 6 a = true ∧ inB 8 b = true then
    if vaB v = true then
      if sI x (2 + a.toNatClampNeg) 1 = 1 then (bcI (sI x (2 + a.toNatClampNeg) 6 ||| bt b), laS x a.toNatClampNeg b.toNatClampNeg v) else (-4, x)
    else (-3, x)
  else (-2, x)
def peC (x : Sg) (a w : Int32) : Int32 := if inB 6 a = true then ftI x a.toNatClampNeg w else -2
def abC (x : Sg) (a : Int32) : Int32 × Sg := if inB 6 a = true then (if sI x (2 + a.toNatClampNeg) 1 = 1 ∨ sI x (2 + a.toNatClampNeg) 1 = 2 then (nI (howM (loS x a.toNatClampNeg (-1)) 1), loS x a.toNatClampNeg (-1)) else (-4, x)) else (-2, x)
def swF (x : Sg) : Nat → Sg × Nat
  | 0 => (x, 0)
  | n + 1 => if sI (swF x n).1 (2 + n) 1 = 1 ∧ ¬ stl (swF x n).1 n = 0 then (loS (swF x n).1 n (-11), (swF x n).2 + 1) else swF x n
def snC (x : Sg) (a : Int32) : Int32 × Sg := if inB 6 a = true then (if sI x (2 + a.toNatClampNeg) 1 = 1 then (sI x 0 8 + 1, seD (pI x 0 8 (sI x 0 8 + 1)) a.toNatClampNeg (sI x 0 8 + 1)) else (-4, x)) else (-2, x)
def voC (x : Sg) (v : Int32) : Int32 × Sg :=
  if inB 2 v = true then
    let d := (fwI x v.toNatClampNeg).toNatClampNeg
    if inB 6 (fwI x v.toNatClampNeg) = true then (bI (opI x v.toNatClampNeg d), pA x (2 + d) 12 (upd (sA x (2 + d) 12) v.toNatClampNeg (bI (opI x v.toNatClampNeg d)))) else (-4, x)
  else (-2, x)
def dlC (x : Sg) (d : Nat) (w : Int32) : Int32 :=
  if w = 0 then sI x (2 + d) 1 else if w = 1 then sI x (2 + d) 2 else if w = 2 then sI x (2 + d) 3 else if w = 3 then sI x (2 + d) 4 else if w = 4 then sI x (2 + d) 5 else if w = 5 then sI x (2 + d) 6 else if w = 6 then (if sI x (2 + d) 8 = 0 then 0 else 1) else if w = 7 then bI (stB x d) else if w = 8 then stl x d else if w = 9 then crs x d else if w = 10 then riv x d else if w = 11 then sI x (2 + d) 7 else -3
def deC (x : Sg) (a w : Int32) : Int32 := if inB 6 a = true then dlC x a.toNatClampNeg w else -2
def ntC (x : Sg) (a b w : Int32) : Int32 :=
  if inB 6 a = true ∧ inB 8 b = true then
    if w = 0 then (if hasB (sI x (2 + a.toNatClampNeg) 5) b = true then sA x (2 + a.toNatClampNeg) 9 b.toNatClampNeg else -1)
    else if w = 1 then (if hasB (sI x (2 + a.toNatClampNeg) 5) b = true then sA x (2 + a.toNatClampNeg) 10 b.toNatClampNeg else -1)
    else if w = 2 then (if hasB (sI x (2 + a.toNatClampNeg) 6) b = true then sA x (2 + a.toNatClampNeg) 11 b.toNatClampNeg else -1)
    else -3
  else -2
def seC (x : Sg) (k : Int32) : Int32 := if saI x k = -1 then -2 else saI x k
def baC (x : Sg) (v a : Int32) : Int32 := if inB 2 v = true ∧ inB 6 a = true then (if sI x (2 + a.toNatClampNeg) 1 = 3 then sA x (2 + a.toNatClampNeg) 12 v.toNatClampNeg else -4) else -2
def lgC (x : Sg) (c : Nat) (k w : Int32) : Int32 :=
  if okE c k = true then
    let o := 8 + (k.toNatClampNeg - 1)
    if w = 0 then sI x o 0 else if w = 1 then sI x o 1 else if w = 2 then sI x o 2 else if w = 3 then sI x o 3 else if w = 4 then sI x o 4 else if w = 5 then sI x o 5 else -3
  else -2
def ldC (x : Sg) (c : Nat) (k b w : Int32) : Int32 :=
  if okE c k = true ∧ inB 8 b = true then
    let o := 8 + (k.toNatClampNeg - 1)
    if w = 0 then (if hasB (sI x o 3) b = true then sA x o 6 b.toNatClampNeg else -1)
    else if w = 1 then (if hasB (sI x o 4) b = true then sA x o 7 b.toNatClampNeg else -1)
    else -3
  else -2
def bhC (x : Sg) (c : Nat) (k j : Int32) : Int32 :=
  if okE c k = true ∧ okE c j = true ∧ j < k then
    let a := 8 + (k.toNatClampNeg - 1)
    let b := 8 + (j.toNatClampNeg - 1)
    let r1 := bI (hnB x (k.toNatClampNeg - 1) j)
    let r2 := if sI x a 4 &&& sI x b 4 = 0 then r1 else r1 ||| 2
    if sI x a 4 &&& sI x b 3 = 0 then r2 else r2 ||| 4
  else -2
def coC (x : Sg) (w : Int32) : Int32 :=
  if w = 0 then sI x 0 5 else if w = 1 then nI (howM x 1) else if w = 2 then nI (howM x 3) else if w = 3 then nI (howM x 2) else if w = 4 then sI x 0 9 else if w = 5 then sI x 0 10 else if w = 6 then sI x 0 11 else if w = 7 then sI x 0 7 else if w = 8 then sI x 0 6 else if w = 9 then sI x 1 1 else if w = 10 then avI x else -3

set_option maxHeartbeats 4000000 in
set_option maxRecDepth 100000 in
theorem kJ6_bitCount_0f7a4 (l : Launch) (G : Cx) (x : Int32) : Si l G yJ6_bitCount_0f7a4 cJ6_bitCount_0f7a4 1 .int (Rm 0 0) [.int x] (fun r => r = bcI x) := by
  refine Si.mk (by decide) (Nat.le_of_ble_eq_true rfl) ?_
  intro p e s m below meth c A ls go hk hl
  have hS : va_S A s.heap s.heap [] := va_S.rf
  have hx := go.1
  have hb := go.2.1
  have hl : lv_has ls 1 [(0, .int x)] := hl
  refine lv_iload_n hx hb dJ6_bitCount_0f7a4_0 rfl (lv_at hl 0 rfl) ?_
  refine lv_iload_n hx hb dJ6_bitCount_0f7a4_1 rfl (lv_at hl 0 rfl) ?_
  refine lv_iconst (v := 1) hx hb dJ6_bitCount_0f7a4_2 (by decide) ?_
  refine lv_iushr hx hb dJ6_bitCount_0f7a4_3 rfl ?_
  refine lv_ldcw (v := 1431655765) hx hb go.2.2.2.2.1 (go.2.2.2.2.2.1 _ q409) dJ6_bitCount_0f7a4_4 ?_
  refine lv_iand hx hb dJ6_bitCount_0f7a4_7 ?_
  refine lv_isub hx hb dJ6_bitCount_0f7a4_8 ?_
  refine lv_topi (fun y1 ey1 => ?_)
  refine lv_istore_n (lv' := [(0, .int y1)]) hx hb dJ6_bitCount_0f7a4_9 rfl hl (by decide) rfl (fun ls hl => ?_)
  refine lv_iload_n hx hb dJ6_bitCount_0f7a4_10 rfl (lv_at hl 0 rfl) ?_
  refine lv_ldcw (v := 858993459) hx hb go.2.2.2.2.1 (go.2.2.2.2.2.1 _ q410) dJ6_bitCount_0f7a4_11 ?_
  refine lv_iand hx hb dJ6_bitCount_0f7a4_14 ?_
  refine lv_iload_n hx hb dJ6_bitCount_0f7a4_15 rfl (lv_at hl 0 rfl) ?_
  refine lv_iconst (v := 2) hx hb dJ6_bitCount_0f7a4_16 (by decide) ?_
  refine lv_iushr hx hb dJ6_bitCount_0f7a4_17 rfl ?_
  refine lv_ldcw (v := 858993459) hx hb go.2.2.2.2.1 (go.2.2.2.2.2.1 _ q410) dJ6_bitCount_0f7a4_18 ?_
  refine lv_iand hx hb dJ6_bitCount_0f7a4_21 ?_
  refine lv_iadd hx hb dJ6_bitCount_0f7a4_22 ?_
  refine lv_topi (fun y2 ey2 => ?_)
  refine lv_istore_n (lv' := [(0, .int y2)]) hx hb dJ6_bitCount_0f7a4_23 rfl hl (by decide) rfl (fun ls hl => ?_)
  refine lv_iload_n hx hb dJ6_bitCount_0f7a4_24 rfl (lv_at hl 0 rfl) ?_
  refine lv_iload_n hx hb dJ6_bitCount_0f7a4_25 rfl (lv_at hl 0 rfl) ?_
  refine lv_iconst (v := 4) hx hb dJ6_bitCount_0f7a4_26 (by decide) ?_
  refine lv_iushr hx hb dJ6_bitCount_0f7a4_27 rfl ?_
  refine lv_iadd hx hb dJ6_bitCount_0f7a4_28 ?_
  refine lv_ldcw (v := 252645135) hx hb go.2.2.2.2.1 (go.2.2.2.2.2.1 _ q411) dJ6_bitCount_0f7a4_29 ?_
  refine lv_iand hx hb dJ6_bitCount_0f7a4_32 ?_
  refine lv_topi (fun y3 ey3 => ?_)
  refine lv_istore_n (lv' := [(0, .int y3)]) hx hb dJ6_bitCount_0f7a4_33 rfl hl (by decide) rfl (fun ls hl => ?_)
  refine lv_iload_n hx hb dJ6_bitCount_0f7a4_34 rfl (lv_at hl 0 rfl) ?_
  refine lv_iload_n hx hb dJ6_bitCount_0f7a4_35 rfl (lv_at hl 0 rfl) ?_
  refine lv_bipush (v := 8) hx hb dJ6_bitCount_0f7a4_36 (by decide) ?_
  refine lv_iushr hx hb dJ6_bitCount_0f7a4_38 rfl ?_
  refine lv_iadd hx hb dJ6_bitCount_0f7a4_39 ?_
  refine lv_topi (fun y4 ey4 => ?_)
  refine lv_istore_n (lv' := [(0, .int y4)]) hx hb dJ6_bitCount_0f7a4_40 rfl hl (by decide) rfl (fun ls hl => ?_)
  refine lv_iload_n hx hb dJ6_bitCount_0f7a4_41 rfl (lv_at hl 0 rfl) ?_
  refine lv_iload_n hx hb dJ6_bitCount_0f7a4_42 rfl (lv_at hl 0 rfl) ?_
  refine lv_bipush (v := 16) hx hb dJ6_bitCount_0f7a4_43 (by decide) ?_
  refine lv_iushr hx hb dJ6_bitCount_0f7a4_45 rfl ?_
  refine lv_iadd hx hb dJ6_bitCount_0f7a4_46 ?_
  refine lv_topi (fun y5 ey5 => ?_)
  refine lv_istore_n (lv' := [(0, .int y5)]) hx hb dJ6_bitCount_0f7a4_47 rfl hl (by decide) rfl (fun ls hl => ?_)
  refine lv_iload_n hx hb dJ6_bitCount_0f7a4_48 rfl (lv_at hl 0 rfl) ?_
  refine lv_bipush (v := 63) hx hb dJ6_bitCount_0f7a4_49 (by decide) ?_
  refine lv_iand hx hb dJ6_bitCount_0f7a4_51 ?_
  refine ret_si go dJ6_bitCount_0f7a4_52 ?_
  subst_vars; rfl

set_option maxHeartbeats 4000000 in
set_option maxRecDepth 100000 in
theorem kX3_doomAll (l : Launch) (G : Cx) (g : Nat → Nat → Nat) (x : Sg) (hN : Nm x) (b : Int32) : Cv l G yX3_doomAll cX3_doomAll 6 (Rm 2 41) (cw G g) [.ref (g 0 0), .int b] x (fun u => u = dmA x b) := by
  refine Cv.mk (by decide) (Nat.le_of_ble_eq_true rfl) ?_
  intro p e s m below meth c A ls go hw hl
  generalize s.heap = H at hw ⊢
  generalize ([] : List Loc) = locs at hw ⊢
  have hx := go.1
  have hb := go.2.1
  have hl : lv_has ls 6 [(0, .ref (g 0 0)), (1, .int b)] := hl
  refine lv_aload_n hx hb dX3_doomAll_0 rfl (lv_at hl 0 rfl) ?_
  refine gX (k := 3) (v := .ref (g 0 4)) rfl (by decide) rfl go hw dX3_doomAll_1 q130 ?_
  refine lv_astore_n (lv' := [(2, .ref (g 0 4)), (0, .ref (g 0 0)), (1, .int b)]) hx hb dX3_doomAll_4 rfl hl (by decide) rfl (fun ls hl => ?_)
  refine lv_aload_n hx hb dX3_doomAll_5 rfl (lv_at hl 0 rfl) ?_
  refine lDl go hw dX3_doomAll_6 ?_
  refine lv_istore_n (lv' := [(3, .int (nI 6)), (2, .ref (g 0 4)), (0, .ref (g 0 0)), (1, .int b)]) hx hb dX3_doomAll_7 rfl hl (by decide) rfl (fun ls hl => ?_)
  refine lv_iconst (v := 0) hx hb dX3_doomAll_8 (by decide) ?_
  refine lv_istore (lv' := [(4, .int 0), (3, .int (nI 6)), (2, .ref (g 0 4)), (0, .ref (g 0 0)), (1, .int b)]) hx hb dX3_doomAll_9 hl (by decide) rfl (fun ls hl => ?_)
  rw [show x = foS (dmS b) x 0 from by rfl] at hw
  have hl0 : lv_has ls 6 [(0, .ref (g 0 0)), (1, .int b), (2, .ref (g 0 4)), (3, .int (nI 6)), (4, .int (nI 0))] := lv_to (lv_sub (l' := [(0, .ref (g 0 0)), (1, .int b), (2, .ref (g 0 4)), (3, .int (nI 6)), (4, .int 0)]) hl [3, 4, 2, 1, 0] rfl) (lr (lr (lr (lr (lc (show (0 : Int32) = nI 0 from rfl) rfl)))))
  refine loop_up (N := 6) (P := fun i H locs ls => Wd G A s H locs (cw G g (foS (dmS b) x i)) ∧ lv_has ls 6 [(0, .ref (g 0 0)), (1, .int b), (2, .ref (g 0 4)), (3, .int (nI 6)), (4, .int (nI i))]) (X := fun H locs ls => W p l e (Rm 2 41) s m ([.ref (g 0 0), .int b] : List Value).toArray below meth c H locs 0 0 (MQ below (va_Qv (fun u => u = dmA x b) (PostW G (cw G g) A) A) ([.ref (g 0 0), .int b] : List Value).toArray s (Rm 2 41).cells (Rm 2 41).slots A) (F0 m 11 ls [])) ?_ 0 (by omega) H locs ls ⟨hw, hl0⟩
  clear hl0 hl hw
  intro i hi ih H locs ls hP
  obtain ⟨hw, hl⟩ := hP
  refine lv_iload hx hb dX3_doomAll_11 (lv_at hl 4 rfl) ?_
  refine lv_iload_n hx hb dX3_doomAll_13 rfl (lv_at hl 3 rfl) ?_
  refine lv_icmp_ge (tgt := 47) hx hb dX3_doomAll_14 (by decide) (fun h14 => ?_) (fun h14 => ?_)
  · skip
    have hE : i = 6 := lp_end h14 rfl rfl hi (by decide)
    subst hE
    refine ret_v (wf := cw G g) go hw dX3_doomAll_47 ?_
    rfl
  · skip
    have hlt : i < 6 := lp_in h14 rfl rfl hi (by decide)
    refine lv_aload_n hx hb dX3_doomAll_17 rfl (lv_at hl 2 rfl) ?_
    refine lv_iload hx hb dX3_doomAll_18 (lv_at hl 4 rfl) ?_
    refine aDl (d := i) (by exact hlt) go hw dX3_doomAll_20 ?_
    refine lv_astore (lv' := [(5, .ref (g (2 + i) 0)), (0, .ref (g 0 0)), (1, .int b), (2, .ref (g 0 4)), (3, .int (nI 6)), (4, .int (nI i))]) hx hb dX3_doomAll_21 hl (by decide) rfl (fun ls hl => ?_)
    refine lv_iload_n hx hb dX3_doomAll_23 rfl (lv_at hl 2 rfl) ?_
    refine lv_aload hx hb dX3_doomAll_24 (lv_at hl 0 rfl) ?_
    refine gDi (d := i) (k := 0) (v := sI (foS (dmS b) x i) (2 + i) 0) hlt (by decide) rfl go hw dX3_doomAll_26 q61 ?_
    refine toI (show sI (foS (dmS b) x i) (2 + i) 0 = nI i from by rw [dm_N]; exact hN i hlt) ?_
    refine cal_S (kX3_has l G b (nI i)) go hw.2.2.1 hw.2.2.2.1 dX3_doomAll_29 (And.intro q393 (And.intro q1 q395)) q394 kyX3_has ⟨rfl, rfl⟩ ⟨Nat.le_of_ble_eq_true rfl, Nat.le_of_ble_eq_true rfl⟩ hl.1 rfl (Nat.le_of_ble_eq_true rfl) ⟨Nat.le_of_ble_eq_true rfl, Nat.le_of_ble_eq_true rfl⟩ ?_
    refine lv_if_eq (tgt := 41) hx hb dX3_doomAll_32 (by decide) (fun h32 => ?_) (fun h32 => ?_)
    · skip
      have h32 := bI_0 h32
      refine lv_iinc (v := nI (i + 1)) (lv' := [(4, .int (nI (i + 1))), (5, .ref (g (2 + i) 0)), (0, .ref (g 0 0)), (1, .int b), (2, .ref (g 0 4)), (3, .int (nI 6))]) hx hb dX3_doomAll_41 hl (k := 5) rfl (nI_1 _) (by decide) rfl (fun ls hl => ?_)
      refine lv_goto (tgt := 11) hx hb dX3_doomAll_44 (by decide) ?_
      have hl9 : lv_has ls 6 [(0, .ref (g 0 0)), (1, .int b), (2, .ref (g 0 4)), (3, .int (nI 6)), (4, .int (nI (i + 1)))] := lv_sub hl [2, 3, 4, 5, 0] rfl
      rw [show foS (dmS b) x i = foS (dmS b) x (i + 1) from by simp [foS, dmS, *]] at hw
      exact ih _ _ _ (by omega) ⟨hw, hl9⟩
    · skip
      have h32 := bI_1 h32
      refine lv_aload hx hb dX3_doomAll_35 (lv_at hl 0 rfl) ?_
      refine lv_iconst (v := 2) hx hb dX3_doomAll_37 (by decide) ?_
      refine pD (d := i) (k := 1) hlt ⟨by decide, by decide⟩ go hw dX3_doomAll_38 q63 (fun H locs hw => ?_)
      refine lv_iinc (v := nI (i + 1)) (lv' := [(4, .int (nI (i + 1))), (5, .ref (g (2 + i) 0)), (0, .ref (g 0 0)), (1, .int b), (2, .ref (g 0 4)), (3, .int (nI 6))]) hx hb dX3_doomAll_41 hl (k := 5) rfl (nI_1 _) (by decide) rfl (fun ls hl => ?_)
      refine lv_goto (tgt := 11) hx hb dX3_doomAll_44 (by decide) ?_
      have hl9 : lv_has ls 6 [(0, .ref (g 0 0)), (1, .int b), (2, .ref (g 0 4)), (3, .int (nI 6)), (4, .int (nI (i + 1)))] := lv_sub hl [2, 3, 4, 5, 0] rfl
      rw [show pI (foS (dmS b) x i) (2 + i) 1 2 = foS (dmS b) x (i + 1) from by simp [foS, dmS, *]] at hw
      exact ih _ _ _ (by omega) ⟨hw, hl9⟩

set_option maxHeartbeats 4000000 in
set_option maxRecDepth 100000 in
theorem kX3_lose (l : Launch) (G : Cx) (g : Nat → Nat → Nat) (x : Sg) (d : Nat) (hd : d < 6) (w : Int32) : Ci l G yX3_lose cX3_lose 3 .int (Rm 1 21) (cw G g) [.ref (g 0 0), .ref (g (2 + d) 0), .int w] x (fun r u => r = w ∧ u = loS x d w) := by
  refine Ci.mk (by decide) (Nat.le_of_ble_eq_true rfl) ?_
  intro p e s m below meth c A ls go hw hl
  generalize s.heap = H at hw ⊢
  generalize ([] : List Loc) = locs at hw ⊢
  have hx := go.1
  have hb := go.2.1
  have hl : lv_has ls 3 [(0, .ref (g 0 0)), (1, .ref (g (2 + d) 0)), (2, .int w)] := hl
  refine lv_aload_n hx hb dX3_lose_0 rfl (lv_at hl 0 rfl) ?_
  refine lv_dup hx hb dX3_lose_1 rfl ?_
  refine gXi (k := 9) (v := sI x 0 9) ⟨by decide, by decide⟩ rfl go hw dX3_lose_2 q136 ?_
  refine lv_iconst (v := 1) hx hb dX3_lose_5 (by decide) ?_
  refine lv_iadd hx hb dX3_lose_6 ?_
  refine pX (k := 9) ⟨by decide, by decide⟩ go hw dX3_lose_7 q136 (fun H locs hw => ?_)
  refine lv_iload_n hx hb dX3_lose_10 rfl (lv_at hl 2 rfl) ?_
  refine lv_bipush (v := (-12)) hx hb dX3_lose_11 (by decide) ?_
  refine lv_icmp_ne (tgt := 26) hx hb dX3_lose_13 (by decide) (fun h13 => ?_) (fun h13 => ?_)
  · skip
    refine lv_iload_n hx hb dX3_lose_26 rfl (lv_at hl 2 rfl) ?_
    refine lv_bipush (v := (-13)) hx hb dX3_lose_27 (by decide) ?_
    refine lv_icmp_ne (tgt := 42) hx hb dX3_lose_29 (by decide) (fun h29 => ?_) (fun h29 => ?_)
    · skip
      refine lv_aload_n hx hb dX3_lose_42 rfl (lv_at hl 1 rfl) ?_
      refine lv_iconst (v := 1) hx hb dX3_lose_43 (by decide) ?_
      refine cal_Vv' (kX0_becomeFree l G g (pI x 0 9 ((sI x 0 9) + 1)) d hd true) go hw dX3_lose_44 (And.intro q123 (And.intro q3 q126)) q124 q125 kyX0_becomeFree ⟨Nat.le_of_ble_eq_true rfl, Nat.le_of_ble_eq_true rfl⟩ (rc_D hd) hl.1 rfl (Nat.le_of_ble_eq_true rfl) ⟨rfl, rfl⟩ ⟨Nat.le_of_ble_eq_true rfl, Nat.le_of_ble_eq_true rfl⟩ (fun H locs hw => ?_)
      refine lv_iload_n hx hb dX3_lose_47 rfl (lv_at hl 2 rfl) ?_
      refine ret_i (wf := cw G g) go hw dX3_lose_48 ?_
      exact ⟨rfl, by simp [loS, *]⟩
    · skip
      refine lv_aload_n hx hb dX3_lose_32 rfl (lv_at hl 0 rfl) ?_
      refine lv_dup hx hb dX3_lose_33 rfl ?_
      refine gXi (k := 11) (v := sI x 0 11) ⟨by decide, by decide⟩ ((sI_ne (by omega)).trans rfl) go hw dX3_lose_34 q138 ?_
      refine lv_iconst (v := 1) hx hb dX3_lose_37 (by decide) ?_
      refine lv_iadd hx hb dX3_lose_38 ?_
      refine pX (k := 11) ⟨by decide, by decide⟩ go hw dX3_lose_39 q138 (fun H locs hw => ?_)
      refine lv_aload_n hx hb dX3_lose_42 rfl (lv_at hl 1 rfl) ?_
      refine lv_iconst (v := 1) hx hb dX3_lose_43 (by decide) ?_
      refine cal_Vv' (kX0_becomeFree l G g (pI (pI x 0 9 ((sI x 0 9) + 1)) 0 11 ((sI x 0 11) + 1)) d hd true) go hw dX3_lose_44 (And.intro q123 (And.intro q3 q126)) q124 q125 kyX0_becomeFree ⟨Nat.le_of_ble_eq_true rfl, Nat.le_of_ble_eq_true rfl⟩ (rc_D hd) hl.1 rfl (Nat.le_of_ble_eq_true rfl) ⟨rfl, rfl⟩ ⟨Nat.le_of_ble_eq_true rfl, Nat.le_of_ble_eq_true rfl⟩ (fun H locs hw => ?_)
      refine lv_iload_n hx hb dX3_lose_47 rfl (lv_at hl 2 rfl) ?_
      refine ret_i (wf := cw G g) go hw dX3_lose_48 ?_
      exact ⟨rfl, by simp [loS, *]⟩
  · skip
    refine lv_aload_n hx hb dX3_lose_16 rfl (lv_at hl 0 rfl) ?_
    refine lv_dup hx hb dX3_lose_17 rfl ?_
    refine gXi (k := 10) (v := sI x 0 10) ⟨by decide, by decide⟩ ((sI_ne (by omega)).trans rfl) go hw dX3_lose_18 q137 ?_
    refine lv_iconst (v := 1) hx hb dX3_lose_21 (by decide) ?_
    refine lv_iadd hx hb dX3_lose_22 ?_
    refine pX (k := 10) ⟨by decide, by decide⟩ go hw dX3_lose_23 q137 (fun H locs hw => ?_)
    refine lv_iload_n hx hb dX3_lose_26 rfl (lv_at hl 2 rfl) ?_
    refine lv_bipush (v := (-13)) hx hb dX3_lose_27 (by decide) ?_
    refine lv_icmp_ne (tgt := 42) hx hb dX3_lose_29 (by decide) (fun _ => ?_) (fun q => absurd (h13.symm.trans q) (by decide))
    refine lv_aload_n hx hb dX3_lose_42 rfl (lv_at hl 1 rfl) ?_
    refine lv_iconst (v := 1) hx hb dX3_lose_43 (by decide) ?_
    refine cal_Vv' (kX0_becomeFree l G g (pI (pI x 0 9 ((sI x 0 9) + 1)) 0 10 ((sI x 0 10) + 1)) d hd true) go hw dX3_lose_44 (And.intro q123 (And.intro q3 q126)) q124 q125 kyX0_becomeFree ⟨Nat.le_of_ble_eq_true rfl, Nat.le_of_ble_eq_true rfl⟩ (rc_D hd) hl.1 rfl (Nat.le_of_ble_eq_true rfl) ⟨rfl, rfl⟩ ⟨Nat.le_of_ble_eq_true rfl, Nat.le_of_ble_eq_true rfl⟩ (fun H locs hw => ?_)
    refine lv_iload_n hx hb dX3_lose_47 rfl (lv_at hl 2 rfl) ?_
    refine ret_i (wf := cw G g) go hw dX3_lose_48 ?_
    exact ⟨rfl, by simp [loS, *]⟩

set_option maxHeartbeats 4000000 in
set_option maxRecDepth 100000 in
theorem kX3_change (l : Launch) (G : Cx) (g : Nat → Nat → Nat) (x : Sg) (i : Nat) (hi : i < 8) (v : Int32) : Cv l G yX3_change cX3_change 3 (Rm 0 0) (cw G g) [.ref (g 0 0), .int (nI i), .int v] x (fun u => u = chS x i v) := by
  refine Cv.mk (by decide) (Nat.le_of_ble_eq_true rfl) ?_
  intro p e s m below meth c A ls go hw hl
  generalize s.heap = H at hw ⊢
  generalize ([] : List Loc) = locs at hw ⊢
  have hx := go.1
  have hb := go.2.1
  have hl : lv_has ls 3 [(0, .ref (g 0 0)), (1, .int (nI i)), (2, .int v)] := hl
  refine lv_aload_n hx hb dX3_change_0 rfl (lv_at hl 0 rfl) ?_
  refine gX (k := 1) (v := .ref (g 0 2)) rfl (by decide) rfl go hw dX3_change_1 q128 ?_
  refine lv_iload_n hx hb dX3_change_4 rfl (lv_at hl 1 rfl) ?_
  refine lv_iload_n hx hb dX3_change_5 rfl (lv_at hl 2 rfl) ?_
  refine sX (k := 1) (j := i) (by decide) (by exact hi) go hw dX3_change_6 (fun H locs hw => ?_)
  refine lv_aload_n hx hb dX3_change_7 rfl (lv_at hl 0 rfl) ?_
  refine gX (k := 2) (v := .ref (g 0 3)) rfl (by decide) rfl go hw dX3_change_8 q129 ?_
  refine lv_iload_n hx hb dX3_change_11 rfl (lv_at hl 1 rfl) ?_
  refine lv_aload_n hx hb dX3_change_12 rfl (lv_at hl 0 rfl) ?_
  refine gXi (k := 5) (v := sI x 0 5) ⟨by decide, by decide⟩ ((sI_pA _ _ _ _ _ _).trans rfl) go hw dX3_change_13 q132 ?_
  refine sX (k := 2) (j := i) (by decide) (by exact hi) go hw dX3_change_16 (fun H locs hw => ?_)
  rw [show sA (pA x 0 1 (upd (sA x 0 1) i v)) 0 2 = sA x 0 2 from ((sA_ne (by omega)).trans rfl)] at hw
  refine ret_v (wf := cw G g) go hw dX3_change_17 ?_
  rfl

set_option maxHeartbeats 4000000 in
set_option maxRecDepth 100000 in
theorem kX3_sentBefore (l : Launch) (G : Cx) (g : Nat → Nat → Nat) (x : Sg) (d : Nat) (hd : d < 6) : Ci l G yX3_sentBefore cX3_sentBefore 7 .int (Rm 0 0) (cw G g) [.ref (g 0 0), .ref (g (2 + d) 0)] x (fun r u => r = nI (sbN x d) ∧ u = x) := by
  refine Ci.mk (by decide) (Nat.le_of_ble_eq_true rfl) ?_
  intro p e s m below meth c A ls go hw hl
  generalize s.heap = H at hw ⊢
  generalize ([] : List Loc) = locs at hw ⊢
  have hx := go.1
  have hb := go.2.1
  have hl : lv_has ls 7 [(0, .ref (g 0 0)), (1, .ref (g (2 + d) 0))] := hl
  refine lv_iconst (v := 0) hx hb dX3_sentBefore_0 (by decide) ?_
  refine lv_istore_n (lv' := [(2, .int 0), (0, .ref (g 0 0)), (1, .ref (g (2 + d) 0))]) hx hb dX3_sentBefore_1 rfl hl (by decide) rfl (fun ls hl => ?_)
  refine lv_aload_n hx hb dX3_sentBefore_2 rfl (lv_at hl 1 rfl) ?_
  refine gX (k := 3) (v := .ref (g 0 4)) rfl (by decide) rfl go hw dX3_sentBefore_3 q130 ?_
  refine lv_astore_n (lv' := [(3, .ref (g 0 4)), (2, .int 0), (0, .ref (g 0 0)), (1, .ref (g (2 + d) 0))]) hx hb dX3_sentBefore_6 rfl hl (by decide) rfl (fun ls hl => ?_)
  refine lv_aload_n hx hb dX3_sentBefore_7 rfl (lv_at hl 0 rfl) ?_
  refine lDl go hw dX3_sentBefore_8 ?_
  refine lv_istore (lv' := [(4, .int (nI 6)), (3, .ref (g 0 4)), (2, .int 0), (0, .ref (g 0 0)), (1, .ref (g (2 + d) 0))]) hx hb dX3_sentBefore_9 hl (by decide) rfl (fun ls hl => ?_)
  refine lv_iconst (v := 0) hx hb dX3_sentBefore_11 (by decide) ?_
  refine lv_istore (lv' := [(5, .int 0), (4, .int (nI 6)), (3, .ref (g 0 4)), (2, .int 0), (0, .ref (g 0 0)), (1, .ref (g (2 + d) 0))]) hx hb dX3_sentBefore_12 hl (by decide) rfl (fun ls hl => ?_)
  have hl0 : lv_has ls 7 [(0, .ref (g 0 0)), (1, .ref (g (2 + d) 0)), (2, .int (nI (cntB (fun e => decide (sI x (2 + e) 1 = 3) && !decide (sI x (2 + d) 7 ≤ sI x (2 + e) 7)) 0))), (3, .ref (g 0 4)), (4, .int (nI 6)), (5, .int (nI 0))] := lv_to (lv_sub (l' := [(0, .ref (g 0 0)), (1, .ref (g (2 + d) 0)), (2, .int 0), (3, .ref (g 0 4)), (4, .int (nI 6)), (5, .int 0)]) hl [4, 5, 3, 2, 1, 0] rfl) (lr (lr (lc (show (0 : Int32) = nI (cntB (fun e => decide (sI x (2 + e) 1 = 3) && !decide (sI x (2 + d) 7 ≤ sI x (2 + e) 7)) 0) from rfl) (lr (lr (lc (show (0 : Int32) = nI 0 from rfl) rfl))))))
  refine loop_up (N := 6) (P := fun i H locs ls => Wd G A s H locs (cw G g x) ∧ lv_has ls 7 [(0, .ref (g 0 0)), (1, .ref (g (2 + d) 0)), (2, .int (nI (cntB (fun e => decide (sI x (2 + e) 1 = 3) && !decide (sI x (2 + d) 7 ≤ sI x (2 + e) 7)) i))), (3, .ref (g 0 4)), (4, .int (nI 6)), (5, .int (nI i))]) (X := fun H locs ls => W p l e (Rm 0 0) s m ([.ref (g 0 0), .ref (g (2 + d) 0)] : List Value).toArray below meth c H locs 0 0 (MQ below (va_Qi (fun r u => r = nI (sbN x d) ∧ u = x) (PostW G (cw G g) A) A) ([.ref (g 0 0), .ref (g (2 + d) 0)] : List Value).toArray s (Rm 0 0).cells (Rm 0 0).slots A) (F0 m 14 ls [])) ?_ 0 (by omega) H locs ls ⟨hw, hl0⟩
  clear hl0 hl hw
  intro i hi ih H locs ls hP
  obtain ⟨hw, hl⟩ := hP
  refine lv_iload hx hb dX3_sentBefore_14 (lv_at hl 5 rfl) ?_
  refine lv_iload hx hb dX3_sentBefore_16 (lv_at hl 4 rfl) ?_
  refine lv_icmp_ge (tgt := 57) hx hb dX3_sentBefore_18 (by decide) (fun h18 => ?_) (fun h18 => ?_)
  · skip
    have hE : i = 6 := lp_end h18 rfl rfl hi (by decide)
    subst hE
    refine lv_iload_n hx hb dX3_sentBefore_57 rfl (lv_at hl 2 rfl) ?_
    refine ret_i (wf := cw G g) go hw dX3_sentBefore_58 ?_
    exact ⟨rfl, rfl⟩
  · skip
    have hlt : i < 6 := lp_in h18 rfl rfl hi (by decide)
    refine lv_aload_n hx hb dX3_sentBefore_21 rfl (lv_at hl 3 rfl) ?_
    refine lv_iload hx hb dX3_sentBefore_22 (lv_at hl 5 rfl) ?_
    refine aDl (d := i) (by exact hlt) go hw dX3_sentBefore_24 ?_
    refine lv_astore (lv' := [(6, .ref (g (2 + i) 0)), (0, .ref (g 0 0)), (1, .ref (g (2 + d) 0)), (2, .int (nI (cntB (fun e => decide (sI x (2 + e) 1 = 3) && !decide (sI x (2 + d) 7 ≤ sI x (2 + e) 7)) i))), (3, .ref (g 0 4)), (4, .int (nI 6)), (5, .int (nI i))]) hx hb dX3_sentBefore_25 hl (by decide) rfl (fun ls hl => ?_)
    refine lv_aload hx hb dX3_sentBefore_27 (lv_at hl 0 rfl) ?_
    refine gDi (d := i) (k := 1) (v := sI x (2 + i) 1) hlt (by decide) rfl go hw dX3_sentBefore_29 q63 ?_
    refine lv_iconst (v := 3) hx hb dX3_sentBefore_32 (by decide) ?_
    refine lv_icmp_ne (tgt := 51) hx hb dX3_sentBefore_33 (by decide) (fun h33 => ?_) (fun h33 => ?_)
    · skip
      refine lv_iinc (v := nI (i + 1)) (lv' := [(5, .int (nI (i + 1))), (6, .ref (g (2 + i) 0)), (0, .ref (g 0 0)), (1, .ref (g (2 + d) 0)), (2, .int (nI (cntB (fun e => decide (sI x (2 + e) 1 = 3) && !decide (sI x (2 + d) 7 ≤ sI x (2 + e) 7)) i))), (3, .ref (g 0 4)), (4, .int (nI 6))]) hx hb dX3_sentBefore_51 hl (k := 6) rfl (nI_1 _) (by decide) rfl (fun ls hl => ?_)
      refine lv_goto (tgt := 14) hx hb dX3_sentBefore_54 (by decide) ?_
      have hl9 : lv_has ls 7 [(0, .ref (g 0 0)), (1, .ref (g (2 + d) 0)), (2, .int (nI (cntB (fun e => decide (sI x (2 + e) 1 = 3) && !decide (sI x (2 + d) 7 ≤ sI x (2 + e) 7)) (i + 1)))), (3, .ref (g 0 4)), (4, .int (nI 6)), (5, .int (nI (i + 1)))] := lv_to (lv_sub (l' := [(0, .ref (g 0 0)), (1, .ref (g (2 + d) 0)), (2, .int (nI (cntB (fun e => decide (sI x (2 + e) 1 = 3) && !decide (sI x (2 + d) 7 ≤ sI x (2 + e) 7)) i))), (3, .ref (g 0 4)), (4, .int (nI 6)), (5, .int (nI (i + 1)))]) hl [2, 3, 4, 5, 6, 0] rfl) (lr (lr (lc (show (nI (cntB (fun e => decide (sI x (2 + e) 1 = 3) && !decide (sI x (2 + d) 7 ≤ sI x (2 + e) 7)) i) : Int32) = nI (cntB (fun e => decide (sI x (2 + e) 1 = 3) && !decide (sI x (2 + d) 7 ≤ sI x (2 + e) 7)) (i + 1)) from by first | exact cntB_t (by simp [*]) | exact cntB_f (by simp [*])) (lr (lr (lr rfl))))))
      exact ih _ _ _ (by omega) ⟨hw, hl9⟩
    · skip
      refine lv_aload hx hb dX3_sentBefore_36 (lv_at hl 0 rfl) ?_
      refine gDi (d := i) (k := 7) (v := sI x (2 + i) 7) hlt (by decide) rfl go hw dX3_sentBefore_38 q79 ?_
      refine lv_aload_n hx hb dX3_sentBefore_41 rfl (lv_at hl 2 rfl) ?_
      refine gDi (d := d) (k := 7) (v := sI x (2 + d) 7) hd (by decide) rfl go hw dX3_sentBefore_42 q79 ?_
      refine lv_icmp_ge (tgt := 51) hx hb dX3_sentBefore_45 (by decide) (fun h45 => ?_) (fun h45 => ?_)
      · skip
        refine lv_iinc (v := nI (i + 1)) (lv' := [(5, .int (nI (i + 1))), (6, .ref (g (2 + i) 0)), (0, .ref (g 0 0)), (1, .ref (g (2 + d) 0)), (2, .int (nI (cntB (fun e => decide (sI x (2 + e) 1 = 3) && !decide (sI x (2 + d) 7 ≤ sI x (2 + e) 7)) i))), (3, .ref (g 0 4)), (4, .int (nI 6))]) hx hb dX3_sentBefore_51 hl (k := 6) rfl (nI_1 _) (by decide) rfl (fun ls hl => ?_)
        refine lv_goto (tgt := 14) hx hb dX3_sentBefore_54 (by decide) ?_
        have hl9 : lv_has ls 7 [(0, .ref (g 0 0)), (1, .ref (g (2 + d) 0)), (2, .int (nI (cntB (fun e => decide (sI x (2 + e) 1 = 3) && !decide (sI x (2 + d) 7 ≤ sI x (2 + e) 7)) (i + 1)))), (3, .ref (g 0 4)), (4, .int (nI 6)), (5, .int (nI (i + 1)))] := lv_to (lv_sub (l' := [(0, .ref (g 0 0)), (1, .ref (g (2 + d) 0)), (2, .int (nI (cntB (fun e => decide (sI x (2 + e) 1 = 3) && !decide (sI x (2 + d) 7 ≤ sI x (2 + e) 7)) i))), (3, .ref (g 0 4)), (4, .int (nI 6)), (5, .int (nI (i + 1)))]) hl [2, 3, 4, 5, 6, 0] rfl) (lr (lr (lc (show (nI (cntB (fun e => decide (sI x (2 + e) 1 = 3) && !decide (sI x (2 + d) 7 ≤ sI x (2 + e) 7)) i) : Int32) = nI (cntB (fun e => decide (sI x (2 + e) 1 = 3) && !decide (sI x (2 + d) 7 ≤ sI x (2 + e) 7)) (i + 1)) from by first | exact cntB_t (by simp [*]) | exact cntB_f (by simp [*])) (lr (lr (lr rfl))))))
        exact ih _ _ _ (by omega) ⟨hw, hl9⟩
      · skip
        refine lv_iinc (v := nI (cntB (fun e => decide (sI x (2 + e) 1 = 3) && !decide (sI x (2 + d) 7 ≤ sI x (2 + e) 7)) i) + 1) (lv' := [(2, .int (nI (cntB (fun e => decide (sI x (2 + e) 1 = 3) && !decide (sI x (2 + d) 7 ≤ sI x (2 + e) 7)) i) + 1)), (6, .ref (g (2 + i) 0)), (0, .ref (g 0 0)), (1, .ref (g (2 + d) 0)), (3, .ref (g 0 4)), (4, .int (nI 6)), (5, .int (nI i))]) hx hb dX3_sentBefore_48 hl (k := 3) rfl rfl (by decide) rfl (fun ls hl => ?_)
        refine lv_iinc (v := nI (i + 1)) (lv' := [(5, .int (nI (i + 1))), (2, .int (nI (cntB (fun e => decide (sI x (2 + e) 1 = 3) && !decide (sI x (2 + d) 7 ≤ sI x (2 + e) 7)) i) + 1)), (6, .ref (g (2 + i) 0)), (0, .ref (g 0 0)), (1, .ref (g (2 + d) 0)), (3, .ref (g 0 4)), (4, .int (nI 6))]) hx hb dX3_sentBefore_51 hl (k := 6) rfl (nI_1 _) (by decide) rfl (fun ls hl => ?_)
        refine lv_goto (tgt := 14) hx hb dX3_sentBefore_54 (by decide) ?_
        have hl9 : lv_has ls 7 [(0, .ref (g 0 0)), (1, .ref (g (2 + d) 0)), (2, .int (nI (cntB (fun e => decide (sI x (2 + e) 1 = 3) && !decide (sI x (2 + d) 7 ≤ sI x (2 + e) 7)) (i + 1)))), (3, .ref (g 0 4)), (4, .int (nI 6)), (5, .int (nI (i + 1)))] := lv_to (lv_sub (l' := [(0, .ref (g 0 0)), (1, .ref (g (2 + d) 0)), (2, .int (nI (cntB (fun e => decide (sI x (2 + e) 1 = 3) && !decide (sI x (2 + d) 7 ≤ sI x (2 + e) 7)) i) + 1)), (3, .ref (g 0 4)), (4, .int (nI 6)), (5, .int (nI (i + 1)))]) hl [3, 4, 1, 5, 6, 0] rfl) (lr (lr (lc (show (nI (cntB (fun e => decide (sI x (2 + e) 1 = 3) && !decide (sI x (2 + d) 7 ≤ sI x (2 + e) 7)) i) + 1 : Int32) = nI (cntB (fun e => decide (sI x (2 + e) 1 = 3) && !decide (sI x (2 + d) 7 ≤ sI x (2 + e) 7)) (i + 1)) from by first | exact cntB_t (by simp [*]) | exact cntB_f (by simp [*])) (lr (lr (lr rfl))))))
        exact ih _ _ _ (by omega) ⟨hw, hl9⟩

set_option maxHeartbeats 4000000 in
set_option maxRecDepth 100000 in
theorem kX3_sentAt (l : Launch) (G : Cx) (g : Nat → Nat → Nat) (x : Sg) (hN : Nm x) (k : Int32) : Ci l G yX3_sentAt cX3_sentAt 6 .int (Rm 1 26) (cw G g) [.ref (g 0 0), .int k] x (fun r u => r = saI x k ∧ u = x) := by
  refine Ci.mk (by decide) (Nat.le_of_ble_eq_true rfl) ?_
  intro p e s m below meth c A ls go hw hl
  generalize s.heap = H at hw ⊢
  generalize ([] : List Loc) = locs at hw ⊢
  have hx := go.1
  have hb := go.2.1
  have hl : lv_has ls 6 [(0, .ref (g 0 0)), (1, .int k)] := hl
  refine lv_aload_n hx hb dX3_sentAt_0 rfl (lv_at hl 0 rfl) ?_
  refine gX (k := 3) (v := .ref (g 0 4)) rfl (by decide) rfl go hw dX3_sentAt_1 q130 ?_
  refine lv_astore_n (lv' := [(2, .ref (g 0 4)), (0, .ref (g 0 0)), (1, .int k)]) hx hb dX3_sentAt_4 rfl hl (by decide) rfl (fun ls hl => ?_)
  refine lv_aload_n hx hb dX3_sentAt_5 rfl (lv_at hl 0 rfl) ?_
  refine lDl go hw dX3_sentAt_6 ?_
  refine lv_istore_n (lv' := [(3, .int (nI 6)), (2, .ref (g 0 4)), (0, .ref (g 0 0)), (1, .int k)]) hx hb dX3_sentAt_7 rfl hl (by decide) rfl (fun ls hl => ?_)
  refine lv_iconst (v := 0) hx hb dX3_sentAt_8 (by decide) ?_
  refine lv_istore (lv' := [(4, .int 0), (3, .int (nI 6)), (2, .ref (g 0 4)), (0, .ref (g 0 0)), (1, .int k)]) hx hb dX3_sentAt_9 hl (by decide) rfl (fun ls hl => ?_)
  have hl0 : lv_has ls 6 [(0, .ref (g 0 0)), (1, .int k), (2, .ref (g 0 4)), (3, .int (nI 6)), (4, .int (nI 0))] := lv_to (lv_sub (l' := [(0, .ref (g 0 0)), (1, .int k), (2, .ref (g 0 4)), (3, .int (nI 6)), (4, .int 0)]) hl [3, 4, 2, 1, 0] rfl) (lr (lr (lr (lr (lc (show (0 : Int32) = nI 0 from rfl) rfl)))))
  refine loop_up (N := 6) (P := fun i H locs ls => Wd G A s H locs (cw G g x) ∧ lv_has ls 6 [(0, .ref (g 0 0)), (1, .int k), (2, .ref (g 0 4)), (3, .int (nI 6)), (4, .int (nI i))] ∧ (∀ j, j < i → (fun d => decide (sI x (2 + d) 1 = 3) && decide (nI (sbN x d) = k)) j = false)) (X := fun H locs ls => W p l e (Rm 1 26) s m ([.ref (g 0 0), .int k] : List Value).toArray below meth c H locs 0 0 (MQ below (va_Qi (fun r u => r = saI x k ∧ u = x) (PostW G (cw G g) A) A) ([.ref (g 0 0), .int k] : List Value).toArray s (Rm 1 26).cells (Rm 1 26).slots A) (F0 m 11 ls [])) ?_ 0 (by omega) H locs ls ⟨hw, hl0, (fun j hj => absurd hj (by omega))⟩
  clear hl0 hl hw
  intro i hi ih H locs ls hP
  obtain ⟨hw, hl, hE0⟩ := hP
  refine lv_iload hx hb dX3_sentAt_11 (lv_at hl 4 rfl) ?_
  refine lv_iload_n hx hb dX3_sentAt_13 rfl (lv_at hl 3 rfl) ?_
  refine lv_icmp_ge (tgt := 54) hx hb dX3_sentAt_14 (by decide) (fun h14 => ?_) (fun h14 => ?_)
  · skip
    have hE : i = 6 := lp_end h14 rfl rfl hi (by decide)
    subst hE
    refine lv_iconst (v := (-1)) hx hb dX3_sentAt_54 (by decide) ?_
    refine ret_i (wf := cw G g) go hw dX3_sentAt_55 ?_
    exact ⟨(fstI_no hE0).symm, rfl⟩
  · skip
    have hlt : i < 6 := lp_in h14 rfl rfl hi (by decide)
    refine lv_aload_n hx hb dX3_sentAt_17 rfl (lv_at hl 2 rfl) ?_
    refine lv_iload hx hb dX3_sentAt_18 (lv_at hl 4 rfl) ?_
    refine aDl (d := i) (by exact hlt) go hw dX3_sentAt_20 ?_
    refine lv_astore (lv' := [(5, .ref (g (2 + i) 0)), (0, .ref (g 0 0)), (1, .int k), (2, .ref (g 0 4)), (3, .int (nI 6)), (4, .int (nI i))]) hx hb dX3_sentAt_21 hl (by decide) rfl (fun ls hl => ?_)
    refine lv_aload hx hb dX3_sentAt_23 (lv_at hl 0 rfl) ?_
    refine gDi (d := i) (k := 1) (v := sI x (2 + i) 1) hlt (by decide) rfl go hw dX3_sentAt_25 q63 ?_
    refine lv_iconst (v := 3) hx hb dX3_sentAt_28 (by decide) ?_
    refine lv_icmp_ne (tgt := 48) hx hb dX3_sentAt_29 (by decide) (fun h29 => ?_) (fun h29 => ?_)
    · skip
      refine lv_iinc (v := nI (i + 1)) (lv' := [(4, .int (nI (i + 1))), (5, .ref (g (2 + i) 0)), (0, .ref (g 0 0)), (1, .int k), (2, .ref (g 0 4)), (3, .int (nI 6))]) hx hb dX3_sentAt_48 hl (k := 5) rfl (nI_1 _) (by decide) rfl (fun ls hl => ?_)
      refine lv_goto (tgt := 11) hx hb dX3_sentAt_51 (by decide) ?_
      have hl9 : lv_has ls 6 [(0, .ref (g 0 0)), (1, .int k), (2, .ref (g 0 4)), (3, .int (nI 6)), (4, .int (nI (i + 1)))] := lv_sub hl [2, 3, 4, 5, 0] rfl
      exact ih _ _ _ (by omega) ⟨hw, hl9, (lt_s hE0 (by simp [*]))⟩
    · skip
      refine lv_aload_n hx hb dX3_sentAt_32 rfl (lv_at hl 1 rfl) ?_
      refine lv_aload hx hb dX3_sentAt_33 (lv_at hl 0 rfl) ?_
      refine cal_Vi' (kX3_sentBefore l G g x i hlt) go hw dX3_sentAt_35 (And.intro q512 (And.intro q1 q515)) q514 qs17 kyX3_sentBefore ⟨Nat.le_of_ble_eq_true rfl, Nat.le_of_ble_eq_true rfl⟩ rc_X hl.1 rfl (Nat.le_of_ble_eq_true rfl) ⟨rfl, rfl⟩ ⟨Nat.le_of_ble_eq_true rfl, Nat.le_of_ble_eq_true rfl⟩ (fun H locs hw => ?_)
      refine lv_iload_n hx hb dX3_sentAt_38 rfl (lv_at hl 2 rfl) ?_
      refine lv_icmp_ne (tgt := 48) hx hb dX3_sentAt_39 (by decide) (fun h39 => ?_) (fun h39 => ?_)
      · skip
        refine lv_iinc (v := nI (i + 1)) (lv' := [(4, .int (nI (i + 1))), (5, .ref (g (2 + i) 0)), (0, .ref (g 0 0)), (1, .int k), (2, .ref (g 0 4)), (3, .int (nI 6))]) hx hb dX3_sentAt_48 hl (k := 5) rfl (nI_1 _) (by decide) rfl (fun ls hl => ?_)
        refine lv_goto (tgt := 11) hx hb dX3_sentAt_51 (by decide) ?_
        have hl9 : lv_has ls 6 [(0, .ref (g 0 0)), (1, .int k), (2, .ref (g 0 4)), (3, .int (nI 6)), (4, .int (nI (i + 1)))] := lv_sub hl [2, 3, 4, 5, 0] rfl
        exact ih _ _ _ (by omega) ⟨hw, hl9, (lt_s hE0 (by simp [*]))⟩
      · skip
        refine lv_aload hx hb dX3_sentAt_42 (lv_at hl 0 rfl) ?_
        refine gDi (d := i) (k := 0) (v := sI x (2 + i) 0) hlt (by decide) rfl go hw dX3_sentAt_44 q61 ?_
        refine toI (show sI x (2 + i) 0 = nI i from by exact hN i hlt) ?_
        refine ret_i (wf := cw G g) go hw dX3_sentAt_47 ?_
        exact ⟨(fstI_at (p := (fun d => decide (sI x (2 + d) 1 = 3) && decide (nI (sbN x d) = k))) (i := i) (by simp [*]) hE0 hlt).symm, rfl⟩

set_option maxHeartbeats 4000000 in
set_option maxRecDepth 100000 in
theorem kX3_firstWithoutVote (l : Launch) (G : Cx) (g : Nat → Nat → Nat) (x : Sg) (hN : Nm x) (v : Nat) (hv : v < 2) : Ci l G yX3_firstWithoutVote cX3_firstWithoutVote 4 .int (Rm 2 51) (cw G g) [.ref (g 0 0), .int (nI v)] x (fun r u => r = fwI x v ∧ u = x) := by
  refine Ci.mk (by decide) (Nat.le_of_ble_eq_true rfl) ?_
  intro p e s m below meth c A ls go hw hl
  generalize s.heap = H at hw ⊢
  generalize ([] : List Loc) = locs at hw ⊢
  have hx := go.1
  have hb := go.2.1
  have hl : lv_has ls 4 [(0, .ref (g 0 0)), (1, .int (nI v))] := hl
  refine lv_iconst (v := 0) hx hb dX3_firstWithoutVote_0 (by decide) ?_
  refine lv_istore_n (lv' := [(2, .int 0), (0, .ref (g 0 0)), (1, .int (nI v))]) hx hb dX3_firstWithoutVote_1 rfl hl (by decide) rfl (fun ls hl => ?_)
  have hl0 : lv_has ls 4 [(0, .ref (g 0 0)), (1, .int (nI v)), (2, .int (nI 0))] := lv_to (lv_sub (l' := [(0, .ref (g 0 0)), (1, .int (nI v)), (2, .int 0)]) hl [1, 2, 0] rfl) (lr (lr (lc (show (0 : Int32) = nI 0 from rfl) rfl)))
  refine loop_up (N := 6) (P := fun i H locs ls => Wd G A s H locs (cw G g x) ∧ lv_has ls 4 [(0, .ref (g 0 0)), (1, .int (nI v)), (2, .int (nI i))] ∧ (∀ j, j < i → fwP x v j = false)) (X := fun H locs ls => W p l e (Rm 2 51) s m ([.ref (g 0 0), .int (nI v)] : List Value).toArray below meth c H locs 0 0 (MQ below (va_Qi (fun r u => r = fwI x v ∧ u = x) (PostW G (cw G g) A) A) ([.ref (g 0 0), .int (nI v)] : List Value).toArray s (Rm 2 51).cells (Rm 2 51).slots A) (F0 m 2 ls [])) ?_ 0 (by omega) H locs ls ⟨hw, hl0, (fun j hj => absurd hj (by omega))⟩
  clear hl0 hl hw
  intro i hi ih H locs ls hP
  obtain ⟨hw, hl, hE0⟩ := hP
  refine lv_iload_n hx hb dX3_firstWithoutVote_2 rfl (lv_at hl 2 rfl) ?_
  refine lv_bipush (v := 6) hx hb dX3_firstWithoutVote_3 (by decide) ?_
  refine lv_icmp_ge (tgt := 44) hx hb dX3_firstWithoutVote_5 (by decide) (fun h5 => ?_) (fun h5 => ?_)
  · skip
    have hE : i = 6 := lp_end h5 rfl rfl hi (by decide)
    subst hE
    refine lv_iconst (v := (-1)) hx hb dX3_firstWithoutVote_44 (by decide) ?_
    refine ret_i (wf := cw G g) go hw dX3_firstWithoutVote_45 ?_
    exact ⟨(fwI_no hE0).symm, rfl⟩
  · skip
    have hlt : i < 6 := lp_in h5 rfl rfl hi (by decide)
    refine lv_aload_n hx hb dX3_firstWithoutVote_8 rfl (lv_at hl 0 rfl) ?_
    refine lv_iload_n hx hb dX3_firstWithoutVote_9 rfl (lv_at hl 2 rfl) ?_
    refine cal_Vi' (kX3_sentAt l G g x hN (nI i)) go hw dX3_firstWithoutVote_10 (And.intro q508 (And.intro q1 q511)) q510 qs16 kyX3_sentAt ⟨Nat.le_of_ble_eq_true rfl, Nat.le_of_ble_eq_true rfl⟩ rc_X hl.1 rfl (Nat.le_of_ble_eq_true rfl) ⟨rfl, rfl⟩ ⟨Nat.le_of_ble_eq_true rfl, Nat.le_of_ble_eq_true rfl⟩ (fun H locs hw => ?_)
    refine lv_istore_n (lv' := [(3, .int (saI x (nI i))), (0, .ref (g 0 0)), (1, .int (nI v)), (2, .int (nI i))]) hx hb dX3_firstWithoutVote_13 rfl hl (by decide) rfl (fun ls hl => ?_)
    refine lv_iload_n hx hb dX3_firstWithoutVote_14 rfl (lv_at hl 0 rfl) ?_
    refine cal_S (kX3_isDeal l G (saI x (nI i))) go hw.2.2.1 hw.2.2.2.1 dX3_firstWithoutVote_15 (And.intro q382 (And.intro q1 q384)) q383 kyX3_isDeal ⟨rfl, rfl⟩ ⟨Nat.le_of_ble_eq_true rfl, Nat.le_of_ble_eq_true rfl⟩ hl.1 rfl (Nat.le_of_ble_eq_true rfl) ⟨Nat.le_of_ble_eq_true rfl, Nat.le_of_ble_eq_true rfl⟩ ?_
    refine lv_if_eq (tgt := 38) hx hb dX3_firstWithoutVote_18 (by decide) (fun h18 => ?_) (fun h18 => ?_)
    · skip
      have h18 := bI_0 h18
      refine lv_iinc (v := nI (i + 1)) (lv' := [(2, .int (nI (i + 1))), (3, .int (saI x (nI i))), (0, .ref (g 0 0)), (1, .int (nI v))]) hx hb dX3_firstWithoutVote_38 hl (k := 3) rfl (nI_1 _) (by decide) rfl (fun ls hl => ?_)
      refine lv_goto (tgt := 2) hx hb dX3_firstWithoutVote_41 (by decide) ?_
      have hl9 : lv_has ls 4 [(0, .ref (g 0 0)), (1, .int (nI v)), (2, .int (nI (i + 1)))] := lv_sub hl [2, 3, 0] rfl
      exact ih _ _ _ (by omega) ⟨hw, hl9, (lt_s hE0 (by simp [fwP, *]))⟩
    · skip
      have h18 := bI_1 h18
      refine lv_aload_n hx hb dX3_firstWithoutVote_21 rfl (lv_at hl 1 rfl) ?_
      refine gX (k := 3) (v := .ref (g 0 4)) rfl (by decide) rfl go hw dX3_firstWithoutVote_22 q130 ?_
      refine lv_iload_n hx hb dX3_firstWithoutVote_25 rfl (lv_at hl 0 rfl) ?_
      refine toI (show (saI x (nI i) : Int32) = nI ((saI x (nI i)).toNatClampNeg) from by exact (inB_cl h18 rfl (by decide)).1) ?_
      refine aDl (d := (saI x (nI i)).toNatClampNeg) (by exact (inB_cl h18 rfl (by decide)).2) go hw dX3_firstWithoutVote_26 ?_
      refine gD (d := (saI x (nI i)).toNatClampNeg) (k := 12) (v := .ref (g (2 + ((saI x (nI i)).toNatClampNeg)) 13)) (inB_cl h18 rfl (by decide)).2 rfl (by decide) rfl go hw dX3_firstWithoutVote_27 q91 ?_
      refine lv_iload_n hx hb dX3_firstWithoutVote_30 rfl (lv_at hl 2 rfl) ?_
      refine aD (d := (saI x (nI i)).toNatClampNeg) (k := 12) (j := v) (inB_cl h18 rfl (by decide)).2 (by decide) (by exact hv) go hw dX3_firstWithoutVote_31 ?_
      refine lv_iconst (v := (-1)) hx hb dX3_firstWithoutVote_32 (by decide) ?_
      refine lv_icmp_ne (tgt := 38) hx hb dX3_firstWithoutVote_33 (by decide) (fun h33 => ?_) (fun h33 => ?_)
      · skip
        refine lv_iinc (v := nI (i + 1)) (lv' := [(2, .int (nI (i + 1))), (3, .int (saI x (nI i))), (0, .ref (g 0 0)), (1, .int (nI v))]) hx hb dX3_firstWithoutVote_38 hl (k := 3) rfl (nI_1 _) (by decide) rfl (fun ls hl => ?_)
        refine lv_goto (tgt := 2) hx hb dX3_firstWithoutVote_41 (by decide) ?_
        have hl9 : lv_has ls 4 [(0, .ref (g 0 0)), (1, .int (nI v)), (2, .int (nI (i + 1)))] := lv_sub hl [2, 3, 0] rfl
        exact ih _ _ _ (by omega) ⟨hw, hl9, (lt_s hE0 (by simp [fwP, *]))⟩
      · skip
        refine lv_iload_n hx hb dX3_firstWithoutVote_36 rfl (lv_at hl 0 rfl) ?_
        refine ret_i (wf := cw G g) go hw dX3_firstWithoutVote_37 ?_
        exact ⟨(fwI_at (i := i) (by simp [fwP, *]) hE0 hlt).symm, rfl⟩

set_option maxHeartbeats 4000000 in
set_option maxRecDepth 100000 in
theorem kX3_promisedBefore (l : Launch) (G : Cx) (g : Nat → Nat → Nat) (x : Sg) (v : Nat) (hv : v < 2) (d : Nat) (hd : d < 6) : Ci l G yX3_promisedBefore cX3_promisedBefore 8 .int (Rm 0 0) (cw G g) [.ref (g 0 0), .int (nI v), .ref (g (2 + d) 0)] x (fun r u => r = prI x v d ∧ u = x) := by
  refine Ci.mk (by decide) (Nat.le_of_ble_eq_true rfl) ?_
  intro p e s m below meth c A ls go hw hl
  generalize s.heap = H at hw ⊢
  generalize ([] : List Loc) = locs at hw ⊢
  have hx := go.1
  have hb := go.2.1
  have hl : lv_has ls 8 [(0, .ref (g 0 0)), (1, .int (nI v)), (2, .ref (g (2 + d) 0))] := hl
  refine lv_iconst (v := 0) hx hb dX3_promisedBefore_0 (by decide) ?_
  refine lv_istore_n (lv' := [(3, .int 0), (0, .ref (g 0 0)), (1, .int (nI v)), (2, .ref (g (2 + d) 0))]) hx hb dX3_promisedBefore_1 rfl hl (by decide) rfl (fun ls hl => ?_)
  refine lv_aload_n hx hb dX3_promisedBefore_2 rfl (lv_at hl 1 rfl) ?_
  refine gX (k := 3) (v := .ref (g 0 4)) rfl (by decide) rfl go hw dX3_promisedBefore_3 q130 ?_
  refine lv_astore (lv' := [(4, .ref (g 0 4)), (3, .int 0), (0, .ref (g 0 0)), (1, .int (nI v)), (2, .ref (g (2 + d) 0))]) hx hb dX3_promisedBefore_6 hl (by decide) rfl (fun ls hl => ?_)
  refine lv_aload hx hb dX3_promisedBefore_8 (lv_at hl 0 rfl) ?_
  refine lDl go hw dX3_promisedBefore_10 ?_
  refine lv_istore (lv' := [(5, .int (nI 6)), (4, .ref (g 0 4)), (3, .int 0), (0, .ref (g 0 0)), (1, .int (nI v)), (2, .ref (g (2 + d) 0))]) hx hb dX3_promisedBefore_11 hl (by decide) rfl (fun ls hl => ?_)
  refine lv_iconst (v := 0) hx hb dX3_promisedBefore_13 (by decide) ?_
  refine lv_istore (lv' := [(6, .int 0), (5, .int (nI 6)), (4, .ref (g 0 4)), (3, .int 0), (0, .ref (g 0 0)), (1, .int (nI v)), (2, .ref (g (2 + d) 0))]) hx hb dX3_promisedBefore_14 hl (by decide) rfl (fun ls hl => ?_)
  have hl0 : lv_has ls 8 [(0, .ref (g 0 0)), (1, .int (nI v)), (2, .ref (g (2 + d) 0)), (3, .int (foI (fun e a => if sI x (2 + e) 1 = 3 ∧ ¬ sI x (2 + d) 7 ≤ sI x (2 + e) 7 ∧ sA x (2 + e) 12 v = 1 then a ||| sI x (2 + e) 6 else a) 0 0)), (4, .ref (g 0 4)), (5, .int (nI 6)), (6, .int (nI 0))] := lv_to (lv_sub (l' := [(0, .ref (g 0 0)), (1, .int (nI v)), (2, .ref (g (2 + d) 0)), (3, .int 0), (4, .ref (g 0 4)), (5, .int (nI 6)), (6, .int 0)]) hl [4, 5, 6, 3, 2, 1, 0] rfl) (lr (lr (lr (lc (show (0 : Int32) = foI (fun e a => if sI x (2 + e) 1 = 3 ∧ ¬ sI x (2 + d) 7 ≤ sI x (2 + e) 7 ∧ sA x (2 + e) 12 v = 1 then a ||| sI x (2 + e) 6 else a) 0 0 from rfl) (lr (lr (lc (show (0 : Int32) = nI 0 from rfl) rfl)))))))
  refine loop_up (N := 6) (P := fun i H locs ls => Wd G A s H locs (cw G g x) ∧ lv_has ls 8 [(0, .ref (g 0 0)), (1, .int (nI v)), (2, .ref (g (2 + d) 0)), (3, .int (foI (fun e a => if sI x (2 + e) 1 = 3 ∧ ¬ sI x (2 + d) 7 ≤ sI x (2 + e) 7 ∧ sA x (2 + e) 12 v = 1 then a ||| sI x (2 + e) 6 else a) 0 i)), (4, .ref (g 0 4)), (5, .int (nI 6)), (6, .int (nI i))]) (X := fun H locs ls => W p l e (Rm 0 0) s m ([.ref (g 0 0), .int (nI v), .ref (g (2 + d) 0)] : List Value).toArray below meth c H locs 0 0 (MQ below (va_Qi (fun r u => r = prI x v d ∧ u = x) (PostW G (cw G g) A) A) ([.ref (g 0 0), .int (nI v), .ref (g (2 + d) 0)] : List Value).toArray s (Rm 0 0).cells (Rm 0 0).slots A) (F0 m 16 ls [])) ?_ 0 (by omega) H locs ls ⟨hw, hl0⟩
  clear hl0 hl hw
  intro i hi ih H locs ls hP
  obtain ⟨hw, hl⟩ := hP
  refine lv_iload hx hb dX3_promisedBefore_16 (lv_at hl 6 rfl) ?_
  refine lv_iload hx hb dX3_promisedBefore_18 (lv_at hl 5 rfl) ?_
  refine lv_icmp_ge (tgt := 76) hx hb dX3_promisedBefore_20 (by decide) (fun h20 => ?_) (fun h20 => ?_)
  · skip
    have hE : i = 6 := lp_end h20 rfl rfl hi (by decide)
    subst hE
    refine lv_iload_n hx hb dX3_promisedBefore_76 rfl (lv_at hl 3 rfl) ?_
    refine ret_i (wf := cw G g) go hw dX3_promisedBefore_77 ?_
    exact ⟨rfl, rfl⟩
  · skip
    have hlt : i < 6 := lp_in h20 rfl rfl hi (by decide)
    refine lv_aload hx hb dX3_promisedBefore_23 (lv_at hl 4 rfl) ?_
    refine lv_iload hx hb dX3_promisedBefore_25 (lv_at hl 6 rfl) ?_
    refine aDl (d := i) (by exact hlt) go hw dX3_promisedBefore_27 ?_
    refine lv_astore (lv' := [(7, .ref (g (2 + i) 0)), (0, .ref (g 0 0)), (1, .int (nI v)), (2, .ref (g (2 + d) 0)), (3, .int (foI (fun e a => if sI x (2 + e) 1 = 3 ∧ ¬ sI x (2 + d) 7 ≤ sI x (2 + e) 7 ∧ sA x (2 + e) 12 v = 1 then a ||| sI x (2 + e) 6 else a) 0 i)), (4, .ref (g 0 4)), (5, .int (nI 6)), (6, .int (nI i))]) hx hb dX3_promisedBefore_28 hl (by decide) rfl (fun ls hl => ?_)
    refine lv_aload hx hb dX3_promisedBefore_30 (lv_at hl 0 rfl) ?_
    refine gDi (d := i) (k := 1) (v := sI x (2 + i) 1) hlt (by decide) rfl go hw dX3_promisedBefore_32 q63 ?_
    refine lv_iconst (v := 3) hx hb dX3_promisedBefore_35 (by decide) ?_
    refine lv_icmp_ne (tgt := 70) hx hb dX3_promisedBefore_36 (by decide) (fun h36 => ?_) (fun h36 => ?_)
    · skip
      refine lv_iinc (v := nI (i + 1)) (lv' := [(6, .int (nI (i + 1))), (7, .ref (g (2 + i) 0)), (0, .ref (g 0 0)), (1, .int (nI v)), (2, .ref (g (2 + d) 0)), (3, .int (foI (fun e a => if sI x (2 + e) 1 = 3 ∧ ¬ sI x (2 + d) 7 ≤ sI x (2 + e) 7 ∧ sA x (2 + e) 12 v = 1 then a ||| sI x (2 + e) 6 else a) 0 i)), (4, .ref (g 0 4)), (5, .int (nI 6))]) hx hb dX3_promisedBefore_70 hl (k := 7) rfl (nI_1 _) (by decide) rfl (fun ls hl => ?_)
      refine lv_goto (tgt := 16) hx hb dX3_promisedBefore_73 (by decide) ?_
      have hl9 : lv_has ls 8 [(0, .ref (g 0 0)), (1, .int (nI v)), (2, .ref (g (2 + d) 0)), (3, .int (foI (fun e a => if sI x (2 + e) 1 = 3 ∧ ¬ sI x (2 + d) 7 ≤ sI x (2 + e) 7 ∧ sA x (2 + e) 12 v = 1 then a ||| sI x (2 + e) 6 else a) 0 (i + 1))), (4, .ref (g 0 4)), (5, .int (nI 6)), (6, .int (nI (i + 1)))] := lv_to (lv_sub (l' := [(0, .ref (g 0 0)), (1, .int (nI v)), (2, .ref (g (2 + d) 0)), (3, .int (foI (fun e a => if sI x (2 + e) 1 = 3 ∧ ¬ sI x (2 + d) 7 ≤ sI x (2 + e) 7 ∧ sA x (2 + e) 12 v = 1 then a ||| sI x (2 + e) 6 else a) 0 i)), (4, .ref (g 0 4)), (5, .int (nI 6)), (6, .int (nI (i + 1)))]) hl [2, 3, 4, 5, 6, 7, 0] rfl) (lr (lr (lr (lc (show (foI (fun e a => if sI x (2 + e) 1 = 3 ∧ ¬ sI x (2 + d) 7 ≤ sI x (2 + e) 7 ∧ sA x (2 + e) 12 v = 1 then a ||| sI x (2 + e) 6 else a) 0 i : Int32) = foI (fun e a => if sI x (2 + e) 1 = 3 ∧ ¬ sI x (2 + d) 7 ≤ sI x (2 + e) 7 ∧ sA x (2 + e) 12 v = 1 then a ||| sI x (2 + e) 6 else a) 0 (i + 1) from by simp [foI, *]) (lr (lr (lr rfl)))))))
      exact ih _ _ _ (by omega) ⟨hw, hl9⟩
    · skip
      refine lv_aload hx hb dX3_promisedBefore_39 (lv_at hl 0 rfl) ?_
      refine gDi (d := i) (k := 7) (v := sI x (2 + i) 7) hlt (by decide) rfl go hw dX3_promisedBefore_41 q79 ?_
      refine lv_aload_n hx hb dX3_promisedBefore_44 rfl (lv_at hl 3 rfl) ?_
      refine gDi (d := d) (k := 7) (v := sI x (2 + d) 7) hd (by decide) rfl go hw dX3_promisedBefore_45 q79 ?_
      refine lv_icmp_ge (tgt := 70) hx hb dX3_promisedBefore_48 (by decide) (fun h48 => ?_) (fun h48 => ?_)
      · skip
        refine lv_iinc (v := nI (i + 1)) (lv' := [(6, .int (nI (i + 1))), (7, .ref (g (2 + i) 0)), (0, .ref (g 0 0)), (1, .int (nI v)), (2, .ref (g (2 + d) 0)), (3, .int (foI (fun e a => if sI x (2 + e) 1 = 3 ∧ ¬ sI x (2 + d) 7 ≤ sI x (2 + e) 7 ∧ sA x (2 + e) 12 v = 1 then a ||| sI x (2 + e) 6 else a) 0 i)), (4, .ref (g 0 4)), (5, .int (nI 6))]) hx hb dX3_promisedBefore_70 hl (k := 7) rfl (nI_1 _) (by decide) rfl (fun ls hl => ?_)
        refine lv_goto (tgt := 16) hx hb dX3_promisedBefore_73 (by decide) ?_
        have hl9 : lv_has ls 8 [(0, .ref (g 0 0)), (1, .int (nI v)), (2, .ref (g (2 + d) 0)), (3, .int (foI (fun e a => if sI x (2 + e) 1 = 3 ∧ ¬ sI x (2 + d) 7 ≤ sI x (2 + e) 7 ∧ sA x (2 + e) 12 v = 1 then a ||| sI x (2 + e) 6 else a) 0 (i + 1))), (4, .ref (g 0 4)), (5, .int (nI 6)), (6, .int (nI (i + 1)))] := lv_to (lv_sub (l' := [(0, .ref (g 0 0)), (1, .int (nI v)), (2, .ref (g (2 + d) 0)), (3, .int (foI (fun e a => if sI x (2 + e) 1 = 3 ∧ ¬ sI x (2 + d) 7 ≤ sI x (2 + e) 7 ∧ sA x (2 + e) 12 v = 1 then a ||| sI x (2 + e) 6 else a) 0 i)), (4, .ref (g 0 4)), (5, .int (nI 6)), (6, .int (nI (i + 1)))]) hl [2, 3, 4, 5, 6, 7, 0] rfl) (lr (lr (lr (lc (show (foI (fun e a => if sI x (2 + e) 1 = 3 ∧ ¬ sI x (2 + d) 7 ≤ sI x (2 + e) 7 ∧ sA x (2 + e) 12 v = 1 then a ||| sI x (2 + e) 6 else a) 0 i : Int32) = foI (fun e a => if sI x (2 + e) 1 = 3 ∧ ¬ sI x (2 + d) 7 ≤ sI x (2 + e) 7 ∧ sA x (2 + e) 12 v = 1 then a ||| sI x (2 + e) 6 else a) 0 (i + 1) from by simp [foI, *]) (lr (lr (lr rfl)))))))
        exact ih _ _ _ (by omega) ⟨hw, hl9⟩
      · skip
        refine lv_aload hx hb dX3_promisedBefore_51 (lv_at hl 0 rfl) ?_
        refine gD (d := i) (k := 12) (v := .ref (g (2 + i) 13)) hlt rfl (by decide) rfl go hw dX3_promisedBefore_53 q91 ?_
        refine lv_iload_n hx hb dX3_promisedBefore_56 rfl (lv_at hl 2 rfl) ?_
        refine aD (d := i) (k := 12) (j := v) hlt (by decide) (by exact hv) go hw dX3_promisedBefore_57 ?_
        refine lv_iconst (v := 1) hx hb dX3_promisedBefore_58 (by decide) ?_
        refine lv_icmp_ne (tgt := 70) hx hb dX3_promisedBefore_59 (by decide) (fun h59 => ?_) (fun h59 => ?_)
        · skip
          refine lv_iinc (v := nI (i + 1)) (lv' := [(6, .int (nI (i + 1))), (7, .ref (g (2 + i) 0)), (0, .ref (g 0 0)), (1, .int (nI v)), (2, .ref (g (2 + d) 0)), (3, .int (foI (fun e a => if sI x (2 + e) 1 = 3 ∧ ¬ sI x (2 + d) 7 ≤ sI x (2 + e) 7 ∧ sA x (2 + e) 12 v = 1 then a ||| sI x (2 + e) 6 else a) 0 i)), (4, .ref (g 0 4)), (5, .int (nI 6))]) hx hb dX3_promisedBefore_70 hl (k := 7) rfl (nI_1 _) (by decide) rfl (fun ls hl => ?_)
          refine lv_goto (tgt := 16) hx hb dX3_promisedBefore_73 (by decide) ?_
          have hl9 : lv_has ls 8 [(0, .ref (g 0 0)), (1, .int (nI v)), (2, .ref (g (2 + d) 0)), (3, .int (foI (fun e a => if sI x (2 + e) 1 = 3 ∧ ¬ sI x (2 + d) 7 ≤ sI x (2 + e) 7 ∧ sA x (2 + e) 12 v = 1 then a ||| sI x (2 + e) 6 else a) 0 (i + 1))), (4, .ref (g 0 4)), (5, .int (nI 6)), (6, .int (nI (i + 1)))] := lv_to (lv_sub (l' := [(0, .ref (g 0 0)), (1, .int (nI v)), (2, .ref (g (2 + d) 0)), (3, .int (foI (fun e a => if sI x (2 + e) 1 = 3 ∧ ¬ sI x (2 + d) 7 ≤ sI x (2 + e) 7 ∧ sA x (2 + e) 12 v = 1 then a ||| sI x (2 + e) 6 else a) 0 i)), (4, .ref (g 0 4)), (5, .int (nI 6)), (6, .int (nI (i + 1)))]) hl [2, 3, 4, 5, 6, 7, 0] rfl) (lr (lr (lr (lc (show (foI (fun e a => if sI x (2 + e) 1 = 3 ∧ ¬ sI x (2 + d) 7 ≤ sI x (2 + e) 7 ∧ sA x (2 + e) 12 v = 1 then a ||| sI x (2 + e) 6 else a) 0 i : Int32) = foI (fun e a => if sI x (2 + e) 1 = 3 ∧ ¬ sI x (2 + d) 7 ≤ sI x (2 + e) 7 ∧ sA x (2 + e) 12 v = 1 then a ||| sI x (2 + e) 6 else a) 0 (i + 1) from by simp [foI, *]) (lr (lr (lr rfl)))))))
          exact ih _ _ _ (by omega) ⟨hw, hl9⟩
        · skip
          refine lv_iload_n hx hb dX3_promisedBefore_62 rfl (lv_at hl 4 rfl) ?_
          refine lv_aload hx hb dX3_promisedBefore_63 (lv_at hl 0 rfl) ?_
          refine gDi (d := i) (k := 6) (v := sI x (2 + i) 6) hlt (by decide) rfl go hw dX3_promisedBefore_65 q77 ?_
          refine lv_ior hx hb dX3_promisedBefore_68 ?_
          refine lv_istore_n (lv' := [(3, .int ((foI (fun e a => if sI x (2 + e) 1 = 3 ∧ ¬ sI x (2 + d) 7 ≤ sI x (2 + e) 7 ∧ sA x (2 + e) 12 v = 1 then a ||| sI x (2 + e) 6 else a) 0 i) ||| (sI x (2 + i) 6))), (7, .ref (g (2 + i) 0)), (0, .ref (g 0 0)), (1, .int (nI v)), (2, .ref (g (2 + d) 0)), (4, .ref (g 0 4)), (5, .int (nI 6)), (6, .int (nI i))]) hx hb dX3_promisedBefore_69 rfl hl (by decide) rfl (fun ls hl => ?_)
          refine lv_iinc (v := nI (i + 1)) (lv' := [(6, .int (nI (i + 1))), (3, .int ((foI (fun e a => if sI x (2 + e) 1 = 3 ∧ ¬ sI x (2 + d) 7 ≤ sI x (2 + e) 7 ∧ sA x (2 + e) 12 v = 1 then a ||| sI x (2 + e) 6 else a) 0 i) ||| (sI x (2 + i) 6))), (7, .ref (g (2 + i) 0)), (0, .ref (g 0 0)), (1, .int (nI v)), (2, .ref (g (2 + d) 0)), (4, .ref (g 0 4)), (5, .int (nI 6))]) hx hb dX3_promisedBefore_70 hl (k := 7) rfl (nI_1 _) (by decide) rfl (fun ls hl => ?_)
          refine lv_goto (tgt := 16) hx hb dX3_promisedBefore_73 (by decide) ?_
          have hl9 : lv_has ls 8 [(0, .ref (g 0 0)), (1, .int (nI v)), (2, .ref (g (2 + d) 0)), (3, .int (foI (fun e a => if sI x (2 + e) 1 = 3 ∧ ¬ sI x (2 + d) 7 ≤ sI x (2 + e) 7 ∧ sA x (2 + e) 12 v = 1 then a ||| sI x (2 + e) 6 else a) 0 (i + 1))), (4, .ref (g 0 4)), (5, .int (nI 6)), (6, .int (nI (i + 1)))] := lv_to (lv_sub (l' := [(0, .ref (g 0 0)), (1, .int (nI v)), (2, .ref (g (2 + d) 0)), (3, .int ((foI (fun e a => if sI x (2 + e) 1 = 3 ∧ ¬ sI x (2 + d) 7 ≤ sI x (2 + e) 7 ∧ sA x (2 + e) 12 v = 1 then a ||| sI x (2 + e) 6 else a) 0 i) ||| (sI x (2 + i) 6))), (4, .ref (g 0 4)), (5, .int (nI 6)), (6, .int (nI (i + 1)))]) hl [3, 4, 5, 1, 6, 7, 0] rfl) (lr (lr (lr (lc (show ((foI (fun e a => if sI x (2 + e) 1 = 3 ∧ ¬ sI x (2 + d) 7 ≤ sI x (2 + e) 7 ∧ sA x (2 + e) 12 v = 1 then a ||| sI x (2 + e) 6 else a) 0 i) ||| (sI x (2 + i) 6) : Int32) = foI (fun e a => if sI x (2 + e) 1 = 3 ∧ ¬ sI x (2 + d) 7 ≤ sI x (2 + e) 7 ∧ sA x (2 + e) 12 v = 1 then a ||| sI x (2 + e) 6 else a) 0 (i + 1) from by simp [foI, *]) (lr (lr (lr rfl)))))))
          exact ih _ _ _ (by omega) ⟨hw, hl9⟩

set_option maxHeartbeats 4000000 in
set_option maxRecDepth 100000 in
theorem kX3_opinion (l : Launch) (G : Cx) (g : Nat → Nat → Nat) (x : Sg) (v : Nat) (hv : v < 2) (d : Nat) (hd : d < 6) : Ci l G yX3_opinion cX3_opinion 4 .int (Rm 3 64) (cw G g) [.ref (g 0 0), .int (nI v), .ref (g (2 + d) 0)] x (fun r u => r = bI (opI x v d) ∧ u = x) := by
  refine Ci.mk (by decide) (Nat.le_of_ble_eq_true rfl) ?_
  intro p e s m below meth c A ls go hw hl
  generalize s.heap = H at hw ⊢
  generalize ([] : List Loc) = locs at hw ⊢
  have hx := go.1
  have hb := go.2.1
  have hl : lv_has ls 4 [(0, .ref (g 0 0)), (1, .int (nI v)), (2, .ref (g (2 + d) 0))] := hl
  refine lv_aload_n hx hb dX3_opinion_0 rfl (lv_at hl 0 rfl) ?_
  refine lv_aload_n hx hb dX3_opinion_1 rfl (lv_at hl 2 rfl) ?_
  refine cal_Vi' (kX3_staleOf l G g x d hd) go hw dX3_opinion_2 (And.intro q441 (And.intro q1 q444)) q443 qs6 kyX3_staleOf ⟨Nat.le_of_ble_eq_true rfl, Nat.le_of_ble_eq_true rfl⟩ rc_X hl.1 rfl (Nat.le_of_ble_eq_true rfl) ⟨rfl, rfl⟩ ⟨Nat.le_of_ble_eq_true rfl, Nat.le_of_ble_eq_true rfl⟩ (fun H locs hw => ?_)
  refine lv_aload_n hx hb dX3_opinion_5 rfl (lv_at hl 2 rfl) ?_
  refine gDi (d := d) (k := 5) (v := sI x (2 + d) 5) hd (by decide) rfl go hw dX3_opinion_6 q74 ?_
  refine lv_aload_n hx hb dX3_opinion_9 rfl (lv_at hl 0 rfl) ?_
  refine lv_iload_n hx hb dX3_opinion_10 rfl (lv_at hl 1 rfl) ?_
  refine lv_aload_n hx hb dX3_opinion_11 rfl (lv_at hl 2 rfl) ?_
  refine cal_Vi' (kX3_promisedBefore l G g x v (by omega) d hd) go hw dX3_opinion_12 (And.intro q520 (And.intro q1 q523)) q522 qs19 kyX3_promisedBefore ⟨Nat.le_of_ble_eq_true rfl, Nat.le_of_ble_eq_true rfl⟩ rc_X hl.1 rfl (Nat.le_of_ble_eq_true rfl) ⟨rfl, rfl⟩ ⟨Nat.le_of_ble_eq_true rfl, Nat.le_of_ble_eq_true rfl⟩ (fun H locs hw => ?_)
  refine lv_iand hx hb dX3_opinion_15 ?_
  refine lv_ior hx hb dX3_opinion_16 ?_
  refine lv_istore_n (lv' := [(3, .int ((stl x d) ||| ((sI x (2 + d) 5) &&& (prI x v d)))), (0, .ref (g 0 0)), (1, .int (nI v)), (2, .ref (g (2 + d) 0))]) hx hb dX3_opinion_17 rfl hl (by decide) rfl (fun ls hl => ?_)
  refine lv_iload_n hx hb dX3_opinion_18 rfl (lv_at hl 0 rfl) ?_
  refine lv_iload_n hx hb dX3_opinion_19 rfl (lv_at hl 2 rfl) ?_
  refine cal_S (kX3_itemsOf l G (nI v)) go hw.2.2.1 hw.2.2.2.1 dX3_opinion_20 (And.intro q524 (And.intro q1 q526)) q525 kyX3_itemsOf ⟨rfl, rfl⟩ ⟨Nat.le_of_ble_eq_true rfl, Nat.le_of_ble_eq_true rfl⟩ hl.1 rfl (Nat.le_of_ble_eq_true rfl) ⟨Nat.le_of_ble_eq_true rfl, Nat.le_of_ble_eq_true rfl⟩ ?_
  refine lv_iand hx hb dX3_opinion_23 ?_
  refine lv_if_ne (tgt := 31) hx hb dX3_opinion_24 (by decide) (fun h24 => ?_) (fun h24 => ?_)
  · skip
    refine lv_iconst (v := 0) hx hb dX3_opinion_31 (by decide) ?_
    refine ret_i (wf := cw G g) go hw dX3_opinion_32 ?_
    exact ⟨by simp [opI, bI, *], rfl⟩
  · skip
    refine lv_iconst (v := 1) hx hb dX3_opinion_27 (by decide) ?_
    refine lv_goto (tgt := 32) hx hb dX3_opinion_28 (by decide) ?_
    refine ret_i (wf := cw G g) go hw dX3_opinion_32 ?_
    exact ⟨by simp [opI, bI, *], rfl⟩

set_option maxHeartbeats 4000000 in
set_option maxRecDepth 100000 in
theorem kX3_foretell (l : Launch) (G : Cx) (g : Nat → Nat → Nat) (x : Sg) (hN : Nm x) (d : Nat) (hd : d < 6) (w : Int32) : Ci l G yX3_foretell cX3_foretell 3 .int (Rm 3 72) (cw G g) [.ref (g 0 0), .ref (g (2 + d) 0), .int w] x (fun r u => r = ftI x d w ∧ u = x) := by
  refine Ci.mk (by decide) (Nat.le_of_ble_eq_true rfl) ?_
  intro p e s m below meth c A ls go hw hl
  generalize s.heap = H at hw ⊢
  generalize ([] : List Loc) = locs at hw ⊢
  have hx := go.1
  have hb := go.2.1
  have hl : lv_has ls 3 [(0, .ref (g 0 0)), (1, .ref (g (2 + d) 0)), (2, .int w)] := hl
  refine lv_iload_n hx hb dX3_foretell_0 rfl (lv_at hl 2 rfl) ?_
  refine lv_if_lt (tgt := 9) hx hb dX3_foretell_1 (by decide) (fun h1 => ?_) (fun h1 => ?_)
  · skip
    refine lv_bipush (v := (-3)) hx hb dX3_foretell_9 (by decide) ?_
    refine ret_i (wf := cw G g) go hw dX3_foretell_11 ?_
    exact ⟨by simp [ftI, *], rfl⟩
  · skip
    refine lv_iload_n hx hb dX3_foretell_4 rfl (lv_at hl 2 rfl) ?_
    refine lv_iconst (v := 2) hx hb dX3_foretell_5 (by decide) ?_
    refine lv_icmp_le (tgt := 12) hx hb dX3_foretell_6 (by decide) (fun h6 => ?_) (fun h6 => ?_)
    · skip
      refine lv_aload_n hx hb dX3_foretell_12 rfl (lv_at hl 1 rfl) ?_
      refine gDi (d := d) (k := 1) (v := sI x (2 + d) 1) hd (by decide) rfl go hw dX3_foretell_13 q63 ?_
      refine lv_iconst (v := 1) hx hb dX3_foretell_16 (by decide) ?_
      refine lv_icmp_ne (tgt := 28) hx hb dX3_foretell_17 (by decide) (fun h17 => ?_) (fun h17 => ?_)
      · skip
        refine lv_bipush (v := (-4)) hx hb dX3_foretell_28 (by decide) ?_
        refine ret_i (wf := cw G g) go hw dX3_foretell_30 ?_
        exact ⟨by simp [ftI, *], rfl⟩
      · skip
        refine lv_aload_n hx hb dX3_foretell_20 rfl (lv_at hl 0 rfl) ?_
        refine lv_iconst (v := 3) hx hb dX3_foretell_21 (by decide) ?_
        refine cal_Vi' (kX3_howMany l G g x 3) go hw dX3_foretell_22 (And.intro q317 (And.intro q1 q320)) q319 qs2 kyX3_howMany ⟨Nat.le_of_ble_eq_true rfl, Nat.le_of_ble_eq_true rfl⟩ rc_X hl.1 rfl (Nat.le_of_ble_eq_true rfl) ⟨rfl, rfl⟩ ⟨Nat.le_of_ble_eq_true rfl, Nat.le_of_ble_eq_true rfl⟩ (fun H locs hw => ?_)
        refine lv_if_le (tgt := 31) hx hb dX3_foretell_25 (by decide) (fun h25 => ?_) (fun h25 => ?_)
        · skip
          refine lv_aload_n hx hb dX3_foretell_31 rfl (lv_at hl 0 rfl) ?_
          refine gXi (k := 5) (v := sI x 0 5) ⟨by decide, by decide⟩ rfl go hw dX3_foretell_32 q132 ?_
          refine lv_sipush (v := 512) hx hb dX3_foretell_35 (by decide) ?_
          refine lv_icmp_lt (tgt := 44) hx hb dX3_foretell_38 (by decide) (fun h38 => ?_) (fun h38 => ?_)
          · skip
            refine lv_aload_n hx hb dX3_foretell_44 rfl (lv_at hl 0 rfl) ?_
            refine lv_aload_n hx hb dX3_foretell_45 rfl (lv_at hl 1 rfl) ?_
            refine cal_Vi' (kX3_staleOf l G g x d hd) go hw dX3_foretell_46 (And.intro q441 (And.intro q1 q444)) q443 qs6 kyX3_staleOf ⟨Nat.le_of_ble_eq_true rfl, Nat.le_of_ble_eq_true rfl⟩ rc_X hl.1 rfl (Nat.le_of_ble_eq_true rfl) ⟨rfl, rfl⟩ ⟨Nat.le_of_ble_eq_true rfl, Nat.le_of_ble_eq_true rfl⟩ (fun H locs hw => ?_)
            refine lv_if_eq (tgt := 55) hx hb dX3_foretell_49 (by decide) (fun h49 => ?_) (fun h49 => ?_)
            · skip
              refine lv_iload_n hx hb dX3_foretell_55 rfl (lv_at hl 2 rfl) ?_
              refine lv_if_ne (tgt := 70) hx hb dX3_foretell_56 (by decide) (fun h56 => ?_) (fun h56 => ?_)
              · skip
                refine lv_iload_n hx hb dX3_foretell_70 rfl (lv_at hl 2 rfl) ?_
                refine lv_iconst (v := 2) hx hb dX3_foretell_71 (by decide) ?_
                refine lv_icmp_ne (tgt := 88) hx hb dX3_foretell_72 (by decide) (fun h72 => ?_) (fun h72 => ?_)
                · skip
                  refine lv_aload_n hx hb dX3_foretell_88 rfl (lv_at hl 0 rfl) ?_
                  refine gXi (k := 5) (v := sI x 0 5) ⟨by decide, by decide⟩ rfl go hw dX3_foretell_89 q132 ?_
                  refine lv_iconst (v := 1) hx hb dX3_foretell_92 (by decide) ?_
                  refine lv_iadd hx hb dX3_foretell_93 ?_
                  refine ret_i (wf := cw G g) go hw dX3_foretell_94 ?_
                  exact ⟨by simp [ftI, *], rfl⟩
                · skip
                  refine lv_aload_n hx hb dX3_foretell_75 rfl (lv_at hl 0 rfl) ?_
                  refine lv_aload_n hx hb dX3_foretell_76 rfl (lv_at hl 1 rfl) ?_
                  refine cal_Vi' (kX3_mustYield l G g x hN d hd) go hw dX3_foretell_77 (And.intro q449 (And.intro q1 q452)) q451 qs8 kyX3_mustYield ⟨Nat.le_of_ble_eq_true rfl, Nat.le_of_ble_eq_true rfl⟩ rc_X hl.1 rfl (Nat.le_of_ble_eq_true rfl) ⟨rfl, rfl⟩ ⟨Nat.le_of_ble_eq_true rfl, Nat.le_of_ble_eq_true rfl⟩ (fun H locs hw => ?_)
                  refine lv_if_eq (tgt := 88) hx hb dX3_foretell_80 (by decide) (fun h80 => ?_) (fun h80 => ?_)
                  · skip
                    have h80 := bI_0 h80
                    refine lv_aload_n hx hb dX3_foretell_88 rfl (lv_at hl 0 rfl) ?_
                    refine gXi (k := 5) (v := sI x 0 5) ⟨by decide, by decide⟩ rfl go hw dX3_foretell_89 q132 ?_
                    refine lv_iconst (v := 1) hx hb dX3_foretell_92 (by decide) ?_
                    refine lv_iadd hx hb dX3_foretell_93 ?_
                    refine ret_i (wf := cw G g) go hw dX3_foretell_94 ?_
                    exact ⟨by simp [ftI, *], rfl⟩
                  · skip
                    have h80 := bI_1 h80
                    refine lv_bipush (v := (-13)) hx hb dX3_foretell_83 (by decide) ?_
                    refine lv_goto (tgt := 94) hx hb dX3_foretell_85 (by decide) ?_
                    refine ret_i (wf := cw G g) go hw dX3_foretell_94 ?_
                    exact ⟨by simp [ftI, *], rfl⟩
              · skip
                refine lv_aload_n hx hb dX3_foretell_59 rfl (lv_at hl 0 rfl) ?_
                refine lv_aload_n hx hb dX3_foretell_60 rfl (lv_at hl 1 rfl) ?_
                refine cal_Vi' (kX3_crossedOf l G g x d hd) go hw dX3_foretell_61 (And.intro q445 (And.intro q1 q448)) q447 qs7 kyX3_crossedOf ⟨Nat.le_of_ble_eq_true rfl, Nat.le_of_ble_eq_true rfl⟩ rc_X hl.1 rfl (Nat.le_of_ble_eq_true rfl) ⟨rfl, rfl⟩ ⟨Nat.le_of_ble_eq_true rfl, Nat.le_of_ble_eq_true rfl⟩ (fun H locs hw => ?_)
                refine lv_if_eq (tgt := 70) hx hb dX3_foretell_64 (by decide) (fun h64 => ?_) (fun h64 => ?_)
                · skip
                  refine lv_iload_n hx hb dX3_foretell_70 rfl (lv_at hl 2 rfl) ?_
                  refine lv_iconst (v := 2) hx hb dX3_foretell_71 (by decide) ?_
                  refine lv_icmp_ne (tgt := 88) hx hb dX3_foretell_72 (by decide) (fun _ => ?_) (fun q => absurd (h56.symm.trans q) (by decide))
                  refine lv_aload_n hx hb dX3_foretell_88 rfl (lv_at hl 0 rfl) ?_
                  refine gXi (k := 5) (v := sI x 0 5) ⟨by decide, by decide⟩ rfl go hw dX3_foretell_89 q132 ?_
                  refine lv_iconst (v := 1) hx hb dX3_foretell_92 (by decide) ?_
                  refine lv_iadd hx hb dX3_foretell_93 ?_
                  refine ret_i (wf := cw G g) go hw dX3_foretell_94 ?_
                  exact ⟨by simp [ftI, *], rfl⟩
                · skip
                  refine lv_bipush (v := (-12)) hx hb dX3_foretell_67 (by decide) ?_
                  refine ret_i (wf := cw G g) go hw dX3_foretell_69 ?_
                  exact ⟨by simp [ftI, *], rfl⟩
            · skip
              refine lv_bipush (v := (-11)) hx hb dX3_foretell_52 (by decide) ?_
              refine ret_i (wf := cw G g) go hw dX3_foretell_54 ?_
              exact ⟨by simp [ftI, *], rfl⟩
          · skip
            refine lv_bipush (v := (-5)) hx hb dX3_foretell_41 (by decide) ?_
            refine ret_i (wf := cw G g) go hw dX3_foretell_43 ?_
            exact ⟨by simp [ftI, *], rfl⟩
        · skip
          refine lv_bipush (v := (-4)) hx hb dX3_foretell_28 (by decide) ?_
          refine ret_i (wf := cw G g) go hw dX3_foretell_30 ?_
          exact ⟨by simp [ftI, *], rfl⟩
    · skip
      refine lv_bipush (v := (-3)) hx hb dX3_foretell_9 (by decide) ?_
      refine ret_i (wf := cw G g) go hw dX3_foretell_11 ?_
      exact ⟨by simp [ftI, *], rfl⟩

set_option maxHeartbeats 4000000 in
set_option maxRecDepth 100000 in
theorem kX3_allValues (l : Launch) (G : Cx) (g : Nat → Nat → Nat) (x : Sg) : Ci l G yX3_allValues cX3_allValues 6 .int (Rm 0 0) (cw G g) [.ref (g 0 0)] x (fun r u => r = avI x ∧ u = x) := by
  refine Ci.mk (by decide) (Nat.le_of_ble_eq_true rfl) ?_
  intro p e s m below meth c A ls go hw hl
  generalize s.heap = H at hw ⊢
  generalize ([] : List Loc) = locs at hw ⊢
  have hx := go.1
  have hb := go.2.1
  have hl : lv_has ls 6 [(0, .ref (g 0 0))] := hl
  refine lv_iconst (v := 0) hx hb dX3_allValues_0 (by decide) ?_
  refine lv_istore_n (lv' := [(1, .int 0), (0, .ref (g 0 0))]) hx hb dX3_allValues_1 rfl hl (by decide) rfl (fun ls hl => ?_)
  refine lv_aload_n hx hb dX3_allValues_2 rfl (lv_at hl 1 rfl) ?_
  refine gX (k := 1) (v := .ref (g 0 2)) rfl (by decide) rfl go hw dX3_allValues_3 q128 ?_
  refine lv_astore_n (lv' := [(2, .ref (g 0 2)), (1, .int 0), (0, .ref (g 0 0))]) hx hb dX3_allValues_6 rfl hl (by decide) rfl (fun ls hl => ?_)
  refine lv_aload_n hx hb dX3_allValues_7 rfl (lv_at hl 0 rfl) ?_
  refine lX go hw dX3_allValues_8 ?_
  refine lv_istore_n (lv' := [(3, .int (nI 8)), (2, .ref (g 0 2)), (1, .int 0), (0, .ref (g 0 0))]) hx hb dX3_allValues_9 rfl hl (by decide) rfl (fun ls hl => ?_)
  refine lv_iconst (v := 0) hx hb dX3_allValues_10 (by decide) ?_
  refine lv_istore (lv' := [(4, .int 0), (3, .int (nI 8)), (2, .ref (g 0 2)), (1, .int 0), (0, .ref (g 0 0))]) hx hb dX3_allValues_11 hl (by decide) rfl (fun ls hl => ?_)
  have hl0 : lv_has ls 6 [(0, .ref (g 0 0)), (1, .int (foI (fun i a => a + sA x 0 1 i) 0 0)), (2, .ref (g 0 2)), (3, .int (nI 8)), (4, .int (nI 0))] := lv_to (lv_sub (l' := [(0, .ref (g 0 0)), (1, .int 0), (2, .ref (g 0 2)), (3, .int (nI 8)), (4, .int 0)]) hl [4, 3, 2, 1, 0] rfl) (lr (lc (show (0 : Int32) = foI (fun i a => a + sA x 0 1 i) 0 0 from rfl) (lr (lr (lc (show (0 : Int32) = nI 0 from rfl) rfl)))))
  refine loop_up (N := 8) (P := fun i H locs ls => Wd G A s H locs (cw G g x) ∧ lv_has ls 6 [(0, .ref (g 0 0)), (1, .int (foI (fun i a => a + sA x 0 1 i) 0 i)), (2, .ref (g 0 2)), (3, .int (nI 8)), (4, .int (nI i))]) (X := fun H locs ls => W p l e (Rm 0 0) s m ([.ref (g 0 0)] : List Value).toArray below meth c H locs 0 0 (MQ below (va_Qi (fun r u => r = avI x ∧ u = x) (PostW G (cw G g) A) A) ([.ref (g 0 0)] : List Value).toArray s (Rm 0 0).cells (Rm 0 0).slots A) (F0 m 13 ls [])) ?_ 0 (by omega) H locs ls ⟨hw, hl0⟩
  clear hl0 hl hw
  intro i hi ih H locs ls hP
  obtain ⟨hw, hl⟩ := hP
  refine lv_iload hx hb dX3_allValues_13 (lv_at hl 4 rfl) ?_
  refine lv_iload_n hx hb dX3_allValues_15 rfl (lv_at hl 3 rfl) ?_
  refine lv_icmp_ge (tgt := 36) hx hb dX3_allValues_16 (by decide) (fun h16 => ?_) (fun h16 => ?_)
  · skip
    have hE : i = 8 := lp_end h16 rfl rfl hi (by decide)
    subst hE
    refine lv_iload_n hx hb dX3_allValues_36 rfl (lv_at hl 1 rfl) ?_
    refine ret_i (wf := cw G g) go hw dX3_allValues_37 ?_
    exact ⟨rfl, rfl⟩
  · skip
    have hlt : i < 8 := lp_in h16 rfl rfl hi (by decide)
    refine lv_aload_n hx hb dX3_allValues_19 rfl (lv_at hl 2 rfl) ?_
    refine lv_iload hx hb dX3_allValues_20 (lv_at hl 4 rfl) ?_
    refine aX (k := 1) (j := i) (by decide) (by exact hlt) go hw dX3_allValues_22 ?_
    refine lv_istore (lv' := [(5, .int (sA x 0 1 i)), (0, .ref (g 0 0)), (1, .int (foI (fun i a => a + sA x 0 1 i) 0 i)), (2, .ref (g 0 2)), (3, .int (nI 8)), (4, .int (nI i))]) hx hb dX3_allValues_23 hl (by decide) rfl (fun ls hl => ?_)
    refine lv_iload_n hx hb dX3_allValues_25 rfl (lv_at hl 2 rfl) ?_
    refine lv_iload hx hb dX3_allValues_26 (lv_at hl 0 rfl) ?_
    refine lv_iadd hx hb dX3_allValues_28 ?_
    refine lv_istore_n (lv' := [(1, .int ((foI (fun i a => a + sA x 0 1 i) 0 i) + (sA x 0 1 i))), (5, .int (sA x 0 1 i)), (0, .ref (g 0 0)), (2, .ref (g 0 2)), (3, .int (nI 8)), (4, .int (nI i))]) hx hb dX3_allValues_29 rfl hl (by decide) rfl (fun ls hl => ?_)
    refine lv_iinc (v := nI (i + 1)) (lv' := [(4, .int (nI (i + 1))), (1, .int ((foI (fun i a => a + sA x 0 1 i) 0 i) + (sA x 0 1 i))), (5, .int (sA x 0 1 i)), (0, .ref (g 0 0)), (2, .ref (g 0 2)), (3, .int (nI 8))]) hx hb dX3_allValues_30 hl (k := 5) rfl (nI_1 _) (by decide) rfl (fun ls hl => ?_)
    refine lv_goto (tgt := 13) hx hb dX3_allValues_33 (by decide) ?_
    have hl9 : lv_has ls 6 [(0, .ref (g 0 0)), (1, .int (foI (fun i a => a + sA x 0 1 i) 0 (i + 1))), (2, .ref (g 0 2)), (3, .int (nI 8)), (4, .int (nI (i + 1)))] := lv_to (lv_sub (l' := [(0, .ref (g 0 0)), (1, .int ((foI (fun i a => a + sA x 0 1 i) 0 i) + (sA x 0 1 i))), (2, .ref (g 0 2)), (3, .int (nI 8)), (4, .int (nI (i + 1)))]) hl [3, 1, 4, 5, 0] rfl) (lr (lc (show ((foI (fun i a => a + sA x 0 1 i) 0 i) + (sA x 0 1 i) : Int32) = foI (fun i a => a + sA x 0 1 i) 0 (i + 1) from rfl) (lr (lr (lr rfl)))))
    exact ih _ _ _ (by omega) ⟨hw, hl9⟩

set_option maxHeartbeats 4000000 in
set_option maxRecDepth 100000 in
theorem kX3_entryOf_t (l : Launch) (G : Cx) (g : Nat → Nat → Nat) (x : Sg) (c0 : Nat) (hc : sI x 0 5 = nI c0) (hcs : c0 ≤ sN x) (hc5 : c0 ≤ 512) (n : Nat) (hn : n < c0) : Cq l G yX3_entryOf cX3_entryOf 2 (.object "LateChecks$Entry") (Rm 0 0) (cw G g) [.ref (g 0 0), .int (nI (n + 1))] x (fun r u => r = some (sE x n 0) ∧ u = x) := by
  refine Cq.mk (by decide) (Nat.le_of_ble_eq_true rfl) ?_
  intro p e s m below meth c A ls go hw hl
  generalize s.heap = H at hw ⊢
  generalize ([] : List Loc) = locs at hw ⊢
  have hx := go.1
  have hb := go.2.1
  have hl : lv_has ls 2 [(0, .ref (g 0 0)), (1, .int (nI (n + 1)))] := hl
  refine lv_iload_n hx hb dX3_entryOf_0 rfl (lv_at hl 1 rfl) ?_
  refine lv_iconst (v := 1) hx hb dX3_entryOf_1 (by decide) ?_
  refine lv_icmp_lt (tgt := 20) hx hb dX3_entryOf_2 (by decide) (fun h2 => absurd h2 (by exact nI_nlt (a := n + 1) (b := 1) (by omega) (by omega))) (fun h2 => ?_)
  refine lv_iload_n hx hb dX3_entryOf_5 rfl (lv_at hl 1 rfl) ?_
  refine lv_aload_n hx hb dX3_entryOf_6 rfl (lv_at hl 0 rfl) ?_
  refine gXi (k := 5) (v := nI c0) ⟨by decide, by decide⟩ hc go hw dX3_entryOf_7 q132 ?_
  refine lv_icmp_gt (tgt := 20) hx hb dX3_entryOf_10 (by decide) (fun h10 => absurd h10 (by exact nI_nlt (by omega) (by omega))) (fun h10 => ?_)
  refine lv_iload_n hx hb dX3_entryOf_13 rfl (lv_at hl 1 rfl) ?_
  refine lv_sipush (v := 512) hx hb dX3_entryOf_14 (by decide) ?_
  refine lv_icmp_le (tgt := 22) hx hb dX3_entryOf_17 (by decide) (fun h17 => ?_) (fun h17 => absurd h17 (by exact fun q => q (nI_le (b := 512) (by omega) (by decide))))
  refine lv_aload_n hx hb dX3_entryOf_22 rfl (lv_at hl 0 rfl) ?_
  refine gX (k := 4) (v := .ref (g 0 5)) rfl (by decide) rfl go hw dX3_entryOf_23 q131 ?_
  refine lv_iload_n hx hb dX3_entryOf_26 rfl (lv_at hl 1 rfl) ?_
  refine lv_iconst (v := 1) hx hb dX3_entryOf_27 (by decide) ?_
  refine lv_isub hx hb dX3_entryOf_28 ?_
  refine toI (show ((nI (n + 1)) - 1 : Int32) = nI n from by exact nI_pred n) ?_
  refine aEn (n := n) (by omega) go hw dX3_entryOf_29 ?_
  refine ret_q (r := (entF x n)) (wf := cw G g) go hw dX3_entryOf_30 ?_
  exact ⟨by rw [entF, if_pos (by omega)], rfl⟩

set_option maxHeartbeats 4000000 in
set_option maxRecDepth 100000 in
theorem kX3_entryOf_f (l : Launch) (G : Cx) (g : Nat → Nat → Nat) (x : Sg) (c0 : Nat) (hc : sI x 0 5 = nI c0) (hcs : c0 ≤ sN x) (hc5 : c0 ≤ 512) (k : Int32) (hk : okE c0 k = false) : Cq l G yX3_entryOf cX3_entryOf 2 (.object "LateChecks$Entry") (Rm 0 0) (cw G g) [.ref (g 0 0), .int k] x (fun r u => r = none ∧ u = x) := by
  refine Cq.mk (by decide) (Nat.le_of_ble_eq_true rfl) ?_
  intro p e s m below meth c A ls go hw hl
  generalize s.heap = H at hw ⊢
  generalize ([] : List Loc) = locs at hw ⊢
  have hx := go.1
  have hb := go.2.1
  have hl : lv_has ls 2 [(0, .ref (g 0 0)), (1, .int k)] := hl
  refine lv_iload_n hx hb dX3_entryOf_0 rfl (lv_at hl 1 rfl) ?_
  refine lv_iconst (v := 1) hx hb dX3_entryOf_1 (by decide) ?_
  refine lv_icmp_lt (tgt := 20) hx hb dX3_entryOf_2 (by decide) (fun h2 => ?_) (fun h2 => ?_)
  · skip
    refine lv_null hx hb dX3_entryOf_20 ?_
    refine ret_q (r := none) (wf := cw G g) go hw dX3_entryOf_21 ?_
    exact ⟨rfl, rfl⟩
  · skip
    refine lv_iload_n hx hb dX3_entryOf_5 rfl (lv_at hl 1 rfl) ?_
    refine lv_aload_n hx hb dX3_entryOf_6 rfl (lv_at hl 0 rfl) ?_
    refine gXi (k := 5) (v := nI c0) ⟨by decide, by decide⟩ hc go hw dX3_entryOf_7 q132 ?_
    refine lv_icmp_gt (tgt := 20) hx hb dX3_entryOf_10 (by decide) (fun h10 => ?_) (fun h10 => absurd h10 (by exact fun q => by simp [okE, h2, q] at hk))
    refine lv_null hx hb dX3_entryOf_20 ?_
    refine ret_q (r := none) (wf := cw G g) go hw dX3_entryOf_21 ?_
    exact ⟨rfl, rfl⟩
end
