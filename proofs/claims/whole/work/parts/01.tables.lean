-- ===== PART A: goes FIRST, ahead of the names: the tables' words, and 'selects' of the private methods out of them =====
/-- a private method of a class that the tables say can be made, by its rows of tables_1 -/
def lw_okq (q : MethodName × Nat) : Prop := (q.1.cls ≠ "java/lang/invoke/MethodHandle" ∧ q.1.cls ≠ "java/lang/invoke/VarHandle") ∧ Cond.instantiable q.1.cls q.2 ∈ tables_1 ∧ Cond.privateMethod q.1 ∈ tables_1 ∧ Cond.instanceMethod q.1 ∈ tables_1
theorem lw_p0 : lw_okq (⟨"LateChecks", "startAnew", "()V"⟩, 12) := ⟨⟨by decide +kernel, by decide +kernel⟩, List.mem_of_getElem? (i := 12) (by decide +kernel), List.mem_of_getElem? (i := 120) (by decide +kernel), List.mem_of_getElem? (i := 121) (by decide +kernel)⟩
theorem lw_p1 : lw_okq (⟨"LateChecks", "doClause", "(I)V"⟩, 12) := ⟨⟨by decide +kernel, by decide +kernel⟩, List.mem_of_getElem? (i := 12) (by decide +kernel), List.mem_of_getElem? (i := 296) (by decide +kernel), List.mem_of_getElem? (i := 297) (by decide +kernel)⟩
theorem lw_p2 : lw_okq (⟨"LateChecks", "howMany", "(I)I"⟩, 12) := ⟨⟨by decide +kernel, by decide +kernel⟩, List.mem_of_getElem? (i := 12) (by decide +kernel), List.mem_of_getElem? (i := 318) (by decide +kernel), List.mem_of_getElem? (i := 319) (by decide +kernel)⟩
theorem lw_p3 : lw_okq (⟨"LateChecks", "nextEntry", "()LLateChecks$Entry;"⟩, 12) := ⟨⟨by decide +kernel, by decide +kernel⟩, List.mem_of_getElem? (i := 12) (by decide +kernel), List.mem_of_getElem? (i := 322) (by decide +kernel), List.mem_of_getElem? (i := 323) (by decide +kernel)⟩
theorem lw_p4 : lw_okq (⟨"LateChecks", "change", "(II)V"⟩, 12) := ⟨⟨by decide +kernel, by decide +kernel⟩, List.mem_of_getElem? (i := 12) (by decide +kernel), List.mem_of_getElem? (i := 371) (by decide +kernel), List.mem_of_getElem? (i := 372) (by decide +kernel)⟩
theorem lw_p5 : lw_okq (⟨"LateChecks", "foretell", "(LLateChecks$Deal;I)I"⟩, 12) := ⟨⟨by decide +kernel, by decide +kernel⟩, List.mem_of_getElem? (i := 12) (by decide +kernel), List.mem_of_getElem? (i := 438) (by decide +kernel), List.mem_of_getElem? (i := 439) (by decide +kernel)⟩
theorem lw_p6 : lw_okq (⟨"LateChecks", "staleOf", "(LLateChecks$Deal;)I"⟩, 12) := ⟨⟨by decide +kernel, by decide +kernel⟩, List.mem_of_getElem? (i := 12) (by decide +kernel), List.mem_of_getElem? (i := 442) (by decide +kernel), List.mem_of_getElem? (i := 443) (by decide +kernel)⟩
theorem lw_p7 : lw_okq (⟨"LateChecks", "crossedOf", "(LLateChecks$Deal;)I"⟩, 12) := ⟨⟨by decide +kernel, by decide +kernel⟩, List.mem_of_getElem? (i := 12) (by decide +kernel), List.mem_of_getElem? (i := 446) (by decide +kernel), List.mem_of_getElem? (i := 447) (by decide +kernel)⟩
theorem lw_p8 : lw_okq (⟨"LateChecks", "mustYield", "(LLateChecks$Deal;)Z"⟩, 12) := ⟨⟨by decide +kernel, by decide +kernel⟩, List.mem_of_getElem? (i := 12) (by decide +kernel), List.mem_of_getElem? (i := 450) (by decide +kernel), List.mem_of_getElem? (i := 451) (by decide +kernel)⟩
theorem lw_p9 : lw_okq (⟨"LateChecks", "rivalsOf", "(LLateChecks$Deal;)I"⟩, 12) := ⟨⟨by decide +kernel, by decide +kernel⟩, List.mem_of_getElem? (i := 12) (by decide +kernel), List.mem_of_getElem? (i := 454) (by decide +kernel), List.mem_of_getElem? (i := 455) (by decide +kernel)⟩
theorem lw_p10 : lw_okq (⟨"LateChecks", "goesFirst", "(LLateChecks$Deal;LLateChecks$Deal;)Z"⟩, 12) := ⟨⟨by decide +kernel, by decide +kernel⟩, List.mem_of_getElem? (i := 12) (by decide +kernel), List.mem_of_getElem? (i := 458) (by decide +kernel), List.mem_of_getElem? (i := 459) (by decide +kernel)⟩
theorem lw_p11 : lw_okq (⟨"LateChecks", "isStubborn", "(LLateChecks$Deal;)Z"⟩, 12) := ⟨⟨by decide +kernel, by decide +kernel⟩, List.mem_of_getElem? (i := 12) (by decide +kernel), List.mem_of_getElem? (i := 462) (by decide +kernel), List.mem_of_getElem? (i := 463) (by decide +kernel)⟩
theorem lw_p12 : lw_okq (⟨"LateChecks", "lose", "(LLateChecks$Deal;I)I"⟩, 12) := ⟨⟨by decide +kernel, by decide +kernel⟩, List.mem_of_getElem? (i := 12) (by decide +kernel), List.mem_of_getElem? (i := 469) (by decide +kernel), List.mem_of_getElem? (i := 470) (by decide +kernel)⟩
theorem lw_p13 : lw_okq (⟨"LateChecks", "doomAll", "(I)V"⟩, 12) := ⟨⟨by decide +kernel, by decide +kernel⟩, List.mem_of_getElem? (i := 12) (by decide +kernel), List.mem_of_getElem? (i := 473) (by decide +kernel), List.mem_of_getElem? (i := 474) (by decide +kernel)⟩
theorem lw_p14 : lw_okq (⟨"LateChecks", "keep", "(LLateChecks$Deal;I)I"⟩, 12) := ⟨⟨by decide +kernel, by decide +kernel⟩, List.mem_of_getElem? (i := 12) (by decide +kernel), List.mem_of_getElem? (i := 477) (by decide +kernel), List.mem_of_getElem? (i := 478) (by decide +kernel)⟩
theorem lw_p15 : lw_okq (⟨"LateChecks", "firstWithoutVote", "(I)I"⟩, 12) := ⟨⟨by decide +kernel, by decide +kernel⟩, List.mem_of_getElem? (i := 12) (by decide +kernel), List.mem_of_getElem? (i := 505) (by decide +kernel), List.mem_of_getElem? (i := 506) (by decide +kernel)⟩
def lw_privs_1 : List (MethodName × Nat) := [(⟨"LateChecks", "startAnew", "()V"⟩, 12), (⟨"LateChecks", "doClause", "(I)V"⟩, 12), (⟨"LateChecks", "howMany", "(I)I"⟩, 12), (⟨"LateChecks", "nextEntry", "()LLateChecks$Entry;"⟩, 12), (⟨"LateChecks", "change", "(II)V"⟩, 12), (⟨"LateChecks", "foretell", "(LLateChecks$Deal;I)I"⟩, 12), (⟨"LateChecks", "staleOf", "(LLateChecks$Deal;)I"⟩, 12), (⟨"LateChecks", "crossedOf", "(LLateChecks$Deal;)I"⟩, 12), (⟨"LateChecks", "mustYield", "(LLateChecks$Deal;)Z"⟩, 12), (⟨"LateChecks", "rivalsOf", "(LLateChecks$Deal;)I"⟩, 12), (⟨"LateChecks", "goesFirst", "(LLateChecks$Deal;LLateChecks$Deal;)Z"⟩, 12), (⟨"LateChecks", "isStubborn", "(LLateChecks$Deal;)Z"⟩, 12), (⟨"LateChecks", "lose", "(LLateChecks$Deal;I)I"⟩, 12), (⟨"LateChecks", "doomAll", "(I)V"⟩, 12), (⟨"LateChecks", "keep", "(LLateChecks$Deal;I)I"⟩, 12), (⟨"LateChecks", "firstWithoutVote", "(I)I"⟩, 12)]
theorem lw_r1 : ∀ q ∈ lw_privs_1, lw_okq q := List.forall_mem_cons.mpr ⟨lw_p0, List.forall_mem_cons.mpr ⟨lw_p1, List.forall_mem_cons.mpr ⟨lw_p2, List.forall_mem_cons.mpr ⟨lw_p3, List.forall_mem_cons.mpr ⟨lw_p4, List.forall_mem_cons.mpr ⟨lw_p5, List.forall_mem_cons.mpr ⟨lw_p6, List.forall_mem_cons.mpr ⟨lw_p7, List.forall_mem_cons.mpr ⟨lw_p8, List.forall_mem_cons.mpr ⟨lw_p9, List.forall_mem_cons.mpr ⟨lw_p10, List.forall_mem_cons.mpr ⟨lw_p11, List.forall_mem_cons.mpr ⟨lw_p12, List.forall_mem_cons.mpr ⟨lw_p13, List.forall_mem_cons.mpr ⟨lw_p14, List.forall_mem_cons.mpr ⟨lw_p15, fun _ h => absurd h List.not_mem_nil⟩⟩⟩⟩⟩⟩⟩⟩⟩⟩⟩⟩⟩⟩⟩⟩
theorem lw_p16 : lw_okq (⟨"LateChecks", "sentAt", "(I)I"⟩, 12) := ⟨⟨by decide +kernel, by decide +kernel⟩, List.mem_of_getElem? (i := 12) (by decide +kernel), List.mem_of_getElem? (i := 509) (by decide +kernel), List.mem_of_getElem? (i := 510) (by decide +kernel)⟩
theorem lw_p17 : lw_okq (⟨"LateChecks", "sentBefore", "(LLateChecks$Deal;)I"⟩, 12) := ⟨⟨by decide +kernel, by decide +kernel⟩, List.mem_of_getElem? (i := 12) (by decide +kernel), List.mem_of_getElem? (i := 513) (by decide +kernel), List.mem_of_getElem? (i := 514) (by decide +kernel)⟩
theorem lw_p18 : lw_okq (⟨"LateChecks", "opinion", "(ILLateChecks$Deal;)I"⟩, 12) := ⟨⟨by decide +kernel, by decide +kernel⟩, List.mem_of_getElem? (i := 12) (by decide +kernel), List.mem_of_getElem? (i := 517) (by decide +kernel), List.mem_of_getElem? (i := 518) (by decide +kernel)⟩
theorem lw_p19 : lw_okq (⟨"LateChecks", "promisedBefore", "(ILLateChecks$Deal;)I"⟩, 12) := ⟨⟨by decide +kernel, by decide +kernel⟩, List.mem_of_getElem? (i := 12) (by decide +kernel), List.mem_of_getElem? (i := 521) (by decide +kernel), List.mem_of_getElem? (i := 522) (by decide +kernel)⟩
theorem lw_p20 : lw_okq (⟨"LateChecks", "entryOf", "(I)LLateChecks$Entry;"⟩, 12) := ⟨⟨by decide +kernel, by decide +kernel⟩, List.mem_of_getElem? (i := 12) (by decide +kernel), List.mem_of_getElem? (i := 560) (by decide +kernel), List.mem_of_getElem? (i := 561) (by decide +kernel)⟩
theorem lw_p21 : lw_okq (⟨"LateChecks", "allValues", "()I"⟩, 12) := ⟨⟨by decide +kernel, by decide +kernel⟩, List.mem_of_getElem? (i := 12) (by decide +kernel), List.mem_of_getElem? (i := 581) (by decide +kernel), List.mem_of_getElem? (i := 582) (by decide +kernel)⟩
theorem lw_p22 : lw_okq (⟨"LateChecksModel", "readsAll", "(Z)Z"⟩, 30) := ⟨⟨by decide +kernel, by decide +kernel⟩, List.mem_of_getElem? (i := 585) (by decide +kernel), List.mem_of_getElem? (i := 699) (by decide +kernel), List.mem_of_getElem? (i := 700) (by decide +kernel)⟩
theorem lw_p23 : lw_okq (⟨"LateChecksModel", "next", "()V"⟩, 30) := ⟨⟨by decide +kernel, by decide +kernel⟩, List.mem_of_getElem? (i := 585) (by decide +kernel), List.mem_of_getElem? (i := 703) (by decide +kernel), List.mem_of_getElem? (i := 704) (by decide +kernel)⟩
theorem lw_p24 : lw_okq (⟨"LateChecksModel", "readsClause", "()Z"⟩, 30) := ⟨⟨by decide +kernel, by decide +kernel⟩, List.mem_of_getElem? (i := 585) (by decide +kernel), List.mem_of_getElem? (i := 717) (by decide +kernel), List.mem_of_getElem? (i := 718) (by decide +kernel)⟩
theorem lw_p25 : lw_okq (⟨"LateChecksModel", "wordHere", "()I"⟩, 30) := ⟨⟨by decide +kernel, by decide +kernel⟩, List.mem_of_getElem? (i := 585) (by decide +kernel), List.mem_of_getElem? (i := 721) (by decide +kernel), List.mem_of_getElem? (i := 722) (by decide +kernel)⟩
theorem lw_p26 : lw_okq (⟨"LateChecksModel", "readsRest", "(I)Z"⟩, 30) := ⟨⟨by decide +kernel, by decide +kernel⟩, List.mem_of_getElem? (i := 585) (by decide +kernel), List.mem_of_getElem? (i := 725) (by decide +kernel), List.mem_of_getElem? (i := 726) (by decide +kernel)⟩
theorem lw_p27 : lw_okq (⟨"LateChecksModel", "reads", "(III)Z"⟩, 30) := ⟨⟨by decide +kernel, by decide +kernel⟩, List.mem_of_getElem? (i := 585) (by decide +kernel), List.mem_of_getElem? (i := 729) (by decide +kernel), List.mem_of_getElem? (i := 730) (by decide +kernel)⟩
theorem lw_p28 : lw_okq (⟨"LateChecksModel", "does", "(I)V"⟩, 30) := ⟨⟨by decide +kernel, by decide +kernel⟩, List.mem_of_getElem? (i := 585) (by decide +kernel), List.mem_of_getElem? (i := 733) (by decide +kernel), List.mem_of_getElem? (i := 734) (by decide +kernel)⟩
theorem lw_p29 : lw_okq (⟨"LateChecksModel", "allAnew", "()V"⟩, 30) := ⟨⟨by decide +kernel, by decide +kernel⟩, List.mem_of_getElem? (i := 585) (by decide +kernel), List.mem_of_getElem? (i := 737) (by decide +kernel), List.mem_of_getElem? (i := 738) (by decide +kernel)⟩
theorem lw_p30 : lw_okq (⟨"LateChecksModel", "frees", "(IZ)V"⟩, 30) := ⟨⟨by decide +kernel, by decide +kernel⟩, List.mem_of_getElem? (i := 585) (by decide +kernel), List.mem_of_getElem? (i := 741) (by decide +kernel), List.mem_of_getElem? (i := 742) (by decide +kernel)⟩
theorem lw_p31 : lw_okq (⟨"LateChecksModel", "inState", "(I)I"⟩, 30) := ⟨⟨by decide +kernel, by decide +kernel⟩, List.mem_of_getElem? (i := 585) (by decide +kernel), List.mem_of_getElem? (i := 754) (by decide +kernel), List.mem_of_getElem? (i := 755) (by decide +kernel)⟩
def lw_privs_2 : List (MethodName × Nat) := [(⟨"LateChecks", "sentAt", "(I)I"⟩, 12), (⟨"LateChecks", "sentBefore", "(LLateChecks$Deal;)I"⟩, 12), (⟨"LateChecks", "opinion", "(ILLateChecks$Deal;)I"⟩, 12), (⟨"LateChecks", "promisedBefore", "(ILLateChecks$Deal;)I"⟩, 12), (⟨"LateChecks", "entryOf", "(I)LLateChecks$Entry;"⟩, 12), (⟨"LateChecks", "allValues", "()I"⟩, 12), (⟨"LateChecksModel", "readsAll", "(Z)Z"⟩, 30), (⟨"LateChecksModel", "next", "()V"⟩, 30), (⟨"LateChecksModel", "readsClause", "()Z"⟩, 30), (⟨"LateChecksModel", "wordHere", "()I"⟩, 30), (⟨"LateChecksModel", "readsRest", "(I)Z"⟩, 30), (⟨"LateChecksModel", "reads", "(III)Z"⟩, 30), (⟨"LateChecksModel", "does", "(I)V"⟩, 30), (⟨"LateChecksModel", "allAnew", "()V"⟩, 30), (⟨"LateChecksModel", "frees", "(IZ)V"⟩, 30), (⟨"LateChecksModel", "inState", "(I)I"⟩, 30)]
theorem lw_r2 : ∀ q ∈ lw_privs_2, lw_okq q := List.forall_mem_cons.mpr ⟨lw_p16, List.forall_mem_cons.mpr ⟨lw_p17, List.forall_mem_cons.mpr ⟨lw_p18, List.forall_mem_cons.mpr ⟨lw_p19, List.forall_mem_cons.mpr ⟨lw_p20, List.forall_mem_cons.mpr ⟨lw_p21, List.forall_mem_cons.mpr ⟨lw_p22, List.forall_mem_cons.mpr ⟨lw_p23, List.forall_mem_cons.mpr ⟨lw_p24, List.forall_mem_cons.mpr ⟨lw_p25, List.forall_mem_cons.mpr ⟨lw_p26, List.forall_mem_cons.mpr ⟨lw_p27, List.forall_mem_cons.mpr ⟨lw_p28, List.forall_mem_cons.mpr ⟨lw_p29, List.forall_mem_cons.mpr ⟨lw_p30, List.forall_mem_cons.mpr ⟨lw_p31, fun _ h => absurd h List.not_mem_nil⟩⟩⟩⟩⟩⟩⟩⟩⟩⟩⟩⟩⟩⟩⟩⟩
theorem lw_p32 : lw_okq (⟨"LateChecksModel", "logs", "(II)I"⟩, 30) := ⟨⟨by decide +kernel, by decide +kernel⟩, List.mem_of_getElem? (i := 585) (by decide +kernel), List.mem_of_getElem? (i := 758) (by decide +kernel), List.mem_of_getElem? (i := 759) (by decide +kernel)⟩
theorem lw_p33 : lw_okq (⟨"LateChecksModel", "puts", "(II)V"⟩, 30) := ⟨⟨by decide +kernel, by decide +kernel⟩, List.mem_of_getElem? (i := 585) (by decide +kernel), List.mem_of_getElem? (i := 765) (by decide +kernel), List.mem_of_getElem? (i := 766) (by decide +kernel)⟩
theorem lw_p34 : lw_okq (⟨"LateChecksModel", "opens", "(I)V"⟩, 30) := ⟨⟨by decide +kernel, by decide +kernel⟩, List.mem_of_getElem? (i := 585) (by decide +kernel), List.mem_of_getElem? (i := 782) (by decide +kernel), List.mem_of_getElem? (i := 783) (by decide +kernel)⟩
theorem lw_p35 : lw_okq (⟨"LateChecksModel", "refused", "(II)I"⟩, 30) := ⟨⟨by decide +kernel, by decide +kernel⟩, List.mem_of_getElem? (i := 585) (by decide +kernel), List.mem_of_getElem? (i := 822) (by decide +kernel), List.mem_of_getElem? (i := 823) (by decide +kernel)⟩
theorem lw_p36 : lw_okq (⟨"LateChecksModel", "checks", "(II)I"⟩, 30) := ⟨⟨by decide +kernel, by decide +kernel⟩, List.mem_of_getElem? (i := 585) (by decide +kernel), List.mem_of_getElem? (i := 827) (by decide +kernel), List.mem_of_getElem? (i := 828) (by decide +kernel)⟩
theorem lw_p37 : lw_okq (⟨"LateChecksModel", "stale", "(I)I"⟩, 30) := ⟨⟨by decide +kernel, by decide +kernel⟩, List.mem_of_getElem? (i := 585) (by decide +kernel), List.mem_of_getElem? (i := 831) (by decide +kernel), List.mem_of_getElem? (i := 832) (by decide +kernel)⟩
theorem lw_p38 : lw_okq (⟨"LateChecksModel", "crossed", "(I)I"⟩, 30) := ⟨⟨by decide +kernel, by decide +kernel⟩, List.mem_of_getElem? (i := 585) (by decide +kernel), List.mem_of_getElem? (i := 835) (by decide +kernel), List.mem_of_getElem? (i := 836) (by decide +kernel)⟩
theorem lw_p39 : lw_okq (⟨"LateChecksModel", "rivals", "(I)I"⟩, 30) := ⟨⟨by decide +kernel, by decide +kernel⟩, List.mem_of_getElem? (i := 585) (by decide +kernel), List.mem_of_getElem? (i := 839) (by decide +kernel), List.mem_of_getElem? (i := 840) (by decide +kernel)⟩
theorem lw_p40 : lw_okq (⟨"LateChecksModel", "isWeaker", "(II)Z"⟩, 30) := ⟨⟨by decide +kernel, by decide +kernel⟩, List.mem_of_getElem? (i := 585) (by decide +kernel), List.mem_of_getElem? (i := 843) (by decide +kernel), List.mem_of_getElem? (i := 844) (by decide +kernel)⟩
theorem lw_p41 : lw_okq (⟨"LateChecksModel", "isStubborn", "(I)Z"⟩, 30) := ⟨⟨by decide +kernel, by decide +kernel⟩, List.mem_of_getElem? (i := 585) (by decide +kernel), List.mem_of_getElem? (i := 847) (by decide +kernel), List.mem_of_getElem? (i := 848) (by decide +kernel)⟩
theorem lw_p42 : lw_okq (⟨"LateChecksModel", "fails", "(II)V"⟩, 30) := ⟨⟨by decide +kernel, by decide +kernel⟩, List.mem_of_getElem? (i := 585) (by decide +kernel), List.mem_of_getElem? (i := 851) (by decide +kernel), List.mem_of_getElem? (i := 852) (by decide +kernel)⟩
theorem lw_p43 : lw_okq (⟨"LateChecksModel", "commits", "(II)I"⟩, 30) := ⟨⟨by decide +kernel, by decide +kernel⟩, List.mem_of_getElem? (i := 585) (by decide +kernel), List.mem_of_getElem? (i := 855) (by decide +kernel), List.mem_of_getElem? (i := 856) (by decide +kernel)⟩
theorem lw_p44 : lw_okq (⟨"LateChecksModel", "firstSent", "(I)I"⟩, 30) := ⟨⟨by decide +kernel, by decide +kernel⟩, List.mem_of_getElem? (i := 585) (by decide +kernel), List.mem_of_getElem? (i := 876) (by decide +kernel), List.mem_of_getElem? (i := 877) (by decide +kernel)⟩
theorem lw_p45 : lw_okq (⟨"LateChecksModel", "isCommit", "(I)Z"⟩, 30) := ⟨⟨by decide +kernel, by decide +kernel⟩, List.mem_of_getElem? (i := 585) (by decide +kernel), List.mem_of_getElem? (i := 904) (by decide +kernel), List.mem_of_getElem? (i := 905) (by decide +kernel)⟩
theorem lw_p46 : lw_okq (⟨"LateChecksModel", "allValues", "()I"⟩, 30) := ⟨⟨by decide +kernel, by decide +kernel⟩, List.mem_of_getElem? (i := 585) (by decide +kernel), List.mem_of_getElem? (i := 920) (by decide +kernel), List.mem_of_getElem? (i := 921) (by decide +kernel)⟩
def lw_privs_3 : List (MethodName × Nat) := [(⟨"LateChecksModel", "logs", "(II)I"⟩, 30), (⟨"LateChecksModel", "puts", "(II)V"⟩, 30), (⟨"LateChecksModel", "opens", "(I)V"⟩, 30), (⟨"LateChecksModel", "refused", "(II)I"⟩, 30), (⟨"LateChecksModel", "checks", "(II)I"⟩, 30), (⟨"LateChecksModel", "stale", "(I)I"⟩, 30), (⟨"LateChecksModel", "crossed", "(I)I"⟩, 30), (⟨"LateChecksModel", "rivals", "(I)I"⟩, 30), (⟨"LateChecksModel", "isWeaker", "(II)Z"⟩, 30), (⟨"LateChecksModel", "isStubborn", "(I)Z"⟩, 30), (⟨"LateChecksModel", "fails", "(II)V"⟩, 30), (⟨"LateChecksModel", "commits", "(II)I"⟩, 30), (⟨"LateChecksModel", "firstSent", "(I)I"⟩, 30), (⟨"LateChecksModel", "isCommit", "(I)Z"⟩, 30), (⟨"LateChecksModel", "allValues", "()I"⟩, 30)]
theorem lw_r3 : ∀ q ∈ lw_privs_3, lw_okq q := List.forall_mem_cons.mpr ⟨lw_p32, List.forall_mem_cons.mpr ⟨lw_p33, List.forall_mem_cons.mpr ⟨lw_p34, List.forall_mem_cons.mpr ⟨lw_p35, List.forall_mem_cons.mpr ⟨lw_p36, List.forall_mem_cons.mpr ⟨lw_p37, List.forall_mem_cons.mpr ⟨lw_p38, List.forall_mem_cons.mpr ⟨lw_p39, List.forall_mem_cons.mpr ⟨lw_p40, List.forall_mem_cons.mpr ⟨lw_p41, List.forall_mem_cons.mpr ⟨lw_p42, List.forall_mem_cons.mpr ⟨lw_p43, List.forall_mem_cons.mpr ⟨lw_p44, List.forall_mem_cons.mpr ⟨lw_p45, List.forall_mem_cons.mpr ⟨lw_p46, fun _ h => absurd h List.not_mem_nil⟩⟩⟩⟩⟩⟩⟩⟩⟩⟩⟩⟩⟩⟩⟩
def lw_privs : List (MethodName × Nat) := lw_privs_1 ++ (lw_privs_2 ++ (lw_privs_3))
def lw_tbl : List Cond := k2_sels lw_privs ++ tables_1
theorem lw_privs_ok : ∀ q ∈ lw_privs, lw_okq q := by
  show ∀ q ∈ lw_privs_1 ++ (lw_privs_2 ++ (lw_privs_3)), lw_okq q
  exact List.forall_mem_append.mpr ⟨lw_r1, List.forall_mem_append.mpr ⟨lw_r2, lw_r3⟩⟩
def RX0 : String := "LateChecks$Deal"
def TX0 : u_T := fun k => match k with
  | 0 => ("LateChecks$Deal", "number", "I", true)
  | 1 => ("LateChecks$Deal", "state", "I", false)
  | 2 => ("LateChecks$Deal", "start", "I", false)
  | 3 => ("LateChecks$Deal", "age", "I", false)
  | 4 => ("LateChecks$Deal", "tries", "I", false)
  | 5 => ("LateChecks$Deal", "reads", "I", false)
  | 6 => ("LateChecks$Deal", "writes", "I", false)
  | 7 => ("LateChecks$Deal", "ticket", "I", false)
  | 8 => ("LateChecks$Deal", "lost", "Z", false)
  | 9 => ("LateChecks$Deal", "notedValues", "[I", true)
  | 10 => ("LateChecks$Deal", "notedStamps", "[I", true)
  | 11 => ("LateChecks$Deal", "writtenValues", "[I", true)
  | _ => ("LateChecks$Deal", "votes", "[I", true)
def tyX0 : Nat → FieldType := fun k => match k with
  | 0 => .int
  | 1 => .int
  | 2 => .int
  | 3 => .int
  | 4 => .int
  | 5 => .int
  | 6 => .int
  | 7 => .int
  | 8 => .boolean
  | 9 => .array .int
  | 10 => .array .int
  | 11 => .array .int
  | _ => .array .int
abbrev wsX00 : List Cond := u_ws RX0 TX0 13
theorem nmX0 : ∀ a, a < 13 → ∀ b, b < 13 → a ≠ b → (TX0 a).2.1 ≠ (TX0 b).2.1 := by decide +kernel
theorem tyX0_ok : ∀ k, k < 13 → parseFieldDescriptor (TX0 k).2.2.1 = some (tyX0 k) := by decide +kernel
abbrev cX0_init : ByteArray := prog_2_method_1_code
def yX0_init : MethodName := ⟨RX0, "<init>", "(I)V"⟩
abbrev cX0_becomeFree : ByteArray := prog_2_method_2_code
def yX0_becomeFree : MethodName := ⟨RX0, "becomeFree", "(Z)V"⟩
abbrev cX0_becomeOpen : ByteArray := prog_2_method_3_code
def yX0_becomeOpen : MethodName := ⟨RX0, "becomeOpen", "(III)V"⟩
abbrev cX0_becomeSent : ByteArray := prog_2_method_4_code
def yX0_becomeSent : MethodName := ⟨RX0, "becomeSent", "(I)V"⟩
abbrev cX0_note : ByteArray := prog_2_method_5_code
def yX0_note : MethodName := ⟨RX0, "note", "(III)V"⟩
abbrev cX0_hasAllVotes : ByteArray := prog_2_method_6_code
def yX0_hasAllVotes : MethodName := ⟨RX0, "hasAllVotes", "()Z"⟩
abbrev cX0_hasOnlyYes : ByteArray := prog_2_method_7_code
def yX0_hasOnlyYes : MethodName := ⟨RX0, "hasOnlyYes", "()Z"⟩
def RX1 : String := "LateChecks$Entry"
def TX1 : u_T := fun k => match k with
  | 0 => ("LateChecks$Entry", "dealNumber", "I", false)
  | 1 => ("LateChecks$Entry", "age", "I", false)
  | 2 => ("LateChecks$Entry", "tries", "I", false)
  | 3 => ("LateChecks$Entry", "reads", "I", false)
  | 4 => ("LateChecks$Entry", "writes", "I", false)
  | 5 => ("LateChecks$Entry", "way", "I", false)
  | 6 => ("LateChecks$Entry", "notedStamps", "[I", true)
  | _ => ("LateChecks$Entry", "writtenValues", "[I", true)
def tyX1 : Nat → FieldType := fun k => match k with
  | 0 => .int
  | 1 => .int
  | 2 => .int
  | 3 => .int
  | 4 => .int
  | 5 => .int
  | 6 => .array .int
  | _ => .array .int
abbrev wsX10 : List Cond := u_ws RX1 TX1 8
theorem nmX1 : ∀ a, a < 8 → ∀ b, b < 8 → a ≠ b → (TX1 a).2.1 ≠ (TX1 b).2.1 := by decide +kernel
theorem tyX1_ok : ∀ k, k < 8 → parseFieldDescriptor (TX1 k).2.2.1 = some (tyX1 k) := by decide +kernel
abbrev cX1_init : ByteArray := prog_3_method_1_code
def yX1_init : MethodName := ⟨RX1, "<init>", "()V"⟩
abbrev cX1_keepDeal : ByteArray := prog_3_method_2_code
def yX1_keepDeal : MethodName := ⟨RX1, "keepDeal", "(LLateChecks$Deal;I)V"⟩
abbrev cX1_keepWrite : ByteArray := prog_3_method_3_code
def yX1_keepWrite : MethodName := ⟨RX1, "keepWrite", "(II)V"⟩
abbrev cX1_hasNoted : ByteArray := prog_3_method_4_code
def yX1_hasNoted : MethodName := ⟨RX1, "hasNoted", "(I)Z"⟩
def RX2 : String := "LateChecks$Text"
def TX2 : u_T := fun k => match k with
  | 0 => ("LateChecks$Text", "letters", "[I", true)
  | 1 => ("LateChecks$Text", "length", "I", false)
  | 2 => ("LateChecks$Text", "kinds", "[I", true)
  | 3 => ("LateChecks$Text", "numbers", "[I", true)
  | 4 => ("LateChecks$Text", "clauses", "I", false)
  | 5 => ("LateChecks$Text", "tokenStart", "I", false)
  | _ => ("LateChecks$Text", "tokenEnd", "I", false)
def tyX2 : Nat → FieldType := fun k => match k with
  | 0 => .array .int
  | 1 => .int
  | 2 => .array .int
  | 3 => .array .int
  | 4 => .int
  | 5 => .int
  | _ => .int
abbrev wsX20 : List Cond := u_ws RX2 TX2 7
theorem nmX2 : ∀ a, a < 7 → ∀ b, b < 7 → a ≠ b → (TX2 a).2.1 ≠ (TX2 b).2.1 := by decide +kernel
theorem tyX2_ok : ∀ k, k < 7 → parseFieldDescriptor (TX2 k).2.2.1 = some (tyX2 k) := by decide +kernel
abbrev cX2_init : ByteArray := prog_4_method_1_code
def yX2_init : MethodName := ⟨RX2, "<init>", "()V"⟩
abbrev cX2_append : ByteArray := prog_4_method_2_code
def yX2_append : MethodName := ⟨RX2, "append", "(I)V"⟩
abbrev cX2_kindOf : ByteArray := prog_4_method_3_code
def yX2_kindOf : MethodName := ⟨RX2, "kindOf", "(I)I"⟩
abbrev cX2_numberOf : ByteArray := prog_4_method_4_code
def yX2_numberOf : MethodName := ⟨RX2, "numberOf", "(II)I"⟩
abbrev cX2_parse : ByteArray := prog_4_method_5_code
def yX2_parse : MethodName := ⟨RX2, "parse", "()I"⟩
abbrev cX2_takeClause : ByteArray := prog_4_method_6_code
def yX2_takeClause : MethodName := ⟨RX2, "takeClause", "(I)Z"⟩
abbrev cX2_kindOfToken : ByteArray := prog_4_method_7_code
def yX2_kindOfToken : MethodName := ⟨RX2, "kindOfToken", "()I"⟩
abbrev cX2_tokenIs : ByteArray := prog_4_method_8_code
def yX2_tokenIs : MethodName := ⟨RX2, "tokenIs", "(Ljava/lang/String;)Z"⟩
abbrev cX2_numberOfToken : ByteArray := prog_4_method_9_code
def yX2_numberOfToken : MethodName := ⟨RX2, "numberOfToken", "()I"⟩
abbrev cX2_nextToken : ByteArray := prog_4_method_10_code
def yX2_nextToken : MethodName := ⟨RX2, "nextToken", "()V"⟩
abbrev cX2_letterAt : ByteArray := prog_4_method_11_code
def yX2_letterAt : MethodName := ⟨RX2, "letterAt", "(I)I"⟩
abbrev cX2_areOfOneRow : ByteArray := prog_4_method_12_code
def yX2_areOfOneRow : MethodName := ⟨RX2, "areOfOneRow", "(II)Z"⟩
abbrev cX2_isDigit : ByteArray := prog_4_method_13_code
def yX2_isDigit : MethodName := ⟨RX2, "isDigit", "(I)Z"⟩
abbrev cX2_isSmall : ByteArray := prog_4_method_14_code
def yX2_isSmall : MethodName := ⟨RX2, "isSmall", "(I)Z"⟩
abbrev cX2_wordOf : ByteArray := prog_4_method_15_code
def yX2_wordOf : MethodName := ⟨RX2, "wordOf", "(I)Ljava/lang/String;"⟩
abbrev cX2_formOf : ByteArray := prog_4_method_16_code
def yX2_formOf : MethodName := ⟨RX2, "formOf", "(I)Ljava/lang/String;"⟩
abbrev cX2_leastOf : ByteArray := prog_4_method_17_code
def yX2_leastOf : MethodName := ⟨RX2, "leastOf", "(C)I"⟩
abbrev cX2_mostOf : ByteArray := prog_4_method_18_code
def yX2_mostOf : MethodName := ⟨RX2, "mostOf", "(C)I"⟩
def RX3 : String := "LateChecks"
def TX3 : u_T := fun k => match k with
  | 0 => ("LateChecks", "text", "LLateChecks$Text;", true)
  | 1 => ("LateChecks", "values", "[I", true)
  | 2 => ("LateChecks", "stamps", "[I", true)
  | 3 => ("LateChecks", "deals", "[LLateChecks$Deal;", true)
  | 4 => ("LateChecks", "entries", "[LLateChecks$Entry;", true)
  | 5 => ("LateChecks", "commits", "I", false)
  | 6 => ("LateChecks", "triesLimit", "I", false)
  | 7 => ("LateChecks", "begun", "I", false)
  | 8 => ("LateChecks", "tickets", "I", false)
  | 9 => ("LateChecks", "failed", "I", false)
  | 10 => ("LateChecks", "failedInVain", "I", false)
  | _ => ("LateChecks", "failedByYielding", "I", false)
def tyX3 : Nat → FieldType := fun k => match k with
  | 0 => .object "LateChecks$Text"
  | 1 => .array .int
  | 2 => .array .int
  | 3 => .array (.object "LateChecks$Deal")
  | 4 => .array (.object "LateChecks$Entry")
  | 5 => .int
  | 6 => .int
  | 7 => .int
  | 8 => .int
  | 9 => .int
  | 10 => .int
  | _ => .int
abbrev wsX30 : List Cond := u_ws RX3 TX3 12
theorem nmX3 : ∀ a, a < 12 → ∀ b, b < 12 → a ≠ b → (TX3 a).2.1 ≠ (TX3 b).2.1 := by decide +kernel
theorem tyX3_ok : ∀ k, k < 12 → parseFieldDescriptor (TX3 k).2.2.1 = some (tyX3 k) := by decide +kernel
abbrev cX3_init : ByteArray := prog_1_method_1_code
def yX3_init : MethodName := ⟨RX3, "<init>", "()V"⟩
abbrev cX3_write : ByteArray := prog_1_method_2_code
def yX3_write : MethodName := ⟨RX3, "write", "(I)I"⟩
abbrev cX3_erase : ByteArray := prog_1_method_3_code
def yX3_erase : MethodName := ⟨RX3, "erase", "()I"⟩
abbrev cX3_fault : ByteArray := prog_1_method_4_code
def yX3_fault : MethodName := ⟨RX3, "fault", "()I"⟩
abbrev cX3_tell : ByteArray := prog_1_method_5_code
def yX3_tell : MethodName := ⟨RX3, "tell", "()I"⟩
abbrev cX3_item : ByteArray := prog_1_method_6_code
def yX3_item : MethodName := ⟨RX3, "item", "(II)I"⟩
abbrev cX3_put : ByteArray := prog_1_method_7_code
def yX3_put : MethodName := ⟨RX3, "put", "(II)I"⟩
abbrev cX3_limit : ByteArray := prog_1_method_8_code
def yX3_limit : MethodName := ⟨RX3, "limit", "(I)I"⟩
abbrev cX3_begin : ByteArray := prog_1_method_9_code
def yX3_begin : MethodName := ⟨RX3, "begin", "(I)I"⟩
abbrev cX3_retry : ByteArray := prog_1_method_10_code
def yX3_retry : MethodName := ⟨RX3, "retry", "(I)I"⟩
abbrev cX3_read : ByteArray := prog_1_method_11_code
def yX3_read : MethodName := ⟨RX3, "read", "(II)I"⟩
abbrev cX3_lay : ByteArray := prog_1_method_12_code
def yX3_lay : MethodName := ⟨RX3, "lay", "(III)I"⟩
abbrev cX3_commit : ByteArray := prog_1_method_13_code
def yX3_commit : MethodName := ⟨RX3, "commit", "(II)I"⟩
abbrev cX3_peek : ByteArray := prog_1_method_14_code
def yX3_peek : MethodName := ⟨RX3, "peek", "(II)I"⟩
abbrev cX3_abort : ByteArray := prog_1_method_15_code
def yX3_abort : MethodName := ⟨RX3, "abort", "(I)I"⟩
abbrev cX3_sweep : ByteArray := prog_1_method_16_code
def yX3_sweep : MethodName := ⟨RX3, "sweep", "()I"⟩
abbrev cX3_send : ByteArray := prog_1_method_17_code
def yX3_send : MethodName := ⟨RX3, "send", "(I)I"⟩
abbrev cX3_vote : ByteArray := prog_1_method_18_code
def yX3_vote : MethodName := ⟨RX3, "vote", "(I)I"⟩
abbrev cX3_settle : ByteArray := prog_1_method_19_code
def yX3_settle : MethodName := ⟨RX3, "settle", "()I"⟩
abbrev cX3_deal : ByteArray := prog_1_method_20_code
def yX3_deal : MethodName := ⟨RX3, "deal", "(II)I"⟩
abbrev cX3_noted : ByteArray := prog_1_method_21_code
def yX3_noted : MethodName := ⟨RX3, "noted", "(III)I"⟩
abbrev cX3_sent : ByteArray := prog_1_method_22_code
def yX3_sent : MethodName := ⟨RX3, "sent", "(I)I"⟩
abbrev cX3_ballot : ByteArray := prog_1_method_23_code
def yX3_ballot : MethodName := ⟨RX3, "ballot", "(II)I"⟩
abbrev cX3_log : ByteArray := prog_1_method_24_code
def yX3_log : MethodName := ⟨RX3, "log", "(II)I"⟩
abbrev cX3_logged : ByteArray := prog_1_method_25_code
def yX3_logged : MethodName := ⟨RX3, "logged", "(III)I"⟩
abbrev cX3_behind : ByteArray := prog_1_method_26_code
def yX3_behind : MethodName := ⟨RX3, "behind", "(II)I"⟩
abbrev cX3_count : ByteArray := prog_1_method_27_code
def yX3_count : MethodName := ⟨RX3, "count", "(I)I"⟩
abbrev cX3_startAnew : ByteArray := prog_1_method_28_code
def yX3_startAnew : MethodName := ⟨RX3, "startAnew", "()V"⟩
abbrev cX3_doClause : ByteArray := prog_1_method_29_code
def yX3_doClause : MethodName := ⟨RX3, "doClause", "(I)V"⟩
abbrev cX3_isItem : ByteArray := prog_1_method_30_code
def yX3_isItem : MethodName := ⟨RX3, "isItem", "(I)Z"⟩
abbrev cX3_isDeal : ByteArray := prog_1_method_31_code
def yX3_isDeal : MethodName := ⟨RX3, "isDeal", "(I)Z"⟩
abbrev cX3_isValidator : ByteArray := prog_1_method_32_code
def yX3_isValidator : MethodName := ⟨RX3, "isValidator", "(I)Z"⟩
abbrev cX3_isValue : ByteArray := prog_1_method_33_code
def yX3_isValue : MethodName := ⟨RX3, "isValue", "(I)Z"⟩
abbrev cX3_bit : ByteArray := prog_1_method_34_code
def yX3_bit : MethodName := ⟨RX3, "bit", "(I)I"⟩
abbrev cX3_has : ByteArray := prog_1_method_35_code
def yX3_has : MethodName := ⟨RX3, "has", "(II)Z"⟩
abbrev cX3_howMany : ByteArray := prog_1_method_36_code
def yX3_howMany : MethodName := ⟨RX3, "howMany", "(I)I"⟩
abbrev cX3_allValues : ByteArray := prog_1_method_37_code
def yX3_allValues : MethodName := ⟨RX3, "allValues", "()I"⟩
abbrev cX3_isStubborn : ByteArray := prog_1_method_38_code
def yX3_isStubborn : MethodName := ⟨RX3, "isStubborn", "(LLateChecks$Deal;)Z"⟩
abbrev cX3_staleOf : ByteArray := prog_1_method_39_code
def yX3_staleOf : MethodName := ⟨RX3, "staleOf", "(LLateChecks$Deal;)I"⟩
abbrev cX3_crossedOf : ByteArray := prog_1_method_40_code
def yX3_crossedOf : MethodName := ⟨RX3, "crossedOf", "(LLateChecks$Deal;)I"⟩
abbrev cX3_rivalsOf : ByteArray := prog_1_method_41_code
def yX3_rivalsOf : MethodName := ⟨RX3, "rivalsOf", "(LLateChecks$Deal;)I"⟩
abbrev cX3_foretell : ByteArray := prog_1_method_42_code
def yX3_foretell : MethodName := ⟨RX3, "foretell", "(LLateChecks$Deal;I)I"⟩
abbrev cX3_isFailure : ByteArray := prog_1_method_43_code
def yX3_isFailure : MethodName := ⟨RX3, "isFailure", "(I)Z"⟩
abbrev cX3_mustYield : ByteArray := prog_1_method_44_code
def yX3_mustYield : MethodName := ⟨RX3, "mustYield", "(LLateChecks$Deal;)Z"⟩
abbrev cX3_goesFirst : ByteArray := prog_1_method_45_code
def yX3_goesFirst : MethodName := ⟨RX3, "goesFirst", "(LLateChecks$Deal;LLateChecks$Deal;)Z"⟩
abbrev cX3_doomAll : ByteArray := prog_1_method_46_code
def yX3_doomAll : MethodName := ⟨RX3, "doomAll", "(I)V"⟩
abbrev cX3_lose : ByteArray := prog_1_method_47_code
def yX3_lose : MethodName := ⟨RX3, "lose", "(LLateChecks$Deal;I)I"⟩
abbrev cX3_keep : ByteArray := prog_1_method_48_code
def yX3_keep : MethodName := ⟨RX3, "keep", "(LLateChecks$Deal;I)I"⟩
abbrev cX3_change : ByteArray := prog_1_method_49_code
def yX3_change : MethodName := ⟨RX3, "change", "(II)V"⟩
abbrev cX3_sentAt : ByteArray := prog_1_method_50_code
def yX3_sentAt : MethodName := ⟨RX3, "sentAt", "(I)I"⟩
abbrev cX3_sentBefore : ByteArray := prog_1_method_51_code
def yX3_sentBefore : MethodName := ⟨RX3, "sentBefore", "(LLateChecks$Deal;)I"⟩
abbrev cX3_firstWithoutVote : ByteArray := prog_1_method_52_code
def yX3_firstWithoutVote : MethodName := ⟨RX3, "firstWithoutVote", "(I)I"⟩
abbrev cX3_opinion : ByteArray := prog_1_method_53_code
def yX3_opinion : MethodName := ⟨RX3, "opinion", "(ILLateChecks$Deal;)I"⟩
abbrev cX3_promisedBefore : ByteArray := prog_1_method_54_code
def yX3_promisedBefore : MethodName := ⟨RX3, "promisedBefore", "(ILLateChecks$Deal;)I"⟩
abbrev cX3_itemsOf : ByteArray := prog_1_method_55_code
def yX3_itemsOf : MethodName := ⟨RX3, "itemsOf", "(I)I"⟩
abbrev cX3_entryOf : ByteArray := prog_1_method_56_code
def yX3_entryOf : MethodName := ⟨RX3, "entryOf", "(I)LLateChecks$Entry;"⟩
abbrev cX3_nextEntry : ByteArray := prog_1_method_57_code
def yX3_nextEntry : MethodName := ⟨RX3, "nextEntry", "()LLateChecks$Entry;"⟩
def RX4 : String := "LateChecksModel"
def TX4 : u_T := fun k => match k with
  | 0 => ("LateChecksModel", "values", "[I", true)
  | 1 => ("LateChecksModel", "stamps", "[I", true)
  | 2 => ("LateChecksModel", "commits", "I", false)
  | 3 => ("LateChecksModel", "log", "[I", true)
  | 4 => ("LateChecksModel", "states", "[I", true)
  | 5 => ("LateChecksModel", "starts", "[I", true)
  | 6 => ("LateChecksModel", "ages", "[I", true)
  | 7 => ("LateChecksModel", "tries", "[I", true)
  | 8 => ("LateChecksModel", "isLost", "[Z", true)
  | 9 => ("LateChecksModel", "reads", "[I", true)
  | 10 => ("LateChecksModel", "writes", "[I", true)
  | 11 => ("LateChecksModel", "notedValues", "[I", true)
  | 12 => ("LateChecksModel", "notedStamps", "[I", true)
  | 13 => ("LateChecksModel", "laid", "[I", true)
  | 14 => ("LateChecksModel", "tickets", "[I", true)
  | 15 => ("LateChecksModel", "votes", "[I", true)
  | 16 => ("LateChecksModel", "limit", "I", false)
  | 17 => ("LateChecksModel", "ticket", "I", false)
  | 18 => ("LateChecksModel", "begun", "I", false)
  | 19 => ("LateChecksModel", "failed", "I", false)
  | 20 => ("LateChecksModel", "vain", "I", false)
  | 21 => ("LateChecksModel", "yields", "I", false)
  | 22 => ("LateChecksModel", "text", "[I", true)
  | 23 => ("LateChecksModel", "length", "I", false)
  | 24 => ("LateChecksModel", "first", "I", false)
  | 25 => ("LateChecksModel", "behind", "I", false)
  | 26 => ("LateChecksModel", "clauses", "I", false)
  | 27 => ("LateChecksModel", "doing", "Z", false)
  | 28 => ("LateChecksModel", "numbers", "[I", true)
  | _ => ("LateChecksModel", "words", "[I", true)
def tyX4 : Nat → FieldType := fun k => match k with
  | 0 => .array .int
  | 1 => .array .int
  | 2 => .int
  | 3 => .array .int
  | 4 => .array .int
  | 5 => .array .int
  | 6 => .array .int
  | 7 => .array .int
  | 8 => .array .boolean
  | 9 => .array .int
  | 10 => .array .int
  | 11 => .array .int
  | 12 => .array .int
  | 13 => .array .int
  | 14 => .array .int
  | 15 => .array .int
  | 16 => .int
  | 17 => .int
  | 18 => .int
  | 19 => .int
  | 20 => .int
  | 21 => .int
  | 22 => .array .int
  | 23 => .int
  | 24 => .int
  | 25 => .int
  | 26 => .int
  | 27 => .boolean
  | 28 => .array .int
  | _ => .array .int
abbrev wsX40 : List Cond := u_ws RX4 TX4 30
theorem nmX4 : ∀ a, a < 30 → ∀ b, b < 30 → a ≠ b → (TX4 a).2.1 ≠ (TX4 b).2.1 := by decide +kernel
theorem tyX4_ok : ∀ k, k < 30 → parseFieldDescriptor (TX4 k).2.2.1 = some (tyX4 k) := by decide +kernel
abbrev cX4_init : ByteArray := prog_6_method_1_code
def yX4_init : MethodName := ⟨RX4, "<init>", "()V"⟩
abbrev cX4_in : ByteArray := prog_6_method_2_code
def yX4_in : MethodName := ⟨RX4, "in", "(JJJ)Z"⟩
abbrev cX4_isItem : ByteArray := prog_6_method_3_code
def yX4_isItem : MethodName := ⟨RX4, "isItem", "(I)Z"⟩
abbrev cX4_isDeal : ByteArray := prog_6_method_4_code
def yX4_isDeal : MethodName := ⟨RX4, "isDeal", "(I)Z"⟩
abbrev cX4_has : ByteArray := prog_6_method_5_code
def yX4_has : MethodName := ⟨RX4, "has", "(II)Z"⟩
abbrev cX4_ones : ByteArray := prog_6_method_6_code
def yX4_ones : MethodName := ⟨RX4, "ones", "(I)I"⟩
abbrev cX4_allAnew : ByteArray := prog_6_method_7_code
def yX4_allAnew : MethodName := ⟨RX4, "allAnew", "()V"⟩
abbrev cX4_frees : ByteArray := prog_6_method_8_code
def yX4_frees : MethodName := ⟨RX4, "frees", "(IZ)V"⟩
abbrev cX4_opens : ByteArray := prog_6_method_9_code
def yX4_opens : MethodName := ⟨RX4, "opens", "(I)V"⟩
abbrev cX4_inState : ByteArray := prog_6_method_10_code
def yX4_inState : MethodName := ⟨RX4, "inState", "(I)I"⟩
abbrev cX4_write : ByteArray := prog_6_method_11_code
def yX4_write : MethodName := ⟨RX4, "write", "(I)I"⟩
abbrev cX4_erase : ByteArray := prog_6_method_12_code
def yX4_erase : MethodName := ⟨RX4, "erase", "()I"⟩
abbrev cX4_isSmall : ByteArray := prog_6_method_13_code
def yX4_isSmall : MethodName := ⟨RX4, "isSmall", "(I)Z"⟩
abbrev cX4_isDigit : ByteArray := prog_6_method_14_code
def yX4_isDigit : MethodName := ⟨RX4, "isDigit", "(I)Z"⟩
abbrev cX4_next : ByteArray := prog_6_method_15_code
def yX4_next : MethodName := ⟨RX4, "next", "()V"⟩
abbrev cX4_wordHere : ByteArray := prog_6_method_16_code
def yX4_wordHere : MethodName := ⟨RX4, "wordHere", "()I"⟩
abbrev cX4_reads : ByteArray := prog_6_method_17_code
def yX4_reads : MethodName := ⟨RX4, "reads", "(III)Z"⟩
abbrev cX4_readsRest : ByteArray := prog_6_method_18_code
def yX4_readsRest : MethodName := ⟨RX4, "readsRest", "(I)Z"⟩
abbrev cX4_does : ByteArray := prog_6_method_19_code
def yX4_does : MethodName := ⟨RX4, "does", "(I)V"⟩
abbrev cX4_readsClause : ByteArray := prog_6_method_20_code
def yX4_readsClause : MethodName := ⟨RX4, "readsClause", "()Z"⟩
abbrev cX4_readsAll : ByteArray := prog_6_method_21_code
def yX4_readsAll : MethodName := ⟨RX4, "readsAll", "(Z)Z"⟩
abbrev cX4_fault : ByteArray := prog_6_method_22_code
def yX4_fault : MethodName := ⟨RX4, "fault", "()I"⟩
abbrev cX4_tell : ByteArray := prog_6_method_23_code
def yX4_tell : MethodName := ⟨RX4, "tell", "()I"⟩
abbrev cX4_item : ByteArray := prog_6_method_24_code
def yX4_item : MethodName := ⟨RX4, "item", "(II)I"⟩
abbrev cX4_logs : ByteArray := prog_6_method_25_code
def yX4_logs : MethodName := ⟨RX4, "logs", "(II)I"⟩
abbrev cX4_puts : ByteArray := prog_6_method_26_code
def yX4_puts : MethodName := ⟨RX4, "puts", "(II)V"⟩
abbrev cX4_put : ByteArray := prog_6_method_27_code
def yX4_put : MethodName := ⟨RX4, "put", "(II)I"⟩
abbrev cX4_limit : ByteArray := prog_6_method_28_code
def yX4_limit : MethodName := ⟨RX4, "limit", "(I)I"⟩
abbrev cX4_begin : ByteArray := prog_6_method_29_code
def yX4_begin : MethodName := ⟨RX4, "begin", "(I)I"⟩
abbrev cX4_retry : ByteArray := prog_6_method_30_code
def yX4_retry : MethodName := ⟨RX4, "retry", "(I)I"⟩
abbrev cX4_read : ByteArray := prog_6_method_31_code
def yX4_read : MethodName := ⟨RX4, "read", "(II)I"⟩
abbrev cX4_lay : ByteArray := prog_6_method_32_code
def yX4_lay : MethodName := ⟨RX4, "lay", "(III)I"⟩
abbrev cX4_stale : ByteArray := prog_6_method_33_code
def yX4_stale : MethodName := ⟨RX4, "stale", "(I)I"⟩
abbrev cX4_crossed : ByteArray := prog_6_method_34_code
def yX4_crossed : MethodName := ⟨RX4, "crossed", "(I)I"⟩
abbrev cX4_rivals : ByteArray := prog_6_method_35_code
def yX4_rivals : MethodName := ⟨RX4, "rivals", "(I)I"⟩
abbrev cX4_isStubborn : ByteArray := prog_6_method_36_code
def yX4_isStubborn : MethodName := ⟨RX4, "isStubborn", "(I)Z"⟩
abbrev cX4_isWeaker : ByteArray := prog_6_method_37_code
def yX4_isWeaker : MethodName := ⟨RX4, "isWeaker", "(II)Z"⟩
abbrev cX4_checks : ByteArray := prog_6_method_38_code
def yX4_checks : MethodName := ⟨RX4, "checks", "(II)I"⟩
abbrev cX4_fails : ByteArray := prog_6_method_39_code
def yX4_fails : MethodName := ⟨RX4, "fails", "(II)V"⟩
abbrev cX4_commits : ByteArray := prog_6_method_40_code
def yX4_commits : MethodName := ⟨RX4, "commits", "(II)I"⟩
abbrev cX4_refused : ByteArray := prog_6_method_41_code
def yX4_refused : MethodName := ⟨RX4, "refused", "(II)I"⟩
abbrev cX4_commit : ByteArray := prog_6_method_42_code
def yX4_commit : MethodName := ⟨RX4, "commit", "(II)I"⟩
abbrev cX4_peek : ByteArray := prog_6_method_43_code
def yX4_peek : MethodName := ⟨RX4, "peek", "(II)I"⟩
abbrev cX4_abort : ByteArray := prog_6_method_44_code
def yX4_abort : MethodName := ⟨RX4, "abort", "(I)I"⟩
abbrev cX4_sweep : ByteArray := prog_6_method_45_code
def yX4_sweep : MethodName := ⟨RX4, "sweep", "()I"⟩
abbrev cX4_send : ByteArray := prog_6_method_46_code
def yX4_send : MethodName := ⟨RX4, "send", "(I)I"⟩
abbrev cX4_firstSent : ByteArray := prog_6_method_47_code
def yX4_firstSent : MethodName := ⟨RX4, "firstSent", "(I)I"⟩
abbrev cX4_vote : ByteArray := prog_6_method_48_code
def yX4_vote : MethodName := ⟨RX4, "vote", "(I)I"⟩
abbrev cX4_settle : ByteArray := prog_6_method_49_code
def yX4_settle : MethodName := ⟨RX4, "settle", "()I"⟩
abbrev cX4_deal : ByteArray := prog_6_method_50_code
def yX4_deal : MethodName := ⟨RX4, "deal", "(II)I"⟩
abbrev cX4_noted : ByteArray := prog_6_method_51_code
def yX4_noted : MethodName := ⟨RX4, "noted", "(III)I"⟩
abbrev cX4_sent : ByteArray := prog_6_method_52_code
def yX4_sent : MethodName := ⟨RX4, "sent", "(I)I"⟩
abbrev cX4_ballot : ByteArray := prog_6_method_53_code
def yX4_ballot : MethodName := ⟨RX4, "ballot", "(II)I"⟩
abbrev cX4_isCommit : ByteArray := prog_6_method_54_code
def yX4_isCommit : MethodName := ⟨RX4, "isCommit", "(I)Z"⟩
abbrev cX4_log : ByteArray := prog_6_method_55_code
def yX4_log : MethodName := ⟨RX4, "log", "(II)I"⟩
abbrev cX4_logged : ByteArray := prog_6_method_56_code
def yX4_logged : MethodName := ⟨RX4, "logged", "(III)I"⟩
abbrev cX4_behind : ByteArray := prog_6_method_57_code
def yX4_behind : MethodName := ⟨RX4, "behind", "(II)I"⟩
abbrev cX4_allValues : ByteArray := prog_6_method_58_code
def yX4_allValues : MethodName := ⟨RX4, "allValues", "()I"⟩
abbrev cX4_count : ByteArray := prog_6_method_59_code
def yX4_count : MethodName := ⟨RX4, "count", "(I)I"⟩
def RJ6 : String := "java/lang/Integer"
def TJ6 : u_T := fun k => match k with
  | _ => ("", "", "", false)
def tyJ6 : Nat → FieldType := fun k => match k with
  | _ => .int
abbrev wsJ60 : List Cond := u_ws RJ6 TJ6 0
theorem nmJ6 : ∀ a, a < 0 → ∀ b, b < 0 → a ≠ b → (TJ6 a).2.1 ≠ (TJ6 b).2.1 := by decide +kernel
theorem tyJ6_ok : ∀ k, k < 0 → parseFieldDescriptor (TJ6 k).2.2.1 = some (tyJ6 k) := by decide +kernel
abbrev cJ6_bitCount_0f7a4 : ByteArray := prog_7_method_49_code
def yJ6_bitCount_0f7a4 : MethodName := ⟨RJ6, "bitCount", "(I)I"⟩
def RJ0 : String := "java/lang/String"
def TJ0 : u_T := fun k => match k with
  | _ => ("", "", "", false)
def tyJ0 : Nat → FieldType := fun k => match k with
  | _ => .int
abbrev wsJ00 : List Cond := u_ws RJ0 TJ0 0
theorem nmJ0 : ∀ a, a < 0 → ∀ b, b < 0 → a ≠ b → (TJ0 a).2.1 ≠ (TJ0 b).2.1 := by decide +kernel
theorem tyJ0_ok : ∀ k, k < 0 → parseFieldDescriptor (TJ0 k).2.2.1 = some (tyJ0 k) := by decide +kernel
abbrev cJ0_length_8abf5 : ByteArray := prog_8_method_54_code
def yJ0_length_8abf5 : MethodName := ⟨RJ0, "length", "()I"⟩
abbrev cJ0_charAt_5068e : ByteArray := prog_8_method_56_code
def yJ0_charAt_5068e : MethodName := ⟨RJ0, "charAt", "(I)C"⟩
abbrev cJ0_coder_7d493 : ByteArray := prog_8_method_152_code
def yJ0_coder_7d493 : MethodName := ⟨RJ0, "coder", "()B"⟩
abbrev cJ0_isLatin1_aae02 : ByteArray := prog_8_method_154_code
def yJ0_isLatin1_aae02 : MethodName := ⟨RJ0, "isLatin1", "()Z"⟩
abbrev cJ0_checkIndex_df160 : ByteArray := prog_8_method_155_code
def yJ0_checkIndex_df160 : MethodName := ⟨RJ0, "checkIndex", "(II)V"⟩
def RJ1 : String := "java/lang/StringLatin1"
def TJ1 : u_T := fun k => match k with
  | _ => ("", "", "", false)
def tyJ1 : Nat → FieldType := fun k => match k with
  | _ => .int
abbrev wsJ10 : List Cond := u_ws RJ1 TJ1 0
theorem nmJ1 : ∀ a, a < 0 → ∀ b, b < 0 → a ≠ b → (TJ1 a).2.1 ≠ (TJ1 b).2.1 := by decide +kernel
theorem tyJ1_ok : ∀ k, k < 0 → parseFieldDescriptor (TJ1 k).2.2.1 = some (tyJ1 k) := by decide +kernel
abbrev cJ1_charAt_3b067 : ByteArray := prog_9_method_2_code
def yJ1_charAt_3b067 : MethodName := ⟨RJ1, "charAt", "([BI)C"⟩
def RJ2 : String := "java/lang/StringUTF16"
def TJ2 : u_T := fun k => match k with
  | _ => ("", "", "", false)
def tyJ2 : Nat → FieldType := fun k => match k with
  | _ => .int
abbrev wsJ20 : List Cond := u_ws RJ2 TJ2 0
theorem nmJ2 : ∀ a, a < 0 → ∀ b, b < 0 → a ≠ b → (TJ2 a).2.1 ≠ (TJ2 b).2.1 := by decide +kernel
theorem tyJ2_ok : ∀ k, k < 0 → parseFieldDescriptor (TJ2 k).2.2.1 = some (tyJ2 k) := by decide +kernel
abbrev cJ2_getChar_3b067 : ByteArray := prog_10_method_5_code
def yJ2_getChar_3b067 : MethodName := ⟨RJ2, "getChar", "([BI)C"⟩
abbrev cJ2_length_9d52b : ByteArray := prog_10_method_6_code
def yJ2_length_9d52b : MethodName := ⟨RJ2, "length", "([B)I"⟩
abbrev cJ2_charAt_3b067 : ByteArray := prog_10_method_83_code
def yJ2_charAt_3b067 : MethodName := ⟨RJ2, "charAt", "([BI)C"⟩
abbrev cJ2_checkIndex_2214a : ByteArray := prog_10_method_91_code
def yJ2_checkIndex_2214a : MethodName := ⟨RJ2, "checkIndex", "(I[B)V"⟩
def RJ3 : String := "jdk/internal/util/Preconditions"
def TJ3 : u_T := fun k => match k with
  | _ => ("", "", "", false)
def tyJ3 : Nat → FieldType := fun k => match k with
  | _ => .int
abbrev wsJ30 : List Cond := u_ws RJ3 TJ3 0
theorem nmJ3 : ∀ a, a < 0 → ∀ b, b < 0 → a ≠ b → (TJ3 a).2.1 ≠ (TJ3 b).2.1 := by decide +kernel
theorem tyJ3_ok : ∀ k, k < 0 → parseFieldDescriptor (TJ3 k).2.2.1 = some (tyJ3 k) := by decide +kernel
abbrev cJ3_checkIndex_8e157 : ByteArray := prog_11_method_11_code
def yJ3_checkIndex_8e157 : MethodName := ⟨RJ3, "checkIndex", "(IILjava/util/function/BiFunction;)I"⟩
def RL : String := "LateChecksLaw"
abbrev cL_law : ByteArray := code
def yL_law : MethodName := ⟨RL, "law", "([I)Z"⟩
abbrev vwCl : List vw_C := [(RX0, TX0, 13), (RX1, TX1, 8), (RX2, TX2, 7), (RX3, TX3, 12), (RX4, TX4, 30)]
/-- the tables' words that a call keeps -/
def gW : List Cond := lw_tbl.filter goodWord
theorem gW_tbl {w : Cond} {i : Nat} (h : tables_1[i]? = some w) (hg : goodWord w = true) : w ∈ gW := List.mem_filter.mpr ⟨List.mem_append_right _ (List.mem_of_getElem? h), hg⟩
theorem gW_sel {w : Cond} {i : Nat} (h : (k2_sels lw_privs)[i]? = some w) (hg : goodWord w = true) : w ∈ gW := List.mem_filter.mpr ⟨List.mem_append_left _ (List.mem_of_getElem? h), hg⟩
theorem gW_good : ∀ w ∈ gW, (w.onTables && w.keeps) = true ∨ ∃ ty, w = .arrayClass ty := fun _ h => good_of_word (List.mem_filter.mp h).2
theorem gW_in : ∀ w ∈ gW, w ∈ lw_tbl := fun _ h => (List.mem_filter.mp h).1
theorem q0 : (Cond.initialized "LateChecksLaw") ∈ gW := gW_tbl (i := 0) (by decide +kernel) rfl
theorem q1 : (Cond.initialized "LateChecks") ∈ gW := gW_tbl (i := 1) (by decide +kernel) rfl
theorem q2 : (Cond.initialized "LateChecks$Text") ∈ gW := gW_tbl (i := 2) (by decide +kernel) rfl
theorem q3 : (Cond.initialized "LateChecks$Deal") ∈ gW := gW_tbl (i := 3) (by decide +kernel) rfl
theorem q4 : (Cond.initialized "LateChecksModel") ∈ gW := gW_tbl (i := 4) (by decide +kernel) rfl
theorem q5 : (Cond.initialized "java/lang/String") ∈ gW := gW_tbl (i := 5) (by decide +kernel) rfl
theorem q6 : (Cond.initialized "java/lang/StringLatin1") ∈ gW := gW_tbl (i := 6) (by decide +kernel) rfl
theorem q7 : (Cond.initialized "jdk/internal/util/Preconditions") ∈ gW := gW_tbl (i := 7) (by decide +kernel) rfl
theorem q8 : (Cond.initialized "java/lang/StringUTF16") ∈ gW := gW_tbl (i := 8) (by decide +kernel) rfl
theorem q9 : (Cond.initialized "LateChecks$Entry") ∈ gW := gW_tbl (i := 9) (by decide +kernel) rfl
theorem q10 : (Cond.initialized "java/lang/Integer") ∈ gW := gW_tbl (i := 10) (by decide +kernel) rfl
theorem q11 : (Cond.classLink "LateChecksLaw" (7 : Nat) "LateChecks") ∈ gW := gW_tbl (i := 11) (by decide +kernel) rfl
theorem q12 : (Cond.instantiable "LateChecks" (12 : Nat)) ∈ gW := gW_tbl (i := 12) (by decide +kernel) rfl
theorem q13 : (Cond.methodLink "LateChecksLaw" (9 : Nat) ({ cls := "LateChecks", name := "<init>", desc := "()V" } : Jvm.MethodName)) ∈ gW := gW_tbl (i := 13) (by decide +kernel) rfl
theorem q14 : (Cond.instanceMethod ({ cls := "LateChecks", name := "<init>", desc := "()V" } : Jvm.MethodName)) ∈ gW := gW_tbl (i := 14) (by decide +kernel) rfl
theorem q15 : (Cond.code ({ cls := "LateChecks", name := "<init>", desc := "()V" } : Jvm.MethodName) prog_1_method_1_code (2 : Nat) (Option.none : Option Jvm.ClassFile.FieldType)) ∈ gW := gW_tbl (i := 15) (by decide +kernel) rfl
theorem q16 : (Cond.methodLink "LateChecks" (1 : Nat) ({ cls := "java/lang/Object", name := "<init>", desc := "()V" } : Jvm.MethodName)) ∈ gW := gW_tbl (i := 16) (by decide +kernel) rfl
theorem q17 : (Cond.instanceMethod ({ cls := "java/lang/Object", name := "<init>", desc := "()V" } : Jvm.MethodName)) ∈ gW := gW_tbl (i := 17) (by decide +kernel) rfl
theorem q18 : (Cond.code ({ cls := "java/lang/Object", name := "<init>", desc := "()V" } : Jvm.MethodName) object_method_1_code (1 : Nat) (Option.none : Option Jvm.ClassFile.FieldType)) ∈ gW := gW_tbl (i := 18) (by decide +kernel) rfl
theorem q19 : (Cond.classLink "LateChecks" (7 : Nat) "LateChecks$Text") ∈ gW := gW_tbl (i := 19) (by decide +kernel) rfl
theorem q20 : (Cond.instantiable "LateChecks$Text" (7 : Nat)) ∈ gW := gW_tbl (i := 20) (by decide +kernel) rfl
theorem q21 : (Cond.methodLinkNest "LateChecks" (9 : Nat) ({ cls := "LateChecks$Text", name := "<init>", desc := "()V" } : Jvm.MethodName) "LateChecks") ∈ lw_tbl := List.mem_append_right _ (List.mem_of_getElem? (i := 21) (by decide +kernel))
theorem q22 : (Cond.instanceMethod ({ cls := "LateChecks$Text", name := "<init>", desc := "()V" } : Jvm.MethodName)) ∈ gW := gW_tbl (i := 22) (by decide +kernel) rfl
theorem q23 : (Cond.code ({ cls := "LateChecks$Text", name := "<init>", desc := "()V" } : Jvm.MethodName) prog_4_method_1_code (1 : Nat) (Option.none : Option Jvm.ClassFile.FieldType)) ∈ gW := gW_tbl (i := 23) (by decide +kernel) rfl
theorem q24 : (Cond.methodLink "LateChecks$Text" (3 : Nat) ({ cls := "java/lang/Object", name := "<init>", desc := "()V" } : Jvm.MethodName)) ∈ gW := gW_tbl (i := 24) (by decide +kernel) rfl
theorem q25 : (Cond.fieldLink "LateChecks$Text" (11 : Nat) "LateChecks$Text" "letters" "[I") ∈ gW := gW_tbl (i := 25) (by decide +kernel) rfl
theorem q26 : (Cond.fieldLink "LateChecks$Text" (21 : Nat) "LateChecks$Text" "length" "I") ∈ gW := gW_tbl (i := 26) (by decide +kernel) rfl
theorem q27 : (Cond.fieldLink "LateChecks" (41 : Nat) "LateChecks$Text" "length" "I") ∈ gW := gW_tbl (i := 27) (by decide +kernel) rfl
theorem q28 : (Cond.fieldLink "LateChecks$Text" (15 : Nat) "LateChecks$Text" "kinds" "[I") ∈ gW := gW_tbl (i := 28) (by decide +kernel) rfl
theorem q29 : (Cond.fieldLink "LateChecks$Text" (18 : Nat) "LateChecks$Text" "numbers" "[I") ∈ gW := gW_tbl (i := 29) (by decide +kernel) rfl
theorem q30 : (Cond.fieldLink "LateChecks$Text" (25 : Nat) "LateChecks$Text" "clauses" "I") ∈ gW := gW_tbl (i := 30) (by decide +kernel) rfl
theorem q31 : (Cond.fieldLink "LateChecks" (52 : Nat) "LateChecks$Text" "clauses" "I") ∈ gW := gW_tbl (i := 31) (by decide +kernel) rfl
theorem q32 : (Cond.fieldLink "LateChecks$Text" (38 : Nat) "LateChecks$Text" "tokenStart" "I") ∈ gW := gW_tbl (i := 32) (by decide +kernel) rfl
theorem q33 : (Cond.fieldLink "LateChecks$Text" (28 : Nat) "LateChecks$Text" "tokenEnd" "I") ∈ gW := gW_tbl (i := 33) (by decide +kernel) rfl
theorem q49 : (Cond.arrayClass Jvm.ClassFile.FieldType.int) ∈ gW := gW_tbl (i := 49) (by decide +kernel) rfl
theorem q50 : (Cond.classLink "LateChecks" (23 : Nat) "LateChecks$Deal") ∈ gW := gW_tbl (i := 50) (by decide +kernel) rfl
theorem q51 : (Cond.arrayOver (Jvm.ClassFile.FieldType.object "LateChecks$Deal")) ∈ lw_tbl := List.mem_append_right _ (List.mem_of_getElem? (i := 51) (by decide +kernel))
theorem q52 : (Cond.classLink "LateChecks" (29 : Nat) "LateChecks$Entry") ∈ gW := gW_tbl (i := 52) (by decide +kernel) rfl
theorem q53 : (Cond.arrayOver (Jvm.ClassFile.FieldType.object "LateChecks$Entry")) ∈ lw_tbl := List.mem_append_right _ (List.mem_of_getElem? (i := 53) (by decide +kernel))
theorem q54 : (Cond.instantiable "LateChecks$Deal" (13 : Nat)) ∈ gW := gW_tbl (i := 54) (by decide +kernel) rfl
theorem q55 : (Cond.methodLink "LateChecks" (35 : Nat) ({ cls := "LateChecks$Deal", name := "<init>", desc := "(I)V" } : Jvm.MethodName)) ∈ gW := gW_tbl (i := 55) (by decide +kernel) rfl
theorem q56 : (Cond.instanceMethod ({ cls := "LateChecks$Deal", name := "<init>", desc := "(I)V" } : Jvm.MethodName)) ∈ gW := gW_tbl (i := 56) (by decide +kernel) rfl
theorem q57 : (Cond.code ({ cls := "LateChecks$Deal", name := "<init>", desc := "(I)V" } : Jvm.MethodName) prog_2_method_1_code (2 : Nat) (Option.none : Option Jvm.ClassFile.FieldType)) ∈ gW := gW_tbl (i := 57) (by decide +kernel) rfl
theorem q58 : (Cond.methodLink "LateChecks$Deal" (3 : Nat) ({ cls := "java/lang/Object", name := "<init>", desc := "()V" } : Jvm.MethodName)) ∈ gW := gW_tbl (i := 58) (by decide +kernel) rfl
theorem q59 : (Cond.fieldLink "LateChecks$Deal" (24 : Nat) "LateChecks$Deal" "number" "I") ∈ gW := gW_tbl (i := 59) (by decide +kernel) rfl
theorem q60 : (Cond.fieldLink "LateChecks$Entry" (18 : Nat) "LateChecks$Deal" "number" "I") ∈ gW := gW_tbl (i := 60) (by decide +kernel) rfl
theorem q61 : (Cond.fieldLink "LateChecks" (265 : Nat) "LateChecks$Deal" "number" "I") ∈ gW := gW_tbl (i := 61) (by decide +kernel) rfl
theorem q62 : (Cond.fieldLink "LateChecks$Deal" (28 : Nat) "LateChecks$Deal" "state" "I") ∈ gW := gW_tbl (i := 62) (by decide +kernel) rfl
theorem q63 : (Cond.fieldLink "LateChecks" (89 : Nat) "LateChecks$Deal" "state" "I") ∈ gW := gW_tbl (i := 63) (by decide +kernel) rfl
theorem q64 : (Cond.fieldLink "LateChecks$Deal" (35 : Nat) "LateChecks$Deal" "start" "I") ∈ gW := gW_tbl (i := 64) (by decide +kernel) rfl
theorem q65 : (Cond.fieldLink "LateChecks" (191 : Nat) "LateChecks$Deal" "start" "I") ∈ gW := gW_tbl (i := 65) (by decide +kernel) rfl
theorem q66 : (Cond.fieldLink "LateChecks$Entry" (27 : Nat) "LateChecks$Deal" "age" "I") ∈ gW := gW_tbl (i := 66) (by decide +kernel) rfl
theorem q67 : (Cond.fieldLink "LateChecks$Deal" (47 : Nat) "LateChecks$Deal" "age" "I") ∈ gW := gW_tbl (i := 67) (by decide +kernel) rfl
theorem q68 : (Cond.fieldLink "LateChecks" (99 : Nat) "LateChecks$Deal" "age" "I") ∈ gW := gW_tbl (i := 68) (by decide +kernel) rfl
theorem q69 : (Cond.fieldLink "LateChecks$Entry" (31 : Nat) "LateChecks$Deal" "tries" "I") ∈ gW := gW_tbl (i := 69) (by decide +kernel) rfl
theorem q70 : (Cond.fieldLink "LateChecks$Deal" (50 : Nat) "LateChecks$Deal" "tries" "I") ∈ gW := gW_tbl (i := 70) (by decide +kernel) rfl
theorem q71 : (Cond.fieldLink "LateChecks" (106 : Nat) "LateChecks$Deal" "tries" "I") ∈ gW := gW_tbl (i := 71) (by decide +kernel) rfl
theorem q72 : (Cond.fieldLink "LateChecks$Deal" (38 : Nat) "LateChecks$Deal" "reads" "I") ∈ gW := gW_tbl (i := 72) (by decide +kernel) rfl
theorem q73 : (Cond.fieldLink "LateChecks$Entry" (35 : Nat) "LateChecks$Deal" "reads" "I") ∈ gW := gW_tbl (i := 73) (by decide +kernel) rfl
theorem q74 : (Cond.fieldLink "LateChecks" (119 : Nat) "LateChecks$Deal" "reads" "I") ∈ gW := gW_tbl (i := 74) (by decide +kernel) rfl
theorem q75 : (Cond.fieldLink "LateChecks$Deal" (41 : Nat) "LateChecks$Deal" "writes" "I") ∈ gW := gW_tbl (i := 75) (by decide +kernel) rfl
theorem q76 : (Cond.fieldLink "LateChecks$Entry" (39 : Nat) "LateChecks$Deal" "writes" "I") ∈ gW := gW_tbl (i := 76) (by decide +kernel) rfl
theorem q77 : (Cond.fieldLink "LateChecks" (109 : Nat) "LateChecks$Deal" "writes" "I") ∈ gW := gW_tbl (i := 77) (by decide +kernel) rfl
theorem q78 : (Cond.fieldLink "LateChecks$Deal" (44 : Nat) "LateChecks$Deal" "ticket" "I") ∈ gW := gW_tbl (i := 78) (by decide +kernel) rfl
theorem q79 : (Cond.fieldLink "LateChecks" (165 : Nat) "LateChecks$Deal" "ticket" "I") ∈ gW := gW_tbl (i := 79) (by decide +kernel) rfl
theorem q80 : (Cond.fieldLink "LateChecks$Deal" (31 : Nat) "LateChecks$Deal" "lost" "Z") ∈ gW := gW_tbl (i := 80) (by decide +kernel) rfl
theorem q81 : (Cond.fieldLink "LateChecks" (102 : Nat) "LateChecks$Deal" "lost" "Z") ∈ gW := gW_tbl (i := 81) (by decide +kernel) rfl
theorem q82 : (Cond.fieldLink "LateChecks$Deal" (9 : Nat) "LateChecks$Deal" "notedValues" "[I") ∈ gW := gW_tbl (i := 82) (by decide +kernel) rfl
theorem q83 : (Cond.fieldLink "LateChecks" (125 : Nat) "LateChecks$Deal" "notedValues" "[I") ∈ gW := gW_tbl (i := 83) (by decide +kernel) rfl
theorem q84 : (Cond.fieldLink "LateChecks$Deal" (15 : Nat) "LateChecks$Deal" "notedStamps" "[I") ∈ gW := gW_tbl (i := 84) (by decide +kernel) rfl
theorem q85 : (Cond.fieldLink "LateChecks$Entry" (46 : Nat) "LateChecks$Deal" "notedStamps" "[I") ∈ gW := gW_tbl (i := 85) (by decide +kernel) rfl
theorem q86 : (Cond.fieldLink "LateChecks" (201 : Nat) "LateChecks$Deal" "notedStamps" "[I") ∈ gW := gW_tbl (i := 86) (by decide +kernel) rfl
theorem q87 : (Cond.fieldLink "LateChecks$Deal" (18 : Nat) "LateChecks$Deal" "writtenValues" "[I") ∈ gW := gW_tbl (i := 87) (by decide +kernel) rfl
theorem q88 : (Cond.fieldLink "LateChecks$Entry" (47 : Nat) "LateChecks$Deal" "writtenValues" "[I") ∈ gW := gW_tbl (i := 88) (by decide +kernel) rfl
theorem q89 : (Cond.fieldLink "LateChecks" (116 : Nat) "LateChecks$Deal" "writtenValues" "[I") ∈ gW := gW_tbl (i := 89) (by decide +kernel) rfl
theorem q90 : (Cond.fieldLink "LateChecks$Deal" (21 : Nat) "LateChecks$Deal" "votes" "[I") ∈ gW := gW_tbl (i := 90) (by decide +kernel) rfl
theorem q91 : (Cond.fieldLink "LateChecks" (174 : Nat) "LateChecks$Deal" "votes" "[I") ∈ gW := gW_tbl (i := 91) (by decide +kernel) rfl
theorem q119 : (Cond.methodLink "LateChecks" (38 : Nat) ({ cls := "LateChecks", name := "startAnew", desc := "()V" } : Jvm.MethodName)) ∈ gW := gW_tbl (i := 119) (by decide +kernel) rfl
theorem q121 : (Cond.instanceMethod ({ cls := "LateChecks", name := "startAnew", desc := "()V" } : Jvm.MethodName)) ∈ gW := gW_tbl (i := 121) (by decide +kernel) rfl
theorem q122 : (Cond.code ({ cls := "LateChecks", name := "startAnew", desc := "()V" } : Jvm.MethodName) prog_1_method_28_code (5 : Nat) (Option.none : Option Jvm.ClassFile.FieldType)) ∈ gW := gW_tbl (i := 122) (by decide +kernel) rfl
theorem q123 : (Cond.methodLink "LateChecks" (235 : Nat) ({ cls := "LateChecks$Deal", name := "becomeFree", desc := "(Z)V" } : Jvm.MethodName)) ∈ gW := gW_tbl (i := 123) (by decide +kernel) rfl
theorem q124 : (Cond.instanceMethod ({ cls := "LateChecks$Deal", name := "becomeFree", desc := "(Z)V" } : Jvm.MethodName)) ∈ gW := gW_tbl (i := 124) (by decide +kernel) rfl
theorem q125 : (Cond.selects "LateChecks$Deal" ({ cls := "LateChecks$Deal", name := "becomeFree", desc := "(Z)V" } : Jvm.MethodName) ({ cls := "LateChecks$Deal", name := "becomeFree", desc := "(Z)V" } : Jvm.MethodName)) ∈ gW := gW_tbl (i := 125) (by decide +kernel) rfl
theorem q126 : (Cond.code ({ cls := "LateChecks$Deal", name := "becomeFree", desc := "(Z)V" } : Jvm.MethodName) prog_2_method_2_code (2 : Nat) (Option.none : Option Jvm.ClassFile.FieldType)) ∈ gW := gW_tbl (i := 126) (by decide +kernel) rfl
theorem q127 : (Cond.fieldLink "LateChecks" (10 : Nat) "LateChecks" "text" "LLateChecks$Text;") ∈ gW := gW_tbl (i := 127) (by decide +kernel) rfl
theorem q128 : (Cond.fieldLink "LateChecks" (16 : Nat) "LateChecks" "values" "[I") ∈ gW := gW_tbl (i := 128) (by decide +kernel) rfl
theorem q129 : (Cond.fieldLink "LateChecks" (20 : Nat) "LateChecks" "stamps" "[I") ∈ gW := gW_tbl (i := 129) (by decide +kernel) rfl
theorem q130 : (Cond.fieldLink "LateChecks" (25 : Nat) "LateChecks" "deals" "[LLateChecks$Deal;") ∈ gW := gW_tbl (i := 130) (by decide +kernel) rfl
theorem q131 : (Cond.fieldLink "LateChecks" (31 : Nat) "LateChecks" "entries" "[LLateChecks$Entry;") ∈ gW := gW_tbl (i := 131) (by decide +kernel) rfl
theorem q132 : (Cond.fieldLink "LateChecks" (69 : Nat) "LateChecks" "commits" "I") ∈ gW := gW_tbl (i := 132) (by decide +kernel) rfl
theorem q133 : (Cond.fieldLink "LateChecks" (83 : Nat) "LateChecks" "triesLimit" "I") ∈ gW := gW_tbl (i := 133) (by decide +kernel) rfl
theorem q134 : (Cond.fieldLink "LateChecks" (92 : Nat) "LateChecks" "begun" "I") ∈ gW := gW_tbl (i := 134) (by decide +kernel) rfl
theorem q135 : (Cond.fieldLink "LateChecks" (159 : Nat) "LateChecks" "tickets" "I") ∈ gW := gW_tbl (i := 135) (by decide +kernel) rfl
theorem q136 : (Cond.fieldLink "LateChecks" (223 : Nat) "LateChecks" "failed" "I") ∈ gW := gW_tbl (i := 136) (by decide +kernel) rfl
theorem q137 : (Cond.fieldLink "LateChecks" (226 : Nat) "LateChecks" "failedInVain" "I") ∈ gW := gW_tbl (i := 137) (by decide +kernel) rfl
theorem q138 : (Cond.fieldLink "LateChecks" (229 : Nat) "LateChecks" "failedByYielding" "I") ∈ gW := gW_tbl (i := 138) (by decide +kernel) rfl
theorem q164 : (Cond.methodLink "LateChecksLaw" (13 : Nat) ({ cls := "LateChecks", name := "write", desc := "(I)I" } : Jvm.MethodName)) ∈ gW := gW_tbl (i := 164) (by decide +kernel) rfl
theorem q165 : (Cond.instanceMethod ({ cls := "LateChecks", name := "write", desc := "(I)I" } : Jvm.MethodName)) ∈ gW := gW_tbl (i := 165) (by decide +kernel) rfl
theorem q166 : (Cond.selects "LateChecks" ({ cls := "LateChecks", name := "write", desc := "(I)I" } : Jvm.MethodName) ({ cls := "LateChecks", name := "write", desc := "(I)I" } : Jvm.MethodName)) ∈ gW := gW_tbl (i := 166) (by decide +kernel) rfl
theorem q167 : (Cond.code ({ cls := "LateChecks", name := "write", desc := "(I)I" } : Jvm.MethodName) prog_1_method_2_code (2 : Nat) (Option.some Jvm.ClassFile.FieldType.int)) ∈ gW := gW_tbl (i := 167) (by decide +kernel) rfl
theorem q168 : (Cond.methodLink "LateChecks" (45 : Nat) ({ cls := "LateChecks$Text", name := "append", desc := "(I)V" } : Jvm.MethodName)) ∈ gW := gW_tbl (i := 168) (by decide +kernel) rfl
theorem q169 : (Cond.instanceMethod ({ cls := "LateChecks$Text", name := "append", desc := "(I)V" } : Jvm.MethodName)) ∈ gW := gW_tbl (i := 169) (by decide +kernel) rfl
theorem q170 : (Cond.selects "LateChecks$Text" ({ cls := "LateChecks$Text", name := "append", desc := "(I)V" } : Jvm.MethodName) ({ cls := "LateChecks$Text", name := "append", desc := "(I)V" } : Jvm.MethodName)) ∈ gW := gW_tbl (i := 170) (by decide +kernel) rfl
theorem q171 : (Cond.code ({ cls := "LateChecks$Text", name := "append", desc := "(I)V" } : Jvm.MethodName) prog_4_method_2_code (2 : Nat) (Option.none : Option Jvm.ClassFile.FieldType)) ∈ gW := gW_tbl (i := 171) (by decide +kernel) rfl
theorem q172 : (Cond.methodLink "LateChecksLaw" (18 : Nat) ({ cls := "LateChecks", name := "erase", desc := "()I" } : Jvm.MethodName)) ∈ gW := gW_tbl (i := 172) (by decide +kernel) rfl
theorem q173 : (Cond.instanceMethod ({ cls := "LateChecks", name := "erase", desc := "()I" } : Jvm.MethodName)) ∈ gW := gW_tbl (i := 173) (by decide +kernel) rfl
theorem q174 : (Cond.selects "LateChecks" ({ cls := "LateChecks", name := "erase", desc := "()I" } : Jvm.MethodName) ({ cls := "LateChecks", name := "erase", desc := "()I" } : Jvm.MethodName)) ∈ gW := gW_tbl (i := 174) (by decide +kernel) rfl
theorem q175 : (Cond.code ({ cls := "LateChecks", name := "erase", desc := "()I" } : Jvm.MethodName) prog_1_method_3_code (2 : Nat) (Option.some Jvm.ClassFile.FieldType.int)) ∈ gW := gW_tbl (i := 175) (by decide +kernel) rfl
theorem q176 : (Cond.methodLink "LateChecksLaw" (23 : Nat) ({ cls := "LateChecks", name := "fault", desc := "()I" } : Jvm.MethodName)) ∈ gW := gW_tbl (i := 176) (by decide +kernel) rfl
theorem q177 : (Cond.instanceMethod ({ cls := "LateChecks", name := "fault", desc := "()I" } : Jvm.MethodName)) ∈ gW := gW_tbl (i := 177) (by decide +kernel) rfl
theorem q178 : (Cond.selects "LateChecks" ({ cls := "LateChecks", name := "fault", desc := "()I" } : Jvm.MethodName) ({ cls := "LateChecks", name := "fault", desc := "()I" } : Jvm.MethodName)) ∈ gW := gW_tbl (i := 178) (by decide +kernel) rfl
theorem q179 : (Cond.code ({ cls := "LateChecks", name := "fault", desc := "()I" } : Jvm.MethodName) prog_1_method_4_code (1 : Nat) (Option.some Jvm.ClassFile.FieldType.int)) ∈ gW := gW_tbl (i := 179) (by decide +kernel) rfl
theorem q180 : (Cond.methodLink "LateChecks" (48 : Nat) ({ cls := "LateChecks$Text", name := "parse", desc := "()I" } : Jvm.MethodName)) ∈ gW := gW_tbl (i := 180) (by decide +kernel) rfl
theorem q181 : (Cond.instanceMethod ({ cls := "LateChecks$Text", name := "parse", desc := "()I" } : Jvm.MethodName)) ∈ gW := gW_tbl (i := 181) (by decide +kernel) rfl
theorem q182 : (Cond.selects "LateChecks$Text" ({ cls := "LateChecks$Text", name := "parse", desc := "()I" } : Jvm.MethodName) ({ cls := "LateChecks$Text", name := "parse", desc := "()I" } : Jvm.MethodName)) ∈ gW := gW_tbl (i := 182) (by decide +kernel) rfl
theorem q183 : (Cond.code ({ cls := "LateChecks$Text", name := "parse", desc := "()I" } : Jvm.MethodName) prog_4_method_5_code (2 : Nat) (Option.some Jvm.ClassFile.FieldType.int)) ∈ gW := gW_tbl (i := 183) (by decide +kernel) rfl
theorem q184 : (Cond.methodLink "LateChecks$Text" (31 : Nat) ({ cls := "LateChecks$Text", name := "nextToken", desc := "()V" } : Jvm.MethodName)) ∈ gW := gW_tbl (i := 184) (by decide +kernel) rfl
theorem q185 : (Cond.instanceMethod ({ cls := "LateChecks$Text", name := "nextToken", desc := "()V" } : Jvm.MethodName)) ∈ gW := gW_tbl (i := 185) (by decide +kernel) rfl
theorem q186 : (Cond.selects "LateChecks$Text" ({ cls := "LateChecks$Text", name := "nextToken", desc := "()V" } : Jvm.MethodName) ({ cls := "LateChecks$Text", name := "nextToken", desc := "()V" } : Jvm.MethodName)) ∈ gW := gW_tbl (i := 186) (by decide +kernel) rfl
theorem q187 : (Cond.code ({ cls := "LateChecks$Text", name := "nextToken", desc := "()V" } : Jvm.MethodName) prog_4_method_10_code (2 : Nat) (Option.none : Option Jvm.ClassFile.FieldType)) ∈ gW := gW_tbl (i := 187) (by decide +kernel) rfl
theorem q188 : (Cond.methodLink "LateChecks$Text" (41 : Nat) ({ cls := "LateChecks$Text", name := "letterAt", desc := "(I)I" } : Jvm.MethodName)) ∈ gW := gW_tbl (i := 188) (by decide +kernel) rfl
theorem q189 : (Cond.instanceMethod ({ cls := "LateChecks$Text", name := "letterAt", desc := "(I)I" } : Jvm.MethodName)) ∈ gW := gW_tbl (i := 189) (by decide +kernel) rfl
theorem q190 : (Cond.selects "LateChecks$Text" ({ cls := "LateChecks$Text", name := "letterAt", desc := "(I)I" } : Jvm.MethodName) ({ cls := "LateChecks$Text", name := "letterAt", desc := "(I)I" } : Jvm.MethodName)) ∈ gW := gW_tbl (i := 190) (by decide +kernel) rfl
theorem q191 : (Cond.code ({ cls := "LateChecks$Text", name := "letterAt", desc := "(I)I" } : Jvm.MethodName) prog_4_method_11_code (2 : Nat) (Option.some Jvm.ClassFile.FieldType.int)) ∈ gW := gW_tbl (i := 191) (by decide +kernel) rfl
theorem q192 : (Cond.methodLink "LateChecks$Text" (81 : Nat) ({ cls := "LateChecks$Text", name := "areOfOneRow", desc := "(II)Z" } : Jvm.MethodName)) ∈ gW := gW_tbl (i := 192) (by decide +kernel) rfl
theorem q193 : (Cond.static ({ cls := "LateChecks$Text", name := "areOfOneRow", desc := "(II)Z" } : Jvm.MethodName)) ∈ gW := gW_tbl (i := 193) (by decide +kernel) rfl
theorem q194 : (Cond.code ({ cls := "LateChecks$Text", name := "areOfOneRow", desc := "(II)Z" } : Jvm.MethodName) prog_4_method_12_code (2 : Nat) (Option.some Jvm.ClassFile.FieldType.boolean)) ∈ gW := gW_tbl (i := 194) (by decide +kernel) rfl
theorem q195 : (Cond.methodLink "LateChecks$Text" (78 : Nat) ({ cls := "LateChecks$Text", name := "isDigit", desc := "(I)Z" } : Jvm.MethodName)) ∈ gW := gW_tbl (i := 195) (by decide +kernel) rfl
theorem q196 : (Cond.static ({ cls := "LateChecks$Text", name := "isDigit", desc := "(I)Z" } : Jvm.MethodName)) ∈ gW := gW_tbl (i := 196) (by decide +kernel) rfl
theorem q197 : (Cond.code ({ cls := "LateChecks$Text", name := "isDigit", desc := "(I)Z" } : Jvm.MethodName) prog_4_method_13_code (1 : Nat) (Option.some Jvm.ClassFile.FieldType.boolean)) ∈ gW := gW_tbl (i := 197) (by decide +kernel) rfl
theorem q198 : (Cond.methodLink "LateChecks$Text" (85 : Nat) ({ cls := "LateChecks$Text", name := "isSmall", desc := "(I)Z" } : Jvm.MethodName)) ∈ gW := gW_tbl (i := 198) (by decide +kernel) rfl
theorem q199 : (Cond.static ({ cls := "LateChecks$Text", name := "isSmall", desc := "(I)Z" } : Jvm.MethodName)) ∈ gW := gW_tbl (i := 199) (by decide +kernel) rfl
theorem q200 : (Cond.code ({ cls := "LateChecks$Text", name := "isSmall", desc := "(I)Z" } : Jvm.MethodName) prog_4_method_14_code (1 : Nat) (Option.some Jvm.ClassFile.FieldType.boolean)) ∈ gW := gW_tbl (i := 200) (by decide +kernel) rfl
theorem q201 : (Cond.methodLink "LateChecks$Text" (34 : Nat) ({ cls := "LateChecks$Text", name := "takeClause", desc := "(I)Z" } : Jvm.MethodName)) ∈ gW := gW_tbl (i := 201) (by decide +kernel) rfl
theorem q202 : (Cond.instanceMethod ({ cls := "LateChecks$Text", name := "takeClause", desc := "(I)Z" } : Jvm.MethodName)) ∈ gW := gW_tbl (i := 202) (by decide +kernel) rfl
theorem q203 : (Cond.selects "LateChecks$Text" ({ cls := "LateChecks$Text", name := "takeClause", desc := "(I)Z" } : Jvm.MethodName) ({ cls := "LateChecks$Text", name := "takeClause", desc := "(I)Z" } : Jvm.MethodName)) ∈ gW := gW_tbl (i := 203) (by decide +kernel) rfl
theorem q204 : (Cond.code ({ cls := "LateChecks$Text", name := "takeClause", desc := "(I)Z" } : Jvm.MethodName) prog_4_method_6_code (6 : Nat) (Option.some Jvm.ClassFile.FieldType.boolean)) ∈ gW := gW_tbl (i := 204) (by decide +kernel) rfl
theorem q205 : (Cond.methodLink "LateChecks$Text" (45 : Nat) ({ cls := "LateChecks$Text", name := "kindOfToken", desc := "()I" } : Jvm.MethodName)) ∈ gW := gW_tbl (i := 205) (by decide +kernel) rfl
theorem q206 : (Cond.instanceMethod ({ cls := "LateChecks$Text", name := "kindOfToken", desc := "()I" } : Jvm.MethodName)) ∈ gW := gW_tbl (i := 206) (by decide +kernel) rfl
theorem q207 : (Cond.selects "LateChecks$Text" ({ cls := "LateChecks$Text", name := "kindOfToken", desc := "()I" } : Jvm.MethodName) ({ cls := "LateChecks$Text", name := "kindOfToken", desc := "()I" } : Jvm.MethodName)) ∈ gW := gW_tbl (i := 207) (by decide +kernel) rfl
theorem q208 : (Cond.code ({ cls := "LateChecks$Text", name := "kindOfToken", desc := "()I" } : Jvm.MethodName) prog_4_method_7_code (2 : Nat) (Option.some Jvm.ClassFile.FieldType.int)) ∈ gW := gW_tbl (i := 208) (by decide +kernel) rfl
theorem q209 : (Cond.methodLink "LateChecks$Text" (71 : Nat) ({ cls := "LateChecks$Text", name := "wordOf", desc := "(I)Ljava/lang/String;" } : Jvm.MethodName)) ∈ gW := gW_tbl (i := 209) (by decide +kernel) rfl
theorem q210 : (Cond.static ({ cls := "LateChecks$Text", name := "wordOf", desc := "(I)Ljava/lang/String;" } : Jvm.MethodName)) ∈ gW := gW_tbl (i := 210) (by decide +kernel) rfl
theorem q211 : (Cond.code ({ cls := "LateChecks$Text", name := "wordOf", desc := "(I)Ljava/lang/String;" } : Jvm.MethodName) prog_4_method_15_code (1 : Nat) (Option.some (Jvm.ClassFile.FieldType.object "java/lang/String"))) ∈ gW := gW_tbl (i := 211) (by decide +kernel) rfl
theorem q212 : (Cond.stringRef "LateChecks$Text" (88 : Nat) "all") ∈ lw_tbl := List.mem_append_right _ (List.mem_of_getElem? (i := 212) (by decide +kernel))
theorem q213 : (Cond.stringRef "LateChecks$Text" (90 : Nat) "item") ∈ lw_tbl := List.mem_append_right _ (List.mem_of_getElem? (i := 213) (by decide +kernel))
theorem q214 : (Cond.stringRef "LateChecks$Text" (92 : Nat) "limit") ∈ lw_tbl := List.mem_append_right _ (List.mem_of_getElem? (i := 214) (by decide +kernel))
theorem q215 : (Cond.stringRef "LateChecks$Text" (94 : Nat) "begin") ∈ lw_tbl := List.mem_append_right _ (List.mem_of_getElem? (i := 215) (by decide +kernel))
theorem q216 : (Cond.stringRef "LateChecks$Text" (96 : Nat) "read") ∈ lw_tbl := List.mem_append_right _ (List.mem_of_getElem? (i := 216) (by decide +kernel))
theorem q217 : (Cond.stringRef "LateChecks$Text" (98 : Nat) "write") ∈ lw_tbl := List.mem_append_right _ (List.mem_of_getElem? (i := 217) (by decide +kernel))
theorem q218 : (Cond.stringRef "LateChecks$Text" (100 : Nat) "send") ∈ lw_tbl := List.mem_append_right _ (List.mem_of_getElem? (i := 218) (by decide +kernel))
theorem q219 : (Cond.methodLink "LateChecks$Text" (74 : Nat) ({ cls := "LateChecks$Text", name := "tokenIs", desc := "(Ljava/lang/String;)Z" } : Jvm.MethodName)) ∈ gW := gW_tbl (i := 219) (by decide +kernel) rfl
theorem q220 : (Cond.instanceMethod ({ cls := "LateChecks$Text", name := "tokenIs", desc := "(Ljava/lang/String;)Z" } : Jvm.MethodName)) ∈ gW := gW_tbl (i := 220) (by decide +kernel) rfl
theorem q221 : (Cond.selects "LateChecks$Text" ({ cls := "LateChecks$Text", name := "tokenIs", desc := "(Ljava/lang/String;)Z" } : Jvm.MethodName) ({ cls := "LateChecks$Text", name := "tokenIs", desc := "(Ljava/lang/String;)Z" } : Jvm.MethodName)) ∈ gW := gW_tbl (i := 221) (by decide +kernel) rfl
theorem q222 : (Cond.code ({ cls := "LateChecks$Text", name := "tokenIs", desc := "(Ljava/lang/String;)Z" } : Jvm.MethodName) prog_4_method_8_code (3 : Nat) (Option.some Jvm.ClassFile.FieldType.boolean)) ∈ gW := gW_tbl (i := 222) (by decide +kernel) rfl
theorem q223 : (Cond.methodLink "LateChecks$Text" (53 : Nat) ({ cls := "java/lang/String", name := "length", desc := "()I" } : Jvm.MethodName)) ∈ gW := gW_tbl (i := 223) (by decide +kernel) rfl
theorem q224 : (Cond.instanceMethod ({ cls := "java/lang/String", name := "length", desc := "()I" } : Jvm.MethodName)) ∈ gW := gW_tbl (i := 224) (by decide +kernel) rfl
theorem q225 : (Cond.selects "java/lang/String" ({ cls := "java/lang/String", name := "length", desc := "()I" } : Jvm.MethodName) ({ cls := "java/lang/String", name := "length", desc := "()I" } : Jvm.MethodName)) ∈ gW := gW_tbl (i := 225) (by decide +kernel) rfl
theorem q226 : (Cond.code ({ cls := "java/lang/String", name := "length", desc := "()I" } : Jvm.MethodName) prog_8_method_54_code (1 : Nat) (Option.some Jvm.ClassFile.FieldType.int)) ∈ gW := gW_tbl (i := 226) (by decide +kernel) rfl
theorem q227 : (Cond.methodLink "java/lang/String" (335 : Nat) ({ cls := "java/lang/String", name := "coder", desc := "()B" } : Jvm.MethodName)) ∈ gW := gW_tbl (i := 227) (by decide +kernel) rfl
theorem q228 : (Cond.instanceMethod ({ cls := "java/lang/String", name := "coder", desc := "()B" } : Jvm.MethodName)) ∈ gW := gW_tbl (i := 228) (by decide +kernel) rfl
theorem q229 : (Cond.selects "java/lang/String" ({ cls := "java/lang/String", name := "coder", desc := "()B" } : Jvm.MethodName) ({ cls := "java/lang/String", name := "coder", desc := "()B" } : Jvm.MethodName)) ∈ gW := gW_tbl (i := 229) (by decide +kernel) rfl
theorem q230 : (Cond.code ({ cls := "java/lang/String", name := "coder", desc := "()B" } : Jvm.MethodName) prog_8_method_152_code (1 : Nat) (Option.some Jvm.ClassFile.FieldType.byte)) ∈ gW := gW_tbl (i := 230) (by decide +kernel) rfl
theorem q231 : (Cond.fieldLink "java/lang/String" (38 : Nat) "java/lang/String" "COMPACT_STRINGS" "Z") ∈ gW := gW_tbl (i := 231) (by decide +kernel) rfl
theorem q232 : (Cond.laysStatic "java/lang/String" "COMPACT_STRINGS" "Z") ∈ lw_tbl := List.mem_append_right _ (List.mem_of_getElem? (i := 232) (by decide +kernel))
theorem q233 : (Cond.methodLink "LateChecks$Text" (60 : Nat) ({ cls := "java/lang/String", name := "charAt", desc := "(I)C" } : Jvm.MethodName)) ∈ gW := gW_tbl (i := 233) (by decide +kernel) rfl
theorem q234 : (Cond.instanceMethod ({ cls := "java/lang/String", name := "charAt", desc := "(I)C" } : Jvm.MethodName)) ∈ gW := gW_tbl (i := 234) (by decide +kernel) rfl
theorem q235 : (Cond.selects "java/lang/String" ({ cls := "java/lang/String", name := "charAt", desc := "(I)C" } : Jvm.MethodName) ({ cls := "java/lang/String", name := "charAt", desc := "(I)C" } : Jvm.MethodName)) ∈ gW := gW_tbl (i := 235) (by decide +kernel) rfl
theorem q236 : (Cond.code ({ cls := "java/lang/String", name := "charAt", desc := "(I)C" } : Jvm.MethodName) prog_8_method_56_code (2 : Nat) (Option.some Jvm.ClassFile.FieldType.char)) ∈ gW := gW_tbl (i := 236) (by decide +kernel) rfl
theorem q237 : (Cond.methodLink "java/lang/String" (492 : Nat) ({ cls := "java/lang/String", name := "isLatin1", desc := "()Z" } : Jvm.MethodName)) ∈ gW := gW_tbl (i := 237) (by decide +kernel) rfl
theorem q238 : (Cond.instanceMethod ({ cls := "java/lang/String", name := "isLatin1", desc := "()Z" } : Jvm.MethodName)) ∈ gW := gW_tbl (i := 238) (by decide +kernel) rfl
theorem q239 : (Cond.selects "java/lang/String" ({ cls := "java/lang/String", name := "isLatin1", desc := "()Z" } : Jvm.MethodName) ({ cls := "java/lang/String", name := "isLatin1", desc := "()Z" } : Jvm.MethodName)) ∈ gW := gW_tbl (i := 239) (by decide +kernel) rfl
theorem q240 : (Cond.code ({ cls := "java/lang/String", name := "isLatin1", desc := "()Z" } : Jvm.MethodName) prog_8_method_154_code (1 : Nat) (Option.some Jvm.ClassFile.FieldType.boolean)) ∈ gW := gW_tbl (i := 240) (by decide +kernel) rfl
theorem q241 : (Cond.methodLink "java/lang/String" (495 : Nat) ({ cls := "java/lang/StringLatin1", name := "charAt", desc := "([BI)C" } : Jvm.MethodName)) ∈ gW := gW_tbl (i := 241) (by decide +kernel) rfl
theorem q242 : (Cond.static ({ cls := "java/lang/StringLatin1", name := "charAt", desc := "([BI)C" } : Jvm.MethodName)) ∈ gW := gW_tbl (i := 242) (by decide +kernel) rfl
theorem q243 : (Cond.code ({ cls := "java/lang/StringLatin1", name := "charAt", desc := "([BI)C" } : Jvm.MethodName) prog_9_method_2_code (2 : Nat) (Option.some Jvm.ClassFile.FieldType.char)) ∈ gW := gW_tbl (i := 243) (by decide +kernel) rfl
theorem q244 : (Cond.methodLink "java/lang/StringLatin1" (9 : Nat) ({ cls := "java/lang/String", name := "checkIndex", desc := "(II)V" } : Jvm.MethodName)) ∈ gW := gW_tbl (i := 244) (by decide +kernel) rfl
theorem q245 : (Cond.static ({ cls := "java/lang/String", name := "checkIndex", desc := "(II)V" } : Jvm.MethodName)) ∈ gW := gW_tbl (i := 245) (by decide +kernel) rfl
theorem q246 : (Cond.code ({ cls := "java/lang/String", name := "checkIndex", desc := "(II)V" } : Jvm.MethodName) prog_8_method_155_code (2 : Nat) (Option.none : Option Jvm.ClassFile.FieldType)) ∈ gW := gW_tbl (i := 246) (by decide +kernel) rfl
theorem q247 : (Cond.fieldLink "java/lang/String" (1053 : Nat) "jdk/internal/util/Preconditions" "SIOOBE_FORMATTER" "Ljava/util/function/BiFunction;") ∈ gW := gW_tbl (i := 247) (by decide +kernel) rfl
theorem q248 : (Cond.laysStatic "jdk/internal/util/Preconditions" "SIOOBE_FORMATTER" "Ljava/util/function/BiFunction;") ∈ lw_tbl := List.mem_append_right _ (List.mem_of_getElem? (i := 248) (by decide +kernel))
theorem q249 : (Cond.methodLink "java/lang/String" (1059 : Nat) ({ cls := "jdk/internal/util/Preconditions", name := "checkIndex", desc := "(IILjava/util/function/BiFunction;)I" } : Jvm.MethodName)) ∈ gW := gW_tbl (i := 249) (by decide +kernel) rfl
theorem q250 : (Cond.static ({ cls := "jdk/internal/util/Preconditions", name := "checkIndex", desc := "(IILjava/util/function/BiFunction;)I" } : Jvm.MethodName)) ∈ gW := gW_tbl (i := 250) (by decide +kernel) rfl
theorem q251 : (Cond.code ({ cls := "jdk/internal/util/Preconditions", name := "checkIndex", desc := "(IILjava/util/function/BiFunction;)I" } : Jvm.MethodName) prog_11_method_11_code (3 : Nat) (Option.some Jvm.ClassFile.FieldType.int)) ∈ gW := gW_tbl (i := 251) (by decide +kernel) rfl
theorem q252 : (Cond.methodLink "java/lang/String" (498 : Nat) ({ cls := "java/lang/StringUTF16", name := "charAt", desc := "([BI)C" } : Jvm.MethodName)) ∈ gW := gW_tbl (i := 252) (by decide +kernel) rfl
theorem q253 : (Cond.static ({ cls := "java/lang/StringUTF16", name := "charAt", desc := "([BI)C" } : Jvm.MethodName)) ∈ gW := gW_tbl (i := 253) (by decide +kernel) rfl
theorem q254 : (Cond.code ({ cls := "java/lang/StringUTF16", name := "charAt", desc := "([BI)C" } : Jvm.MethodName) prog_10_method_83_code (2 : Nat) (Option.some Jvm.ClassFile.FieldType.char)) ∈ gW := gW_tbl (i := 254) (by decide +kernel) rfl
theorem q255 : (Cond.methodLink "java/lang/StringUTF16" (67 : Nat) ({ cls := "java/lang/StringUTF16", name := "checkIndex", desc := "(I[B)V" } : Jvm.MethodName)) ∈ gW := gW_tbl (i := 255) (by decide +kernel) rfl
theorem q256 : (Cond.static ({ cls := "java/lang/StringUTF16", name := "checkIndex", desc := "(I[B)V" } : Jvm.MethodName)) ∈ gW := gW_tbl (i := 256) (by decide +kernel) rfl
theorem q257 : (Cond.code ({ cls := "java/lang/StringUTF16", name := "checkIndex", desc := "(I[B)V" } : Jvm.MethodName) prog_10_method_91_code (2 : Nat) (Option.none : Option Jvm.ClassFile.FieldType)) ∈ gW := gW_tbl (i := 257) (by decide +kernel) rfl
theorem q258 : (Cond.methodLink "java/lang/StringUTF16" (48 : Nat) ({ cls := "java/lang/StringUTF16", name := "length", desc := "([B)I" } : Jvm.MethodName)) ∈ gW := gW_tbl (i := 258) (by decide +kernel) rfl
theorem q259 : (Cond.static ({ cls := "java/lang/StringUTF16", name := "length", desc := "([B)I" } : Jvm.MethodName)) ∈ gW := gW_tbl (i := 259) (by decide +kernel) rfl
theorem q260 : (Cond.code ({ cls := "java/lang/StringUTF16", name := "length", desc := "([B)I" } : Jvm.MethodName) prog_10_method_6_code (1 : Nat) (Option.some Jvm.ClassFile.FieldType.int)) ∈ gW := gW_tbl (i := 260) (by decide +kernel) rfl
theorem q261 : (Cond.methodLink "java/lang/StringUTF16" (414 : Nat) ({ cls := "java/lang/String", name := "checkIndex", desc := "(II)V" } : Jvm.MethodName)) ∈ gW := gW_tbl (i := 261) (by decide +kernel) rfl
theorem q262 : (Cond.methodLink "java/lang/StringUTF16" (71 : Nat) ({ cls := "java/lang/StringUTF16", name := "getChar", desc := "([BI)C" } : Jvm.MethodName)) ∈ gW := gW_tbl (i := 262) (by decide +kernel) rfl
theorem q263 : (Cond.static ({ cls := "java/lang/StringUTF16", name := "getChar", desc := "([BI)C" } : Jvm.MethodName)) ∈ gW := gW_tbl (i := 263) (by decide +kernel) rfl
theorem q264 : (Cond.code ({ cls := "java/lang/StringUTF16", name := "getChar", desc := "([BI)C" } : Jvm.MethodName) prog_10_method_5_code (2 : Nat) (Option.some Jvm.ClassFile.FieldType.char)) ∈ gW := gW_tbl (i := 264) (by decide +kernel) rfl
theorem q265 : (Cond.fieldLink "java/lang/StringUTF16" (44 : Nat) "java/lang/StringUTF16" "$assertionsDisabled" "Z") ∈ gW := gW_tbl (i := 265) (by decide +kernel) rfl
theorem q266 : (Cond.laysStatic "java/lang/StringUTF16" "$assertionsDisabled" "Z") ∈ lw_tbl := List.mem_append_right _ (List.mem_of_getElem? (i := 266) (by decide +kernel))
theorem q267 : (Cond.fieldLink "java/lang/StringUTF16" (59 : Nat) "java/lang/StringUTF16" "HI_BYTE_SHIFT" "I") ∈ gW := gW_tbl (i := 267) (by decide +kernel) rfl
theorem q268 : (Cond.laysStatic "java/lang/StringUTF16" "HI_BYTE_SHIFT" "I") ∈ lw_tbl := List.mem_append_right _ (List.mem_of_getElem? (i := 268) (by decide +kernel))
theorem q269 : (Cond.fieldLink "java/lang/StringUTF16" (63 : Nat) "java/lang/StringUTF16" "LO_BYTE_SHIFT" "I") ∈ gW := gW_tbl (i := 269) (by decide +kernel) rfl
theorem q270 : (Cond.laysStatic "java/lang/StringUTF16" "LO_BYTE_SHIFT" "I") ∈ lw_tbl := List.mem_append_right _ (List.mem_of_getElem? (i := 270) (by decide +kernel))
theorem q271 : (Cond.methodLink "LateChecks$Text" (49 : Nat) ({ cls := "LateChecks$Text", name := "formOf", desc := "(I)Ljava/lang/String;" } : Jvm.MethodName)) ∈ gW := gW_tbl (i := 271) (by decide +kernel) rfl
theorem q272 : (Cond.static ({ cls := "LateChecks$Text", name := "formOf", desc := "(I)Ljava/lang/String;" } : Jvm.MethodName)) ∈ gW := gW_tbl (i := 272) (by decide +kernel) rfl
theorem q273 : (Cond.code ({ cls := "LateChecks$Text", name := "formOf", desc := "(I)Ljava/lang/String;" } : Jvm.MethodName) prog_4_method_16_code (1 : Nat) (Option.some (Jvm.ClassFile.FieldType.object "java/lang/String"))) ∈ gW := gW_tbl (i := 273) (by decide +kernel) rfl
theorem q274 : (Cond.stringRef "LateChecks$Text" (102 : Nat) "") ∈ lw_tbl := List.mem_append_right _ (List.mem_of_getElem? (i := 274) (by decide +kernel))
theorem q275 : (Cond.stringRef "LateChecks$Text" (104 : Nat) "IV") ∈ lw_tbl := List.mem_append_right _ (List.mem_of_getElem? (i := 275) (by decide +kernel))
theorem q276 : (Cond.stringRef "LateChecks$Text" (106 : Nat) "N") ∈ lw_tbl := List.mem_append_right _ (List.mem_of_getElem? (i := 276) (by decide +kernel))
theorem q277 : (Cond.stringRef "LateChecks$Text" (108 : Nat) "D") ∈ lw_tbl := List.mem_append_right _ (List.mem_of_getElem? (i := 277) (by decide +kernel))
theorem q278 : (Cond.stringRef "LateChecks$Text" (110 : Nat) "DI") ∈ lw_tbl := List.mem_append_right _ (List.mem_of_getElem? (i := 278) (by decide +kernel))
theorem q279 : (Cond.stringRef "LateChecks$Text" (112 : Nat) "DIV") ∈ lw_tbl := List.mem_append_right _ (List.mem_of_getElem? (i := 279) (by decide +kernel))
theorem q280 : (Cond.methodLink "LateChecks$Text" (57 : Nat) ({ cls := "LateChecks$Text", name := "numberOfToken", desc := "()I" } : Jvm.MethodName)) ∈ gW := gW_tbl (i := 280) (by decide +kernel) rfl
theorem q281 : (Cond.instanceMethod ({ cls := "LateChecks$Text", name := "numberOfToken", desc := "()I" } : Jvm.MethodName)) ∈ gW := gW_tbl (i := 281) (by decide +kernel) rfl
theorem q282 : (Cond.selects "LateChecks$Text" ({ cls := "LateChecks$Text", name := "numberOfToken", desc := "()I" } : Jvm.MethodName) ({ cls := "LateChecks$Text", name := "numberOfToken", desc := "()I" } : Jvm.MethodName)) ∈ gW := gW_tbl (i := 282) (by decide +kernel) rfl
theorem q283 : (Cond.code ({ cls := "LateChecks$Text", name := "numberOfToken", desc := "()I" } : Jvm.MethodName) prog_4_method_9_code (3 : Nat) (Option.some Jvm.ClassFile.FieldType.int)) ∈ gW := gW_tbl (i := 283) (by decide +kernel) rfl
theorem q284 : (Cond.methodLink "LateChecks$Text" (64 : Nat) ({ cls := "LateChecks$Text", name := "leastOf", desc := "(C)I" } : Jvm.MethodName)) ∈ gW := gW_tbl (i := 284) (by decide +kernel) rfl
theorem q285 : (Cond.static ({ cls := "LateChecks$Text", name := "leastOf", desc := "(C)I" } : Jvm.MethodName)) ∈ gW := gW_tbl (i := 285) (by decide +kernel) rfl
theorem q286 : (Cond.code ({ cls := "LateChecks$Text", name := "leastOf", desc := "(C)I" } : Jvm.MethodName) prog_4_method_17_code (1 : Nat) (Option.some Jvm.ClassFile.FieldType.int)) ∈ gW := gW_tbl (i := 286) (by decide +kernel) rfl
theorem q287 : (Cond.methodLink "LateChecks$Text" (68 : Nat) ({ cls := "LateChecks$Text", name := "mostOf", desc := "(C)I" } : Jvm.MethodName)) ∈ gW := gW_tbl (i := 287) (by decide +kernel) rfl
theorem q288 : (Cond.static ({ cls := "LateChecks$Text", name := "mostOf", desc := "(C)I" } : Jvm.MethodName)) ∈ gW := gW_tbl (i := 288) (by decide +kernel) rfl
theorem q289 : (Cond.code ({ cls := "LateChecks$Text", name := "mostOf", desc := "(C)I" } : Jvm.MethodName) prog_4_method_18_code (1 : Nat) (Option.some Jvm.ClassFile.FieldType.int)) ∈ gW := gW_tbl (i := 289) (by decide +kernel) rfl
theorem q290 : (Cond.arrayClass Jvm.ClassFile.FieldType.byte) ∈ gW := gW_tbl (i := 290) (by decide +kernel) rfl
theorem q291 : (Cond.methodLink "LateChecksLaw" (27 : Nat) ({ cls := "LateChecks", name := "tell", desc := "()I" } : Jvm.MethodName)) ∈ gW := gW_tbl (i := 291) (by decide +kernel) rfl
theorem q292 : (Cond.instanceMethod ({ cls := "LateChecks", name := "tell", desc := "()I" } : Jvm.MethodName)) ∈ gW := gW_tbl (i := 292) (by decide +kernel) rfl
theorem q293 : (Cond.selects "LateChecks" ({ cls := "LateChecks", name := "tell", desc := "()I" } : Jvm.MethodName) ({ cls := "LateChecks", name := "tell", desc := "()I" } : Jvm.MethodName)) ∈ gW := gW_tbl (i := 293) (by decide +kernel) rfl
theorem q294 : (Cond.code ({ cls := "LateChecks", name := "tell", desc := "()I" } : Jvm.MethodName) prog_1_method_5_code (3 : Nat) (Option.some Jvm.ClassFile.FieldType.int)) ∈ gW := gW_tbl (i := 294) (by decide +kernel) rfl
theorem q295 : (Cond.methodLink "LateChecks" (55 : Nat) ({ cls := "LateChecks", name := "doClause", desc := "(I)V" } : Jvm.MethodName)) ∈ gW := gW_tbl (i := 295) (by decide +kernel) rfl
theorem q297 : (Cond.instanceMethod ({ cls := "LateChecks", name := "doClause", desc := "(I)V" } : Jvm.MethodName)) ∈ gW := gW_tbl (i := 297) (by decide +kernel) rfl
theorem q298 : (Cond.code ({ cls := "LateChecks", name := "doClause", desc := "(I)V" } : Jvm.MethodName) prog_1_method_29_code (5 : Nat) (Option.none : Option Jvm.ClassFile.FieldType)) ∈ gW := gW_tbl (i := 298) (by decide +kernel) rfl
theorem q299 : (Cond.methodLink "LateChecks" (239 : Nat) ({ cls := "LateChecks$Text", name := "numberOf", desc := "(II)I" } : Jvm.MethodName)) ∈ gW := gW_tbl (i := 299) (by decide +kernel) rfl
theorem q300 : (Cond.instanceMethod ({ cls := "LateChecks$Text", name := "numberOf", desc := "(II)I" } : Jvm.MethodName)) ∈ gW := gW_tbl (i := 300) (by decide +kernel) rfl
theorem q301 : (Cond.selects "LateChecks$Text" ({ cls := "LateChecks$Text", name := "numberOf", desc := "(II)I" } : Jvm.MethodName) ({ cls := "LateChecks$Text", name := "numberOf", desc := "(II)I" } : Jvm.MethodName)) ∈ gW := gW_tbl (i := 301) (by decide +kernel) rfl
theorem q302 : (Cond.code ({ cls := "LateChecks$Text", name := "numberOf", desc := "(II)I" } : Jvm.MethodName) prog_4_method_4_code (4 : Nat) (Option.some Jvm.ClassFile.FieldType.int)) ∈ gW := gW_tbl (i := 302) (by decide +kernel) rfl
theorem q303 : (Cond.methodLink "LateChecks" (243 : Nat) ({ cls := "LateChecks$Text", name := "kindOf", desc := "(I)I" } : Jvm.MethodName)) ∈ gW := gW_tbl (i := 303) (by decide +kernel) rfl
theorem q304 : (Cond.instanceMethod ({ cls := "LateChecks$Text", name := "kindOf", desc := "(I)I" } : Jvm.MethodName)) ∈ gW := gW_tbl (i := 304) (by decide +kernel) rfl
theorem q305 : (Cond.selects "LateChecks$Text" ({ cls := "LateChecks$Text", name := "kindOf", desc := "(I)I" } : Jvm.MethodName) ({ cls := "LateChecks$Text", name := "kindOf", desc := "(I)I" } : Jvm.MethodName)) ∈ gW := gW_tbl (i := 305) (by decide +kernel) rfl
theorem q306 : (Cond.code ({ cls := "LateChecks$Text", name := "kindOf", desc := "(I)I" } : Jvm.MethodName) prog_4_method_3_code (2 : Nat) (Option.some Jvm.ClassFile.FieldType.int)) ∈ gW := gW_tbl (i := 306) (by decide +kernel) rfl
theorem q307 : (Cond.methodLink "LateChecks" (246 : Nat) ({ cls := "LateChecks", name := "put", desc := "(II)I" } : Jvm.MethodName)) ∈ gW := gW_tbl (i := 307) (by decide +kernel) rfl
theorem q308 : (Cond.instanceMethod ({ cls := "LateChecks", name := "put", desc := "(II)I" } : Jvm.MethodName)) ∈ gW := gW_tbl (i := 308) (by decide +kernel) rfl
theorem q309 : (Cond.selects "LateChecks" ({ cls := "LateChecks", name := "put", desc := "(II)I" } : Jvm.MethodName) ({ cls := "LateChecks", name := "put", desc := "(II)I" } : Jvm.MethodName)) ∈ gW := gW_tbl (i := 309) (by decide +kernel) rfl
theorem q310 : (Cond.code ({ cls := "LateChecks", name := "put", desc := "(II)I" } : Jvm.MethodName) prog_1_method_7_code (3 : Nat) (Option.some Jvm.ClassFile.FieldType.int)) ∈ gW := gW_tbl (i := 310) (by decide +kernel) rfl
theorem q311 : (Cond.methodLink "LateChecks" (58 : Nat) ({ cls := "LateChecks", name := "isItem", desc := "(I)Z" } : Jvm.MethodName)) ∈ gW := gW_tbl (i := 311) (by decide +kernel) rfl
theorem q312 : (Cond.static ({ cls := "LateChecks", name := "isItem", desc := "(I)Z" } : Jvm.MethodName)) ∈ gW := gW_tbl (i := 312) (by decide +kernel) rfl
theorem q313 : (Cond.code ({ cls := "LateChecks", name := "isItem", desc := "(I)Z" } : Jvm.MethodName) prog_1_method_30_code (1 : Nat) (Option.some Jvm.ClassFile.FieldType.boolean)) ∈ gW := gW_tbl (i := 313) (by decide +kernel) rfl
theorem q314 : (Cond.methodLink "LateChecks" (62 : Nat) ({ cls := "LateChecks", name := "isValue", desc := "(I)Z" } : Jvm.MethodName)) ∈ gW := gW_tbl (i := 314) (by decide +kernel) rfl
theorem q315 : (Cond.static ({ cls := "LateChecks", name := "isValue", desc := "(I)Z" } : Jvm.MethodName)) ∈ gW := gW_tbl (i := 315) (by decide +kernel) rfl
theorem q316 : (Cond.code ({ cls := "LateChecks", name := "isValue", desc := "(I)Z" } : Jvm.MethodName) prog_1_method_33_code (1 : Nat) (Option.some Jvm.ClassFile.FieldType.boolean)) ∈ gW := gW_tbl (i := 316) (by decide +kernel) rfl
theorem q317 : (Cond.methodLink "LateChecks" (65 : Nat) ({ cls := "LateChecks", name := "howMany", desc := "(I)I" } : Jvm.MethodName)) ∈ gW := gW_tbl (i := 317) (by decide +kernel) rfl
theorem q319 : (Cond.instanceMethod ({ cls := "LateChecks", name := "howMany", desc := "(I)I" } : Jvm.MethodName)) ∈ gW := gW_tbl (i := 319) (by decide +kernel) rfl
theorem q320 : (Cond.code ({ cls := "LateChecks", name := "howMany", desc := "(I)I" } : Jvm.MethodName) prog_1_method_36_code (7 : Nat) (Option.some Jvm.ClassFile.FieldType.int)) ∈ gW := gW_tbl (i := 320) (by decide +kernel) rfl
theorem q321 : (Cond.methodLink "LateChecks" (72 : Nat) ({ cls := "LateChecks", name := "nextEntry", desc := "()LLateChecks$Entry;" } : Jvm.MethodName)) ∈ gW := gW_tbl (i := 321) (by decide +kernel) rfl
theorem q323 : (Cond.instanceMethod ({ cls := "LateChecks", name := "nextEntry", desc := "()LLateChecks$Entry;" } : Jvm.MethodName)) ∈ gW := gW_tbl (i := 323) (by decide +kernel) rfl
theorem q324 : (Cond.code ({ cls := "LateChecks", name := "nextEntry", desc := "()LLateChecks$Entry;" } : Jvm.MethodName) prog_1_method_57_code (2 : Nat) (Option.some (Jvm.ClassFile.FieldType.object "LateChecks$Entry"))) ∈ gW := gW_tbl (i := 324) (by decide +kernel) rfl
theorem q325 : (Cond.instantiable "LateChecks$Entry" (8 : Nat)) ∈ gW := gW_tbl (i := 325) (by decide +kernel) rfl
theorem q326 : (Cond.methodLinkNest "LateChecks" (288 : Nat) ({ cls := "LateChecks$Entry", name := "<init>", desc := "()V" } : Jvm.MethodName) "LateChecks") ∈ lw_tbl := List.mem_append_right _ (List.mem_of_getElem? (i := 326) (by decide +kernel))
theorem q327 : (Cond.instanceMethod ({ cls := "LateChecks$Entry", name := "<init>", desc := "()V" } : Jvm.MethodName)) ∈ gW := gW_tbl (i := 327) (by decide +kernel) rfl
theorem q328 : (Cond.code ({ cls := "LateChecks$Entry", name := "<init>", desc := "()V" } : Jvm.MethodName) prog_3_method_1_code (1 : Nat) (Option.none : Option Jvm.ClassFile.FieldType)) ∈ gW := gW_tbl (i := 328) (by decide +kernel) rfl
theorem q329 : (Cond.methodLink "LateChecks$Entry" (3 : Nat) ({ cls := "java/lang/Object", name := "<init>", desc := "()V" } : Jvm.MethodName)) ∈ gW := gW_tbl (i := 329) (by decide +kernel) rfl
theorem q330 : (Cond.fieldLink "LateChecks$Entry" (24 : Nat) "LateChecks$Entry" "dealNumber" "I") ∈ gW := gW_tbl (i := 330) (by decide +kernel) rfl
theorem q331 : (Cond.fieldLink "LateChecks" (208 : Nat) "LateChecks$Entry" "dealNumber" "I") ∈ gW := gW_tbl (i := 331) (by decide +kernel) rfl
theorem q332 : (Cond.fieldLink "LateChecks$Entry" (30 : Nat) "LateChecks$Entry" "age" "I") ∈ gW := gW_tbl (i := 332) (by decide +kernel) rfl
theorem q333 : (Cond.fieldLink "LateChecks" (211 : Nat) "LateChecks$Entry" "age" "I") ∈ gW := gW_tbl (i := 333) (by decide +kernel) rfl
theorem q334 : (Cond.fieldLink "LateChecks$Entry" (34 : Nat) "LateChecks$Entry" "tries" "I") ∈ gW := gW_tbl (i := 334) (by decide +kernel) rfl
theorem q335 : (Cond.fieldLink "LateChecks" (212 : Nat) "LateChecks$Entry" "tries" "I") ∈ gW := gW_tbl (i := 335) (by decide +kernel) rfl
theorem q336 : (Cond.fieldLink "LateChecks$Entry" (38 : Nat) "LateChecks$Entry" "reads" "I") ∈ gW := gW_tbl (i := 336) (by decide +kernel) rfl
theorem q337 : (Cond.fieldLink "LateChecks" (213 : Nat) "LateChecks$Entry" "reads" "I") ∈ gW := gW_tbl (i := 337) (by decide +kernel) rfl
theorem q338 : (Cond.fieldLink "LateChecks$Entry" (42 : Nat) "LateChecks$Entry" "writes" "I") ∈ gW := gW_tbl (i := 338) (by decide +kernel) rfl
theorem q339 : (Cond.fieldLink "LateChecks" (214 : Nat) "LateChecks$Entry" "writes" "I") ∈ gW := gW_tbl (i := 339) (by decide +kernel) rfl
theorem q340 : (Cond.fieldLink "LateChecks$Entry" (43 : Nat) "LateChecks$Entry" "way" "I") ∈ gW := gW_tbl (i := 340) (by decide +kernel) rfl
theorem q341 : (Cond.fieldLink "LateChecks" (215 : Nat) "LateChecks$Entry" "way" "I") ∈ gW := gW_tbl (i := 341) (by decide +kernel) rfl
theorem q342 : (Cond.fieldLink "LateChecks$Entry" (9 : Nat) "LateChecks$Entry" "notedStamps" "[I") ∈ gW := gW_tbl (i := 342) (by decide +kernel) rfl
theorem q343 : (Cond.fieldLink "LateChecks" (218 : Nat) "LateChecks$Entry" "notedStamps" "[I") ∈ gW := gW_tbl (i := 343) (by decide +kernel) rfl
theorem q344 : (Cond.fieldLink "LateChecks$Entry" (15 : Nat) "LateChecks$Entry" "writtenValues" "[I") ∈ gW := gW_tbl (i := 344) (by decide +kernel) rfl
theorem q345 : (Cond.fieldLink "LateChecks" (219 : Nat) "LateChecks$Entry" "writtenValues" "[I") ∈ gW := gW_tbl (i := 345) (by decide +kernel) rfl
theorem q363 : (Cond.methodLink "LateChecks" (76 : Nat) ({ cls := "LateChecks$Entry", name := "keepWrite", desc := "(II)V" } : Jvm.MethodName)) ∈ gW := gW_tbl (i := 363) (by decide +kernel) rfl
theorem q364 : (Cond.instanceMethod ({ cls := "LateChecks$Entry", name := "keepWrite", desc := "(II)V" } : Jvm.MethodName)) ∈ gW := gW_tbl (i := 364) (by decide +kernel) rfl
theorem q365 : (Cond.selects "LateChecks$Entry" ({ cls := "LateChecks$Entry", name := "keepWrite", desc := "(II)V" } : Jvm.MethodName) ({ cls := "LateChecks$Entry", name := "keepWrite", desc := "(II)V" } : Jvm.MethodName)) ∈ gW := gW_tbl (i := 365) (by decide +kernel) rfl
theorem q366 : (Cond.code ({ cls := "LateChecks$Entry", name := "keepWrite", desc := "(II)V" } : Jvm.MethodName) prog_3_method_3_code (3 : Nat) (Option.none : Option Jvm.ClassFile.FieldType)) ∈ gW := gW_tbl (i := 366) (by decide +kernel) rfl
theorem q367 : (Cond.methodLinkNest "LateChecks$Entry" (48 : Nat) ({ cls := "LateChecks", name := "bit", desc := "(I)I" } : Jvm.MethodName) "LateChecks") ∈ lw_tbl := List.mem_append_right _ (List.mem_of_getElem? (i := 367) (by decide +kernel))
theorem q368 : (Cond.static ({ cls := "LateChecks", name := "bit", desc := "(I)I" } : Jvm.MethodName)) ∈ gW := gW_tbl (i := 368) (by decide +kernel) rfl
theorem q369 : (Cond.code ({ cls := "LateChecks", name := "bit", desc := "(I)I" } : Jvm.MethodName) prog_1_method_34_code (1 : Nat) (Option.some Jvm.ClassFile.FieldType.int)) ∈ gW := gW_tbl (i := 369) (by decide +kernel) rfl
theorem q370 : (Cond.methodLink "LateChecks" (80 : Nat) ({ cls := "LateChecks", name := "change", desc := "(II)V" } : Jvm.MethodName)) ∈ gW := gW_tbl (i := 370) (by decide +kernel) rfl
theorem q372 : (Cond.instanceMethod ({ cls := "LateChecks", name := "change", desc := "(II)V" } : Jvm.MethodName)) ∈ gW := gW_tbl (i := 372) (by decide +kernel) rfl
theorem q373 : (Cond.code ({ cls := "LateChecks", name := "change", desc := "(II)V" } : Jvm.MethodName) prog_1_method_49_code (3 : Nat) (Option.none : Option Jvm.ClassFile.FieldType)) ∈ gW := gW_tbl (i := 373) (by decide +kernel) rfl
theorem q374 : (Cond.methodLink "LateChecks" (249 : Nat) ({ cls := "LateChecks", name := "limit", desc := "(I)I" } : Jvm.MethodName)) ∈ gW := gW_tbl (i := 374) (by decide +kernel) rfl
theorem q375 : (Cond.instanceMethod ({ cls := "LateChecks", name := "limit", desc := "(I)I" } : Jvm.MethodName)) ∈ gW := gW_tbl (i := 375) (by decide +kernel) rfl
theorem q376 : (Cond.selects "LateChecks" ({ cls := "LateChecks", name := "limit", desc := "(I)I" } : Jvm.MethodName) ({ cls := "LateChecks", name := "limit", desc := "(I)I" } : Jvm.MethodName)) ∈ gW := gW_tbl (i := 376) (by decide +kernel) rfl
theorem q377 : (Cond.code ({ cls := "LateChecks", name := "limit", desc := "(I)I" } : Jvm.MethodName) prog_1_method_8_code (3 : Nat) (Option.some Jvm.ClassFile.FieldType.int)) ∈ gW := gW_tbl (i := 377) (by decide +kernel) rfl
theorem q378 : (Cond.methodLink "LateChecks" (252 : Nat) ({ cls := "LateChecks", name := "begin", desc := "(I)I" } : Jvm.MethodName)) ∈ gW := gW_tbl (i := 378) (by decide +kernel) rfl
theorem q379 : (Cond.instanceMethod ({ cls := "LateChecks", name := "begin", desc := "(I)I" } : Jvm.MethodName)) ∈ gW := gW_tbl (i := 379) (by decide +kernel) rfl
theorem q380 : (Cond.selects "LateChecks" ({ cls := "LateChecks", name := "begin", desc := "(I)I" } : Jvm.MethodName) ({ cls := "LateChecks", name := "begin", desc := "(I)I" } : Jvm.MethodName)) ∈ gW := gW_tbl (i := 380) (by decide +kernel) rfl
theorem q381 : (Cond.code ({ cls := "LateChecks", name := "begin", desc := "(I)I" } : Jvm.MethodName) prog_1_method_9_code (3 : Nat) (Option.some Jvm.ClassFile.FieldType.int)) ∈ gW := gW_tbl (i := 381) (by decide +kernel) rfl
theorem q382 : (Cond.methodLink "LateChecks" (86 : Nat) ({ cls := "LateChecks", name := "isDeal", desc := "(I)Z" } : Jvm.MethodName)) ∈ gW := gW_tbl (i := 382) (by decide +kernel) rfl
theorem q383 : (Cond.static ({ cls := "LateChecks", name := "isDeal", desc := "(I)Z" } : Jvm.MethodName)) ∈ gW := gW_tbl (i := 383) (by decide +kernel) rfl
theorem q384 : (Cond.code ({ cls := "LateChecks", name := "isDeal", desc := "(I)Z" } : Jvm.MethodName) prog_1_method_31_code (1 : Nat) (Option.some Jvm.ClassFile.FieldType.boolean)) ∈ gW := gW_tbl (i := 384) (by decide +kernel) rfl
theorem q385 : (Cond.methodLink "LateChecks" (95 : Nat) ({ cls := "LateChecks$Deal", name := "becomeOpen", desc := "(III)V" } : Jvm.MethodName)) ∈ gW := gW_tbl (i := 385) (by decide +kernel) rfl
theorem q386 : (Cond.instanceMethod ({ cls := "LateChecks$Deal", name := "becomeOpen", desc := "(III)V" } : Jvm.MethodName)) ∈ gW := gW_tbl (i := 386) (by decide +kernel) rfl
theorem q387 : (Cond.selects "LateChecks$Deal" ({ cls := "LateChecks$Deal", name := "becomeOpen", desc := "(III)V" } : Jvm.MethodName) ({ cls := "LateChecks$Deal", name := "becomeOpen", desc := "(III)V" } : Jvm.MethodName)) ∈ gW := gW_tbl (i := 387) (by decide +kernel) rfl
theorem q388 : (Cond.code ({ cls := "LateChecks$Deal", name := "becomeOpen", desc := "(III)V" } : Jvm.MethodName) prog_2_method_3_code (4 : Nat) (Option.none : Option Jvm.ClassFile.FieldType)) ∈ gW := gW_tbl (i := 388) (by decide +kernel) rfl
theorem q389 : (Cond.methodLink "LateChecks" (255 : Nat) ({ cls := "LateChecks", name := "read", desc := "(II)I" } : Jvm.MethodName)) ∈ gW := gW_tbl (i := 389) (by decide +kernel) rfl
theorem q390 : (Cond.instanceMethod ({ cls := "LateChecks", name := "read", desc := "(II)I" } : Jvm.MethodName)) ∈ gW := gW_tbl (i := 390) (by decide +kernel) rfl
theorem q391 : (Cond.selects "LateChecks" ({ cls := "LateChecks", name := "read", desc := "(II)I" } : Jvm.MethodName) ({ cls := "LateChecks", name := "read", desc := "(II)I" } : Jvm.MethodName)) ∈ gW := gW_tbl (i := 391) (by decide +kernel) rfl
theorem q392 : (Cond.code ({ cls := "LateChecks", name := "read", desc := "(II)I" } : Jvm.MethodName) prog_1_method_11_code (4 : Nat) (Option.some Jvm.ClassFile.FieldType.int)) ∈ gW := gW_tbl (i := 392) (by decide +kernel) rfl
theorem q393 : (Cond.methodLink "LateChecks" (112 : Nat) ({ cls := "LateChecks", name := "has", desc := "(II)Z" } : Jvm.MethodName)) ∈ gW := gW_tbl (i := 393) (by decide +kernel) rfl
theorem q394 : (Cond.static ({ cls := "LateChecks", name := "has", desc := "(II)Z" } : Jvm.MethodName)) ∈ gW := gW_tbl (i := 394) (by decide +kernel) rfl
theorem q395 : (Cond.code ({ cls := "LateChecks", name := "has", desc := "(II)Z" } : Jvm.MethodName) prog_1_method_35_code (2 : Nat) (Option.some Jvm.ClassFile.FieldType.boolean)) ∈ gW := gW_tbl (i := 395) (by decide +kernel) rfl
theorem q396 : (Cond.methodLink "LateChecks" (128 : Nat) ({ cls := "LateChecks", name := "bit", desc := "(I)I" } : Jvm.MethodName)) ∈ gW := gW_tbl (i := 396) (by decide +kernel) rfl
theorem q397 : (Cond.methodLink "LateChecks" (122 : Nat) ({ cls := "LateChecks$Deal", name := "note", desc := "(III)V" } : Jvm.MethodName)) ∈ gW := gW_tbl (i := 397) (by decide +kernel) rfl
theorem q398 : (Cond.instanceMethod ({ cls := "LateChecks$Deal", name := "note", desc := "(III)V" } : Jvm.MethodName)) ∈ gW := gW_tbl (i := 398) (by decide +kernel) rfl
theorem q399 : (Cond.selects "LateChecks$Deal" ({ cls := "LateChecks$Deal", name := "note", desc := "(III)V" } : Jvm.MethodName) ({ cls := "LateChecks$Deal", name := "note", desc := "(III)V" } : Jvm.MethodName)) ∈ gW := gW_tbl (i := 399) (by decide +kernel) rfl
theorem q400 : (Cond.code ({ cls := "LateChecks$Deal", name := "note", desc := "(III)V" } : Jvm.MethodName) prog_2_method_5_code (4 : Nat) (Option.none : Option Jvm.ClassFile.FieldType)) ∈ gW := gW_tbl (i := 400) (by decide +kernel) rfl
theorem q401 : (Cond.methodLinkNest "LateChecks$Deal" (53 : Nat) ({ cls := "LateChecks", name := "bit", desc := "(I)I" } : Jvm.MethodName) "LateChecks") ∈ lw_tbl := List.mem_append_right _ (List.mem_of_getElem? (i := 401) (by decide +kernel))
theorem q402 : (Cond.methodLink "LateChecks" (258 : Nat) ({ cls := "LateChecks", name := "lay", desc := "(III)I" } : Jvm.MethodName)) ∈ gW := gW_tbl (i := 402) (by decide +kernel) rfl
theorem q403 : (Cond.instanceMethod ({ cls := "LateChecks", name := "lay", desc := "(III)I" } : Jvm.MethodName)) ∈ gW := gW_tbl (i := 403) (by decide +kernel) rfl
theorem q404 : (Cond.selects "LateChecks" ({ cls := "LateChecks", name := "lay", desc := "(III)I" } : Jvm.MethodName) ({ cls := "LateChecks", name := "lay", desc := "(III)I" } : Jvm.MethodName)) ∈ gW := gW_tbl (i := 404) (by decide +kernel) rfl
theorem q405 : (Cond.code ({ cls := "LateChecks", name := "lay", desc := "(III)I" } : Jvm.MethodName) prog_1_method_12_code (5 : Nat) (Option.some Jvm.ClassFile.FieldType.int)) ∈ gW := gW_tbl (i := 405) (by decide +kernel) rfl
theorem q406 : (Cond.methodLink "LateChecks" (131 : Nat) ({ cls := "java/lang/Integer", name := "bitCount", desc := "(I)I" } : Jvm.MethodName)) ∈ gW := gW_tbl (i := 406) (by decide +kernel) rfl
theorem q407 : (Cond.static ({ cls := "java/lang/Integer", name := "bitCount", desc := "(I)I" } : Jvm.MethodName)) ∈ gW := gW_tbl (i := 407) (by decide +kernel) rfl
theorem q408 : (Cond.code ({ cls := "java/lang/Integer", name := "bitCount", desc := "(I)I" } : Jvm.MethodName) prog_7_method_49_code (1 : Nat) (Option.some Jvm.ClassFile.FieldType.int)) ∈ gW := gW_tbl (i := 408) (by decide +kernel) rfl
theorem q409 : (Cond.constant "java/lang/Integer" (265 : Nat) (1431655765 : Int32)) ∈ gW := gW_tbl (i := 409) (by decide +kernel) rfl
theorem q410 : (Cond.constant "java/lang/Integer" (266 : Nat) (858993459 : Int32)) ∈ gW := gW_tbl (i := 410) (by decide +kernel) rfl
theorem q411 : (Cond.constant "java/lang/Integer" (267 : Nat) (252645135 : Int32)) ∈ gW := gW_tbl (i := 411) (by decide +kernel) rfl
theorem q412 : (Cond.methodLink "LateChecks" (262 : Nat) ({ cls := "LateChecks", name := "send", desc := "(I)I" } : Jvm.MethodName)) ∈ gW := gW_tbl (i := 412) (by decide +kernel) rfl
theorem q413 : (Cond.instanceMethod ({ cls := "LateChecks", name := "send", desc := "(I)I" } : Jvm.MethodName)) ∈ gW := gW_tbl (i := 413) (by decide +kernel) rfl
theorem q414 : (Cond.selects "LateChecks" ({ cls := "LateChecks", name := "send", desc := "(I)I" } : Jvm.MethodName) ({ cls := "LateChecks", name := "send", desc := "(I)I" } : Jvm.MethodName)) ∈ gW := gW_tbl (i := 414) (by decide +kernel) rfl
theorem q415 : (Cond.code ({ cls := "LateChecks", name := "send", desc := "(I)I" } : Jvm.MethodName) prog_1_method_17_code (3 : Nat) (Option.some Jvm.ClassFile.FieldType.int)) ∈ gW := gW_tbl (i := 415) (by decide +kernel) rfl
theorem q416 : (Cond.methodLink "LateChecks" (162 : Nat) ({ cls := "LateChecks$Deal", name := "becomeSent", desc := "(I)V" } : Jvm.MethodName)) ∈ gW := gW_tbl (i := 416) (by decide +kernel) rfl
theorem q417 : (Cond.instanceMethod ({ cls := "LateChecks$Deal", name := "becomeSent", desc := "(I)V" } : Jvm.MethodName)) ∈ gW := gW_tbl (i := 417) (by decide +kernel) rfl
theorem q418 : (Cond.selects "LateChecks$Deal" ({ cls := "LateChecks$Deal", name := "becomeSent", desc := "(I)V" } : Jvm.MethodName) ({ cls := "LateChecks$Deal", name := "becomeSent", desc := "(I)V" } : Jvm.MethodName)) ∈ gW := gW_tbl (i := 418) (by decide +kernel) rfl
theorem q419 : (Cond.code ({ cls := "LateChecks$Deal", name := "becomeSent", desc := "(I)V" } : Jvm.MethodName) prog_2_method_4_code (3 : Nat) (Option.none : Option Jvm.ClassFile.FieldType)) ∈ gW := gW_tbl (i := 419) (by decide +kernel) rfl
theorem q420 : (Cond.methodLink "LateChecksLaw" (31 : Nat) ({ cls := "LateChecks", name := "item", desc := "(II)I" } : Jvm.MethodName)) ∈ gW := gW_tbl (i := 420) (by decide +kernel) rfl
theorem q421 : (Cond.instanceMethod ({ cls := "LateChecks", name := "item", desc := "(II)I" } : Jvm.MethodName)) ∈ gW := gW_tbl (i := 421) (by decide +kernel) rfl
theorem q422 : (Cond.selects "LateChecks" ({ cls := "LateChecks", name := "item", desc := "(II)I" } : Jvm.MethodName) ({ cls := "LateChecks", name := "item", desc := "(II)I" } : Jvm.MethodName)) ∈ gW := gW_tbl (i := 422) (by decide +kernel) rfl
theorem q423 : (Cond.code ({ cls := "LateChecks", name := "item", desc := "(II)I" } : Jvm.MethodName) prog_1_method_6_code (3 : Nat) (Option.some Jvm.ClassFile.FieldType.int)) ∈ gW := gW_tbl (i := 423) (by decide +kernel) rfl
theorem q424 : (Cond.methodLink "LateChecksLaw" (36 : Nat) ({ cls := "LateChecks", name := "put", desc := "(II)I" } : Jvm.MethodName)) ∈ gW := gW_tbl (i := 424) (by decide +kernel) rfl
theorem q425 : (Cond.methodLink "LateChecksLaw" (40 : Nat) ({ cls := "LateChecks", name := "limit", desc := "(I)I" } : Jvm.MethodName)) ∈ gW := gW_tbl (i := 425) (by decide +kernel) rfl
theorem q426 : (Cond.methodLink "LateChecksLaw" (44 : Nat) ({ cls := "LateChecks", name := "begin", desc := "(I)I" } : Jvm.MethodName)) ∈ gW := gW_tbl (i := 426) (by decide +kernel) rfl
theorem q427 : (Cond.methodLink "LateChecksLaw" (48 : Nat) ({ cls := "LateChecks", name := "retry", desc := "(I)I" } : Jvm.MethodName)) ∈ gW := gW_tbl (i := 427) (by decide +kernel) rfl
theorem q428 : (Cond.instanceMethod ({ cls := "LateChecks", name := "retry", desc := "(I)I" } : Jvm.MethodName)) ∈ gW := gW_tbl (i := 428) (by decide +kernel) rfl
theorem q429 : (Cond.selects "LateChecks" ({ cls := "LateChecks", name := "retry", desc := "(I)I" } : Jvm.MethodName) ({ cls := "LateChecks", name := "retry", desc := "(I)I" } : Jvm.MethodName)) ∈ gW := gW_tbl (i := 429) (by decide +kernel) rfl
theorem q430 : (Cond.code ({ cls := "LateChecks", name := "retry", desc := "(I)I" } : Jvm.MethodName) prog_1_method_10_code (3 : Nat) (Option.some Jvm.ClassFile.FieldType.int)) ∈ gW := gW_tbl (i := 430) (by decide +kernel) rfl
theorem q431 : (Cond.methodLink "LateChecksLaw" (52 : Nat) ({ cls := "LateChecks", name := "read", desc := "(II)I" } : Jvm.MethodName)) ∈ gW := gW_tbl (i := 431) (by decide +kernel) rfl
theorem q432 : (Cond.methodLink "LateChecksLaw" (56 : Nat) ({ cls := "LateChecks", name := "lay", desc := "(III)I" } : Jvm.MethodName)) ∈ gW := gW_tbl (i := 432) (by decide +kernel) rfl
theorem q433 : (Cond.methodLink "LateChecksLaw" (61 : Nat) ({ cls := "LateChecks", name := "commit", desc := "(II)I" } : Jvm.MethodName)) ∈ gW := gW_tbl (i := 433) (by decide +kernel) rfl
theorem q434 : (Cond.instanceMethod ({ cls := "LateChecks", name := "commit", desc := "(II)I" } : Jvm.MethodName)) ∈ gW := gW_tbl (i := 434) (by decide +kernel) rfl
theorem q435 : (Cond.selects "LateChecks" ({ cls := "LateChecks", name := "commit", desc := "(II)I" } : Jvm.MethodName) ({ cls := "LateChecks", name := "commit", desc := "(II)I" } : Jvm.MethodName)) ∈ gW := gW_tbl (i := 435) (by decide +kernel) rfl
theorem q436 : (Cond.code ({ cls := "LateChecks", name := "commit", desc := "(II)I" } : Jvm.MethodName) prog_1_method_13_code (5 : Nat) (Option.some Jvm.ClassFile.FieldType.int)) ∈ gW := gW_tbl (i := 436) (by decide +kernel) rfl
theorem q437 : (Cond.methodLink "LateChecks" (136 : Nat) ({ cls := "LateChecks", name := "foretell", desc := "(LLateChecks$Deal;I)I" } : Jvm.MethodName)) ∈ gW := gW_tbl (i := 437) (by decide +kernel) rfl
theorem q439 : (Cond.instanceMethod ({ cls := "LateChecks", name := "foretell", desc := "(LLateChecks$Deal;I)I" } : Jvm.MethodName)) ∈ gW := gW_tbl (i := 439) (by decide +kernel) rfl
theorem q440 : (Cond.code ({ cls := "LateChecks", name := "foretell", desc := "(LLateChecks$Deal;I)I" } : Jvm.MethodName) prog_1_method_42_code (3 : Nat) (Option.some Jvm.ClassFile.FieldType.int)) ∈ gW := gW_tbl (i := 440) (by decide +kernel) rfl
theorem q441 : (Cond.methodLink "LateChecks" (156 : Nat) ({ cls := "LateChecks", name := "staleOf", desc := "(LLateChecks$Deal;)I" } : Jvm.MethodName)) ∈ gW := gW_tbl (i := 441) (by decide +kernel) rfl
theorem q443 : (Cond.instanceMethod ({ cls := "LateChecks", name := "staleOf", desc := "(LLateChecks$Deal;)I" } : Jvm.MethodName)) ∈ gW := gW_tbl (i := 443) (by decide +kernel) rfl
theorem q444 : (Cond.code ({ cls := "LateChecks", name := "staleOf", desc := "(LLateChecks$Deal;)I" } : Jvm.MethodName) prog_1_method_39_code (4 : Nat) (Option.some Jvm.ClassFile.FieldType.int)) ∈ gW := gW_tbl (i := 444) (by decide +kernel) rfl
theorem q445 : (Cond.methodLink "LateChecks" (198 : Nat) ({ cls := "LateChecks", name := "crossedOf", desc := "(LLateChecks$Deal;)I" } : Jvm.MethodName)) ∈ gW := gW_tbl (i := 445) (by decide +kernel) rfl
theorem q447 : (Cond.instanceMethod ({ cls := "LateChecks", name := "crossedOf", desc := "(LLateChecks$Deal;)I" } : Jvm.MethodName)) ∈ gW := gW_tbl (i := 447) (by decide +kernel) rfl
theorem q448 : (Cond.code ({ cls := "LateChecks", name := "crossedOf", desc := "(LLateChecks$Deal;)I" } : Jvm.MethodName) prog_1_method_40_code (4 : Nat) (Option.some Jvm.ClassFile.FieldType.int)) ∈ gW := gW_tbl (i := 448) (by decide +kernel) rfl
theorem q449 : (Cond.methodLink "LateChecks" (268 : Nat) ({ cls := "LateChecks", name := "mustYield", desc := "(LLateChecks$Deal;)Z" } : Jvm.MethodName)) ∈ gW := gW_tbl (i := 449) (by decide +kernel) rfl
theorem q451 : (Cond.instanceMethod ({ cls := "LateChecks", name := "mustYield", desc := "(LLateChecks$Deal;)Z" } : Jvm.MethodName)) ∈ gW := gW_tbl (i := 451) (by decide +kernel) rfl
theorem q452 : (Cond.code ({ cls := "LateChecks", name := "mustYield", desc := "(LLateChecks$Deal;)Z" } : Jvm.MethodName) prog_1_method_44_code (7 : Nat) (Option.some Jvm.ClassFile.FieldType.boolean)) ∈ gW := gW_tbl (i := 452) (by decide +kernel) rfl
theorem q453 : (Cond.methodLink "LateChecks" (146 : Nat) ({ cls := "LateChecks", name := "rivalsOf", desc := "(LLateChecks$Deal;)I" } : Jvm.MethodName)) ∈ gW := gW_tbl (i := 453) (by decide +kernel) rfl
theorem q455 : (Cond.instanceMethod ({ cls := "LateChecks", name := "rivalsOf", desc := "(LLateChecks$Deal;)I" } : Jvm.MethodName)) ∈ gW := gW_tbl (i := 455) (by decide +kernel) rfl
theorem q456 : (Cond.code ({ cls := "LateChecks", name := "rivalsOf", desc := "(LLateChecks$Deal;)I" } : Jvm.MethodName) prog_1_method_41_code (7 : Nat) (Option.some Jvm.ClassFile.FieldType.int)) ∈ gW := gW_tbl (i := 456) (by decide +kernel) rfl
theorem q457 : (Cond.methodLink "LateChecks" (271 : Nat) ({ cls := "LateChecks", name := "goesFirst", desc := "(LLateChecks$Deal;LLateChecks$Deal;)Z" } : Jvm.MethodName)) ∈ gW := gW_tbl (i := 457) (by decide +kernel) rfl
theorem q459 : (Cond.instanceMethod ({ cls := "LateChecks", name := "goesFirst", desc := "(LLateChecks$Deal;LLateChecks$Deal;)Z" } : Jvm.MethodName)) ∈ gW := gW_tbl (i := 459) (by decide +kernel) rfl
theorem q460 : (Cond.code ({ cls := "LateChecks", name := "goesFirst", desc := "(LLateChecks$Deal;LLateChecks$Deal;)Z" } : Jvm.MethodName) prog_1_method_45_code (3 : Nat) (Option.some Jvm.ClassFile.FieldType.boolean)) ∈ gW := gW_tbl (i := 460) (by decide +kernel) rfl
theorem q461 : (Cond.methodLink "LateChecks" (194 : Nat) ({ cls := "LateChecks", name := "isStubborn", desc := "(LLateChecks$Deal;)Z" } : Jvm.MethodName)) ∈ gW := gW_tbl (i := 461) (by decide +kernel) rfl
theorem q463 : (Cond.instanceMethod ({ cls := "LateChecks", name := "isStubborn", desc := "(LLateChecks$Deal;)Z" } : Jvm.MethodName)) ∈ gW := gW_tbl (i := 463) (by decide +kernel) rfl
theorem q464 : (Cond.code ({ cls := "LateChecks", name := "isStubborn", desc := "(LLateChecks$Deal;)Z" } : Jvm.MethodName) prog_1_method_38_code (2 : Nat) (Option.some Jvm.ClassFile.FieldType.boolean)) ∈ gW := gW_tbl (i := 464) (by decide +kernel) rfl
theorem q465 : (Cond.methodLink "LateChecks" (140 : Nat) ({ cls := "LateChecks", name := "isFailure", desc := "(I)Z" } : Jvm.MethodName)) ∈ gW := gW_tbl (i := 465) (by decide +kernel) rfl
theorem q466 : (Cond.static ({ cls := "LateChecks", name := "isFailure", desc := "(I)Z" } : Jvm.MethodName)) ∈ gW := gW_tbl (i := 466) (by decide +kernel) rfl
theorem q467 : (Cond.code ({ cls := "LateChecks", name := "isFailure", desc := "(I)Z" } : Jvm.MethodName) prog_1_method_43_code (1 : Nat) (Option.some Jvm.ClassFile.FieldType.boolean)) ∈ gW := gW_tbl (i := 467) (by decide +kernel) rfl
theorem q468 : (Cond.methodLink "LateChecks" (143 : Nat) ({ cls := "LateChecks", name := "lose", desc := "(LLateChecks$Deal;I)I" } : Jvm.MethodName)) ∈ gW := gW_tbl (i := 468) (by decide +kernel) rfl
theorem q470 : (Cond.instanceMethod ({ cls := "LateChecks", name := "lose", desc := "(LLateChecks$Deal;I)I" } : Jvm.MethodName)) ∈ gW := gW_tbl (i := 470) (by decide +kernel) rfl
theorem q471 : (Cond.code ({ cls := "LateChecks", name := "lose", desc := "(LLateChecks$Deal;I)I" } : Jvm.MethodName) prog_1_method_47_code (3 : Nat) (Option.some Jvm.ClassFile.FieldType.int)) ∈ gW := gW_tbl (i := 471) (by decide +kernel) rfl
theorem q472 : (Cond.methodLink "LateChecks" (150 : Nat) ({ cls := "LateChecks", name := "doomAll", desc := "(I)V" } : Jvm.MethodName)) ∈ gW := gW_tbl (i := 472) (by decide +kernel) rfl
theorem q474 : (Cond.instanceMethod ({ cls := "LateChecks", name := "doomAll", desc := "(I)V" } : Jvm.MethodName)) ∈ gW := gW_tbl (i := 474) (by decide +kernel) rfl
theorem q475 : (Cond.code ({ cls := "LateChecks", name := "doomAll", desc := "(I)V" } : Jvm.MethodName) prog_1_method_46_code (6 : Nat) (Option.none : Option Jvm.ClassFile.FieldType)) ∈ gW := gW_tbl (i := 475) (by decide +kernel) rfl
theorem q476 : (Cond.methodLink "LateChecks" (153 : Nat) ({ cls := "LateChecks", name := "keep", desc := "(LLateChecks$Deal;I)I" } : Jvm.MethodName)) ∈ gW := gW_tbl (i := 476) (by decide +kernel) rfl
theorem q478 : (Cond.instanceMethod ({ cls := "LateChecks", name := "keep", desc := "(LLateChecks$Deal;I)I" } : Jvm.MethodName)) ∈ gW := gW_tbl (i := 478) (by decide +kernel) rfl
theorem q479 : (Cond.code ({ cls := "LateChecks", name := "keep", desc := "(LLateChecks$Deal;I)I" } : Jvm.MethodName) prog_1_method_48_code (4 : Nat) (Option.some Jvm.ClassFile.FieldType.int)) ∈ gW := gW_tbl (i := 479) (by decide +kernel) rfl
theorem q480 : (Cond.methodLink "LateChecks" (275 : Nat) ({ cls := "LateChecks$Entry", name := "keepDeal", desc := "(LLateChecks$Deal;I)V" } : Jvm.MethodName)) ∈ gW := gW_tbl (i := 480) (by decide +kernel) rfl
theorem q481 : (Cond.instanceMethod ({ cls := "LateChecks$Entry", name := "keepDeal", desc := "(LLateChecks$Deal;I)V" } : Jvm.MethodName)) ∈ gW := gW_tbl (i := 481) (by decide +kernel) rfl
theorem q482 : (Cond.selects "LateChecks$Entry" ({ cls := "LateChecks$Entry", name := "keepDeal", desc := "(LLateChecks$Deal;I)V" } : Jvm.MethodName) ({ cls := "LateChecks$Entry", name := "keepDeal", desc := "(LLateChecks$Deal;I)V" } : Jvm.MethodName)) ∈ gW := gW_tbl (i := 482) (by decide +kernel) rfl
theorem q483 : (Cond.code ({ cls := "LateChecks$Entry", name := "keepDeal", desc := "(LLateChecks$Deal;I)V" } : Jvm.MethodName) prog_3_method_2_code (4 : Nat) (Option.none : Option Jvm.ClassFile.FieldType)) ∈ gW := gW_tbl (i := 483) (by decide +kernel) rfl
theorem q484 : (Cond.methodLink "LateChecksLaw" (65 : Nat) ({ cls := "LateChecks", name := "peek", desc := "(II)I" } : Jvm.MethodName)) ∈ gW := gW_tbl (i := 484) (by decide +kernel) rfl
theorem q485 : (Cond.instanceMethod ({ cls := "LateChecks", name := "peek", desc := "(II)I" } : Jvm.MethodName)) ∈ gW := gW_tbl (i := 485) (by decide +kernel) rfl
theorem q486 : (Cond.selects "LateChecks" ({ cls := "LateChecks", name := "peek", desc := "(II)I" } : Jvm.MethodName) ({ cls := "LateChecks", name := "peek", desc := "(II)I" } : Jvm.MethodName)) ∈ gW := gW_tbl (i := 486) (by decide +kernel) rfl
theorem q487 : (Cond.code ({ cls := "LateChecks", name := "peek", desc := "(II)I" } : Jvm.MethodName) prog_1_method_14_code (3 : Nat) (Option.some Jvm.ClassFile.FieldType.int)) ∈ gW := gW_tbl (i := 487) (by decide +kernel) rfl
theorem q488 : (Cond.methodLink "LateChecksLaw" (69 : Nat) ({ cls := "LateChecks", name := "abort", desc := "(I)I" } : Jvm.MethodName)) ∈ gW := gW_tbl (i := 488) (by decide +kernel) rfl
theorem q489 : (Cond.instanceMethod ({ cls := "LateChecks", name := "abort", desc := "(I)I" } : Jvm.MethodName)) ∈ gW := gW_tbl (i := 489) (by decide +kernel) rfl
theorem q490 : (Cond.selects "LateChecks" ({ cls := "LateChecks", name := "abort", desc := "(I)I" } : Jvm.MethodName) ({ cls := "LateChecks", name := "abort", desc := "(I)I" } : Jvm.MethodName)) ∈ gW := gW_tbl (i := 490) (by decide +kernel) rfl
theorem q491 : (Cond.code ({ cls := "LateChecks", name := "abort", desc := "(I)I" } : Jvm.MethodName) prog_1_method_15_code (3 : Nat) (Option.some Jvm.ClassFile.FieldType.int)) ∈ gW := gW_tbl (i := 491) (by decide +kernel) rfl
theorem q492 : (Cond.methodLink "LateChecksLaw" (73 : Nat) ({ cls := "LateChecks", name := "sweep", desc := "()I" } : Jvm.MethodName)) ∈ gW := gW_tbl (i := 492) (by decide +kernel) rfl
theorem q493 : (Cond.instanceMethod ({ cls := "LateChecks", name := "sweep", desc := "()I" } : Jvm.MethodName)) ∈ gW := gW_tbl (i := 493) (by decide +kernel) rfl
theorem q494 : (Cond.selects "LateChecks" ({ cls := "LateChecks", name := "sweep", desc := "()I" } : Jvm.MethodName) ({ cls := "LateChecks", name := "sweep", desc := "()I" } : Jvm.MethodName)) ∈ gW := gW_tbl (i := 494) (by decide +kernel) rfl
theorem q495 : (Cond.code ({ cls := "LateChecks", name := "sweep", desc := "()I" } : Jvm.MethodName) prog_1_method_16_code (6 : Nat) (Option.some Jvm.ClassFile.FieldType.int)) ∈ gW := gW_tbl (i := 495) (by decide +kernel) rfl
theorem q496 : (Cond.methodLink "LateChecksLaw" (77 : Nat) ({ cls := "LateChecks", name := "send", desc := "(I)I" } : Jvm.MethodName)) ∈ gW := gW_tbl (i := 496) (by decide +kernel) rfl
theorem q497 : (Cond.methodLink "LateChecksLaw" (81 : Nat) ({ cls := "LateChecks", name := "vote", desc := "(I)I" } : Jvm.MethodName)) ∈ gW := gW_tbl (i := 497) (by decide +kernel) rfl
theorem q498 : (Cond.instanceMethod ({ cls := "LateChecks", name := "vote", desc := "(I)I" } : Jvm.MethodName)) ∈ gW := gW_tbl (i := 498) (by decide +kernel) rfl
theorem q499 : (Cond.selects "LateChecks" ({ cls := "LateChecks", name := "vote", desc := "(I)I" } : Jvm.MethodName) ({ cls := "LateChecks", name := "vote", desc := "(I)I" } : Jvm.MethodName)) ∈ gW := gW_tbl (i := 499) (by decide +kernel) rfl
theorem q500 : (Cond.code ({ cls := "LateChecks", name := "vote", desc := "(I)I" } : Jvm.MethodName) prog_1_method_18_code (4 : Nat) (Option.some Jvm.ClassFile.FieldType.int)) ∈ gW := gW_tbl (i := 500) (by decide +kernel) rfl
theorem q501 : (Cond.methodLink "LateChecks" (168 : Nat) ({ cls := "LateChecks", name := "isValidator", desc := "(I)Z" } : Jvm.MethodName)) ∈ gW := gW_tbl (i := 501) (by decide +kernel) rfl
theorem q502 : (Cond.static ({ cls := "LateChecks", name := "isValidator", desc := "(I)Z" } : Jvm.MethodName)) ∈ gW := gW_tbl (i := 502) (by decide +kernel) rfl
theorem q503 : (Cond.code ({ cls := "LateChecks", name := "isValidator", desc := "(I)Z" } : Jvm.MethodName) prog_1_method_32_code (1 : Nat) (Option.some Jvm.ClassFile.FieldType.boolean)) ∈ gW := gW_tbl (i := 503) (by decide +kernel) rfl
theorem q504 : (Cond.methodLink "LateChecks" (171 : Nat) ({ cls := "LateChecks", name := "firstWithoutVote", desc := "(I)I" } : Jvm.MethodName)) ∈ gW := gW_tbl (i := 504) (by decide +kernel) rfl
theorem q506 : (Cond.instanceMethod ({ cls := "LateChecks", name := "firstWithoutVote", desc := "(I)I" } : Jvm.MethodName)) ∈ gW := gW_tbl (i := 506) (by decide +kernel) rfl
theorem q507 : (Cond.code ({ cls := "LateChecks", name := "firstWithoutVote", desc := "(I)I" } : Jvm.MethodName) prog_1_method_52_code (4 : Nat) (Option.some Jvm.ClassFile.FieldType.int)) ∈ gW := gW_tbl (i := 507) (by decide +kernel) rfl
theorem q508 : (Cond.methodLink "LateChecks" (181 : Nat) ({ cls := "LateChecks", name := "sentAt", desc := "(I)I" } : Jvm.MethodName)) ∈ gW := gW_tbl (i := 508) (by decide +kernel) rfl
theorem q510 : (Cond.instanceMethod ({ cls := "LateChecks", name := "sentAt", desc := "(I)I" } : Jvm.MethodName)) ∈ gW := gW_tbl (i := 510) (by decide +kernel) rfl
theorem q511 : (Cond.code ({ cls := "LateChecks", name := "sentAt", desc := "(I)I" } : Jvm.MethodName) prog_1_method_50_code (6 : Nat) (Option.some Jvm.ClassFile.FieldType.int)) ∈ gW := gW_tbl (i := 511) (by decide +kernel) rfl
theorem q512 : (Cond.methodLink "LateChecks" (279 : Nat) ({ cls := "LateChecks", name := "sentBefore", desc := "(LLateChecks$Deal;)I" } : Jvm.MethodName)) ∈ gW := gW_tbl (i := 512) (by decide +kernel) rfl
theorem q514 : (Cond.instanceMethod ({ cls := "LateChecks", name := "sentBefore", desc := "(LLateChecks$Deal;)I" } : Jvm.MethodName)) ∈ gW := gW_tbl (i := 514) (by decide +kernel) rfl
theorem q515 : (Cond.code ({ cls := "LateChecks", name := "sentBefore", desc := "(LLateChecks$Deal;)I" } : Jvm.MethodName) prog_1_method_51_code (7 : Nat) (Option.some Jvm.ClassFile.FieldType.int)) ∈ gW := gW_tbl (i := 515) (by decide +kernel) rfl
theorem q516 : (Cond.methodLink "LateChecks" (177 : Nat) ({ cls := "LateChecks", name := "opinion", desc := "(ILLateChecks$Deal;)I" } : Jvm.MethodName)) ∈ gW := gW_tbl (i := 516) (by decide +kernel) rfl
theorem q518 : (Cond.instanceMethod ({ cls := "LateChecks", name := "opinion", desc := "(ILLateChecks$Deal;)I" } : Jvm.MethodName)) ∈ gW := gW_tbl (i := 518) (by decide +kernel) rfl
theorem q519 : (Cond.code ({ cls := "LateChecks", name := "opinion", desc := "(ILLateChecks$Deal;)I" } : Jvm.MethodName) prog_1_method_53_code (4 : Nat) (Option.some Jvm.ClassFile.FieldType.int)) ∈ gW := gW_tbl (i := 519) (by decide +kernel) rfl
theorem q520 : (Cond.methodLink "LateChecks" (282 : Nat) ({ cls := "LateChecks", name := "promisedBefore", desc := "(ILLateChecks$Deal;)I" } : Jvm.MethodName)) ∈ gW := gW_tbl (i := 520) (by decide +kernel) rfl
theorem q522 : (Cond.instanceMethod ({ cls := "LateChecks", name := "promisedBefore", desc := "(ILLateChecks$Deal;)I" } : Jvm.MethodName)) ∈ gW := gW_tbl (i := 522) (by decide +kernel) rfl
theorem q523 : (Cond.code ({ cls := "LateChecks", name := "promisedBefore", desc := "(ILLateChecks$Deal;)I" } : Jvm.MethodName) prog_1_method_54_code (8 : Nat) (Option.some Jvm.ClassFile.FieldType.int)) ∈ gW := gW_tbl (i := 523) (by decide +kernel) rfl
theorem q524 : (Cond.methodLink "LateChecks" (285 : Nat) ({ cls := "LateChecks", name := "itemsOf", desc := "(I)I" } : Jvm.MethodName)) ∈ gW := gW_tbl (i := 524) (by decide +kernel) rfl
theorem q525 : (Cond.static ({ cls := "LateChecks", name := "itemsOf", desc := "(I)I" } : Jvm.MethodName)) ∈ gW := gW_tbl (i := 525) (by decide +kernel) rfl
theorem q526 : (Cond.code ({ cls := "LateChecks", name := "itemsOf", desc := "(I)I" } : Jvm.MethodName) prog_1_method_55_code (2 : Nat) (Option.some Jvm.ClassFile.FieldType.int)) ∈ gW := gW_tbl (i := 526) (by decide +kernel) rfl
theorem q527 : (Cond.methodLink "LateChecksLaw" (85 : Nat) ({ cls := "LateChecks", name := "settle", desc := "()I" } : Jvm.MethodName)) ∈ gW := gW_tbl (i := 527) (by decide +kernel) rfl
theorem q528 : (Cond.instanceMethod ({ cls := "LateChecks", name := "settle", desc := "()I" } : Jvm.MethodName)) ∈ gW := gW_tbl (i := 528) (by decide +kernel) rfl
theorem q529 : (Cond.selects "LateChecks" ({ cls := "LateChecks", name := "settle", desc := "()I" } : Jvm.MethodName) ({ cls := "LateChecks", name := "settle", desc := "()I" } : Jvm.MethodName)) ∈ gW := gW_tbl (i := 529) (by decide +kernel) rfl
theorem q530 : (Cond.code ({ cls := "LateChecks", name := "settle", desc := "()I" } : Jvm.MethodName) prog_1_method_19_code (3 : Nat) (Option.some Jvm.ClassFile.FieldType.int)) ∈ gW := gW_tbl (i := 530) (by decide +kernel) rfl
theorem q531 : (Cond.methodLink "LateChecks" (184 : Nat) ({ cls := "LateChecks$Deal", name := "hasAllVotes", desc := "()Z" } : Jvm.MethodName)) ∈ gW := gW_tbl (i := 531) (by decide +kernel) rfl
theorem q532 : (Cond.instanceMethod ({ cls := "LateChecks$Deal", name := "hasAllVotes", desc := "()Z" } : Jvm.MethodName)) ∈ gW := gW_tbl (i := 532) (by decide +kernel) rfl
theorem q533 : (Cond.selects "LateChecks$Deal" ({ cls := "LateChecks$Deal", name := "hasAllVotes", desc := "()Z" } : Jvm.MethodName) ({ cls := "LateChecks$Deal", name := "hasAllVotes", desc := "()Z" } : Jvm.MethodName)) ∈ gW := gW_tbl (i := 533) (by decide +kernel) rfl
theorem q534 : (Cond.code ({ cls := "LateChecks$Deal", name := "hasAllVotes", desc := "()Z" } : Jvm.MethodName) prog_2_method_6_code (5 : Nat) (Option.some Jvm.ClassFile.FieldType.boolean)) ∈ gW := gW_tbl (i := 534) (by decide +kernel) rfl
theorem q535 : (Cond.methodLink "LateChecks" (188 : Nat) ({ cls := "LateChecks$Deal", name := "hasOnlyYes", desc := "()Z" } : Jvm.MethodName)) ∈ gW := gW_tbl (i := 535) (by decide +kernel) rfl
theorem q536 : (Cond.instanceMethod ({ cls := "LateChecks$Deal", name := "hasOnlyYes", desc := "()Z" } : Jvm.MethodName)) ∈ gW := gW_tbl (i := 536) (by decide +kernel) rfl
theorem q537 : (Cond.selects "LateChecks$Deal" ({ cls := "LateChecks$Deal", name := "hasOnlyYes", desc := "()Z" } : Jvm.MethodName) ({ cls := "LateChecks$Deal", name := "hasOnlyYes", desc := "()Z" } : Jvm.MethodName)) ∈ gW := gW_tbl (i := 537) (by decide +kernel) rfl
theorem q538 : (Cond.code ({ cls := "LateChecks$Deal", name := "hasOnlyYes", desc := "()Z" } : Jvm.MethodName) prog_2_method_7_code (5 : Nat) (Option.some Jvm.ClassFile.FieldType.boolean)) ∈ gW := gW_tbl (i := 538) (by decide +kernel) rfl
theorem q539 : (Cond.methodLink "LateChecksLaw" (89 : Nat) ({ cls := "LateChecks", name := "deal", desc := "(II)I" } : Jvm.MethodName)) ∈ gW := gW_tbl (i := 539) (by decide +kernel) rfl
theorem q540 : (Cond.instanceMethod ({ cls := "LateChecks", name := "deal", desc := "(II)I" } : Jvm.MethodName)) ∈ gW := gW_tbl (i := 540) (by decide +kernel) rfl
theorem q541 : (Cond.selects "LateChecks" ({ cls := "LateChecks", name := "deal", desc := "(II)I" } : Jvm.MethodName) ({ cls := "LateChecks", name := "deal", desc := "(II)I" } : Jvm.MethodName)) ∈ gW := gW_tbl (i := 541) (by decide +kernel) rfl
theorem q542 : (Cond.code ({ cls := "LateChecks", name := "deal", desc := "(II)I" } : Jvm.MethodName) prog_1_method_20_code (4 : Nat) (Option.some Jvm.ClassFile.FieldType.int)) ∈ gW := gW_tbl (i := 542) (by decide +kernel) rfl
theorem q543 : (Cond.methodLink "LateChecksLaw" (93 : Nat) ({ cls := "LateChecks", name := "noted", desc := "(III)I" } : Jvm.MethodName)) ∈ gW := gW_tbl (i := 543) (by decide +kernel) rfl
theorem q544 : (Cond.instanceMethod ({ cls := "LateChecks", name := "noted", desc := "(III)I" } : Jvm.MethodName)) ∈ gW := gW_tbl (i := 544) (by decide +kernel) rfl
theorem q545 : (Cond.selects "LateChecks" ({ cls := "LateChecks", name := "noted", desc := "(III)I" } : Jvm.MethodName) ({ cls := "LateChecks", name := "noted", desc := "(III)I" } : Jvm.MethodName)) ∈ gW := gW_tbl (i := 545) (by decide +kernel) rfl
theorem q546 : (Cond.code ({ cls := "LateChecks", name := "noted", desc := "(III)I" } : Jvm.MethodName) prog_1_method_21_code (5 : Nat) (Option.some Jvm.ClassFile.FieldType.int)) ∈ gW := gW_tbl (i := 546) (by decide +kernel) rfl
theorem q547 : (Cond.methodLink "LateChecksLaw" (97 : Nat) ({ cls := "LateChecks", name := "sent", desc := "(I)I" } : Jvm.MethodName)) ∈ gW := gW_tbl (i := 547) (by decide +kernel) rfl
theorem q548 : (Cond.instanceMethod ({ cls := "LateChecks", name := "sent", desc := "(I)I" } : Jvm.MethodName)) ∈ gW := gW_tbl (i := 548) (by decide +kernel) rfl
theorem q549 : (Cond.selects "LateChecks" ({ cls := "LateChecks", name := "sent", desc := "(I)I" } : Jvm.MethodName) ({ cls := "LateChecks", name := "sent", desc := "(I)I" } : Jvm.MethodName)) ∈ gW := gW_tbl (i := 549) (by decide +kernel) rfl
theorem q550 : (Cond.code ({ cls := "LateChecks", name := "sent", desc := "(I)I" } : Jvm.MethodName) prog_1_method_22_code (3 : Nat) (Option.some Jvm.ClassFile.FieldType.int)) ∈ gW := gW_tbl (i := 550) (by decide +kernel) rfl
theorem q551 : (Cond.methodLink "LateChecksLaw" (101 : Nat) ({ cls := "LateChecks", name := "ballot", desc := "(II)I" } : Jvm.MethodName)) ∈ gW := gW_tbl (i := 551) (by decide +kernel) rfl
theorem q552 : (Cond.instanceMethod ({ cls := "LateChecks", name := "ballot", desc := "(II)I" } : Jvm.MethodName)) ∈ gW := gW_tbl (i := 552) (by decide +kernel) rfl
theorem q553 : (Cond.selects "LateChecks" ({ cls := "LateChecks", name := "ballot", desc := "(II)I" } : Jvm.MethodName) ({ cls := "LateChecks", name := "ballot", desc := "(II)I" } : Jvm.MethodName)) ∈ gW := gW_tbl (i := 553) (by decide +kernel) rfl
theorem q554 : (Cond.code ({ cls := "LateChecks", name := "ballot", desc := "(II)I" } : Jvm.MethodName) prog_1_method_23_code (4 : Nat) (Option.some Jvm.ClassFile.FieldType.int)) ∈ gW := gW_tbl (i := 554) (by decide +kernel) rfl
theorem q555 : (Cond.methodLink "LateChecksLaw" (105 : Nat) ({ cls := "LateChecks", name := "log", desc := "(II)I" } : Jvm.MethodName)) ∈ gW := gW_tbl (i := 555) (by decide +kernel) rfl
theorem q556 : (Cond.instanceMethod ({ cls := "LateChecks", name := "log", desc := "(II)I" } : Jvm.MethodName)) ∈ gW := gW_tbl (i := 556) (by decide +kernel) rfl
theorem q557 : (Cond.selects "LateChecks" ({ cls := "LateChecks", name := "log", desc := "(II)I" } : Jvm.MethodName) ({ cls := "LateChecks", name := "log", desc := "(II)I" } : Jvm.MethodName)) ∈ gW := gW_tbl (i := 557) (by decide +kernel) rfl
theorem q558 : (Cond.code ({ cls := "LateChecks", name := "log", desc := "(II)I" } : Jvm.MethodName) prog_1_method_24_code (4 : Nat) (Option.some Jvm.ClassFile.FieldType.int)) ∈ gW := gW_tbl (i := 558) (by decide +kernel) rfl
theorem q559 : (Cond.methodLink "LateChecks" (204 : Nat) ({ cls := "LateChecks", name := "entryOf", desc := "(I)LLateChecks$Entry;" } : Jvm.MethodName)) ∈ gW := gW_tbl (i := 559) (by decide +kernel) rfl
theorem q561 : (Cond.instanceMethod ({ cls := "LateChecks", name := "entryOf", desc := "(I)LLateChecks$Entry;" } : Jvm.MethodName)) ∈ gW := gW_tbl (i := 561) (by decide +kernel) rfl
theorem q562 : (Cond.code ({ cls := "LateChecks", name := "entryOf", desc := "(I)LLateChecks$Entry;" } : Jvm.MethodName) prog_1_method_56_code (2 : Nat) (Option.some (Jvm.ClassFile.FieldType.object "LateChecks$Entry"))) ∈ gW := gW_tbl (i := 562) (by decide +kernel) rfl
theorem q563 : (Cond.methodLink "LateChecksLaw" (109 : Nat) ({ cls := "LateChecks", name := "logged", desc := "(III)I" } : Jvm.MethodName)) ∈ gW := gW_tbl (i := 563) (by decide +kernel) rfl
theorem q564 : (Cond.instanceMethod ({ cls := "LateChecks", name := "logged", desc := "(III)I" } : Jvm.MethodName)) ∈ gW := gW_tbl (i := 564) (by decide +kernel) rfl
theorem q565 : (Cond.selects "LateChecks" ({ cls := "LateChecks", name := "logged", desc := "(III)I" } : Jvm.MethodName) ({ cls := "LateChecks", name := "logged", desc := "(III)I" } : Jvm.MethodName)) ∈ gW := gW_tbl (i := 565) (by decide +kernel) rfl
theorem q566 : (Cond.code ({ cls := "LateChecks", name := "logged", desc := "(III)I" } : Jvm.MethodName) prog_1_method_25_code (5 : Nat) (Option.some Jvm.ClassFile.FieldType.int)) ∈ gW := gW_tbl (i := 566) (by decide +kernel) rfl
theorem q567 : (Cond.methodLink "LateChecksLaw" (113 : Nat) ({ cls := "LateChecks", name := "behind", desc := "(II)I" } : Jvm.MethodName)) ∈ gW := gW_tbl (i := 567) (by decide +kernel) rfl
theorem q568 : (Cond.instanceMethod ({ cls := "LateChecks", name := "behind", desc := "(II)I" } : Jvm.MethodName)) ∈ gW := gW_tbl (i := 568) (by decide +kernel) rfl
theorem q569 : (Cond.selects "LateChecks" ({ cls := "LateChecks", name := "behind", desc := "(II)I" } : Jvm.MethodName) ({ cls := "LateChecks", name := "behind", desc := "(II)I" } : Jvm.MethodName)) ∈ gW := gW_tbl (i := 569) (by decide +kernel) rfl
theorem q570 : (Cond.code ({ cls := "LateChecks", name := "behind", desc := "(II)I" } : Jvm.MethodName) prog_1_method_26_code (6 : Nat) (Option.some Jvm.ClassFile.FieldType.int)) ∈ gW := gW_tbl (i := 570) (by decide +kernel) rfl
theorem q571 : (Cond.methodLink "LateChecks" (220 : Nat) ({ cls := "LateChecks$Entry", name := "hasNoted", desc := "(I)Z" } : Jvm.MethodName)) ∈ gW := gW_tbl (i := 571) (by decide +kernel) rfl
theorem q572 : (Cond.instanceMethod ({ cls := "LateChecks$Entry", name := "hasNoted", desc := "(I)Z" } : Jvm.MethodName)) ∈ gW := gW_tbl (i := 572) (by decide +kernel) rfl
theorem q573 : (Cond.selects "LateChecks$Entry" ({ cls := "LateChecks$Entry", name := "hasNoted", desc := "(I)Z" } : Jvm.MethodName) ({ cls := "LateChecks$Entry", name := "hasNoted", desc := "(I)Z" } : Jvm.MethodName)) ∈ gW := gW_tbl (i := 573) (by decide +kernel) rfl
theorem q574 : (Cond.code ({ cls := "LateChecks$Entry", name := "hasNoted", desc := "(I)Z" } : Jvm.MethodName) prog_3_method_4_code (3 : Nat) (Option.some Jvm.ClassFile.FieldType.boolean)) ∈ gW := gW_tbl (i := 574) (by decide +kernel) rfl
theorem q575 : (Cond.methodLinkNest "LateChecks$Entry" (52 : Nat) ({ cls := "LateChecks", name := "has", desc := "(II)Z" } : Jvm.MethodName) "LateChecks") ∈ lw_tbl := List.mem_append_right _ (List.mem_of_getElem? (i := 575) (by decide +kernel))
theorem q576 : (Cond.methodLink "LateChecksLaw" (117 : Nat) ({ cls := "LateChecks", name := "count", desc := "(I)I" } : Jvm.MethodName)) ∈ gW := gW_tbl (i := 576) (by decide +kernel) rfl
theorem q577 : (Cond.instanceMethod ({ cls := "LateChecks", name := "count", desc := "(I)I" } : Jvm.MethodName)) ∈ gW := gW_tbl (i := 577) (by decide +kernel) rfl
theorem q578 : (Cond.selects "LateChecks" ({ cls := "LateChecks", name := "count", desc := "(I)I" } : Jvm.MethodName) ({ cls := "LateChecks", name := "count", desc := "(I)I" } : Jvm.MethodName)) ∈ gW := gW_tbl (i := 578) (by decide +kernel) rfl
theorem q579 : (Cond.code ({ cls := "LateChecks", name := "count", desc := "(I)I" } : Jvm.MethodName) prog_1_method_27_code (2 : Nat) (Option.some Jvm.ClassFile.FieldType.int)) ∈ gW := gW_tbl (i := 579) (by decide +kernel) rfl
theorem q580 : (Cond.methodLink "LateChecks" (232 : Nat) ({ cls := "LateChecks", name := "allValues", desc := "()I" } : Jvm.MethodName)) ∈ gW := gW_tbl (i := 580) (by decide +kernel) rfl
theorem q582 : (Cond.instanceMethod ({ cls := "LateChecks", name := "allValues", desc := "()I" } : Jvm.MethodName)) ∈ gW := gW_tbl (i := 582) (by decide +kernel) rfl
theorem q583 : (Cond.code ({ cls := "LateChecks", name := "allValues", desc := "()I" } : Jvm.MethodName) prog_1_method_37_code (6 : Nat) (Option.some Jvm.ClassFile.FieldType.int)) ∈ gW := gW_tbl (i := 583) (by decide +kernel) rfl
theorem q584 : (Cond.classLink "LateChecksLaw" (10 : Nat) "LateChecksModel") ∈ gW := gW_tbl (i := 584) (by decide +kernel) rfl
theorem q585 : (Cond.instantiable "LateChecksModel" (30 : Nat)) ∈ gW := gW_tbl (i := 585) (by decide +kernel) rfl
theorem q586 : (Cond.methodLink "LateChecksLaw" (12 : Nat) ({ cls := "LateChecksModel", name := "<init>", desc := "()V" } : Jvm.MethodName)) ∈ gW := gW_tbl (i := 586) (by decide +kernel) rfl
theorem q587 : (Cond.instanceMethod ({ cls := "LateChecksModel", name := "<init>", desc := "()V" } : Jvm.MethodName)) ∈ gW := gW_tbl (i := 587) (by decide +kernel) rfl
theorem q588 : (Cond.code ({ cls := "LateChecksModel", name := "<init>", desc := "()V" } : Jvm.MethodName) prog_6_method_1_code (1 : Nat) (Option.none : Option Jvm.ClassFile.FieldType)) ∈ gW := gW_tbl (i := 588) (by decide +kernel) rfl
theorem q589 : (Cond.methodLink "LateChecksModel" (1 : Nat) ({ cls := "java/lang/Object", name := "<init>", desc := "()V" } : Jvm.MethodName)) ∈ gW := gW_tbl (i := 589) (by decide +kernel) rfl
theorem q590 : (Cond.fieldLink "LateChecksModel" (7 : Nat) "LateChecksModel" "values" "[I") ∈ gW := gW_tbl (i := 590) (by decide +kernel) rfl
theorem q591 : (Cond.fieldLink "LateChecksModel" (13 : Nat) "LateChecksModel" "stamps" "[I") ∈ gW := gW_tbl (i := 591) (by decide +kernel) rfl
theorem q592 : (Cond.fieldLink "LateChecksModel" (81 : Nat) "LateChecksModel" "commits" "I") ∈ gW := gW_tbl (i := 592) (by decide +kernel) rfl
theorem q593 : (Cond.fieldLink "LateChecksModel" (16 : Nat) "LateChecksModel" "log" "[I") ∈ gW := gW_tbl (i := 593) (by decide +kernel) rfl
theorem q594 : (Cond.fieldLink "LateChecksModel" (19 : Nat) "LateChecksModel" "states" "[I") ∈ gW := gW_tbl (i := 594) (by decide +kernel) rfl
theorem q595 : (Cond.fieldLink "LateChecksModel" (22 : Nat) "LateChecksModel" "starts" "[I") ∈ gW := gW_tbl (i := 595) (by decide +kernel) rfl
theorem q596 : (Cond.fieldLink "LateChecksModel" (25 : Nat) "LateChecksModel" "ages" "[I") ∈ gW := gW_tbl (i := 596) (by decide +kernel) rfl
theorem q597 : (Cond.fieldLink "LateChecksModel" (28 : Nat) "LateChecksModel" "tries" "[I") ∈ gW := gW_tbl (i := 597) (by decide +kernel) rfl
theorem q598 : (Cond.fieldLink "LateChecksModel" (31 : Nat) "LateChecksModel" "isLost" "[Z") ∈ gW := gW_tbl (i := 598) (by decide +kernel) rfl
theorem q599 : (Cond.fieldLink "LateChecksModel" (35 : Nat) "LateChecksModel" "reads" "[I") ∈ gW := gW_tbl (i := 599) (by decide +kernel) rfl
theorem q600 : (Cond.fieldLink "LateChecksModel" (38 : Nat) "LateChecksModel" "writes" "[I") ∈ gW := gW_tbl (i := 600) (by decide +kernel) rfl
theorem q601 : (Cond.fieldLink "LateChecksModel" (41 : Nat) "LateChecksModel" "notedValues" "[I") ∈ gW := gW_tbl (i := 601) (by decide +kernel) rfl
theorem q602 : (Cond.fieldLink "LateChecksModel" (44 : Nat) "LateChecksModel" "notedStamps" "[I") ∈ gW := gW_tbl (i := 602) (by decide +kernel) rfl
theorem q603 : (Cond.fieldLink "LateChecksModel" (47 : Nat) "LateChecksModel" "laid" "[I") ∈ gW := gW_tbl (i := 603) (by decide +kernel) rfl
theorem q604 : (Cond.fieldLink "LateChecksModel" (50 : Nat) "LateChecksModel" "tickets" "[I") ∈ gW := gW_tbl (i := 604) (by decide +kernel) rfl
theorem q605 : (Cond.fieldLink "LateChecksModel" (53 : Nat) "LateChecksModel" "votes" "[I") ∈ gW := gW_tbl (i := 605) (by decide +kernel) rfl
theorem q606 : (Cond.fieldLink "LateChecksModel" (56 : Nat) "LateChecksModel" "limit" "I") ∈ gW := gW_tbl (i := 606) (by decide +kernel) rfl
theorem q607 : (Cond.fieldLink "LateChecksModel" (84 : Nat) "LateChecksModel" "ticket" "I") ∈ gW := gW_tbl (i := 607) (by decide +kernel) rfl
theorem q608 : (Cond.fieldLink "LateChecksModel" (87 : Nat) "LateChecksModel" "begun" "I") ∈ gW := gW_tbl (i := 608) (by decide +kernel) rfl
theorem q609 : (Cond.fieldLink "LateChecksModel" (90 : Nat) "LateChecksModel" "failed" "I") ∈ gW := gW_tbl (i := 609) (by decide +kernel) rfl
theorem q610 : (Cond.fieldLink "LateChecksModel" (93 : Nat) "LateChecksModel" "vain" "I") ∈ gW := gW_tbl (i := 610) (by decide +kernel) rfl
theorem q611 : (Cond.fieldLink "LateChecksModel" (96 : Nat) "LateChecksModel" "yields" "I") ∈ gW := gW_tbl (i := 611) (by decide +kernel) rfl
theorem q612 : (Cond.fieldLink "LateChecksModel" (60 : Nat) "LateChecksModel" "text" "[I") ∈ gW := gW_tbl (i := 612) (by decide +kernel) rfl
theorem q613 : (Cond.fieldLink "LateChecksModel" (101 : Nat) "LateChecksModel" "length" "I") ∈ gW := gW_tbl (i := 613) (by decide +kernel) rfl
theorem q614 : (Cond.fieldLink "LateChecksModel" (115 : Nat) "LateChecksModel" "first" "I") ∈ gW := gW_tbl (i := 614) (by decide +kernel) rfl
theorem q615 : (Cond.fieldLink "LateChecksModel" (112 : Nat) "LateChecksModel" "behind" "I") ∈ gW := gW_tbl (i := 615) (by decide +kernel) rfl
theorem q616 : (Cond.fieldLink "LateChecksModel" (169 : Nat) "LateChecksModel" "clauses" "I") ∈ gW := gW_tbl (i := 616) (by decide +kernel) rfl
theorem q617 : (Cond.fieldLink "LateChecksModel" (161 : Nat) "LateChecksModel" "doing" "Z") ∈ gW := gW_tbl (i := 617) (by decide +kernel) rfl
theorem q618 : (Cond.fieldLink "LateChecksModel" (63 : Nat) "LateChecksModel" "numbers" "[I") ∈ gW := gW_tbl (i := 618) (by decide +kernel) rfl
theorem q619 : (Cond.fieldLink "LateChecksModel" (66 : Nat) "LateChecksModel" "words" "[I") ∈ gW := gW_tbl (i := 619) (by decide +kernel) rfl
theorem q681 : (Cond.arrayClass Jvm.ClassFile.FieldType.boolean) ∈ gW := gW_tbl (i := 681) (by decide +kernel) rfl
theorem q682 : (Cond.methodLink "LateChecksLaw" (17 : Nat) ({ cls := "LateChecksModel", name := "write", desc := "(I)I" } : Jvm.MethodName)) ∈ gW := gW_tbl (i := 682) (by decide +kernel) rfl
theorem q683 : (Cond.instanceMethod ({ cls := "LateChecksModel", name := "write", desc := "(I)I" } : Jvm.MethodName)) ∈ gW := gW_tbl (i := 683) (by decide +kernel) rfl
theorem q684 : (Cond.selects "LateChecksModel" ({ cls := "LateChecksModel", name := "write", desc := "(I)I" } : Jvm.MethodName) ({ cls := "LateChecksModel", name := "write", desc := "(I)I" } : Jvm.MethodName)) ∈ gW := gW_tbl (i := 684) (by decide +kernel) rfl
theorem q685 : (Cond.code ({ cls := "LateChecksModel", name := "write", desc := "(I)I" } : Jvm.MethodName) prog_6_method_11_code (2 : Nat) (Option.some Jvm.ClassFile.FieldType.int)) ∈ gW := gW_tbl (i := 685) (by decide +kernel) rfl
theorem q686 : (Cond.constantLong "LateChecksModel" (99 : Nat) (255 : Int64)) ∈ gW := gW_tbl (i := 686) (by decide +kernel) rfl
theorem q687 : (Cond.methodLink "LateChecksModel" (71 : Nat) ({ cls := "LateChecksModel", name := "in", desc := "(JJJ)Z" } : Jvm.MethodName)) ∈ gW := gW_tbl (i := 687) (by decide +kernel) rfl
theorem q688 : (Cond.static ({ cls := "LateChecksModel", name := "in", desc := "(JJJ)Z" } : Jvm.MethodName)) ∈ gW := gW_tbl (i := 688) (by decide +kernel) rfl
theorem q689 : (Cond.code ({ cls := "LateChecksModel", name := "in", desc := "(JJJ)Z" } : Jvm.MethodName) prog_6_method_2_code (6 : Nat) (Option.some Jvm.ClassFile.FieldType.boolean)) ∈ gW := gW_tbl (i := 689) (by decide +kernel) rfl
theorem q690 : (Cond.methodLink "LateChecksLaw" (22 : Nat) ({ cls := "LateChecksModel", name := "erase", desc := "()I" } : Jvm.MethodName)) ∈ gW := gW_tbl (i := 690) (by decide +kernel) rfl
theorem q691 : (Cond.instanceMethod ({ cls := "LateChecksModel", name := "erase", desc := "()I" } : Jvm.MethodName)) ∈ gW := gW_tbl (i := 691) (by decide +kernel) rfl
theorem q692 : (Cond.selects "LateChecksModel" ({ cls := "LateChecksModel", name := "erase", desc := "()I" } : Jvm.MethodName) ({ cls := "LateChecksModel", name := "erase", desc := "()I" } : Jvm.MethodName)) ∈ gW := gW_tbl (i := 692) (by decide +kernel) rfl
theorem q693 : (Cond.code ({ cls := "LateChecksModel", name := "erase", desc := "()I" } : Jvm.MethodName) prog_6_method_12_code (2 : Nat) (Option.some Jvm.ClassFile.FieldType.int)) ∈ gW := gW_tbl (i := 693) (by decide +kernel) rfl
theorem q694 : (Cond.methodLink "LateChecksLaw" (26 : Nat) ({ cls := "LateChecksModel", name := "fault", desc := "()I" } : Jvm.MethodName)) ∈ gW := gW_tbl (i := 694) (by decide +kernel) rfl
theorem q695 : (Cond.instanceMethod ({ cls := "LateChecksModel", name := "fault", desc := "()I" } : Jvm.MethodName)) ∈ gW := gW_tbl (i := 695) (by decide +kernel) rfl
theorem q696 : (Cond.selects "LateChecksModel" ({ cls := "LateChecksModel", name := "fault", desc := "()I" } : Jvm.MethodName) ({ cls := "LateChecksModel", name := "fault", desc := "()I" } : Jvm.MethodName)) ∈ gW := gW_tbl (i := 696) (by decide +kernel) rfl
theorem q697 : (Cond.code ({ cls := "LateChecksModel", name := "fault", desc := "()I" } : Jvm.MethodName) prog_6_method_22_code (1 : Nat) (Option.some Jvm.ClassFile.FieldType.int)) ∈ gW := gW_tbl (i := 697) (by decide +kernel) rfl
theorem q698 : (Cond.methodLink "LateChecksModel" (176 : Nat) ({ cls := "LateChecksModel", name := "readsAll", desc := "(Z)Z" } : Jvm.MethodName)) ∈ gW := gW_tbl (i := 698) (by decide +kernel) rfl
theorem q700 : (Cond.instanceMethod ({ cls := "LateChecksModel", name := "readsAll", desc := "(Z)Z" } : Jvm.MethodName)) ∈ gW := gW_tbl (i := 700) (by decide +kernel) rfl
theorem q701 : (Cond.code ({ cls := "LateChecksModel", name := "readsAll", desc := "(Z)Z" } : Jvm.MethodName) prog_6_method_21_code (3 : Nat) (Option.some Jvm.ClassFile.FieldType.boolean)) ∈ gW := gW_tbl (i := 701) (by decide +kernel) rfl
theorem q702 : (Cond.methodLink "LateChecksModel" (125 : Nat) ({ cls := "LateChecksModel", name := "next", desc := "()V" } : Jvm.MethodName)) ∈ gW := gW_tbl (i := 702) (by decide +kernel) rfl
theorem q704 : (Cond.instanceMethod ({ cls := "LateChecksModel", name := "next", desc := "()V" } : Jvm.MethodName)) ∈ gW := gW_tbl (i := 704) (by decide +kernel) rfl
theorem q705 : (Cond.code ({ cls := "LateChecksModel", name := "next", desc := "()V" } : Jvm.MethodName) prog_6_method_15_code (3 : Nat) (Option.none : Option Jvm.ClassFile.FieldType)) ∈ gW := gW_tbl (i := 705) (by decide +kernel) rfl
theorem q706 : (Cond.methodLink "LateChecksModel" (118 : Nat) ({ cls := "LateChecksModel", name := "isSmall", desc := "(I)Z" } : Jvm.MethodName)) ∈ gW := gW_tbl (i := 706) (by decide +kernel) rfl
theorem q707 : (Cond.static ({ cls := "LateChecksModel", name := "isSmall", desc := "(I)Z" } : Jvm.MethodName)) ∈ gW := gW_tbl (i := 707) (by decide +kernel) rfl
theorem q708 : (Cond.code ({ cls := "LateChecksModel", name := "isSmall", desc := "(I)Z" } : Jvm.MethodName) prog_6_method_13_code (1 : Nat) (Option.some Jvm.ClassFile.FieldType.boolean)) ∈ gW := gW_tbl (i := 708) (by decide +kernel) rfl
theorem q709 : (Cond.constantLong "LateChecksModel" (104 : Nat) (97 : Int64)) ∈ gW := gW_tbl (i := 709) (by decide +kernel) rfl
theorem q710 : (Cond.constantLong "LateChecksModel" (106 : Nat) (122 : Int64)) ∈ gW := gW_tbl (i := 710) (by decide +kernel) rfl
theorem q711 : (Cond.methodLink "LateChecksModel" (122 : Nat) ({ cls := "LateChecksModel", name := "isDigit", desc := "(I)Z" } : Jvm.MethodName)) ∈ gW := gW_tbl (i := 711) (by decide +kernel) rfl
theorem q712 : (Cond.static ({ cls := "LateChecksModel", name := "isDigit", desc := "(I)Z" } : Jvm.MethodName)) ∈ gW := gW_tbl (i := 712) (by decide +kernel) rfl
theorem q713 : (Cond.code ({ cls := "LateChecksModel", name := "isDigit", desc := "(I)Z" } : Jvm.MethodName) prog_6_method_14_code (1 : Nat) (Option.some Jvm.ClassFile.FieldType.boolean)) ∈ gW := gW_tbl (i := 713) (by decide +kernel) rfl
theorem q714 : (Cond.constantLong "LateChecksModel" (108 : Nat) (48 : Int64)) ∈ gW := gW_tbl (i := 714) (by decide +kernel) rfl
theorem q715 : (Cond.constantLong "LateChecksModel" (110 : Nat) (57 : Int64)) ∈ gW := gW_tbl (i := 715) (by decide +kernel) rfl
theorem q716 : (Cond.methodLink "LateChecksModel" (172 : Nat) ({ cls := "LateChecksModel", name := "readsClause", desc := "()Z" } : Jvm.MethodName)) ∈ gW := gW_tbl (i := 716) (by decide +kernel) rfl
theorem q718 : (Cond.instanceMethod ({ cls := "LateChecksModel", name := "readsClause", desc := "()Z" } : Jvm.MethodName)) ∈ gW := gW_tbl (i := 718) (by decide +kernel) rfl
theorem q719 : (Cond.code ({ cls := "LateChecksModel", name := "readsClause", desc := "()Z" } : Jvm.MethodName) prog_6_method_20_code (2 : Nat) (Option.some Jvm.ClassFile.FieldType.boolean)) ∈ gW := gW_tbl (i := 719) (by decide +kernel) rfl
theorem q720 : (Cond.methodLink "LateChecksModel" (154 : Nat) ({ cls := "LateChecksModel", name := "wordHere", desc := "()I" } : Jvm.MethodName)) ∈ gW := gW_tbl (i := 720) (by decide +kernel) rfl
theorem q722 : (Cond.instanceMethod ({ cls := "LateChecksModel", name := "wordHere", desc := "()I" } : Jvm.MethodName)) ∈ gW := gW_tbl (i := 722) (by decide +kernel) rfl
theorem q723 : (Cond.code ({ cls := "LateChecksModel", name := "wordHere", desc := "()I" } : Jvm.MethodName) prog_6_method_16_code (4 : Nat) (Option.some Jvm.ClassFile.FieldType.int)) ∈ gW := gW_tbl (i := 723) (by decide +kernel) rfl
theorem q724 : (Cond.methodLink "LateChecksModel" (158 : Nat) ({ cls := "LateChecksModel", name := "readsRest", desc := "(I)Z" } : Jvm.MethodName)) ∈ gW := gW_tbl (i := 724) (by decide +kernel) rfl
theorem q726 : (Cond.instanceMethod ({ cls := "LateChecksModel", name := "readsRest", desc := "(I)Z" } : Jvm.MethodName)) ∈ gW := gW_tbl (i := 726) (by decide +kernel) rfl
theorem q727 : (Cond.code ({ cls := "LateChecksModel", name := "readsRest", desc := "(I)Z" } : Jvm.MethodName) prog_6_method_18_code (2 : Nat) (Option.some Jvm.ClassFile.FieldType.boolean)) ∈ gW := gW_tbl (i := 727) (by decide +kernel) rfl
theorem q728 : (Cond.methodLink "LateChecksModel" (128 : Nat) ({ cls := "LateChecksModel", name := "reads", desc := "(III)Z" } : Jvm.MethodName)) ∈ gW := gW_tbl (i := 728) (by decide +kernel) rfl
theorem q730 : (Cond.instanceMethod ({ cls := "LateChecksModel", name := "reads", desc := "(III)Z" } : Jvm.MethodName)) ∈ gW := gW_tbl (i := 730) (by decide +kernel) rfl
theorem q731 : (Cond.code ({ cls := "LateChecksModel", name := "reads", desc := "(III)Z" } : Jvm.MethodName) prog_6_method_17_code (6 : Nat) (Option.some Jvm.ClassFile.FieldType.boolean)) ∈ gW := gW_tbl (i := 731) (by decide +kernel) rfl
theorem q732 : (Cond.methodLink "LateChecksModel" (165 : Nat) ({ cls := "LateChecksModel", name := "does", desc := "(I)V" } : Jvm.MethodName)) ∈ gW := gW_tbl (i := 732) (by decide +kernel) rfl
theorem q734 : (Cond.instanceMethod ({ cls := "LateChecksModel", name := "does", desc := "(I)V" } : Jvm.MethodName)) ∈ gW := gW_tbl (i := 734) (by decide +kernel) rfl
theorem q735 : (Cond.code ({ cls := "LateChecksModel", name := "does", desc := "(I)V" } : Jvm.MethodName) prog_6_method_19_code (2 : Nat) (Option.none : Option Jvm.ClassFile.FieldType)) ∈ gW := gW_tbl (i := 735) (by decide +kernel) rfl
theorem q736 : (Cond.methodLink "LateChecksModel" (131 : Nat) ({ cls := "LateChecksModel", name := "allAnew", desc := "()V" } : Jvm.MethodName)) ∈ gW := gW_tbl (i := 736) (by decide +kernel) rfl
theorem q738 : (Cond.instanceMethod ({ cls := "LateChecksModel", name := "allAnew", desc := "()V" } : Jvm.MethodName)) ∈ gW := gW_tbl (i := 738) (by decide +kernel) rfl
theorem q739 : (Cond.code ({ cls := "LateChecksModel", name := "allAnew", desc := "()V" } : Jvm.MethodName) prog_6_method_7_code (2 : Nat) (Option.none : Option Jvm.ClassFile.FieldType)) ∈ gW := gW_tbl (i := 739) (by decide +kernel) rfl
theorem q740 : (Cond.methodLink "LateChecksModel" (77 : Nat) ({ cls := "LateChecksModel", name := "frees", desc := "(IZ)V" } : Jvm.MethodName)) ∈ gW := gW_tbl (i := 740) (by decide +kernel) rfl
theorem q742 : (Cond.instanceMethod ({ cls := "LateChecksModel", name := "frees", desc := "(IZ)V" } : Jvm.MethodName)) ∈ gW := gW_tbl (i := 742) (by decide +kernel) rfl
theorem q743 : (Cond.code ({ cls := "LateChecksModel", name := "frees", desc := "(IZ)V" } : Jvm.MethodName) prog_6_method_8_code (3 : Nat) (Option.none : Option Jvm.ClassFile.FieldType)) ∈ gW := gW_tbl (i := 743) (by decide +kernel) rfl
theorem q744 : (Cond.methodLink "LateChecksModel" (134 : Nat) ({ cls := "LateChecksModel", name := "put", desc := "(II)I" } : Jvm.MethodName)) ∈ gW := gW_tbl (i := 744) (by decide +kernel) rfl
theorem q745 : (Cond.instanceMethod ({ cls := "LateChecksModel", name := "put", desc := "(II)I" } : Jvm.MethodName)) ∈ gW := gW_tbl (i := 745) (by decide +kernel) rfl
theorem q746 : (Cond.selects "LateChecksModel" ({ cls := "LateChecksModel", name := "put", desc := "(II)I" } : Jvm.MethodName) ({ cls := "LateChecksModel", name := "put", desc := "(II)I" } : Jvm.MethodName)) ∈ gW := gW_tbl (i := 746) (by decide +kernel) rfl
theorem q747 : (Cond.code ({ cls := "LateChecksModel", name := "put", desc := "(II)I" } : Jvm.MethodName) prog_6_method_27_code (4 : Nat) (Option.some Jvm.ClassFile.FieldType.int)) ∈ gW := gW_tbl (i := 747) (by decide +kernel) rfl
theorem q748 : (Cond.methodLink "LateChecksModel" (180 : Nat) ({ cls := "LateChecksModel", name := "isItem", desc := "(I)Z" } : Jvm.MethodName)) ∈ gW := gW_tbl (i := 748) (by decide +kernel) rfl
theorem q749 : (Cond.static ({ cls := "LateChecksModel", name := "isItem", desc := "(I)Z" } : Jvm.MethodName)) ∈ gW := gW_tbl (i := 749) (by decide +kernel) rfl
theorem q750 : (Cond.code ({ cls := "LateChecksModel", name := "isItem", desc := "(I)Z" } : Jvm.MethodName) prog_6_method_3_code (1 : Nat) (Option.some Jvm.ClassFile.FieldType.boolean)) ∈ gW := gW_tbl (i := 750) (by decide +kernel) rfl
theorem q751 : (Cond.constantLong "LateChecksModel" (69 : Nat) (7 : Int64)) ∈ gW := gW_tbl (i := 751) (by decide +kernel) rfl
theorem q752 : (Cond.constantLong "LateChecksModel" (187 : Nat) (9999 : Int64)) ∈ gW := gW_tbl (i := 752) (by decide +kernel) rfl
theorem q753 : (Cond.methodLink "LateChecksModel" (189 : Nat) ({ cls := "LateChecksModel", name := "inState", desc := "(I)I" } : Jvm.MethodName)) ∈ gW := gW_tbl (i := 753) (by decide +kernel) rfl
theorem q755 : (Cond.instanceMethod ({ cls := "LateChecksModel", name := "inState", desc := "(I)I" } : Jvm.MethodName)) ∈ gW := gW_tbl (i := 755) (by decide +kernel) rfl
theorem q756 : (Cond.code ({ cls := "LateChecksModel", name := "inState", desc := "(I)I" } : Jvm.MethodName) prog_6_method_10_code (4 : Nat) (Option.some Jvm.ClassFile.FieldType.int)) ∈ gW := gW_tbl (i := 756) (by decide +kernel) rfl
theorem q757 : (Cond.methodLink "LateChecksModel" (192 : Nat) ({ cls := "LateChecksModel", name := "logs", desc := "(II)I" } : Jvm.MethodName)) ∈ gW := gW_tbl (i := 757) (by decide +kernel) rfl
theorem q759 : (Cond.instanceMethod ({ cls := "LateChecksModel", name := "logs", desc := "(II)I" } : Jvm.MethodName)) ∈ gW := gW_tbl (i := 759) (by decide +kernel) rfl
theorem q760 : (Cond.code ({ cls := "LateChecksModel", name := "logs", desc := "(II)I" } : Jvm.MethodName) prog_6_method_25_code (5 : Nat) (Option.some Jvm.ClassFile.FieldType.int)) ∈ gW := gW_tbl (i := 760) (by decide +kernel) rfl
theorem q761 : (Cond.methodLink "LateChecksModel" (183 : Nat) ({ cls := "LateChecksModel", name := "has", desc := "(II)Z" } : Jvm.MethodName)) ∈ gW := gW_tbl (i := 761) (by decide +kernel) rfl
theorem q762 : (Cond.static ({ cls := "LateChecksModel", name := "has", desc := "(II)Z" } : Jvm.MethodName)) ∈ gW := gW_tbl (i := 762) (by decide +kernel) rfl
theorem q763 : (Cond.code ({ cls := "LateChecksModel", name := "has", desc := "(II)Z" } : Jvm.MethodName) prog_6_method_5_code (2 : Nat) (Option.some Jvm.ClassFile.FieldType.boolean)) ∈ gW := gW_tbl (i := 763) (by decide +kernel) rfl
theorem q764 : (Cond.methodLink "LateChecksModel" (195 : Nat) ({ cls := "LateChecksModel", name := "puts", desc := "(II)V" } : Jvm.MethodName)) ∈ gW := gW_tbl (i := 764) (by decide +kernel) rfl
theorem q766 : (Cond.instanceMethod ({ cls := "LateChecksModel", name := "puts", desc := "(II)V" } : Jvm.MethodName)) ∈ gW := gW_tbl (i := 766) (by decide +kernel) rfl
theorem q767 : (Cond.code ({ cls := "LateChecksModel", name := "puts", desc := "(II)V" } : Jvm.MethodName) prog_6_method_26_code (3 : Nat) (Option.none : Option Jvm.ClassFile.FieldType)) ∈ gW := gW_tbl (i := 767) (by decide +kernel) rfl
theorem q768 : (Cond.methodLink "LateChecksModel" (138 : Nat) ({ cls := "LateChecksModel", name := "limit", desc := "(I)I" } : Jvm.MethodName)) ∈ gW := gW_tbl (i := 768) (by decide +kernel) rfl
theorem q769 : (Cond.instanceMethod ({ cls := "LateChecksModel", name := "limit", desc := "(I)I" } : Jvm.MethodName)) ∈ gW := gW_tbl (i := 769) (by decide +kernel) rfl
theorem q770 : (Cond.selects "LateChecksModel" ({ cls := "LateChecksModel", name := "limit", desc := "(I)I" } : Jvm.MethodName) ({ cls := "LateChecksModel", name := "limit", desc := "(I)I" } : Jvm.MethodName)) ∈ gW := gW_tbl (i := 770) (by decide +kernel) rfl
theorem q771 : (Cond.code ({ cls := "LateChecksModel", name := "limit", desc := "(I)I" } : Jvm.MethodName) prog_6_method_28_code (3 : Nat) (Option.some Jvm.ClassFile.FieldType.int)) ∈ gW := gW_tbl (i := 771) (by decide +kernel) rfl
theorem q772 : (Cond.constantLong "LateChecksModel" (199 : Nat) (9 : Int64)) ∈ gW := gW_tbl (i := 772) (by decide +kernel) rfl
theorem q773 : (Cond.methodLink "LateChecksModel" (141 : Nat) ({ cls := "LateChecksModel", name := "begin", desc := "(I)I" } : Jvm.MethodName)) ∈ gW := gW_tbl (i := 773) (by decide +kernel) rfl
theorem q774 : (Cond.instanceMethod ({ cls := "LateChecksModel", name := "begin", desc := "(I)I" } : Jvm.MethodName)) ∈ gW := gW_tbl (i := 774) (by decide +kernel) rfl
theorem q775 : (Cond.selects "LateChecksModel" ({ cls := "LateChecksModel", name := "begin", desc := "(I)I" } : Jvm.MethodName) ({ cls := "LateChecksModel", name := "begin", desc := "(I)I" } : Jvm.MethodName)) ∈ gW := gW_tbl (i := 775) (by decide +kernel) rfl
theorem q776 : (Cond.code ({ cls := "LateChecksModel", name := "begin", desc := "(I)I" } : Jvm.MethodName) prog_6_method_29_code (2 : Nat) (Option.some Jvm.ClassFile.FieldType.int)) ∈ gW := gW_tbl (i := 776) (by decide +kernel) rfl
theorem q777 : (Cond.methodLink "LateChecksModel" (201 : Nat) ({ cls := "LateChecksModel", name := "isDeal", desc := "(I)Z" } : Jvm.MethodName)) ∈ gW := gW_tbl (i := 777) (by decide +kernel) rfl
theorem q778 : (Cond.static ({ cls := "LateChecksModel", name := "isDeal", desc := "(I)Z" } : Jvm.MethodName)) ∈ gW := gW_tbl (i := 778) (by decide +kernel) rfl
theorem q779 : (Cond.code ({ cls := "LateChecksModel", name := "isDeal", desc := "(I)Z" } : Jvm.MethodName) prog_6_method_4_code (1 : Nat) (Option.some Jvm.ClassFile.FieldType.boolean)) ∈ gW := gW_tbl (i := 779) (by decide +kernel) rfl
theorem q780 : (Cond.constantLong "LateChecksModel" (75 : Nat) (5 : Int64)) ∈ gW := gW_tbl (i := 780) (by decide +kernel) rfl
theorem q781 : (Cond.methodLink "LateChecksModel" (204 : Nat) ({ cls := "LateChecksModel", name := "opens", desc := "(I)V" } : Jvm.MethodName)) ∈ gW := gW_tbl (i := 781) (by decide +kernel) rfl
theorem q783 : (Cond.instanceMethod ({ cls := "LateChecksModel", name := "opens", desc := "(I)V" } : Jvm.MethodName)) ∈ gW := gW_tbl (i := 783) (by decide +kernel) rfl
theorem q784 : (Cond.code ({ cls := "LateChecksModel", name := "opens", desc := "(I)V" } : Jvm.MethodName) prog_6_method_9_code (2 : Nat) (Option.none : Option Jvm.ClassFile.FieldType)) ∈ gW := gW_tbl (i := 784) (by decide +kernel) rfl
theorem q785 : (Cond.methodLink "LateChecksModel" (144 : Nat) ({ cls := "LateChecksModel", name := "read", desc := "(II)I" } : Jvm.MethodName)) ∈ gW := gW_tbl (i := 785) (by decide +kernel) rfl
theorem q786 : (Cond.instanceMethod ({ cls := "LateChecksModel", name := "read", desc := "(II)I" } : Jvm.MethodName)) ∈ gW := gW_tbl (i := 786) (by decide +kernel) rfl
theorem q787 : (Cond.selects "LateChecksModel" ({ cls := "LateChecksModel", name := "read", desc := "(II)I" } : Jvm.MethodName) ({ cls := "LateChecksModel", name := "read", desc := "(II)I" } : Jvm.MethodName)) ∈ gW := gW_tbl (i := 787) (by decide +kernel) rfl
theorem q788 : (Cond.code ({ cls := "LateChecksModel", name := "read", desc := "(II)I" } : Jvm.MethodName) prog_6_method_31_code (4 : Nat) (Option.some Jvm.ClassFile.FieldType.int)) ∈ gW := gW_tbl (i := 788) (by decide +kernel) rfl
theorem q789 : (Cond.methodLink "LateChecksModel" (147 : Nat) ({ cls := "LateChecksModel", name := "lay", desc := "(III)I" } : Jvm.MethodName)) ∈ gW := gW_tbl (i := 789) (by decide +kernel) rfl
theorem q790 : (Cond.instanceMethod ({ cls := "LateChecksModel", name := "lay", desc := "(III)I" } : Jvm.MethodName)) ∈ gW := gW_tbl (i := 790) (by decide +kernel) rfl
theorem q791 : (Cond.selects "LateChecksModel" ({ cls := "LateChecksModel", name := "lay", desc := "(III)I" } : Jvm.MethodName) ({ cls := "LateChecksModel", name := "lay", desc := "(III)I" } : Jvm.MethodName)) ∈ gW := gW_tbl (i := 791) (by decide +kernel) rfl
theorem q792 : (Cond.code ({ cls := "LateChecksModel", name := "lay", desc := "(III)I" } : Jvm.MethodName) prog_6_method_32_code (4 : Nat) (Option.some Jvm.ClassFile.FieldType.int)) ∈ gW := gW_tbl (i := 792) (by decide +kernel) rfl
theorem q793 : (Cond.methodLink "LateChecksModel" (207 : Nat) ({ cls := "LateChecksModel", name := "ones", desc := "(I)I" } : Jvm.MethodName)) ∈ gW := gW_tbl (i := 793) (by decide +kernel) rfl
theorem q794 : (Cond.static ({ cls := "LateChecksModel", name := "ones", desc := "(I)I" } : Jvm.MethodName)) ∈ gW := gW_tbl (i := 794) (by decide +kernel) rfl
theorem q795 : (Cond.code ({ cls := "LateChecksModel", name := "ones", desc := "(I)I" } : Jvm.MethodName) prog_6_method_6_code (3 : Nat) (Option.some Jvm.ClassFile.FieldType.int)) ∈ gW := gW_tbl (i := 795) (by decide +kernel) rfl
theorem q796 : (Cond.methodLink "LateChecksModel" (151 : Nat) ({ cls := "LateChecksModel", name := "send", desc := "(I)I" } : Jvm.MethodName)) ∈ gW := gW_tbl (i := 796) (by decide +kernel) rfl
theorem q797 : (Cond.instanceMethod ({ cls := "LateChecksModel", name := "send", desc := "(I)I" } : Jvm.MethodName)) ∈ gW := gW_tbl (i := 797) (by decide +kernel) rfl
theorem q798 : (Cond.selects "LateChecksModel" ({ cls := "LateChecksModel", name := "send", desc := "(I)I" } : Jvm.MethodName) ({ cls := "LateChecksModel", name := "send", desc := "(I)I" } : Jvm.MethodName)) ∈ gW := gW_tbl (i := 798) (by decide +kernel) rfl
theorem q799 : (Cond.code ({ cls := "LateChecksModel", name := "send", desc := "(I)I" } : Jvm.MethodName) prog_6_method_46_code (2 : Nat) (Option.some Jvm.ClassFile.FieldType.int)) ∈ gW := gW_tbl (i := 799) (by decide +kernel) rfl
theorem q800 : (Cond.methodLink "LateChecksLaw" (30 : Nat) ({ cls := "LateChecksModel", name := "tell", desc := "()I" } : Jvm.MethodName)) ∈ gW := gW_tbl (i := 800) (by decide +kernel) rfl
theorem q801 : (Cond.instanceMethod ({ cls := "LateChecksModel", name := "tell", desc := "()I" } : Jvm.MethodName)) ∈ gW := gW_tbl (i := 801) (by decide +kernel) rfl
theorem q802 : (Cond.selects "LateChecksModel" ({ cls := "LateChecksModel", name := "tell", desc := "()I" } : Jvm.MethodName) ({ cls := "LateChecksModel", name := "tell", desc := "()I" } : Jvm.MethodName)) ∈ gW := gW_tbl (i := 802) (by decide +kernel) rfl
theorem q803 : (Cond.code ({ cls := "LateChecksModel", name := "tell", desc := "()I" } : Jvm.MethodName) prog_6_method_23_code (1 : Nat) (Option.some Jvm.ClassFile.FieldType.int)) ∈ gW := gW_tbl (i := 803) (by decide +kernel) rfl
theorem q804 : (Cond.methodLink "LateChecksLaw" (35 : Nat) ({ cls := "LateChecksModel", name := "item", desc := "(II)I" } : Jvm.MethodName)) ∈ gW := gW_tbl (i := 804) (by decide +kernel) rfl
theorem q805 : (Cond.instanceMethod ({ cls := "LateChecksModel", name := "item", desc := "(II)I" } : Jvm.MethodName)) ∈ gW := gW_tbl (i := 805) (by decide +kernel) rfl
theorem q806 : (Cond.selects "LateChecksModel" ({ cls := "LateChecksModel", name := "item", desc := "(II)I" } : Jvm.MethodName) ({ cls := "LateChecksModel", name := "item", desc := "(II)I" } : Jvm.MethodName)) ∈ gW := gW_tbl (i := 806) (by decide +kernel) rfl
theorem q807 : (Cond.code ({ cls := "LateChecksModel", name := "item", desc := "(II)I" } : Jvm.MethodName) prog_6_method_24_code (3 : Nat) (Option.some Jvm.ClassFile.FieldType.int)) ∈ gW := gW_tbl (i := 807) (by decide +kernel) rfl
theorem q808 : (Cond.methodLink "LateChecksLaw" (39 : Nat) ({ cls := "LateChecksModel", name := "put", desc := "(II)I" } : Jvm.MethodName)) ∈ gW := gW_tbl (i := 808) (by decide +kernel) rfl
theorem q809 : (Cond.methodLink "LateChecksLaw" (43 : Nat) ({ cls := "LateChecksModel", name := "limit", desc := "(I)I" } : Jvm.MethodName)) ∈ gW := gW_tbl (i := 809) (by decide +kernel) rfl
theorem q810 : (Cond.methodLink "LateChecksLaw" (47 : Nat) ({ cls := "LateChecksModel", name := "begin", desc := "(I)I" } : Jvm.MethodName)) ∈ gW := gW_tbl (i := 810) (by decide +kernel) rfl
theorem q811 : (Cond.methodLink "LateChecksLaw" (51 : Nat) ({ cls := "LateChecksModel", name := "retry", desc := "(I)I" } : Jvm.MethodName)) ∈ gW := gW_tbl (i := 811) (by decide +kernel) rfl
theorem q812 : (Cond.instanceMethod ({ cls := "LateChecksModel", name := "retry", desc := "(I)I" } : Jvm.MethodName)) ∈ gW := gW_tbl (i := 812) (by decide +kernel) rfl
theorem q813 : (Cond.selects "LateChecksModel" ({ cls := "LateChecksModel", name := "retry", desc := "(I)I" } : Jvm.MethodName) ({ cls := "LateChecksModel", name := "retry", desc := "(I)I" } : Jvm.MethodName)) ∈ gW := gW_tbl (i := 813) (by decide +kernel) rfl
theorem q814 : (Cond.code ({ cls := "LateChecksModel", name := "retry", desc := "(I)I" } : Jvm.MethodName) prog_6_method_30_code (2 : Nat) (Option.some Jvm.ClassFile.FieldType.int)) ∈ gW := gW_tbl (i := 814) (by decide +kernel) rfl
theorem q815 : (Cond.methodLink "LateChecksLaw" (55 : Nat) ({ cls := "LateChecksModel", name := "read", desc := "(II)I" } : Jvm.MethodName)) ∈ gW := gW_tbl (i := 815) (by decide +kernel) rfl
theorem q816 : (Cond.methodLink "LateChecksLaw" (60 : Nat) ({ cls := "LateChecksModel", name := "lay", desc := "(III)I" } : Jvm.MethodName)) ∈ gW := gW_tbl (i := 816) (by decide +kernel) rfl
theorem q817 : (Cond.methodLink "LateChecksLaw" (64 : Nat) ({ cls := "LateChecksModel", name := "commit", desc := "(II)I" } : Jvm.MethodName)) ∈ gW := gW_tbl (i := 817) (by decide +kernel) rfl
theorem q818 : (Cond.instanceMethod ({ cls := "LateChecksModel", name := "commit", desc := "(II)I" } : Jvm.MethodName)) ∈ gW := gW_tbl (i := 818) (by decide +kernel) rfl
theorem q819 : (Cond.selects "LateChecksModel" ({ cls := "LateChecksModel", name := "commit", desc := "(II)I" } : Jvm.MethodName) ({ cls := "LateChecksModel", name := "commit", desc := "(II)I" } : Jvm.MethodName)) ∈ gW := gW_tbl (i := 819) (by decide +kernel) rfl
theorem q820 : (Cond.code ({ cls := "LateChecksModel", name := "commit", desc := "(II)I" } : Jvm.MethodName) prog_6_method_42_code (7 : Nat) (Option.some Jvm.ClassFile.FieldType.int)) ∈ gW := gW_tbl (i := 820) (by decide +kernel) rfl
theorem q821 : (Cond.methodLink "LateChecksModel" (227 : Nat) ({ cls := "LateChecksModel", name := "refused", desc := "(II)I" } : Jvm.MethodName)) ∈ gW := gW_tbl (i := 821) (by decide +kernel) rfl
theorem q823 : (Cond.instanceMethod ({ cls := "LateChecksModel", name := "refused", desc := "(II)I" } : Jvm.MethodName)) ∈ gW := gW_tbl (i := 823) (by decide +kernel) rfl
theorem q824 : (Cond.code ({ cls := "LateChecksModel", name := "refused", desc := "(II)I" } : Jvm.MethodName) prog_6_method_41_code (3 : Nat) (Option.some Jvm.ClassFile.FieldType.int)) ∈ gW := gW_tbl (i := 824) (by decide +kernel) rfl
theorem q825 : (Cond.constantLong "LateChecksModel" (225 : Nat) (2 : Int64)) ∈ gW := gW_tbl (i := 825) (by decide +kernel) rfl
theorem q826 : (Cond.methodLink "LateChecksModel" (230 : Nat) ({ cls := "LateChecksModel", name := "checks", desc := "(II)I" } : Jvm.MethodName)) ∈ gW := gW_tbl (i := 826) (by decide +kernel) rfl
theorem q828 : (Cond.instanceMethod ({ cls := "LateChecksModel", name := "checks", desc := "(II)I" } : Jvm.MethodName)) ∈ gW := gW_tbl (i := 828) (by decide +kernel) rfl
theorem q829 : (Cond.code ({ cls := "LateChecksModel", name := "checks", desc := "(II)I" } : Jvm.MethodName) prog_6_method_38_code (4 : Nat) (Option.some Jvm.ClassFile.FieldType.int)) ∈ gW := gW_tbl (i := 829) (by decide +kernel) rfl
theorem q830 : (Cond.methodLink "LateChecksModel" (213 : Nat) ({ cls := "LateChecksModel", name := "stale", desc := "(I)I" } : Jvm.MethodName)) ∈ gW := gW_tbl (i := 830) (by decide +kernel) rfl
theorem q832 : (Cond.instanceMethod ({ cls := "LateChecksModel", name := "stale", desc := "(I)I" } : Jvm.MethodName)) ∈ gW := gW_tbl (i := 832) (by decide +kernel) rfl
theorem q833 : (Cond.code ({ cls := "LateChecksModel", name := "stale", desc := "(I)I" } : Jvm.MethodName) prog_6_method_33_code (4 : Nat) (Option.some Jvm.ClassFile.FieldType.int)) ∈ gW := gW_tbl (i := 833) (by decide +kernel) rfl
theorem q834 : (Cond.methodLink "LateChecksModel" (216 : Nat) ({ cls := "LateChecksModel", name := "crossed", desc := "(I)I" } : Jvm.MethodName)) ∈ gW := gW_tbl (i := 834) (by decide +kernel) rfl
theorem q836 : (Cond.instanceMethod ({ cls := "LateChecksModel", name := "crossed", desc := "(I)I" } : Jvm.MethodName)) ∈ gW := gW_tbl (i := 836) (by decide +kernel) rfl
theorem q837 : (Cond.code ({ cls := "LateChecksModel", name := "crossed", desc := "(I)I" } : Jvm.MethodName) prog_6_method_34_code (4 : Nat) (Option.some Jvm.ClassFile.FieldType.int)) ∈ gW := gW_tbl (i := 837) (by decide +kernel) rfl
theorem q838 : (Cond.methodLink "LateChecksModel" (219 : Nat) ({ cls := "LateChecksModel", name := "rivals", desc := "(I)I" } : Jvm.MethodName)) ∈ gW := gW_tbl (i := 838) (by decide +kernel) rfl
theorem q840 : (Cond.instanceMethod ({ cls := "LateChecksModel", name := "rivals", desc := "(I)I" } : Jvm.MethodName)) ∈ gW := gW_tbl (i := 840) (by decide +kernel) rfl
theorem q841 : (Cond.code ({ cls := "LateChecksModel", name := "rivals", desc := "(I)I" } : Jvm.MethodName) prog_6_method_35_code (4 : Nat) (Option.some Jvm.ClassFile.FieldType.int)) ∈ gW := gW_tbl (i := 841) (by decide +kernel) rfl
theorem q842 : (Cond.methodLink "LateChecksModel" (222 : Nat) ({ cls := "LateChecksModel", name := "isWeaker", desc := "(II)Z" } : Jvm.MethodName)) ∈ gW := gW_tbl (i := 842) (by decide +kernel) rfl
theorem q844 : (Cond.instanceMethod ({ cls := "LateChecksModel", name := "isWeaker", desc := "(II)Z" } : Jvm.MethodName)) ∈ gW := gW_tbl (i := 844) (by decide +kernel) rfl
theorem q845 : (Cond.code ({ cls := "LateChecksModel", name := "isWeaker", desc := "(II)Z" } : Jvm.MethodName) prog_6_method_37_code (6 : Nat) (Option.some Jvm.ClassFile.FieldType.boolean)) ∈ gW := gW_tbl (i := 845) (by decide +kernel) rfl
theorem q846 : (Cond.methodLink "LateChecksModel" (210 : Nat) ({ cls := "LateChecksModel", name := "isStubborn", desc := "(I)Z" } : Jvm.MethodName)) ∈ gW := gW_tbl (i := 846) (by decide +kernel) rfl
theorem q848 : (Cond.instanceMethod ({ cls := "LateChecksModel", name := "isStubborn", desc := "(I)Z" } : Jvm.MethodName)) ∈ gW := gW_tbl (i := 848) (by decide +kernel) rfl
theorem q849 : (Cond.code ({ cls := "LateChecksModel", name := "isStubborn", desc := "(I)Z" } : Jvm.MethodName) prog_6_method_36_code (2 : Nat) (Option.some Jvm.ClassFile.FieldType.boolean)) ∈ gW := gW_tbl (i := 849) (by decide +kernel) rfl
theorem q850 : (Cond.methodLink "LateChecksModel" (233 : Nat) ({ cls := "LateChecksModel", name := "fails", desc := "(II)V" } : Jvm.MethodName)) ∈ gW := gW_tbl (i := 850) (by decide +kernel) rfl
theorem q852 : (Cond.instanceMethod ({ cls := "LateChecksModel", name := "fails", desc := "(II)V" } : Jvm.MethodName)) ∈ gW := gW_tbl (i := 852) (by decide +kernel) rfl
theorem q853 : (Cond.code ({ cls := "LateChecksModel", name := "fails", desc := "(II)V" } : Jvm.MethodName) prog_6_method_39_code (3 : Nat) (Option.none : Option Jvm.ClassFile.FieldType)) ∈ gW := gW_tbl (i := 853) (by decide +kernel) rfl
theorem q854 : (Cond.methodLink "LateChecksModel" (236 : Nat) ({ cls := "LateChecksModel", name := "commits", desc := "(II)I" } : Jvm.MethodName)) ∈ gW := gW_tbl (i := 854) (by decide +kernel) rfl
theorem q856 : (Cond.instanceMethod ({ cls := "LateChecksModel", name := "commits", desc := "(II)I" } : Jvm.MethodName)) ∈ gW := gW_tbl (i := 856) (by decide +kernel) rfl
theorem q857 : (Cond.code ({ cls := "LateChecksModel", name := "commits", desc := "(II)I" } : Jvm.MethodName) prog_6_method_40_code (4 : Nat) (Option.some Jvm.ClassFile.FieldType.int)) ∈ gW := gW_tbl (i := 857) (by decide +kernel) rfl
theorem q858 : (Cond.methodLink "LateChecksLaw" (68 : Nat) ({ cls := "LateChecksModel", name := "peek", desc := "(II)I" } : Jvm.MethodName)) ∈ gW := gW_tbl (i := 858) (by decide +kernel) rfl
theorem q859 : (Cond.instanceMethod ({ cls := "LateChecksModel", name := "peek", desc := "(II)I" } : Jvm.MethodName)) ∈ gW := gW_tbl (i := 859) (by decide +kernel) rfl
theorem q860 : (Cond.selects "LateChecksModel" ({ cls := "LateChecksModel", name := "peek", desc := "(II)I" } : Jvm.MethodName) ({ cls := "LateChecksModel", name := "peek", desc := "(II)I" } : Jvm.MethodName)) ∈ gW := gW_tbl (i := 860) (by decide +kernel) rfl
theorem q861 : (Cond.code ({ cls := "LateChecksModel", name := "peek", desc := "(II)I" } : Jvm.MethodName) prog_6_method_43_code (5 : Nat) (Option.some Jvm.ClassFile.FieldType.int)) ∈ gW := gW_tbl (i := 861) (by decide +kernel) rfl
theorem q862 : (Cond.methodLink "LateChecksLaw" (72 : Nat) ({ cls := "LateChecksModel", name := "abort", desc := "(I)I" } : Jvm.MethodName)) ∈ gW := gW_tbl (i := 862) (by decide +kernel) rfl
theorem q863 : (Cond.instanceMethod ({ cls := "LateChecksModel", name := "abort", desc := "(I)I" } : Jvm.MethodName)) ∈ gW := gW_tbl (i := 863) (by decide +kernel) rfl
theorem q864 : (Cond.selects "LateChecksModel" ({ cls := "LateChecksModel", name := "abort", desc := "(I)I" } : Jvm.MethodName) ({ cls := "LateChecksModel", name := "abort", desc := "(I)I" } : Jvm.MethodName)) ∈ gW := gW_tbl (i := 864) (by decide +kernel) rfl
theorem q865 : (Cond.code ({ cls := "LateChecksModel", name := "abort", desc := "(I)I" } : Jvm.MethodName) prog_6_method_44_code (2 : Nat) (Option.some Jvm.ClassFile.FieldType.int)) ∈ gW := gW_tbl (i := 865) (by decide +kernel) rfl
theorem q866 : (Cond.methodLink "LateChecksLaw" (76 : Nat) ({ cls := "LateChecksModel", name := "sweep", desc := "()I" } : Jvm.MethodName)) ∈ gW := gW_tbl (i := 866) (by decide +kernel) rfl
theorem q867 : (Cond.instanceMethod ({ cls := "LateChecksModel", name := "sweep", desc := "()I" } : Jvm.MethodName)) ∈ gW := gW_tbl (i := 867) (by decide +kernel) rfl
theorem q868 : (Cond.selects "LateChecksModel" ({ cls := "LateChecksModel", name := "sweep", desc := "()I" } : Jvm.MethodName) ({ cls := "LateChecksModel", name := "sweep", desc := "()I" } : Jvm.MethodName)) ∈ gW := gW_tbl (i := 868) (by decide +kernel) rfl
theorem q869 : (Cond.code ({ cls := "LateChecksModel", name := "sweep", desc := "()I" } : Jvm.MethodName) prog_6_method_45_code (3 : Nat) (Option.some Jvm.ClassFile.FieldType.int)) ∈ gW := gW_tbl (i := 869) (by decide +kernel) rfl
theorem q870 : (Cond.methodLink "LateChecksLaw" (80 : Nat) ({ cls := "LateChecksModel", name := "send", desc := "(I)I" } : Jvm.MethodName)) ∈ gW := gW_tbl (i := 870) (by decide +kernel) rfl
theorem q871 : (Cond.methodLink "LateChecksLaw" (84 : Nat) ({ cls := "LateChecksModel", name := "vote", desc := "(I)I" } : Jvm.MethodName)) ∈ gW := gW_tbl (i := 871) (by decide +kernel) rfl
theorem q872 : (Cond.instanceMethod ({ cls := "LateChecksModel", name := "vote", desc := "(I)I" } : Jvm.MethodName)) ∈ gW := gW_tbl (i := 872) (by decide +kernel) rfl
theorem q873 : (Cond.selects "LateChecksModel" ({ cls := "LateChecksModel", name := "vote", desc := "(I)I" } : Jvm.MethodName) ({ cls := "LateChecksModel", name := "vote", desc := "(I)I" } : Jvm.MethodName)) ∈ gW := gW_tbl (i := 873) (by decide +kernel) rfl
theorem q874 : (Cond.code ({ cls := "LateChecksModel", name := "vote", desc := "(I)I" } : Jvm.MethodName) prog_6_method_48_code (6 : Nat) (Option.some Jvm.ClassFile.FieldType.int)) ∈ gW := gW_tbl (i := 874) (by decide +kernel) rfl
theorem q875 : (Cond.methodLink "LateChecksModel" (238 : Nat) ({ cls := "LateChecksModel", name := "firstSent", desc := "(I)I" } : Jvm.MethodName)) ∈ gW := gW_tbl (i := 875) (by decide +kernel) rfl
theorem q877 : (Cond.instanceMethod ({ cls := "LateChecksModel", name := "firstSent", desc := "(I)I" } : Jvm.MethodName)) ∈ gW := gW_tbl (i := 877) (by decide +kernel) rfl
theorem q878 : (Cond.code ({ cls := "LateChecksModel", name := "firstSent", desc := "(I)I" } : Jvm.MethodName) prog_6_method_47_code (5 : Nat) (Option.some Jvm.ClassFile.FieldType.int)) ∈ gW := gW_tbl (i := 878) (by decide +kernel) rfl
theorem q879 : (Cond.methodLink "LateChecksLaw" (88 : Nat) ({ cls := "LateChecksModel", name := "settle", desc := "()I" } : Jvm.MethodName)) ∈ gW := gW_tbl (i := 879) (by decide +kernel) rfl
theorem q880 : (Cond.instanceMethod ({ cls := "LateChecksModel", name := "settle", desc := "()I" } : Jvm.MethodName)) ∈ gW := gW_tbl (i := 880) (by decide +kernel) rfl
theorem q881 : (Cond.selects "LateChecksModel" ({ cls := "LateChecksModel", name := "settle", desc := "()I" } : Jvm.MethodName) ({ cls := "LateChecksModel", name := "settle", desc := "()I" } : Jvm.MethodName)) ∈ gW := gW_tbl (i := 881) (by decide +kernel) rfl
theorem q882 : (Cond.code ({ cls := "LateChecksModel", name := "settle", desc := "()I" } : Jvm.MethodName) prog_6_method_49_code (3 : Nat) (Option.some Jvm.ClassFile.FieldType.int)) ∈ gW := gW_tbl (i := 882) (by decide +kernel) rfl
theorem q883 : (Cond.methodLink "LateChecksLaw" (92 : Nat) ({ cls := "LateChecksModel", name := "deal", desc := "(II)I" } : Jvm.MethodName)) ∈ gW := gW_tbl (i := 883) (by decide +kernel) rfl
theorem q884 : (Cond.instanceMethod ({ cls := "LateChecksModel", name := "deal", desc := "(II)I" } : Jvm.MethodName)) ∈ gW := gW_tbl (i := 884) (by decide +kernel) rfl
theorem q885 : (Cond.selects "LateChecksModel" ({ cls := "LateChecksModel", name := "deal", desc := "(II)I" } : Jvm.MethodName) ({ cls := "LateChecksModel", name := "deal", desc := "(II)I" } : Jvm.MethodName)) ∈ gW := gW_tbl (i := 885) (by decide +kernel) rfl
theorem q886 : (Cond.code ({ cls := "LateChecksModel", name := "deal", desc := "(II)I" } : Jvm.MethodName) prog_6_method_50_code (3 : Nat) (Option.some Jvm.ClassFile.FieldType.int)) ∈ gW := gW_tbl (i := 886) (by decide +kernel) rfl
theorem q887 : (Cond.methodLink "LateChecksLaw" (96 : Nat) ({ cls := "LateChecksModel", name := "noted", desc := "(III)I" } : Jvm.MethodName)) ∈ gW := gW_tbl (i := 887) (by decide +kernel) rfl
theorem q888 : (Cond.instanceMethod ({ cls := "LateChecksModel", name := "noted", desc := "(III)I" } : Jvm.MethodName)) ∈ gW := gW_tbl (i := 888) (by decide +kernel) rfl
theorem q889 : (Cond.selects "LateChecksModel" ({ cls := "LateChecksModel", name := "noted", desc := "(III)I" } : Jvm.MethodName) ({ cls := "LateChecksModel", name := "noted", desc := "(III)I" } : Jvm.MethodName)) ∈ gW := gW_tbl (i := 889) (by decide +kernel) rfl
theorem q890 : (Cond.code ({ cls := "LateChecksModel", name := "noted", desc := "(III)I" } : Jvm.MethodName) prog_6_method_51_code (5 : Nat) (Option.some Jvm.ClassFile.FieldType.int)) ∈ gW := gW_tbl (i := 890) (by decide +kernel) rfl
theorem q891 : (Cond.methodLink "LateChecksLaw" (100 : Nat) ({ cls := "LateChecksModel", name := "sent", desc := "(I)I" } : Jvm.MethodName)) ∈ gW := gW_tbl (i := 891) (by decide +kernel) rfl
theorem q892 : (Cond.instanceMethod ({ cls := "LateChecksModel", name := "sent", desc := "(I)I" } : Jvm.MethodName)) ∈ gW := gW_tbl (i := 892) (by decide +kernel) rfl
theorem q893 : (Cond.selects "LateChecksModel" ({ cls := "LateChecksModel", name := "sent", desc := "(I)I" } : Jvm.MethodName) ({ cls := "LateChecksModel", name := "sent", desc := "(I)I" } : Jvm.MethodName)) ∈ gW := gW_tbl (i := 893) (by decide +kernel) rfl
theorem q894 : (Cond.code ({ cls := "LateChecksModel", name := "sent", desc := "(I)I" } : Jvm.MethodName) prog_6_method_52_code (5 : Nat) (Option.some Jvm.ClassFile.FieldType.int)) ∈ gW := gW_tbl (i := 894) (by decide +kernel) rfl
theorem q895 : (Cond.methodLink "LateChecksLaw" (104 : Nat) ({ cls := "LateChecksModel", name := "ballot", desc := "(II)I" } : Jvm.MethodName)) ∈ gW := gW_tbl (i := 895) (by decide +kernel) rfl
theorem q896 : (Cond.instanceMethod ({ cls := "LateChecksModel", name := "ballot", desc := "(II)I" } : Jvm.MethodName)) ∈ gW := gW_tbl (i := 896) (by decide +kernel) rfl
theorem q897 : (Cond.selects "LateChecksModel" ({ cls := "LateChecksModel", name := "ballot", desc := "(II)I" } : Jvm.MethodName) ({ cls := "LateChecksModel", name := "ballot", desc := "(II)I" } : Jvm.MethodName)) ∈ gW := gW_tbl (i := 897) (by decide +kernel) rfl
theorem q898 : (Cond.code ({ cls := "LateChecksModel", name := "ballot", desc := "(II)I" } : Jvm.MethodName) prog_6_method_53_code (3 : Nat) (Option.some Jvm.ClassFile.FieldType.int)) ∈ gW := gW_tbl (i := 898) (by decide +kernel) rfl
theorem q899 : (Cond.methodLink "LateChecksLaw" (108 : Nat) ({ cls := "LateChecksModel", name := "log", desc := "(II)I" } : Jvm.MethodName)) ∈ gW := gW_tbl (i := 899) (by decide +kernel) rfl
theorem q900 : (Cond.instanceMethod ({ cls := "LateChecksModel", name := "log", desc := "(II)I" } : Jvm.MethodName)) ∈ gW := gW_tbl (i := 900) (by decide +kernel) rfl
theorem q901 : (Cond.selects "LateChecksModel" ({ cls := "LateChecksModel", name := "log", desc := "(II)I" } : Jvm.MethodName) ({ cls := "LateChecksModel", name := "log", desc := "(II)I" } : Jvm.MethodName)) ∈ gW := gW_tbl (i := 901) (by decide +kernel) rfl
theorem q902 : (Cond.code ({ cls := "LateChecksModel", name := "log", desc := "(II)I" } : Jvm.MethodName) prog_6_method_55_code (3 : Nat) (Option.some Jvm.ClassFile.FieldType.int)) ∈ gW := gW_tbl (i := 902) (by decide +kernel) rfl
theorem q903 : (Cond.methodLink "LateChecksModel" (241 : Nat) ({ cls := "LateChecksModel", name := "isCommit", desc := "(I)Z" } : Jvm.MethodName)) ∈ gW := gW_tbl (i := 903) (by decide +kernel) rfl
theorem q905 : (Cond.instanceMethod ({ cls := "LateChecksModel", name := "isCommit", desc := "(I)Z" } : Jvm.MethodName)) ∈ gW := gW_tbl (i := 905) (by decide +kernel) rfl
theorem q906 : (Cond.code ({ cls := "LateChecksModel", name := "isCommit", desc := "(I)Z" } : Jvm.MethodName) prog_6_method_54_code (2 : Nat) (Option.some Jvm.ClassFile.FieldType.boolean)) ∈ gW := gW_tbl (i := 906) (by decide +kernel) rfl
theorem q907 : (Cond.methodLink "LateChecksLaw" (112 : Nat) ({ cls := "LateChecksModel", name := "logged", desc := "(III)I" } : Jvm.MethodName)) ∈ gW := gW_tbl (i := 907) (by decide +kernel) rfl
theorem q908 : (Cond.instanceMethod ({ cls := "LateChecksModel", name := "logged", desc := "(III)I" } : Jvm.MethodName)) ∈ gW := gW_tbl (i := 908) (by decide +kernel) rfl
theorem q909 : (Cond.selects "LateChecksModel" ({ cls := "LateChecksModel", name := "logged", desc := "(III)I" } : Jvm.MethodName) ({ cls := "LateChecksModel", name := "logged", desc := "(III)I" } : Jvm.MethodName)) ∈ gW := gW_tbl (i := 909) (by decide +kernel) rfl
theorem q910 : (Cond.code ({ cls := "LateChecksModel", name := "logged", desc := "(III)I" } : Jvm.MethodName) prog_6_method_56_code (5 : Nat) (Option.some Jvm.ClassFile.FieldType.int)) ∈ gW := gW_tbl (i := 910) (by decide +kernel) rfl
theorem q911 : (Cond.methodLink "LateChecksLaw" (116 : Nat) ({ cls := "LateChecksModel", name := "behind", desc := "(II)I" } : Jvm.MethodName)) ∈ gW := gW_tbl (i := 911) (by decide +kernel) rfl
theorem q912 : (Cond.instanceMethod ({ cls := "LateChecksModel", name := "behind", desc := "(II)I" } : Jvm.MethodName)) ∈ gW := gW_tbl (i := 912) (by decide +kernel) rfl
theorem q913 : (Cond.selects "LateChecksModel" ({ cls := "LateChecksModel", name := "behind", desc := "(II)I" } : Jvm.MethodName) ({ cls := "LateChecksModel", name := "behind", desc := "(II)I" } : Jvm.MethodName)) ∈ gW := gW_tbl (i := 913) (by decide +kernel) rfl
theorem q914 : (Cond.code ({ cls := "LateChecksModel", name := "behind", desc := "(II)I" } : Jvm.MethodName) prog_6_method_57_code (7 : Nat) (Option.some Jvm.ClassFile.FieldType.int)) ∈ gW := gW_tbl (i := 914) (by decide +kernel) rfl
theorem q915 : (Cond.methodLink "LateChecksLaw" (120 : Nat) ({ cls := "LateChecksModel", name := "count", desc := "(I)I" } : Jvm.MethodName)) ∈ gW := gW_tbl (i := 915) (by decide +kernel) rfl
theorem q916 : (Cond.instanceMethod ({ cls := "LateChecksModel", name := "count", desc := "(I)I" } : Jvm.MethodName)) ∈ gW := gW_tbl (i := 916) (by decide +kernel) rfl
theorem q917 : (Cond.selects "LateChecksModel" ({ cls := "LateChecksModel", name := "count", desc := "(I)I" } : Jvm.MethodName) ({ cls := "LateChecksModel", name := "count", desc := "(I)I" } : Jvm.MethodName)) ∈ gW := gW_tbl (i := 917) (by decide +kernel) rfl
theorem q918 : (Cond.code ({ cls := "LateChecksModel", name := "count", desc := "(I)I" } : Jvm.MethodName) prog_6_method_59_code (2 : Nat) (Option.some Jvm.ClassFile.FieldType.int)) ∈ gW := gW_tbl (i := 918) (by decide +kernel) rfl
theorem q919 : (Cond.methodLink "LateChecksModel" (244 : Nat) ({ cls := "LateChecksModel", name := "allValues", desc := "()I" } : Jvm.MethodName)) ∈ gW := gW_tbl (i := 919) (by decide +kernel) rfl
theorem q921 : (Cond.instanceMethod ({ cls := "LateChecksModel", name := "allValues", desc := "()I" } : Jvm.MethodName)) ∈ gW := gW_tbl (i := 921) (by decide +kernel) rfl
theorem q922 : (Cond.code ({ cls := "LateChecksModel", name := "allValues", desc := "()I" } : Jvm.MethodName) prog_6_method_58_code (3 : Nat) (Option.some Jvm.ClassFile.FieldType.int)) ∈ gW := gW_tbl (i := 922) (by decide +kernel) rfl
theorem q923 : (Cond.fieldLink "java/lang/String" (9 : Nat) "java/lang/String" "value" "[B") ∈ gW := gW_tbl (i := 923) (by decide +kernel) rfl
theorem q924 : (Cond.fieldLink "java/lang/String" (15 : Nat) "java/lang/String" "coder" "B") ∈ gW := gW_tbl (i := 924) (by decide +kernel) rfl
theorem qs0 : (Cond.selects "LateChecks" (⟨"LateChecks", "startAnew", "()V"⟩ : MethodName) (⟨"LateChecks", "startAnew", "()V"⟩ : MethodName)) ∈ gW := gW_sel (i := 0) (by decide +kernel) rfl
theorem qs1 : (Cond.selects "LateChecks" (⟨"LateChecks", "doClause", "(I)V"⟩ : MethodName) (⟨"LateChecks", "doClause", "(I)V"⟩ : MethodName)) ∈ gW := gW_sel (i := 1) (by decide +kernel) rfl
theorem qs2 : (Cond.selects "LateChecks" (⟨"LateChecks", "howMany", "(I)I"⟩ : MethodName) (⟨"LateChecks", "howMany", "(I)I"⟩ : MethodName)) ∈ gW := gW_sel (i := 2) (by decide +kernel) rfl
theorem qs3 : (Cond.selects "LateChecks" (⟨"LateChecks", "nextEntry", "()LLateChecks$Entry;"⟩ : MethodName) (⟨"LateChecks", "nextEntry", "()LLateChecks$Entry;"⟩ : MethodName)) ∈ gW := gW_sel (i := 3) (by decide +kernel) rfl
theorem qs4 : (Cond.selects "LateChecks" (⟨"LateChecks", "change", "(II)V"⟩ : MethodName) (⟨"LateChecks", "change", "(II)V"⟩ : MethodName)) ∈ gW := gW_sel (i := 4) (by decide +kernel) rfl
theorem qs5 : (Cond.selects "LateChecks" (⟨"LateChecks", "foretell", "(LLateChecks$Deal;I)I"⟩ : MethodName) (⟨"LateChecks", "foretell", "(LLateChecks$Deal;I)I"⟩ : MethodName)) ∈ gW := gW_sel (i := 5) (by decide +kernel) rfl
theorem qs6 : (Cond.selects "LateChecks" (⟨"LateChecks", "staleOf", "(LLateChecks$Deal;)I"⟩ : MethodName) (⟨"LateChecks", "staleOf", "(LLateChecks$Deal;)I"⟩ : MethodName)) ∈ gW := gW_sel (i := 6) (by decide +kernel) rfl
theorem qs7 : (Cond.selects "LateChecks" (⟨"LateChecks", "crossedOf", "(LLateChecks$Deal;)I"⟩ : MethodName) (⟨"LateChecks", "crossedOf", "(LLateChecks$Deal;)I"⟩ : MethodName)) ∈ gW := gW_sel (i := 7) (by decide +kernel) rfl
theorem qs8 : (Cond.selects "LateChecks" (⟨"LateChecks", "mustYield", "(LLateChecks$Deal;)Z"⟩ : MethodName) (⟨"LateChecks", "mustYield", "(LLateChecks$Deal;)Z"⟩ : MethodName)) ∈ gW := gW_sel (i := 8) (by decide +kernel) rfl
theorem qs9 : (Cond.selects "LateChecks" (⟨"LateChecks", "rivalsOf", "(LLateChecks$Deal;)I"⟩ : MethodName) (⟨"LateChecks", "rivalsOf", "(LLateChecks$Deal;)I"⟩ : MethodName)) ∈ gW := gW_sel (i := 9) (by decide +kernel) rfl
theorem qs10 : (Cond.selects "LateChecks" (⟨"LateChecks", "goesFirst", "(LLateChecks$Deal;LLateChecks$Deal;)Z"⟩ : MethodName) (⟨"LateChecks", "goesFirst", "(LLateChecks$Deal;LLateChecks$Deal;)Z"⟩ : MethodName)) ∈ gW := gW_sel (i := 10) (by decide +kernel) rfl
theorem qs11 : (Cond.selects "LateChecks" (⟨"LateChecks", "isStubborn", "(LLateChecks$Deal;)Z"⟩ : MethodName) (⟨"LateChecks", "isStubborn", "(LLateChecks$Deal;)Z"⟩ : MethodName)) ∈ gW := gW_sel (i := 11) (by decide +kernel) rfl
theorem qs12 : (Cond.selects "LateChecks" (⟨"LateChecks", "lose", "(LLateChecks$Deal;I)I"⟩ : MethodName) (⟨"LateChecks", "lose", "(LLateChecks$Deal;I)I"⟩ : MethodName)) ∈ gW := gW_sel (i := 12) (by decide +kernel) rfl
theorem qs13 : (Cond.selects "LateChecks" (⟨"LateChecks", "doomAll", "(I)V"⟩ : MethodName) (⟨"LateChecks", "doomAll", "(I)V"⟩ : MethodName)) ∈ gW := gW_sel (i := 13) (by decide +kernel) rfl
theorem qs14 : (Cond.selects "LateChecks" (⟨"LateChecks", "keep", "(LLateChecks$Deal;I)I"⟩ : MethodName) (⟨"LateChecks", "keep", "(LLateChecks$Deal;I)I"⟩ : MethodName)) ∈ gW := gW_sel (i := 14) (by decide +kernel) rfl
theorem qs15 : (Cond.selects "LateChecks" (⟨"LateChecks", "firstWithoutVote", "(I)I"⟩ : MethodName) (⟨"LateChecks", "firstWithoutVote", "(I)I"⟩ : MethodName)) ∈ gW := gW_sel (i := 15) (by decide +kernel) rfl
theorem qs16 : (Cond.selects "LateChecks" (⟨"LateChecks", "sentAt", "(I)I"⟩ : MethodName) (⟨"LateChecks", "sentAt", "(I)I"⟩ : MethodName)) ∈ gW := gW_sel (i := 16) (by decide +kernel) rfl
theorem qs17 : (Cond.selects "LateChecks" (⟨"LateChecks", "sentBefore", "(LLateChecks$Deal;)I"⟩ : MethodName) (⟨"LateChecks", "sentBefore", "(LLateChecks$Deal;)I"⟩ : MethodName)) ∈ gW := gW_sel (i := 17) (by decide +kernel) rfl
theorem qs18 : (Cond.selects "LateChecks" (⟨"LateChecks", "opinion", "(ILLateChecks$Deal;)I"⟩ : MethodName) (⟨"LateChecks", "opinion", "(ILLateChecks$Deal;)I"⟩ : MethodName)) ∈ gW := gW_sel (i := 18) (by decide +kernel) rfl
theorem qs19 : (Cond.selects "LateChecks" (⟨"LateChecks", "promisedBefore", "(ILLateChecks$Deal;)I"⟩ : MethodName) (⟨"LateChecks", "promisedBefore", "(ILLateChecks$Deal;)I"⟩ : MethodName)) ∈ gW := gW_sel (i := 19) (by decide +kernel) rfl
theorem qs20 : (Cond.selects "LateChecks" (⟨"LateChecks", "entryOf", "(I)LLateChecks$Entry;"⟩ : MethodName) (⟨"LateChecks", "entryOf", "(I)LLateChecks$Entry;"⟩ : MethodName)) ∈ gW := gW_sel (i := 20) (by decide +kernel) rfl
theorem qs21 : (Cond.selects "LateChecks" (⟨"LateChecks", "allValues", "()I"⟩ : MethodName) (⟨"LateChecks", "allValues", "()I"⟩ : MethodName)) ∈ gW := gW_sel (i := 21) (by decide +kernel) rfl
theorem qs22 : (Cond.selects "LateChecksModel" (⟨"LateChecksModel", "readsAll", "(Z)Z"⟩ : MethodName) (⟨"LateChecksModel", "readsAll", "(Z)Z"⟩ : MethodName)) ∈ gW := gW_sel (i := 22) (by decide +kernel) rfl
theorem qs23 : (Cond.selects "LateChecksModel" (⟨"LateChecksModel", "next", "()V"⟩ : MethodName) (⟨"LateChecksModel", "next", "()V"⟩ : MethodName)) ∈ gW := gW_sel (i := 23) (by decide +kernel) rfl
theorem qs24 : (Cond.selects "LateChecksModel" (⟨"LateChecksModel", "readsClause", "()Z"⟩ : MethodName) (⟨"LateChecksModel", "readsClause", "()Z"⟩ : MethodName)) ∈ gW := gW_sel (i := 24) (by decide +kernel) rfl
theorem qs25 : (Cond.selects "LateChecksModel" (⟨"LateChecksModel", "wordHere", "()I"⟩ : MethodName) (⟨"LateChecksModel", "wordHere", "()I"⟩ : MethodName)) ∈ gW := gW_sel (i := 25) (by decide +kernel) rfl
theorem qs26 : (Cond.selects "LateChecksModel" (⟨"LateChecksModel", "readsRest", "(I)Z"⟩ : MethodName) (⟨"LateChecksModel", "readsRest", "(I)Z"⟩ : MethodName)) ∈ gW := gW_sel (i := 26) (by decide +kernel) rfl
theorem qs27 : (Cond.selects "LateChecksModel" (⟨"LateChecksModel", "reads", "(III)Z"⟩ : MethodName) (⟨"LateChecksModel", "reads", "(III)Z"⟩ : MethodName)) ∈ gW := gW_sel (i := 27) (by decide +kernel) rfl
theorem qs28 : (Cond.selects "LateChecksModel" (⟨"LateChecksModel", "does", "(I)V"⟩ : MethodName) (⟨"LateChecksModel", "does", "(I)V"⟩ : MethodName)) ∈ gW := gW_sel (i := 28) (by decide +kernel) rfl
theorem qs29 : (Cond.selects "LateChecksModel" (⟨"LateChecksModel", "allAnew", "()V"⟩ : MethodName) (⟨"LateChecksModel", "allAnew", "()V"⟩ : MethodName)) ∈ gW := gW_sel (i := 29) (by decide +kernel) rfl
theorem qs30 : (Cond.selects "LateChecksModel" (⟨"LateChecksModel", "frees", "(IZ)V"⟩ : MethodName) (⟨"LateChecksModel", "frees", "(IZ)V"⟩ : MethodName)) ∈ gW := gW_sel (i := 30) (by decide +kernel) rfl
theorem qs31 : (Cond.selects "LateChecksModel" (⟨"LateChecksModel", "inState", "(I)I"⟩ : MethodName) (⟨"LateChecksModel", "inState", "(I)I"⟩ : MethodName)) ∈ gW := gW_sel (i := 31) (by decide +kernel) rfl
theorem qs32 : (Cond.selects "LateChecksModel" (⟨"LateChecksModel", "logs", "(II)I"⟩ : MethodName) (⟨"LateChecksModel", "logs", "(II)I"⟩ : MethodName)) ∈ gW := gW_sel (i := 32) (by decide +kernel) rfl
theorem qs33 : (Cond.selects "LateChecksModel" (⟨"LateChecksModel", "puts", "(II)V"⟩ : MethodName) (⟨"LateChecksModel", "puts", "(II)V"⟩ : MethodName)) ∈ gW := gW_sel (i := 33) (by decide +kernel) rfl
theorem qs34 : (Cond.selects "LateChecksModel" (⟨"LateChecksModel", "opens", "(I)V"⟩ : MethodName) (⟨"LateChecksModel", "opens", "(I)V"⟩ : MethodName)) ∈ gW := gW_sel (i := 34) (by decide +kernel) rfl
theorem qs35 : (Cond.selects "LateChecksModel" (⟨"LateChecksModel", "refused", "(II)I"⟩ : MethodName) (⟨"LateChecksModel", "refused", "(II)I"⟩ : MethodName)) ∈ gW := gW_sel (i := 35) (by decide +kernel) rfl
theorem qs36 : (Cond.selects "LateChecksModel" (⟨"LateChecksModel", "checks", "(II)I"⟩ : MethodName) (⟨"LateChecksModel", "checks", "(II)I"⟩ : MethodName)) ∈ gW := gW_sel (i := 36) (by decide +kernel) rfl
theorem qs37 : (Cond.selects "LateChecksModel" (⟨"LateChecksModel", "stale", "(I)I"⟩ : MethodName) (⟨"LateChecksModel", "stale", "(I)I"⟩ : MethodName)) ∈ gW := gW_sel (i := 37) (by decide +kernel) rfl
theorem qs38 : (Cond.selects "LateChecksModel" (⟨"LateChecksModel", "crossed", "(I)I"⟩ : MethodName) (⟨"LateChecksModel", "crossed", "(I)I"⟩ : MethodName)) ∈ gW := gW_sel (i := 38) (by decide +kernel) rfl
theorem qs39 : (Cond.selects "LateChecksModel" (⟨"LateChecksModel", "rivals", "(I)I"⟩ : MethodName) (⟨"LateChecksModel", "rivals", "(I)I"⟩ : MethodName)) ∈ gW := gW_sel (i := 39) (by decide +kernel) rfl
theorem qs40 : (Cond.selects "LateChecksModel" (⟨"LateChecksModel", "isWeaker", "(II)Z"⟩ : MethodName) (⟨"LateChecksModel", "isWeaker", "(II)Z"⟩ : MethodName)) ∈ gW := gW_sel (i := 40) (by decide +kernel) rfl
theorem qs41 : (Cond.selects "LateChecksModel" (⟨"LateChecksModel", "isStubborn", "(I)Z"⟩ : MethodName) (⟨"LateChecksModel", "isStubborn", "(I)Z"⟩ : MethodName)) ∈ gW := gW_sel (i := 41) (by decide +kernel) rfl
theorem qs42 : (Cond.selects "LateChecksModel" (⟨"LateChecksModel", "fails", "(II)V"⟩ : MethodName) (⟨"LateChecksModel", "fails", "(II)V"⟩ : MethodName)) ∈ gW := gW_sel (i := 42) (by decide +kernel) rfl
theorem qs43 : (Cond.selects "LateChecksModel" (⟨"LateChecksModel", "commits", "(II)I"⟩ : MethodName) (⟨"LateChecksModel", "commits", "(II)I"⟩ : MethodName)) ∈ gW := gW_sel (i := 43) (by decide +kernel) rfl
theorem qs44 : (Cond.selects "LateChecksModel" (⟨"LateChecksModel", "firstSent", "(I)I"⟩ : MethodName) (⟨"LateChecksModel", "firstSent", "(I)I"⟩ : MethodName)) ∈ gW := gW_sel (i := 44) (by decide +kernel) rfl
theorem qs45 : (Cond.selects "LateChecksModel" (⟨"LateChecksModel", "isCommit", "(I)Z"⟩ : MethodName) (⟨"LateChecksModel", "isCommit", "(I)Z"⟩ : MethodName)) ∈ gW := gW_sel (i := 45) (by decide +kernel) rfl
theorem qs46 : (Cond.selects "LateChecksModel" (⟨"LateChecksModel", "allValues", "()I"⟩ : MethodName) (⟨"LateChecksModel", "allValues", "()I"⟩ : MethodName)) ∈ gW := gW_sel (i := 46) (by decide +kernel) rfl
theorem lyX0 : wsX00 = [92, 94, 96, 98, 100, 102, 104, 106, 108, 110, 112, 114, 116].filterMap (fun i => tables_1[i]?) := by decide +kernel
theorem inX0 : ∀ w ∈ wsX00, w ∈ gW := by
  have hg : wsX00.all goodWord = true := by decide +kernel
  intro w h
  refine List.mem_filter.mpr ⟨?_, List.all_eq_true.mp hg w h⟩
  rw [lyX0] at h
  obtain ⟨i, -, hi⟩ := List.mem_filterMap.mp h
  exact List.mem_append_right _ (List.mem_of_getElem? hi)
theorem lyX1 : wsX10 = [346, 348, 350, 352, 354, 356, 358, 360].filterMap (fun i => tables_1[i]?) := by decide +kernel
theorem inX1 : ∀ w ∈ wsX10, w ∈ gW := by
  have hg : wsX10.all goodWord = true := by decide +kernel
  intro w h
  refine List.mem_filter.mpr ⟨?_, List.all_eq_true.mp hg w h⟩
  rw [lyX1] at h
  obtain ⟨i, -, hi⟩ := List.mem_filterMap.mp h
  exact List.mem_append_right _ (List.mem_of_getElem? hi)
theorem lyX2 : wsX20 = [34, 36, 38, 40, 42, 44, 46].filterMap (fun i => tables_1[i]?) := by decide +kernel
theorem inX2 : ∀ w ∈ wsX20, w ∈ gW := by
  have hg : wsX20.all goodWord = true := by decide +kernel
  intro w h
  refine List.mem_filter.mpr ⟨?_, List.all_eq_true.mp hg w h⟩
  rw [lyX2] at h
  obtain ⟨i, -, hi⟩ := List.mem_filterMap.mp h
  exact List.mem_append_right _ (List.mem_of_getElem? hi)
theorem lyX3 : wsX30 = [139, 141, 143, 145, 147, 149, 151, 153, 155, 157, 159, 161].filterMap (fun i => tables_1[i]?) := by decide +kernel
theorem inX3 : ∀ w ∈ wsX30, w ∈ gW := by
  have hg : wsX30.all goodWord = true := by decide +kernel
  intro w h
  refine List.mem_filter.mpr ⟨?_, List.all_eq_true.mp hg w h⟩
  rw [lyX3] at h
  obtain ⟨i, -, hi⟩ := List.mem_filterMap.mp h
  exact List.mem_append_right _ (List.mem_of_getElem? hi)
theorem lyX4 : wsX40 = [620, 622, 624, 626, 628, 630, 632, 634, 636, 638, 640, 642, 644, 646, 648, 650, 652, 654, 656, 658, 660, 662, 664, 666, 668, 670, 672, 674, 676, 678].filterMap (fun i => tables_1[i]?) := by decide +kernel
theorem inX4 : ∀ w ∈ wsX40, w ∈ gW := by
  have hg : wsX40.all goodWord = true := by decide +kernel
  intro w h
  refine List.mem_filter.mpr ⟨?_, List.all_eq_true.mp hg w h⟩
  rw [lyX4] at h
  obtain ⟨i, -, hi⟩ := List.mem_filterMap.mp h
  exact List.mem_append_right _ (List.mem_of_getElem? hi)
