-- ===== PART A: goes FIRST, ahead of the names: the tables' words, and 'selects' of the private methods out of them =====
/-- a private method of a class that the tables say can be made, by its rows of tables_1 -/
def lw_okq (q : MethodName × Nat) : Prop := (q.1.cls ≠ "java/lang/invoke/MethodHandle" ∧ q.1.cls ≠ "java/lang/invoke/VarHandle") ∧ Cond.instantiable q.1.cls q.2 ∈ tables_1 ∧ Cond.privateMethod q.1 ∈ tables_1 ∧ Cond.instanceMethod q.1 ∈ tables_1
theorem lw_p0 : lw_okq (⟨"ScandalCounter", "found", "(I)I"⟩, 7) := ⟨⟨by decide +kernel, by decide +kernel⟩, List.mem_of_getElem? (i := 15) (by decide +kernel), List.mem_of_getElem? (i := 171) (by decide +kernel), List.mem_of_getElem? (i := 172) (by decide +kernel)⟩
theorem lw_p1 : lw_okq (⟨"ScandalCounter$Person", "mostAsked", "(I)I"⟩, 5) := ⟨⟨by decide +kernel, by decide +kernel⟩, List.mem_of_getElem? (i := 30) (by decide +kernel), List.mem_of_getElem? (i := 207) (by decide +kernel), List.mem_of_getElem? (i := 208) (by decide +kernel)⟩
theorem lw_p2 : lw_okq (⟨"ScandalCounter$County", "tellSaying", "()V"⟩, 8) := ⟨⟨by decide +kernel, by decide +kernel⟩, List.mem_of_getElem? (i := 23) (by decide +kernel), List.mem_of_getElem? (i := 277) (by decide +kernel), List.mem_of_getElem? (i := 278) (by decide +kernel)⟩
theorem lw_p3 : lw_okq (⟨"ScandalCounter$County", "serve", "(I)V"⟩, 8) := ⟨⟨by decide +kernel, by decide +kernel⟩, List.mem_of_getElem? (i := 23) (by decide +kernel), List.mem_of_getElem? (i := 297) (by decide +kernel), List.mem_of_getElem? (i := 298) (by decide +kernel)⟩
theorem lw_p4 : lw_okq (⟨"ScandalCounter", "daysToBorne", "(III)I"⟩, 7) := ⟨⟨by decide +kernel, by decide +kernel⟩, List.mem_of_getElem? (i := 15) (by decide +kernel), List.mem_of_getElem? (i := 357) (by decide +kernel), List.mem_of_getElem? (i := 358) (by decide +kernel)⟩
theorem lw_p5 : lw_okq (⟨"ScandalCounter", "borneWithout", "(III)I"⟩, 7) := ⟨⟨by decide +kernel, by decide +kernel⟩, List.mem_of_getElem? (i := 15) (by decide +kernel), List.mem_of_getElem? (i := 409) (by decide +kernel), List.mem_of_getElem? (i := 410) (by decide +kernel)⟩
theorem lw_p6 : lw_okq (⟨"ScandalCounter", "hintsWithSwapped", "(III)I"⟩, 7) := ⟨⟨by decide +kernel, by decide +kernel⟩, List.mem_of_getElem? (i := 15) (by decide +kernel), List.mem_of_getElem? (i := 418) (by decide +kernel), List.mem_of_getElem? (i := 419) (by decide +kernel)⟩
theorem lw_p7 : lw_okq (⟨"ScandalCounter", "sheetAndPersonFinding", "(II)I"⟩, 7) := ⟨⟨by decide +kernel, by decide +kernel⟩, List.mem_of_getElem? (i := 15) (by decide +kernel), List.mem_of_getElem? (i := 426) (by decide +kernel), List.mem_of_getElem? (i := 427) (by decide +kernel)⟩
theorem lw_p8 : lw_okq (⟨"ScandalCounter", "sheetFinding", "(I)I"⟩, 7) := ⟨⟨by decide +kernel, by decide +kernel⟩, List.mem_of_getElem? (i := 15) (by decide +kernel), List.mem_of_getElem? (i := 430) (by decide +kernel), List.mem_of_getElem? (i := 431) (by decide +kernel)⟩
theorem lw_p9 : lw_okq (⟨"ScandalCounter", "isWeightAsTold", "(LScandalCounter$Sheet;II)Z"⟩, 7) := ⟨⟨by decide +kernel, by decide +kernel⟩, List.mem_of_getElem? (i := 15) (by decide +kernel), List.mem_of_getElem? (i := 439) (by decide +kernel), List.mem_of_getElem? (i := 440) (by decide +kernel)⟩
theorem lw_p10 : lw_okq (⟨"ScandalCounter", "isTrialAsTold", "(LScandalCounter$Sheet;II)Z"⟩, 7) := ⟨⟨by decide +kernel, by decide +kernel⟩, List.mem_of_getElem? (i := 15) (by decide +kernel), List.mem_of_getElem? (i := 443) (by decide +kernel), List.mem_of_getElem? (i := 444) (by decide +kernel)⟩
theorem lw_p11 : lw_okq (⟨"ScandalCounter$Reader", "step", "()V"⟩, 6) := ⟨⟨by decide +kernel, by decide +kernel⟩, List.mem_of_getElem? (i := 95) (by decide +kernel), List.mem_of_getElem? (i := 499) (by decide +kernel), List.mem_of_getElem? (i := 500) (by decide +kernel)⟩
theorem lw_p12 : lw_okq (⟨"ScandalCounter$Reader", "readItem", "(LScandalCounter$County;)Z"⟩, 6) := ⟨⟨by decide +kernel, by decide +kernel⟩, List.mem_of_getElem? (i := 95) (by decide +kernel), List.mem_of_getElem? (i := 510) (by decide +kernel), List.mem_of_getElem? (i := 511) (by decide +kernel)⟩
theorem lw_p13 : lw_okq (⟨"ScandalCounter$Reader", "isWord", "(Ljava/lang/String;)Z"⟩, 6) := ⟨⟨by decide +kernel, by decide +kernel⟩, List.mem_of_getElem? (i := 95) (by decide +kernel), List.mem_of_getElem? (i := 515) (by decide +kernel), List.mem_of_getElem? (i := 516) (by decide +kernel)⟩
theorem lw_p14 : lw_okq (⟨"ScandalCounter$Reader", "readSaying", "(LScandalCounter$County;)Z"⟩, 6) := ⟨⟨by decide +kernel, by decide +kernel⟩, List.mem_of_getElem? (i := 95) (by decide +kernel), List.mem_of_getElem? (i := 567) (by decide +kernel), List.mem_of_getElem? (i := 568) (by decide +kernel)⟩
theorem lw_p15 : lw_okq (⟨"ScandalCounter$Reader", "readNumber", "(I)I"⟩, 6) := ⟨⟨by decide +kernel, by decide +kernel⟩, List.mem_of_getElem? (i := 95) (by decide +kernel), List.mem_of_getElem? (i := 571) (by decide +kernel), List.mem_of_getElem? (i := 572) (by decide +kernel)⟩
def lw_privs_1 : List (MethodName × Nat) := [(⟨"ScandalCounter", "found", "(I)I"⟩, 7), (⟨"ScandalCounter$Person", "mostAsked", "(I)I"⟩, 5), (⟨"ScandalCounter$County", "tellSaying", "()V"⟩, 8), (⟨"ScandalCounter$County", "serve", "(I)V"⟩, 8), (⟨"ScandalCounter", "daysToBorne", "(III)I"⟩, 7), (⟨"ScandalCounter", "borneWithout", "(III)I"⟩, 7), (⟨"ScandalCounter", "hintsWithSwapped", "(III)I"⟩, 7), (⟨"ScandalCounter", "sheetAndPersonFinding", "(II)I"⟩, 7), (⟨"ScandalCounter", "sheetFinding", "(I)I"⟩, 7), (⟨"ScandalCounter", "isWeightAsTold", "(LScandalCounter$Sheet;II)Z"⟩, 7), (⟨"ScandalCounter", "isTrialAsTold", "(LScandalCounter$Sheet;II)Z"⟩, 7), (⟨"ScandalCounter$Reader", "step", "()V"⟩, 6), (⟨"ScandalCounter$Reader", "readItem", "(LScandalCounter$County;)Z"⟩, 6), (⟨"ScandalCounter$Reader", "isWord", "(Ljava/lang/String;)Z"⟩, 6), (⟨"ScandalCounter$Reader", "readSaying", "(LScandalCounter$County;)Z"⟩, 6), (⟨"ScandalCounter$Reader", "readNumber", "(I)I"⟩, 6)]
theorem lw_r1 : ∀ q ∈ lw_privs_1, lw_okq q := List.forall_mem_cons.mpr ⟨lw_p0, List.forall_mem_cons.mpr ⟨lw_p1, List.forall_mem_cons.mpr ⟨lw_p2, List.forall_mem_cons.mpr ⟨lw_p3, List.forall_mem_cons.mpr ⟨lw_p4, List.forall_mem_cons.mpr ⟨lw_p5, List.forall_mem_cons.mpr ⟨lw_p6, List.forall_mem_cons.mpr ⟨lw_p7, List.forall_mem_cons.mpr ⟨lw_p8, List.forall_mem_cons.mpr ⟨lw_p9, List.forall_mem_cons.mpr ⟨lw_p10, List.forall_mem_cons.mpr ⟨lw_p11, List.forall_mem_cons.mpr ⟨lw_p12, List.forall_mem_cons.mpr ⟨lw_p13, List.forall_mem_cons.mpr ⟨lw_p14, List.forall_mem_cons.mpr ⟨lw_p15, fun _ h => absurd h List.not_mem_nil⟩⟩⟩⟩⟩⟩⟩⟩⟩⟩⟩⟩⟩⟩⟩⟩
theorem lw_p16 : lw_okq (⟨"ScandalCounter$Reader", "readHints", "(LScandalCounter$County;)Z"⟩, 6) := ⟨⟨by decide +kernel, by decide +kernel⟩, List.mem_of_getElem? (i := 95) (by decide +kernel), List.mem_of_getElem? (i := 577) (by decide +kernel), List.mem_of_getElem? (i := 578) (by decide +kernel)⟩
theorem lw_p17 : lw_okq (⟨"ScandalCounter$Reader", "readPerson", "(LScandalCounter$County;)Z"⟩, 6) := ⟨⟨by decide +kernel, by decide +kernel⟩, List.mem_of_getElem? (i := 95) (by decide +kernel), List.mem_of_getElem? (i := 581) (by decide +kernel), List.mem_of_getElem? (i := 582) (by decide +kernel)⟩
theorem lw_p18 : lw_okq (⟨"ScandalCounter$Reader", "kindOfWord", "()I"⟩, 6) := ⟨⟨by decide +kernel, by decide +kernel⟩, List.mem_of_getElem? (i := 95) (by decide +kernel), List.mem_of_getElem? (i := 585) (by decide +kernel), List.mem_of_getElem? (i := 586) (by decide +kernel)⟩
theorem lw_p19 : lw_okq (⟨"ScandalCounter$Reader", "readAttribute", "(Ljava/lang/String;LScandalCounter$Person;I)Z"⟩, 6) := ⟨⟨by decide +kernel, by decide +kernel⟩, List.mem_of_getElem? (i := 95) (by decide +kernel), List.mem_of_getElem? (i := 599) (by decide +kernel), List.mem_of_getElem? (i := 600) (by decide +kernel)⟩
theorem lw_p20 : lw_okq (⟨"ScandalCounterModel", "becomes", "(II)I"⟩, 18) := ⟨⟨by decide +kernel, by decide +kernel⟩, List.mem_of_getElem? (i := 685) (by decide +kernel), List.mem_of_getElem? (i := 758) (by decide +kernel), List.mem_of_getElem? (i := 759) (by decide +kernel)⟩
theorem lw_p21 : lw_okq (⟨"ScandalCounterModel", "finds", "(I)I"⟩, 18) := ⟨⟨by decide +kernel, by decide +kernel⟩, List.mem_of_getElem? (i := 685) (by decide +kernel), List.mem_of_getElem? (i := 763) (by decide +kernel), List.mem_of_getElem? (i := 764) (by decide +kernel)⟩
theorem lw_p22 : lw_okq (⟨"ScandalCounterModel", "comes", "(II)V"⟩, 18) := ⟨⟨by decide +kernel, by decide +kernel⟩, List.mem_of_getElem? (i := 685) (by decide +kernel), List.mem_of_getElem? (i := 778) (by decide +kernel), List.mem_of_getElem? (i := 779) (by decide +kernel)⟩
theorem lw_p23 : lw_okq (⟨"ScandalCounterModel", "isOne", "(I)Z"⟩, 18) := ⟨⟨by decide +kernel, by decide +kernel⟩, List.mem_of_getElem? (i := 685) (by decide +kernel), List.mem_of_getElem? (i := 789) (by decide +kernel), List.mem_of_getElem? (i := 790) (by decide +kernel)⟩
theorem lw_p24 : lw_okq (⟨"ScandalCounterModel", "asks", "(I)I"⟩, 18) := ⟨⟨by decide +kernel, by decide +kernel⟩, List.mem_of_getElem? (i := 685) (by decide +kernel), List.mem_of_getElem? (i := 793) (by decide +kernel), List.mem_of_getElem? (i := 794) (by decide +kernel)⟩
theorem lw_p25 : lw_okq (⟨"ScandalCounterModel", "asksMost", "(I)I"⟩, 18) := ⟨⟨by decide +kernel, by decide +kernel⟩, List.mem_of_getElem? (i := 685) (by decide +kernel), List.mem_of_getElem? (i := 797) (by decide +kernel), List.mem_of_getElem? (i := 798) (by decide +kernel)⟩
theorem lw_p26 : lw_okq (⟨"ScandalCounterModel", "its", "(II)I"⟩, 18) := ⟨⟨by decide +kernel, by decide +kernel⟩, List.mem_of_getElem? (i := 685) (by decide +kernel), List.mem_of_getElem? (i := 801) (by decide +kernel), List.mem_of_getElem? (i := 802) (by decide +kernel)⟩
theorem lw_p27 : lw_okq (⟨"ScandalCounterModel", "room", "(I)I"⟩, 18) := ⟨⟨by decide +kernel, by decide +kernel⟩, List.mem_of_getElem? (i := 685) (by decide +kernel), List.mem_of_getElem? (i := 808) (by decide +kernel), List.mem_of_getElem? (i := 809) (by decide +kernel)⟩
theorem lw_p28 : lw_okq (⟨"ScandalCounterModel", "forgets", "(I)I"⟩, 18) := ⟨⟨by decide +kernel, by decide +kernel⟩, List.mem_of_getElem? (i := 685) (by decide +kernel), List.mem_of_getElem? (i := 815) (by decide +kernel), List.mem_of_getElem? (i := 816) (by decide +kernel)⟩
theorem lw_p29 : lw_okq (⟨"ScandalCounterModel", "feelsOf", "(II)I"⟩, 18) := ⟨⟨by decide +kernel, by decide +kernel⟩, List.mem_of_getElem? (i := 685) (by decide +kernel), List.mem_of_getElem? (i := 831) (by decide +kernel), List.mem_of_getElem? (i := 832) (by decide +kernel)⟩
theorem lw_p30 : lw_okq (⟨"ScandalCounterModel", "bearerOf", "(II)I"⟩, 18) := ⟨⟨by decide +kernel, by decide +kernel⟩, List.mem_of_getElem? (i := 685) (by decide +kernel), List.mem_of_getElem? (i := 839) (by decide +kernel), List.mem_of_getElem? (i := 840) (by decide +kernel)⟩
theorem lw_p31 : lw_okq (⟨"ScandalCounterModel", "roomiestBut", "(I)I"⟩, 18) := ⟨⟨by decide +kernel, by decide +kernel⟩, List.mem_of_getElem? (i := 685) (by decide +kernel), List.mem_of_getElem? (i := 843) (by decide +kernel), List.mem_of_getElem? (i := 844) (by decide +kernel)⟩
def lw_privs_2 : List (MethodName × Nat) := [(⟨"ScandalCounter$Reader", "readHints", "(LScandalCounter$County;)Z"⟩, 6), (⟨"ScandalCounter$Reader", "readPerson", "(LScandalCounter$County;)Z"⟩, 6), (⟨"ScandalCounter$Reader", "kindOfWord", "()I"⟩, 6), (⟨"ScandalCounter$Reader", "readAttribute", "(Ljava/lang/String;LScandalCounter$Person;I)Z"⟩, 6), (⟨"ScandalCounterModel", "becomes", "(II)I"⟩, 18), (⟨"ScandalCounterModel", "finds", "(I)I"⟩, 18), (⟨"ScandalCounterModel", "comes", "(II)V"⟩, 18), (⟨"ScandalCounterModel", "isOne", "(I)Z"⟩, 18), (⟨"ScandalCounterModel", "asks", "(I)I"⟩, 18), (⟨"ScandalCounterModel", "asksMost", "(I)I"⟩, 18), (⟨"ScandalCounterModel", "its", "(II)I"⟩, 18), (⟨"ScandalCounterModel", "room", "(I)I"⟩, 18), (⟨"ScandalCounterModel", "forgets", "(I)I"⟩, 18), (⟨"ScandalCounterModel", "feelsOf", "(II)I"⟩, 18), (⟨"ScandalCounterModel", "bearerOf", "(II)I"⟩, 18), (⟨"ScandalCounterModel", "roomiestBut", "(I)I"⟩, 18)]
theorem lw_r2 : ∀ q ∈ lw_privs_2, lw_okq q := List.forall_mem_cons.mpr ⟨lw_p16, List.forall_mem_cons.mpr ⟨lw_p17, List.forall_mem_cons.mpr ⟨lw_p18, List.forall_mem_cons.mpr ⟨lw_p19, List.forall_mem_cons.mpr ⟨lw_p20, List.forall_mem_cons.mpr ⟨lw_p21, List.forall_mem_cons.mpr ⟨lw_p22, List.forall_mem_cons.mpr ⟨lw_p23, List.forall_mem_cons.mpr ⟨lw_p24, List.forall_mem_cons.mpr ⟨lw_p25, List.forall_mem_cons.mpr ⟨lw_p26, List.forall_mem_cons.mpr ⟨lw_p27, List.forall_mem_cons.mpr ⟨lw_p28, List.forall_mem_cons.mpr ⟨lw_p29, List.forall_mem_cons.mpr ⟨lw_p30, List.forall_mem_cons.mpr ⟨lw_p31, fun _ h => absurd h List.not_mem_nil⟩⟩⟩⟩⟩⟩⟩⟩⟩⟩⟩⟩⟩⟩⟩⟩
theorem lw_p32 : lw_okq (⟨"ScandalCounterModel", "orNone", "(I)I"⟩, 18) := ⟨⟨by decide +kernel, by decide +kernel⟩, List.mem_of_getElem? (i := 685) (by decide +kernel), List.mem_of_getElem? (i := 847) (by decide +kernel), List.mem_of_getElem? (i := 848) (by decide +kernel)⟩
theorem lw_p33 : lw_okq (⟨"ScandalCounterModel", "goes", "(I)V"⟩, 18) := ⟨⟨by decide +kernel, by decide +kernel⟩, List.mem_of_getElem? (i := 685) (by decide +kernel), List.mem_of_getElem? (i := 859) (by decide +kernel), List.mem_of_getElem? (i := 860) (by decide +kernel)⟩
theorem lw_p34 : lw_okq (⟨"ScandalCounterModel", "dayBut", "(I)V"⟩, 18) := ⟨⟨by decide +kernel, by decide +kernel⟩, List.mem_of_getElem? (i := 685) (by decide +kernel), List.mem_of_getElem? (i := 863) (by decide +kernel), List.mem_of_getElem? (i := 864) (by decide +kernel)⟩
theorem lw_p35 : lw_okq (⟨"ScandalCounterModel", "bears", "(III)V"⟩, 18) := ⟨⟨by decide +kernel, by decide +kernel⟩, List.mem_of_getElem? (i := 685) (by decide +kernel), List.mem_of_getElem? (i := 867) (by decide +kernel), List.mem_of_getElem? (i := 868) (by decide +kernel)⟩
theorem lw_p36 : lw_okq (⟨"ScandalCounterModel", "asksNow", "(I)V"⟩, 18) := ⟨⟨by decide +kernel, by decide +kernel⟩, List.mem_of_getElem? (i := 685) (by decide +kernel), List.mem_of_getElem? (i := 871) (by decide +kernel), List.mem_of_getElem? (i := 872) (by decide +kernel)⟩
theorem lw_p37 : lw_okq (⟨"ScandalCounterModel", "sumOf", "(I)I"⟩, 18) := ⟨⟨by decide +kernel, by decide +kernel⟩, List.mem_of_getElem? (i := 685) (by decide +kernel), List.mem_of_getElem? (i := 875) (by decide +kernel), List.mem_of_getElem? (i := 876) (by decide +kernel)⟩
theorem lw_p38 : lw_okq (⟨"ScandalCounterModel", "owedOnes", "()I"⟩, 18) := ⟨⟨by decide +kernel, by decide +kernel⟩, List.mem_of_getElem? (i := 685) (by decide +kernel), List.mem_of_getElem? (i := 883) (by decide +kernel), List.mem_of_getElem? (i := 884) (by decide +kernel)⟩
theorem lw_p39 : lw_okq (⟨"ScandalCounterModel", "thenAt", "(II)I"⟩, 18) := ⟨⟨by decide +kernel, by decide +kernel⟩, List.mem_of_getElem? (i := 685) (by decide +kernel), List.mem_of_getElem? (i := 892) (by decide +kernel), List.mem_of_getElem? (i := 893) (by decide +kernel)⟩
theorem lw_p40 : lw_okq (⟨"ScandalCounterModel", "nextPlace", "()I"⟩, 18) := ⟨⟨by decide +kernel, by decide +kernel⟩, List.mem_of_getElem? (i := 685) (by decide +kernel), List.mem_of_getElem? (i := 921) (by decide +kernel), List.mem_of_getElem? (i := 922) (by decide +kernel)⟩
theorem lw_p41 : lw_okq (⟨"ScandalCounterModel", "isEvenOnce", "(I)Z"⟩, 18) := ⟨⟨by decide +kernel, by decide +kernel⟩, List.mem_of_getElem? (i := 685) (by decide +kernel), List.mem_of_getElem? (i := 929) (by decide +kernel), List.mem_of_getElem? (i := 930) (by decide +kernel)⟩
theorem lw_p42 : lw_okq (⟨"ScandalCounterModel", "isAsked", "(II)Z"⟩, 18) := ⟨⟨by decide +kernel, by decide +kernel⟩, List.mem_of_getElem? (i := 685) (by decide +kernel), List.mem_of_getElem? (i := 937) (by decide +kernel), List.mem_of_getElem? (i := 938) (by decide +kernel)⟩
theorem lw_p43 : lw_okq (⟨"ScandalCounterModel", "wantsFor", "(II)I"⟩, 18) := ⟨⟨by decide +kernel, by decide +kernel⟩, List.mem_of_getElem? (i := 685) (by decide +kernel), List.mem_of_getElem? (i := 960) (by decide +kernel), List.mem_of_getElem? (i := 961) (by decide +kernel)⟩
theorem lw_p44 : lw_okq (⟨"ScandalCounterModel", "wants", "(I)I"⟩, 18) := ⟨⟨by decide +kernel, by decide +kernel⟩, List.mem_of_getElem? (i := 685) (by decide +kernel), List.mem_of_getElem? (i := 964) (by decide +kernel), List.mem_of_getElem? (i := 965) (by decide +kernel)⟩
theorem lw_p45 : lw_okq (⟨"ScandalCounterModel", "findsFits", "(II)V"⟩, 18) := ⟨⟨by decide +kernel, by decide +kernel⟩, List.mem_of_getElem? (i := 685) (by decide +kernel), List.mem_of_getElem? (i := 972) (by decide +kernel), List.mem_of_getElem? (i := 973) (by decide +kernel)⟩
theorem lw_p46 : lw_okq (⟨"ScandalCounterModel", "isTold", "(II)Z"⟩, 18) := ⟨⟨by decide +kernel, by decide +kernel⟩, List.mem_of_getElem? (i := 685) (by decide +kernel), List.mem_of_getElem? (i := 976) (by decide +kernel), List.mem_of_getElem? (i := 977) (by decide +kernel)⟩
theorem lw_p47 : lw_okq (⟨"ScandalCounterModel", "draw", "()I"⟩, 18) := ⟨⟨by decide +kernel, by decide +kernel⟩, List.mem_of_getElem? (i := 685) (by decide +kernel), List.mem_of_getElem? (i := 992) (by decide +kernel), List.mem_of_getElem? (i := 993) (by decide +kernel)⟩
def lw_privs_3 : List (MethodName × Nat) := [(⟨"ScandalCounterModel", "orNone", "(I)I"⟩, 18), (⟨"ScandalCounterModel", "goes", "(I)V"⟩, 18), (⟨"ScandalCounterModel", "dayBut", "(I)V"⟩, 18), (⟨"ScandalCounterModel", "bears", "(III)V"⟩, 18), (⟨"ScandalCounterModel", "asksNow", "(I)V"⟩, 18), (⟨"ScandalCounterModel", "sumOf", "(I)I"⟩, 18), (⟨"ScandalCounterModel", "owedOnes", "()I"⟩, 18), (⟨"ScandalCounterModel", "thenAt", "(II)I"⟩, 18), (⟨"ScandalCounterModel", "nextPlace", "()I"⟩, 18), (⟨"ScandalCounterModel", "isEvenOnce", "(I)Z"⟩, 18), (⟨"ScandalCounterModel", "isAsked", "(II)Z"⟩, 18), (⟨"ScandalCounterModel", "wantsFor", "(II)I"⟩, 18), (⟨"ScandalCounterModel", "wants", "(I)I"⟩, 18), (⟨"ScandalCounterModel", "findsFits", "(II)V"⟩, 18), (⟨"ScandalCounterModel", "isTold", "(II)Z"⟩, 18), (⟨"ScandalCounterModel", "draw", "()I"⟩, 18)]
theorem lw_r3 : ∀ q ∈ lw_privs_3, lw_okq q := List.forall_mem_cons.mpr ⟨lw_p32, List.forall_mem_cons.mpr ⟨lw_p33, List.forall_mem_cons.mpr ⟨lw_p34, List.forall_mem_cons.mpr ⟨lw_p35, List.forall_mem_cons.mpr ⟨lw_p36, List.forall_mem_cons.mpr ⟨lw_p37, List.forall_mem_cons.mpr ⟨lw_p38, List.forall_mem_cons.mpr ⟨lw_p39, List.forall_mem_cons.mpr ⟨lw_p40, List.forall_mem_cons.mpr ⟨lw_p41, List.forall_mem_cons.mpr ⟨lw_p42, List.forall_mem_cons.mpr ⟨lw_p43, List.forall_mem_cons.mpr ⟨lw_p44, List.forall_mem_cons.mpr ⟨lw_p45, List.forall_mem_cons.mpr ⟨lw_p46, List.forall_mem_cons.mpr ⟨lw_p47, fun _ h => absurd h List.not_mem_nil⟩⟩⟩⟩⟩⟩⟩⟩⟩⟩⟩⟩⟩⟩⟩⟩
theorem lw_p48 : lw_okq (⟨"ScandalCounterModel", "nextToken", "()V"⟩, 18) := ⟨⟨by decide +kernel, by decide +kernel⟩, List.mem_of_getElem? (i := 685) (by decide +kernel), List.mem_of_getElem? (i := 1019) (by decide +kernel), List.mem_of_getElem? (i := 1020) (by decide +kernel)⟩
theorem lw_p49 : lw_okq (⟨"ScandalCounterModel", "byteAt", "(I)I"⟩, 18) := ⟨⟨by decide +kernel, by decide +kernel⟩, List.mem_of_getElem? (i := 685) (by decide +kernel), List.mem_of_getElem? (i := 1023) (by decide +kernel), List.mem_of_getElem? (i := 1024) (by decide +kernel)⟩
theorem lw_p50 : lw_okq (⟨"ScandalCounterModel", "itemHere", "()Z"⟩, 18) := ⟨⟨by decide +kernel, by decide +kernel⟩, List.mem_of_getElem? (i := 685) (by decide +kernel), List.mem_of_getElem? (i := 1033) (by decide +kernel), List.mem_of_getElem? (i := 1034) (by decide +kernel)⟩
theorem lw_p51 : lw_okq (⟨"ScandalCounterModel", "kindHere", "()I"⟩, 18) := ⟨⟨by decide +kernel, by decide +kernel⟩, List.mem_of_getElem? (i := 685) (by decide +kernel), List.mem_of_getElem? (i := 1037) (by decide +kernel), List.mem_of_getElem? (i := 1038) (by decide +kernel)⟩
theorem lw_p52 : lw_okq (⟨"ScandalCounterModel", "isSix", "(IIIIII)Z"⟩, 18) := ⟨⟨by decide +kernel, by decide +kernel⟩, List.mem_of_getElem? (i := 685) (by decide +kernel), List.mem_of_getElem? (i := 1041) (by decide +kernel), List.mem_of_getElem? (i := 1042) (by decide +kernel)⟩
theorem lw_p53 : lw_okq (⟨"ScandalCounterModel", "isWord", "(I)Z"⟩, 18) := ⟨⟨by decide +kernel, by decide +kernel⟩, List.mem_of_getElem? (i := 685) (by decide +kernel), List.mem_of_getElem? (i := 1045) (by decide +kernel), List.mem_of_getElem? (i := 1046) (by decide +kernel)⟩
theorem lw_p54 : lw_okq (⟨"ScandalCounterModel", "has3", "(IIII)Z"⟩, 18) := ⟨⟨by decide +kernel, by decide +kernel⟩, List.mem_of_getElem? (i := 685) (by decide +kernel), List.mem_of_getElem? (i := 1049) (by decide +kernel), List.mem_of_getElem? (i := 1050) (by decide +kernel)⟩
theorem lw_p55 : lw_okq (⟨"ScandalCounterModel", "isFour", "(IIII)Z"⟩, 18) := ⟨⟨by decide +kernel, by decide +kernel⟩, List.mem_of_getElem? (i := 685) (by decide +kernel), List.mem_of_getElem? (i := 1053) (by decide +kernel), List.mem_of_getElem? (i := 1054) (by decide +kernel)⟩
theorem lw_p56 : lw_okq (⟨"ScandalCounterModel", "isFive", "(IIIII)Z"⟩, 18) := ⟨⟨by decide +kernel, by decide +kernel⟩, List.mem_of_getElem? (i := 685) (by decide +kernel), List.mem_of_getElem? (i := 1057) (by decide +kernel), List.mem_of_getElem? (i := 1058) (by decide +kernel)⟩
theorem lw_p57 : lw_okq (⟨"ScandalCounterModel", "personHere", "(I)Z"⟩, 18) := ⟨⟨by decide +kernel, by decide +kernel⟩, List.mem_of_getElem? (i := 685) (by decide +kernel), List.mem_of_getElem? (i := 1061) (by decide +kernel), List.mem_of_getElem? (i := 1062) (by decide +kernel)⟩
theorem lw_p58 : lw_okq (⟨"ScandalCounterModel", "fails", "()Z"⟩, 18) := ⟨⟨by decide +kernel, by decide +kernel⟩, List.mem_of_getElem? (i := 685) (by decide +kernel), List.mem_of_getElem? (i := 1065) (by decide +kernel), List.mem_of_getElem? (i := 1066) (by decide +kernel)⟩
theorem lw_p59 : lw_okq (⟨"ScandalCounterModel", "perhaps", "(ZII)Z"⟩, 18) := ⟨⟨by decide +kernel, by decide +kernel⟩, List.mem_of_getElem? (i := 685) (by decide +kernel), List.mem_of_getElem? (i := 1069) (by decide +kernel), List.mem_of_getElem? (i := 1070) (by decide +kernel)⟩
theorem lw_p60 : lw_okq (⟨"ScandalCounterModel", "isNumber", "(II)Z"⟩, 18) := ⟨⟨by decide +kernel, by decide +kernel⟩, List.mem_of_getElem? (i := 685) (by decide +kernel), List.mem_of_getElem? (i := 1073) (by decide +kernel), List.mem_of_getElem? (i := 1074) (by decide +kernel)⟩
theorem lw_p61 : lw_okq (⟨"ScandalCounterModel", "saidHere", "()Z"⟩, 18) := ⟨⟨by decide +kernel, by decide +kernel⟩, List.mem_of_getElem? (i := 685) (by decide +kernel), List.mem_of_getElem? (i := 1077) (by decide +kernel), List.mem_of_getElem? (i := 1078) (by decide +kernel)⟩
def lw_privs_4 : List (MethodName × Nat) := [(⟨"ScandalCounterModel", "nextToken", "()V"⟩, 18), (⟨"ScandalCounterModel", "byteAt", "(I)I"⟩, 18), (⟨"ScandalCounterModel", "itemHere", "()Z"⟩, 18), (⟨"ScandalCounterModel", "kindHere", "()I"⟩, 18), (⟨"ScandalCounterModel", "isSix", "(IIIIII)Z"⟩, 18), (⟨"ScandalCounterModel", "isWord", "(I)Z"⟩, 18), (⟨"ScandalCounterModel", "has3", "(IIII)Z"⟩, 18), (⟨"ScandalCounterModel", "isFour", "(IIII)Z"⟩, 18), (⟨"ScandalCounterModel", "isFive", "(IIIII)Z"⟩, 18), (⟨"ScandalCounterModel", "personHere", "(I)Z"⟩, 18), (⟨"ScandalCounterModel", "fails", "()Z"⟩, 18), (⟨"ScandalCounterModel", "perhaps", "(ZII)Z"⟩, 18), (⟨"ScandalCounterModel", "isNumber", "(II)Z"⟩, 18), (⟨"ScandalCounterModel", "saidHere", "()Z"⟩, 18)]
theorem lw_r4 : ∀ q ∈ lw_privs_4, lw_okq q := List.forall_mem_cons.mpr ⟨lw_p48, List.forall_mem_cons.mpr ⟨lw_p49, List.forall_mem_cons.mpr ⟨lw_p50, List.forall_mem_cons.mpr ⟨lw_p51, List.forall_mem_cons.mpr ⟨lw_p52, List.forall_mem_cons.mpr ⟨lw_p53, List.forall_mem_cons.mpr ⟨lw_p54, List.forall_mem_cons.mpr ⟨lw_p55, List.forall_mem_cons.mpr ⟨lw_p56, List.forall_mem_cons.mpr ⟨lw_p57, List.forall_mem_cons.mpr ⟨lw_p58, List.forall_mem_cons.mpr ⟨lw_p59, List.forall_mem_cons.mpr ⟨lw_p60, List.forall_mem_cons.mpr ⟨lw_p61, fun _ h => absurd h List.not_mem_nil⟩⟩⟩⟩⟩⟩⟩⟩⟩⟩⟩⟩⟩⟩
def lw_privs : List (MethodName × Nat) := lw_privs_1 ++ (lw_privs_2 ++ (lw_privs_3 ++ (lw_privs_4)))
def lw_tbl : List Cond := k2_sels lw_privs ++ tables_1
theorem lw_privs_ok : ∀ q ∈ lw_privs, lw_okq q := by
  show ∀ q ∈ lw_privs_1 ++ (lw_privs_2 ++ (lw_privs_3 ++ (lw_privs_4))), lw_okq q
  exact List.forall_mem_append.mpr ⟨lw_r1, List.forall_mem_append.mpr ⟨lw_r2, List.forall_mem_append.mpr ⟨lw_r3, lw_r4⟩⟩⟩
def RX0 : String := "ScandalCounter$County"
def TX0 : u_T := fun k => match k with
  | 0 => ("ScandalCounter$County", "list", "[I", true)
  | 1 => ("ScandalCounter$County", "people", "[LScandalCounter$Person;", true)
  | 2 => ("ScandalCounter$County", "spots", "[I", true)
  | 3 => ("ScandalCounter$County", "size", "I", false)
  | 4 => ("ScandalCounter$County", "hints", "I", false)
  | 5 => ("ScandalCounter$County", "day", "I", false)
  | 6 => ("ScandalCounter$County", "z", "I", false)
  | _ => ("ScandalCounter$County", "silent", "I", false)
def tyX0 : Nat → FieldType := fun k => match k with
  | 0 => .array .int
  | 1 => .array (.object "ScandalCounter$Person")
  | 2 => .array .int
  | 3 => .int
  | 4 => .int
  | 5 => .int
  | 6 => .int
  | _ => .int
theorem nmX0 : ∀ a, a < 8 → ∀ b, b < 8 → a ≠ b → (TX0 a).2.1 ≠ (TX0 b).2.1 := by decide +kernel
theorem tyX0_ok : ∀ k, k < 8 → parseFieldDescriptor (TX0 k).2.2.1 = some (tyX0 k) := by decide +kernel
abbrev cX0_init : ByteArray := prog_2_method_1_code
def yX0_init : MethodName := ⟨RX0, "<init>", "()V"⟩
abbrev cX0_become : ByteArray := prog_2_method_2_code
def yX0_become : MethodName := ⟨RX0, "become", "(LScandalCounter$County;)V"⟩
abbrev cX0_has : ByteArray := prog_2_method_3_code
def yX0_has : MethodName := ⟨RX0, "has", "(I)Z"⟩
abbrev cX0_add : ByteArray := prog_2_method_4_code
def yX0_add : MethodName := ⟨RX0, "add", "(II)I"⟩
abbrev cX0_sumOf : ByteArray := prog_2_method_5_code
def yX0_sumOf : MethodName := ⟨RX0, "sumOf", "(I)I"⟩
abbrev cX0_owedSet : ByteArray := prog_2_method_6_code
def yX0_owedSet : MethodName := ⟨RX0, "owedSet", "()I"⟩
abbrev cX0_isEven : ByteArray := prog_2_method_7_code
def yX0_isEven : MethodName := ⟨RX0, "isEven", "()Z"⟩
abbrev cX0_withRoom : ByteArray := prog_2_method_8_code
def yX0_withRoom : MethodName := ⟨RX0, "withRoom", "()I"⟩
abbrev cX0_spotsInUse : ByteArray := prog_2_method_9_code
def yX0_spotsInUse : MethodName := ⟨RX0, "spotsInUse", "()I"⟩
abbrev cX0_roomiestBut : ByteArray := prog_2_method_10_code
def yX0_roomiestBut : MethodName := ⟨RX0, "roomiestBut", "(I)I"⟩
abbrev cX0_bears : ByteArray := prog_2_method_11_code
def yX0_bears : MethodName := ⟨RX0, "bears", "(II)Z"⟩
abbrev cX0_nextWhom : ByteArray := prog_2_method_12_code
def yX0_nextWhom : MethodName := ⟨RX0, "nextWhom", "()I"⟩
abbrev cX0_nextWeight : ByteArray := prog_2_method_13_code
def yX0_nextWeight : MethodName := ⟨RX0, "nextWeight", "()I"⟩
abbrev cX0_setNext : ByteArray := prog_2_method_14_code
def yX0_setNext : MethodName := ⟨RX0, "setNext", "(II)V"⟩
abbrev cX0_draw : ByteArray := prog_2_method_15_code
def yX0_draw : MethodName := ⟨RX0, "draw", "()I"⟩
abbrev cX0_passDays : ByteArray := prog_2_method_16_code
def yX0_passDays : MethodName := ⟨RX0, "passDays", "(I)V"⟩
abbrev cX0_isEvenWithin : ByteArray := prog_2_method_17_code
def yX0_isEvenWithin : MethodName := ⟨RX0, "isEvenWithin", "(I)Z"⟩
abbrev cX0_keepsHints : ByteArray := prog_2_method_18_code
def yX0_keepsHints : MethodName := ⟨RX0, "keepsHints", "(I)Z"⟩
abbrev cX0_passDay : ByteArray := prog_2_method_19_code
def yX0_passDay : MethodName := ⟨RX0, "passDay", "()V"⟩
abbrev cX0_tellSaying : ByteArray := prog_2_method_20_code
def yX0_tellSaying : MethodName := ⟨RX0, "tellSaying", "()V"⟩
abbrev cX0_serve : ByteArray := prog_2_method_21_code
def yX0_serve : MethodName := ⟨RX0, "serve", "(I)V"⟩
def RX1 : String := "ScandalCounter$Person"
def TX1 : u_T := fun k => match k with
  | 0 => ("ScandalCounter$Person", "kind", "I", false)
  | 1 => ("ScandalCounter$Person", "owed", "I", false)
  | 2 => ("ScandalCounter$Person", "build", "I", false)
  | 3 => ("ScandalCounter$Person", "borne", "I", false)
  | _ => ("ScandalCounter$Person", "told", "I", false)
def tyX1 : Nat → FieldType := fun k => match k with
  | 0 => .int
  | 1 => .int
  | 2 => .int
  | 3 => .int
  | _ => .int
theorem nmX1 : ∀ a, a < 5 → ∀ b, b < 5 → a ≠ b → (TX1 a).2.1 ≠ (TX1 b).2.1 := by decide +kernel
theorem tyX1_ok : ∀ k, k < 5 → parseFieldDescriptor (TX1 k).2.2.1 = some (tyX1 k) := by decide +kernel
abbrev cX1_init : ByteArray := prog_3_method_1_code
def yX1_init : MethodName := ⟨RX1, "<init>", "()V"⟩
abbrev cX1_begin : ByteArray := prog_3_method_2_code
def yX1_begin : MethodName := ⟨RX1, "begin", "(II)V"⟩
abbrev cX1_become : ByteArray := prog_3_method_3_code
def yX1_become : MethodName := ⟨RX1, "become", "(LScandalCounter$Person;)V"⟩
abbrev cX1_attribute : ByteArray := prog_3_method_4_code
def yX1_attribute : MethodName := ⟨RX1, "attribute", "(I)I"⟩
abbrev cX1_setAttribute : ByteArray := prog_3_method_5_code
def yX1_setAttribute : MethodName := ⟨RX1, "setAttribute", "(II)V"⟩
abbrev cX1_feeling : ByteArray := prog_3_method_6_code
def yX1_feeling : MethodName := ⟨RX1, "feeling", "(I)I"⟩
abbrev cX1_asking : ByteArray := prog_3_method_7_code
def yX1_asking : MethodName := ⟨RX1, "asking", "(I)I"⟩
abbrev cX1_mostAsked : ByteArray := prog_3_method_8_code
def yX1_mostAsked : MethodName := ⟨RX1, "mostAsked", "(I)I"⟩
abbrev cX1_room : ByteArray := prog_3_method_9_code
def yX1_room : MethodName := ⟨RX1, "room", "()I"⟩
abbrev cX1_forgetting : ByteArray := prog_3_method_10_code
def yX1_forgetting : MethodName := ⟨RX1, "forgetting", "()I"⟩
abbrev cX1_isOfKind : ByteArray := prog_3_method_11_code
def yX1_isOfKind : MethodName := ⟨RX1, "isOfKind", "(I)Z"⟩
abbrev cX1_suffer : ByteArray := prog_3_method_12_code
def yX1_suffer : MethodName := ⟨RX1, "suffer", "(II)V"⟩
abbrev cX1_forget : ByteArray := prog_3_method_13_code
def yX1_forget : MethodName := ⟨RX1, "forget", "()V"⟩
def RX2 : String := "ScandalCounter$Reader"
def TX2 : u_T := fun k => match k with
  | 0 => ("ScandalCounter$Reader", "tape", "[I", true)
  | 1 => ("ScandalCounter$Reader", "size", "I", false)
  | 2 => ("ScandalCounter$Reader", "token", "I", false)
  | 3 => ("ScandalCounter$Reader", "begin", "I", false)
  | 4 => ("ScandalCounter$Reader", "behind", "I", false)
  | _ => ("ScandalCounter$Reader", "value", "I", false)
def tyX2 : Nat → FieldType := fun k => match k with
  | 0 => .array .int
  | 1 => .int
  | 2 => .int
  | 3 => .int
  | 4 => .int
  | _ => .int
theorem nmX2 : ∀ a, a < 6 → ∀ b, b < 6 → a ≠ b → (TX2 a).2.1 ≠ (TX2 b).2.1 := by decide +kernel
theorem tyX2_ok : ∀ k, k < 6 → parseFieldDescriptor (TX2 k).2.2.1 = some (tyX2 k) := by decide +kernel
abbrev cX2_init : ByteArray := prog_4_method_1_code
def yX2_init : MethodName := ⟨RX2, "<init>", "()V"⟩
abbrev cX2_append : ByteArray := prog_4_method_2_code
def yX2_append : MethodName := ⟨RX2, "append", "(I)V"⟩
abbrev cX2_readInto : ByteArray := prog_4_method_3_code
def yX2_readInto : MethodName := ⟨RX2, "readInto", "(LScandalCounter$County;)I"⟩
abbrev cX2_readItem : ByteArray := prog_4_method_4_code
def yX2_readItem : MethodName := ⟨RX2, "readItem", "(LScandalCounter$County;)Z"⟩
abbrev cX2_readSaying : ByteArray := prog_4_method_5_code
def yX2_readSaying : MethodName := ⟨RX2, "readSaying", "(LScandalCounter$County;)Z"⟩
abbrev cX2_readHints : ByteArray := prog_4_method_6_code
def yX2_readHints : MethodName := ⟨RX2, "readHints", "(LScandalCounter$County;)Z"⟩
abbrev cX2_readPerson : ByteArray := prog_4_method_7_code
def yX2_readPerson : MethodName := ⟨RX2, "readPerson", "(LScandalCounter$County;)Z"⟩
abbrev cX2_readAttribute : ByteArray := prog_4_method_8_code
def yX2_readAttribute : MethodName := ⟨RX2, "readAttribute", "(Ljava/lang/String;LScandalCounter$Person;I)Z"⟩
abbrev cX2_readNumber : ByteArray := prog_4_method_9_code
def yX2_readNumber : MethodName := ⟨RX2, "readNumber", "(I)I"⟩
abbrev cX2_kindOfWord : ByteArray := prog_4_method_10_code
def yX2_kindOfWord : MethodName := ⟨RX2, "kindOfWord", "()I"⟩
abbrev cX2_isWord : ByteArray := prog_4_method_11_code
def yX2_isWord : MethodName := ⟨RX2, "isWord", "(Ljava/lang/String;)Z"⟩
abbrev cX2_step : ByteArray := prog_4_method_12_code
def yX2_step : MethodName := ⟨RX2, "step", "()V"⟩
abbrev cX2_isLetter : ByteArray := prog_4_method_13_code
def yX2_isLetter : MethodName := ⟨RX2, "isLetter", "(I)Z"⟩
abbrev cX2_isDigit : ByteArray := prog_4_method_14_code
def yX2_isDigit : MethodName := ⟨RX2, "isDigit", "(I)Z"⟩
def RX3 : String := "ScandalCounter$Sheet"
def TX3 : u_T := fun k => match k with
  | 0 => ("ScandalCounter$Sheet", "numbers", "[I", true)
  | 1 => ("ScandalCounter$Sheet", "bits", "I", false)
  | _ => ("ScandalCounter$Sheet", "size", "I", false)
def tyX3 : Nat → FieldType := fun k => match k with
  | 0 => .array .int
  | 1 => .int
  | _ => .int
theorem nmX3 : ∀ a, a < 3 → ∀ b, b < 3 → a ≠ b → (TX3 a).2.1 ≠ (TX3 b).2.1 := by decide +kernel
theorem tyX3_ok : ∀ k, k < 3 → parseFieldDescriptor (TX3 k).2.2.1 = some (tyX3 k) := by decide +kernel
abbrev cX3_init : ByteArray := prog_5_method_1_code
def yX3_init : MethodName := ⟨RX3, "<init>", "()V"⟩
abbrev cX3_isMissing : ByteArray := prog_5_method_2_code
def yX3_isMissing : MethodName := ⟨RX3, "isMissing", "()Z"⟩
abbrev cX3_lay : ByteArray := prog_5_method_3_code
def yX3_lay : MethodName := ⟨RX3, "lay", "(II)V"⟩
abbrev cX3_put : ByteArray := prog_5_method_4_code
def yX3_put : MethodName := ⟨RX3, "put", "(II)V"⟩
abbrev cX3_hasRange : ByteArray := prog_5_method_5_code
def yX3_hasRange : MethodName := ⟨RX3, "hasRange", "(II)Z"⟩
def RX4 : String := "ScandalCounter"
def TX4 : u_T := fun k => match k with
  | 0 => ("ScandalCounter", "county", "LScandalCounter$County;", true)
  | 1 => ("ScandalCounter", "kept", "LScandalCounter$County;", true)
  | 2 => ("ScandalCounter", "trial", "LScandalCounter$County;", true)
  | 3 => ("ScandalCounter", "reader", "LScandalCounter$Reader;", true)
  | 4 => ("ScandalCounter", "sheets", "[LScandalCounter$Sheet;", true)
  | 5 => ("ScandalCounter", "findings", "[I", true)
  | _ => ("ScandalCounter", "isKept", "Z", false)
def tyX4 : Nat → FieldType := fun k => match k with
  | 0 => .object "ScandalCounter$County"
  | 1 => .object "ScandalCounter$County"
  | 2 => .object "ScandalCounter$County"
  | 3 => .object "ScandalCounter$Reader"
  | 4 => .array (.object "ScandalCounter$Sheet")
  | 5 => .array .int
  | _ => .boolean
theorem nmX4 : ∀ a, a < 7 → ∀ b, b < 7 → a ≠ b → (TX4 a).2.1 ≠ (TX4 b).2.1 := by decide +kernel
theorem tyX4_ok : ∀ k, k < 7 → parseFieldDescriptor (TX4 k).2.2.1 = some (tyX4 k) := by decide +kernel
abbrev cX4_init : ByteArray := prog_1_method_1_code
def yX4_init : MethodName := ⟨RX4, "<init>", "()V"⟩
abbrev cX4_say : ByteArray := prog_1_method_2_code
def yX4_say : MethodName := ⟨RX4, "say", "(III)I"⟩
abbrev cX4_said : ByteArray := prog_1_method_3_code
def yX4_said : MethodName := ⟨RX4, "said", "(I)I"⟩
abbrev cX4_person : ByteArray := prog_1_method_4_code
def yX4_person : MethodName := ⟨RX4, "person", "(II)I"⟩
abbrev cX4_of : ByteArray := prog_1_method_5_code
def yX4_of : MethodName := ⟨RX4, "of", "(II)I"⟩
abbrev cX4_change : ByteArray := prog_1_method_6_code
def yX4_change : MethodName := ⟨RX4, "change", "(III)I"⟩
abbrev cX4_feels : ByteArray := prog_1_method_7_code
def yX4_feels : MethodName := ⟨RX4, "feels", "(II)I"⟩
abbrev cX4_bearer : ByteArray := prog_1_method_8_code
def yX4_bearer : MethodName := ⟨RX4, "bearer", "(II)I"⟩
abbrev cX4_go : ByteArray := prog_1_method_9_code
def yX4_go : MethodName := ⟨RX4, "go", "(I)I"⟩
abbrev cX4_now : ByteArray := prog_1_method_10_code
def yX4_now : MethodName := ⟨RX4, "now", "(I)I"⟩
abbrev cX4_ahead : ByteArray := prog_1_method_11_code
def yX4_ahead : MethodName := ⟨RX4, "ahead", "(III)I"⟩
abbrev cX4_hints : ByteArray := prog_1_method_12_code
def yX4_hints : MethodName := ⟨RX4, "hints", "(I)I"⟩
abbrev cX4_even : ByteArray := prog_1_method_13_code
def yX4_even : MethodName := ⟨RX4, "even", "()I"⟩
abbrev cX4_when : ByteArray := prog_1_method_14_code
def yX4_when : MethodName := ⟨RX4, "when", "(II)I"⟩
abbrev cX4_clean : ByteArray := prog_1_method_15_code
def yX4_clean : MethodName := ⟨RX4, "clean", "(I)I"⟩
abbrev cX4_daysToBorne : ByteArray := prog_1_method_16_code
def yX4_daysToBorne : MethodName := ⟨RX4, "daysToBorne", "(III)I"⟩
abbrev cX4_whom : ByteArray := prog_1_method_17_code
def yX4_whom : MethodName := ⟨RX4, "whom", "(I)I"⟩
abbrev cX4_weightFor : ByteArray := prog_1_method_18_code
def yX4_weightFor : MethodName := ⟨RX4, "weightFor", "(I)I"⟩
abbrev cX4_buildFor : ByteArray := prog_1_method_19_code
def yX4_buildFor : MethodName := ⟨RX4, "buildFor", "(II)I"⟩
abbrev cX4_kindFor : ByteArray := prog_1_method_20_code
def yX4_kindFor : MethodName := ⟨RX4, "kindFor", "(II)I"⟩
abbrev cX4_refuse : ByteArray := prog_1_method_21_code
def yX4_refuse : MethodName := ⟨RX4, "refuse", "(III)I"⟩
abbrev cX4_borneWithout : ByteArray := prog_1_method_22_code
def yX4_borneWithout : MethodName := ⟨RX4, "borneWithout", "(III)I"⟩
abbrev cX4_swapFor : ByteArray := prog_1_method_23_code
def yX4_swapFor : MethodName := ⟨RX4, "swapFor", "(I)I"⟩
abbrev cX4_hintsWithSwapped : ByteArray := prog_1_method_24_code
def yX4_hintsWithSwapped : MethodName := ⟨RX4, "hintsWithSwapped", "(III)I"⟩
abbrev cX4_fits : ByteArray := prog_1_method_25_code
def yX4_fits : MethodName := ⟨RX4, "fits", "(II)I"⟩
abbrev cX4_weighed : ByteArray := prog_1_method_26_code
def yX4_weighed : MethodName := ⟨RX4, "weighed", "(II)I"⟩
abbrev cX4_kinds : ByteArray := prog_1_method_27_code
def yX4_kinds : MethodName := ⟨RX4, "kinds", "(II)I"⟩
abbrev cX4_isWeightAsTold : ByteArray := prog_1_method_28_code
def yX4_isWeightAsTold : MethodName := ⟨RX4, "isWeightAsTold", "(LScandalCounter$Sheet;II)Z"⟩
abbrev cX4_isTrialAsTold : ByteArray := prog_1_method_29_code
def yX4_isTrialAsTold : MethodName := ⟨RX4, "isTrialAsTold", "(LScandalCounter$Sheet;II)Z"⟩
abbrev cX4_sheetAndPersonFinding : ByteArray := prog_1_method_30_code
def yX4_sheetAndPersonFinding : MethodName := ⟨RX4, "sheetAndPersonFinding", "(II)I"⟩
abbrev cX4_gossip : ByteArray := prog_1_method_31_code
def yX4_gossip : MethodName := ⟨RX4, "gossip", "(I)I"⟩
abbrev cX4_odds : ByteArray := prog_1_method_32_code
def yX4_odds : MethodName := ⟨RX4, "odds", "(II)J"⟩
abbrev cX4_seed : ByteArray := prog_1_method_33_code
def yX4_seed : MethodName := ⟨RX4, "seed", "(I)I"⟩
abbrev cX4_feed : ByteArray := prog_1_method_34_code
def yX4_feed : MethodName := ⟨RX4, "feed", "(II)I"⟩
abbrev cX4_wipe : ByteArray := prog_1_method_35_code
def yX4_wipe : MethodName := ⟨RX4, "wipe", "()I"⟩
abbrev cX4_text : ByteArray := prog_1_method_36_code
def yX4_text : MethodName := ⟨RX4, "text", "()I"⟩
abbrev cX4_hold : ByteArray := prog_1_method_37_code
def yX4_hold : MethodName := ⟨RX4, "hold", "(II)I"⟩
abbrev cX4_as : ByteArray := prog_1_method_38_code
def yX4_as : MethodName := ⟨RX4, "as", "(II)I"⟩
abbrev cX4_sheet : ByteArray := prog_1_method_39_code
def yX4_sheet : MethodName := ⟨RX4, "sheet", "(III)I"⟩
abbrev cX4_write : ByteArray := prog_1_method_40_code
def yX4_write : MethodName := ⟨RX4, "write", "(III)I"⟩
abbrev cX4_copy : ByteArray := prog_1_method_41_code
def yX4_copy : MethodName := ⟨RX4, "copy", "(IIIII)I"⟩
abbrev cX4_load : ByteArray := prog_1_method_42_code
def yX4_load : MethodName := ⟨RX4, "load", "(I)I"⟩
abbrev cX4_judge : ByteArray := prog_1_method_43_code
def yX4_judge : MethodName := ⟨RX4, "judge", "(I)I"⟩
abbrev cX4_sheetFinding : ByteArray := prog_1_method_44_code
def yX4_sheetFinding : MethodName := ⟨RX4, "sheetFinding", "(I)I"⟩
abbrev cX4_image : ByteArray := prog_1_method_45_code
def yX4_image : MethodName := ⟨RX4, "image", "()I"⟩
abbrev cX4_undo : ByteArray := prog_1_method_46_code
def yX4_undo : MethodName := ⟨RX4, "undo", "()I"⟩
abbrev cX4_tear : ByteArray := prog_1_method_47_code
def yX4_tear : MethodName := ⟨RX4, "tear", "()I"⟩
abbrev cX4_count : ByteArray := prog_1_method_48_code
def yX4_count : MethodName := ⟨RX4, "count", "(I)I"⟩
abbrev cX4_status : ByteArray := prog_1_method_49_code
def yX4_status : MethodName := ⟨RX4, "status", "(I)I"⟩
abbrev cX4_found : ByteArray := prog_1_method_50_code
def yX4_found : MethodName := ⟨RX4, "found", "(I)I"⟩
abbrev cX4_within : ByteArray := prog_1_method_51_code
def yX4_within : MethodName := ⟨RX4, "within", "(III)Z"⟩
abbrev cX4_isIn : ByteArray := prog_1_method_52_code
def yX4_isIn : MethodName := ⟨RX4, "isIn", "(II)Z"⟩
abbrev cX4_saying : ByteArray := prog_1_method_53_code
def yX4_saying : MethodName := ⟨RX4, "saying", "(II)I"⟩
abbrev cX4_isSaying : ByteArray := prog_1_method_54_code
def yX4_isSaying : MethodName := ⟨RX4, "isSaying", "(I)Z"⟩
abbrev cX4_mostOf : ByteArray := prog_1_method_55_code
def yX4_mostOf : MethodName := ⟨RX4, "mostOf", "(I)I"⟩
abbrev cX4_power : ByteArray := prog_1_method_56_code
def yX4_power : MethodName := ⟨RX4, "power", "(II)J"⟩
def RX5 : String := "ScandalCounterModel"
def TX5 : u_T := fun k => match k with
  | 0 => ("ScandalCounterModel", "s", "[I", true)
  | 1 => ("ScandalCounterModel", "kept", "[I", true)
  | 2 => ("ScandalCounterModel", "before", "[I", true)
  | 3 => ("ScandalCounterModel", "aside", "[I", true)
  | 4 => ("ScandalCounterModel", "isKept", "Z", false)
  | 5 => ("ScandalCounterModel", "findings", "[I", true)
  | 6 => ("ScandalCounterModel", "tape", "[I", true)
  | 7 => ("ScandalCounterModel", "taped", "I", false)
  | 8 => ("ScandalCounterModel", "bitsOf", "[I", true)
  | 9 => ("ScandalCounterModel", "sizes", "[I", true)
  | 10 => ("ScandalCounterModel", "numbers", "[I", true)
  | 11 => ("ScandalCounterModel", "fitting", "I", false)
  | 12 => ("ScandalCounterModel", "leastFit", "I", false)
  | 13 => ("ScandalCounterModel", "token", "I", false)
  | 14 => ("ScandalCounterModel", "from", "I", false)
  | 15 => ("ScandalCounterModel", "to", "I", false)
  | 16 => ("ScandalCounterModel", "value", "I", false)
  | _ => ("ScandalCounterModel", "faultAt", "I", false)
def tyX5 : Nat → FieldType := fun k => match k with
  | 0 => .array .int
  | 1 => .array .int
  | 2 => .array .int
  | 3 => .array .int
  | 4 => .boolean
  | 5 => .array .int
  | 6 => .array .int
  | 7 => .int
  | 8 => .array .int
  | 9 => .array .int
  | 10 => .array .int
  | 11 => .int
  | 12 => .int
  | 13 => .int
  | 14 => .int
  | 15 => .int
  | 16 => .int
  | _ => .int
theorem nmX5 : ∀ a, a < 18 → ∀ b, b < 18 → a ≠ b → (TX5 a).2.1 ≠ (TX5 b).2.1 := by decide +kernel
theorem tyX5_ok : ∀ k, k < 18 → parseFieldDescriptor (TX5 k).2.2.1 = some (tyX5 k) := by decide +kernel
abbrev cX5_init : ByteArray := prog_7_method_1_code
def yX5_init : MethodName := ⟨RX5, "<init>", "()V"⟩
abbrev cX5_isIn : ByteArray := prog_7_method_2_code
def yX5_isIn : MethodName := ⟨RX5, "isIn", "(JJJ)Z"⟩
abbrev cX5_finds : ByteArray := prog_7_method_3_code
def yX5_finds : MethodName := ⟨RX5, "finds", "(I)I"⟩
abbrev cX5_becomes : ByteArray := prog_7_method_4_code
def yX5_becomes : MethodName := ⟨RX5, "becomes", "(II)I"⟩
abbrev cX5_copyRow : ByteArray := prog_7_method_5_code
def yX5_copyRow : MethodName := ⟨RX5, "copyRow", "([I[I)V"⟩
abbrev cX5_isPlace : ByteArray := prog_7_method_6_code
def yX5_isPlace : MethodName := ⟨RX5, "isPlace", "(I)Z"⟩
abbrev cX5_isOne : ByteArray := prog_7_method_7_code
def yX5_isOne : MethodName := ⟨RX5, "isOne", "(I)Z"⟩
abbrev cX5_at : ByteArray := prog_7_method_8_code
def yX5_at : MethodName := ⟨RX5, "at", "(II)I"⟩
abbrev cX5_its : ByteArray := prog_7_method_9_code
def yX5_its : MethodName := ⟨RX5, "its", "(II)I"⟩
abbrev cX5_least : ByteArray := prog_7_method_10_code
def yX5_least : MethodName := ⟨RX5, "least", "(II)I"⟩
abbrev cX5_greatest : ByteArray := prog_7_method_11_code
def yX5_greatest : MethodName := ⟨RX5, "greatest", "(II)I"⟩
abbrev cX5_orNone : ByteArray := prog_7_method_12_code
def yX5_orNone : MethodName := ⟨RX5, "orNone", "(I)I"⟩
abbrev cX5_many : ByteArray := prog_7_method_13_code
def yX5_many : MethodName := ⟨RX5, "many", "(I)I"⟩
abbrev cX5_isSaying : ByteArray := prog_7_method_14_code
def yX5_isSaying : MethodName := ⟨RX5, "isSaying", "(I)Z"⟩
abbrev cX5_say : ByteArray := prog_7_method_15_code
def yX5_say : MethodName := ⟨RX5, "say", "(III)I"⟩
abbrev cX5_said : ByteArray := prog_7_method_16_code
def yX5_said : MethodName := ⟨RX5, "said", "(I)I"⟩
abbrev cX5_comes : ByteArray := prog_7_method_17_code
def yX5_comes : MethodName := ⟨RX5, "comes", "(II)V"⟩
abbrev cX5_person : ByteArray := prog_7_method_18_code
def yX5_person : MethodName := ⟨RX5, "person", "(II)I"⟩
abbrev cX5_feelsOf : ByteArray := prog_7_method_19_code
def yX5_feelsOf : MethodName := ⟨RX5, "feelsOf", "(II)I"⟩
abbrev cX5_asksMost : ByteArray := prog_7_method_20_code
def yX5_asksMost : MethodName := ⟨RX5, "asksMost", "(I)I"⟩
abbrev cX5_asks : ByteArray := prog_7_method_21_code
def yX5_asks : MethodName := ⟨RX5, "asks", "(I)I"⟩
abbrev cX5_room : ByteArray := prog_7_method_22_code
def yX5_room : MethodName := ⟨RX5, "room", "(I)I"⟩
abbrev cX5_forgets : ByteArray := prog_7_method_23_code
def yX5_forgets : MethodName := ⟨RX5, "forgets", "(I)I"⟩
abbrev cX5_of : ByteArray := prog_7_method_24_code
def yX5_of : MethodName := ⟨RX5, "of", "(II)I"⟩
abbrev cX5_greatestOf : ByteArray := prog_7_method_25_code
def yX5_greatestOf : MethodName := ⟨RX5, "greatestOf", "(I)I"⟩
abbrev cX5_change : ByteArray := prog_7_method_26_code
def yX5_change : MethodName := ⟨RX5, "change", "(III)I"⟩
abbrev cX5_feels : ByteArray := prog_7_method_27_code
def yX5_feels : MethodName := ⟨RX5, "feels", "(II)I"⟩
abbrev cX5_roomiestBut : ByteArray := prog_7_method_28_code
def yX5_roomiestBut : MethodName := ⟨RX5, "roomiestBut", "(I)I"⟩
abbrev cX5_bearerOf : ByteArray := prog_7_method_29_code
def yX5_bearerOf : MethodName := ⟨RX5, "bearerOf", "(II)I"⟩
abbrev cX5_bearer : ByteArray := prog_7_method_30_code
def yX5_bearer : MethodName := ⟨RX5, "bearer", "(II)I"⟩
abbrev cX5_bears : ByteArray := prog_7_method_31_code
def yX5_bears : MethodName := ⟨RX5, "bears", "(III)V"⟩
abbrev cX5_asksNow : ByteArray := prog_7_method_32_code
def yX5_asksNow : MethodName := ⟨RX5, "asksNow", "(I)V"⟩
abbrev cX5_dayBut : ByteArray := prog_7_method_33_code
def yX5_dayBut : MethodName := ⟨RX5, "dayBut", "(I)V"⟩
abbrev cX5_goes : ByteArray := prog_7_method_34_code
def yX5_goes : MethodName := ⟨RX5, "goes", "(I)V"⟩
abbrev cX5_sumOf : ByteArray := prog_7_method_35_code
def yX5_sumOf : MethodName := ⟨RX5, "sumOf", "(I)I"⟩
abbrev cX5_go : ByteArray := prog_7_method_36_code
def yX5_go : MethodName := ⟨RX5, "go", "(I)I"⟩
abbrev cX5_owedOnes : ByteArray := prog_7_method_37_code
def yX5_owedOnes : MethodName := ⟨RX5, "owedOnes", "()I"⟩
abbrev cX5_now : ByteArray := prog_7_method_38_code
def yX5_now : MethodName := ⟨RX5, "now", "(I)I"⟩
abbrev cX5_thenAt : ByteArray := prog_7_method_39_code
def yX5_thenAt : MethodName := ⟨RX5, "thenAt", "(II)I"⟩
abbrev cX5_ahead : ByteArray := prog_7_method_40_code
def yX5_ahead : MethodName := ⟨RX5, "ahead", "(III)I"⟩
abbrev cX5_hints : ByteArray := prog_7_method_41_code
def yX5_hints : MethodName := ⟨RX5, "hints", "(I)I"⟩
abbrev cX5_even : ByteArray := prog_7_method_42_code
def yX5_even : MethodName := ⟨RX5, "even", "()I"⟩
abbrev cX5_when : ByteArray := prog_7_method_43_code
def yX5_when : MethodName := ⟨RX5, "when", "(II)I"⟩
abbrev cX5_clean : ByteArray := prog_7_method_44_code
def yX5_clean : MethodName := ⟨RX5, "clean", "(I)I"⟩
abbrev cX5_nextPlace : ByteArray := prog_7_method_45_code
def yX5_nextPlace : MethodName := ⟨RX5, "nextPlace", "()I"⟩
abbrev cX5_whom : ByteArray := prog_7_method_46_code
def yX5_whom : MethodName := ⟨RX5, "whom", "(I)I"⟩
abbrev cX5_isEvenOnce : ByteArray := prog_7_method_47_code
def yX5_isEvenOnce : MethodName := ⟨RX5, "isEvenOnce", "(I)Z"⟩
abbrev cX5_weightFor : ByteArray := prog_7_method_48_code
def yX5_weightFor : MethodName := ⟨RX5, "weightFor", "(I)I"⟩
abbrev cX5_isAsked : ByteArray := prog_7_method_49_code
def yX5_isAsked : MethodName := ⟨RX5, "isAsked", "(II)Z"⟩
abbrev cX5_buildFor : ByteArray := prog_7_method_50_code
def yX5_buildFor : MethodName := ⟨RX5, "buildFor", "(II)I"⟩
abbrev cX5_kindFor : ByteArray := prog_7_method_51_code
def yX5_kindFor : MethodName := ⟨RX5, "kindFor", "(II)I"⟩
abbrev cX5_refuse : ByteArray := prog_7_method_52_code
def yX5_refuse : MethodName := ⟨RX5, "refuse", "(III)I"⟩
abbrev cX5_swapFor : ByteArray := prog_7_method_53_code
def yX5_swapFor : MethodName := ⟨RX5, "swapFor", "(I)I"⟩
abbrev cX5_isTold : ByteArray := prog_7_method_54_code
def yX5_isTold : MethodName := ⟨RX5, "isTold", "(II)Z"⟩
abbrev cX5_findsFits : ByteArray := prog_7_method_55_code
def yX5_findsFits : MethodName := ⟨RX5, "findsFits", "(II)V"⟩
abbrev cX5_wantsFor : ByteArray := prog_7_method_56_code
def yX5_wantsFor : MethodName := ⟨RX5, "wantsFor", "(II)I"⟩
abbrev cX5_fits : ByteArray := prog_7_method_57_code
def yX5_fits : MethodName := ⟨RX5, "fits", "(II)I"⟩
abbrev cX5_weighed : ByteArray := prog_7_method_58_code
def yX5_weighed : MethodName := ⟨RX5, "weighed", "(II)I"⟩
abbrev cX5_kinds : ByteArray := prog_7_method_59_code
def yX5_kinds : MethodName := ⟨RX5, "kinds", "(II)I"⟩
abbrev cX5_draw : ByteArray := prog_7_method_60_code
def yX5_draw : MethodName := ⟨RX5, "draw", "()I"⟩
abbrev cX5_gossip : ByteArray := prog_7_method_61_code
def yX5_gossip : MethodName := ⟨RX5, "gossip", "(I)I"⟩
abbrev cX5_odds : ByteArray := prog_7_method_62_code
def yX5_odds : MethodName := ⟨RX5, "odds", "(II)J"⟩
abbrev cX5_seed : ByteArray := prog_7_method_63_code
def yX5_seed : MethodName := ⟨RX5, "seed", "(I)I"⟩
abbrev cX5_feed : ByteArray := prog_7_method_64_code
def yX5_feed : MethodName := ⟨RX5, "feed", "(II)I"⟩
abbrev cX5_wipe : ByteArray := prog_7_method_65_code
def yX5_wipe : MethodName := ⟨RX5, "wipe", "()I"⟩
abbrev cX5_isLetter : ByteArray := prog_7_method_66_code
def yX5_isLetter : MethodName := ⟨RX5, "isLetter", "(I)Z"⟩
abbrev cX5_isDigit : ByteArray := prog_7_method_67_code
def yX5_isDigit : MethodName := ⟨RX5, "isDigit", "(I)Z"⟩
abbrev cX5_byteAt : ByteArray := prog_7_method_68_code
def yX5_byteAt : MethodName := ⟨RX5, "byteAt", "(I)I"⟩
abbrev cX5_nextToken : ByteArray := prog_7_method_69_code
def yX5_nextToken : MethodName := ⟨RX5, "nextToken", "()V"⟩
abbrev cX5_has3 : ByteArray := prog_7_method_70_code
def yX5_has3 : MethodName := ⟨RX5, "has3", "(IIII)Z"⟩
abbrev cX5_isWord : ByteArray := prog_7_method_71_code
def yX5_isWord : MethodName := ⟨RX5, "isWord", "(I)Z"⟩
abbrev cX5_fails : ByteArray := prog_7_method_72_code
def yX5_fails : MethodName := ⟨RX5, "fails", "()Z"⟩
abbrev cX5_isFour : ByteArray := prog_7_method_73_code
def yX5_isFour : MethodName := ⟨RX5, "isFour", "(IIII)Z"⟩
abbrev cX5_isFive : ByteArray := prog_7_method_74_code
def yX5_isFive : MethodName := ⟨RX5, "isFive", "(IIIII)Z"⟩
abbrev cX5_isSix : ByteArray := prog_7_method_75_code
def yX5_isSix : MethodName := ⟨RX5, "isSix", "(IIIIII)Z"⟩
abbrev cX5_isNumber : ByteArray := prog_7_method_76_code
def yX5_isNumber : MethodName := ⟨RX5, "isNumber", "(II)Z"⟩
abbrev cX5_kindHere : ByteArray := prog_7_method_77_code
def yX5_kindHere : MethodName := ⟨RX5, "kindHere", "()I"⟩
abbrev cX5_perhaps : ByteArray := prog_7_method_78_code
def yX5_perhaps : MethodName := ⟨RX5, "perhaps", "(ZII)Z"⟩
abbrev cX5_personHere : ByteArray := prog_7_method_79_code
def yX5_personHere : MethodName := ⟨RX5, "personHere", "(I)Z"⟩
abbrev cX5_saidHere : ByteArray := prog_7_method_80_code
def yX5_saidHere : MethodName := ⟨RX5, "saidHere", "()Z"⟩
abbrev cX5_itemHere : ByteArray := prog_7_method_81_code
def yX5_itemHere : MethodName := ⟨RX5, "itemHere", "()Z"⟩
abbrev cX5_text : ByteArray := prog_7_method_82_code
def yX5_text : MethodName := ⟨RX5, "text", "()I"⟩
abbrev cX5_hold : ByteArray := prog_7_method_83_code
def yX5_hold : MethodName := ⟨RX5, "hold", "(II)I"⟩
abbrev cX5_isUnder : ByteArray := prog_7_method_84_code
def yX5_isUnder : MethodName := ⟨RX5, "isUnder", "(II)Z"⟩
abbrev cX5_as : ByteArray := prog_7_method_85_code
def yX5_as : MethodName := ⟨RX5, "as", "(II)I"⟩
abbrev cX5_isSheet : ByteArray := prog_7_method_86_code
def yX5_isSheet : MethodName := ⟨RX5, "isSheet", "(I)Z"⟩
abbrev cX5_sheet : ByteArray := prog_7_method_87_code
def yX5_sheet : MethodName := ⟨RX5, "sheet", "(III)I"⟩
abbrev cX5_write : ByteArray := prog_7_method_88_code
def yX5_write : MethodName := ⟨RX5, "write", "(III)I"⟩
abbrev cX5_copy : ByteArray := prog_7_method_89_code
def yX5_copy : MethodName := ⟨RX5, "copy", "(IIIII)I"⟩
abbrev cX5_wants : ByteArray := prog_7_method_90_code
def yX5_wants : MethodName := ⟨RX5, "wants", "(I)I"⟩
abbrev cX5_load : ByteArray := prog_7_method_91_code
def yX5_load : MethodName := ⟨RX5, "load", "(I)I"⟩
abbrev cX5_judge : ByteArray := prog_7_method_92_code
def yX5_judge : MethodName := ⟨RX5, "judge", "(I)I"⟩
abbrev cX5_image : ByteArray := prog_7_method_93_code
def yX5_image : MethodName := ⟨RX5, "image", "()I"⟩
abbrev cX5_undo : ByteArray := prog_7_method_94_code
def yX5_undo : MethodName := ⟨RX5, "undo", "()I"⟩
abbrev cX5_tear : ByteArray := prog_7_method_95_code
def yX5_tear : MethodName := ⟨RX5, "tear", "()I"⟩
abbrev cX5_count : ByteArray := prog_7_method_96_code
def yX5_count : MethodName := ⟨RX5, "count", "(I)I"⟩
abbrev cX5_status : ByteArray := prog_7_method_97_code
def yX5_status : MethodName := ⟨RX5, "status", "(I)I"⟩
def RJ6 : String := "java/lang/Integer"
def TJ6 : u_T := fun k => match k with
  | _ => ("", "", "", false)
def tyJ6 : Nat → FieldType := fun k => match k with
  | _ => .int
abbrev cJ6_bitCount_0f7a4 : ByteArray := prog_8_method_49_code
def yJ6_bitCount_0f7a4 : MethodName := ⟨RJ6, "bitCount", "(I)I"⟩
def RJ9 : String := "java/lang/Math"
def TJ9 : u_T := fun k => match k with
  | _ => ("", "", "", false)
def tyJ9 : Nat → FieldType := fun k => match k with
  | _ => .int
abbrev cJ9_max_7cf53 : ByteArray := prog_9_method_65_code
def yJ9_max_7cf53 : MethodName := ⟨RJ9, "max", "(II)I"⟩
abbrev cJ9_min_7cf53 : ByteArray := prog_9_method_69_code
def yJ9_min_7cf53 : MethodName := ⟨RJ9, "min", "(II)I"⟩
def RJ0 : String := "java/lang/String"
def TJ0 : u_T := fun k => match k with
  | _ => ("", "", "", false)
def tyJ0 : Nat → FieldType := fun k => match k with
  | _ => .int
abbrev cJ0_length_8abf5 : ByteArray := prog_10_method_54_code
def yJ0_length_8abf5 : MethodName := ⟨RJ0, "length", "()I"⟩
abbrev cJ0_charAt_5068e : ByteArray := prog_10_method_56_code
def yJ0_charAt_5068e : MethodName := ⟨RJ0, "charAt", "(I)C"⟩
abbrev cJ0_coder_7d493 : ByteArray := prog_10_method_152_code
def yJ0_coder_7d493 : MethodName := ⟨RJ0, "coder", "()B"⟩
abbrev cJ0_isLatin1_aae02 : ByteArray := prog_10_method_154_code
def yJ0_isLatin1_aae02 : MethodName := ⟨RJ0, "isLatin1", "()Z"⟩
abbrev cJ0_checkIndex_df160 : ByteArray := prog_10_method_155_code
def yJ0_checkIndex_df160 : MethodName := ⟨RJ0, "checkIndex", "(II)V"⟩
def RJ1 : String := "java/lang/StringLatin1"
def TJ1 : u_T := fun k => match k with
  | _ => ("", "", "", false)
def tyJ1 : Nat → FieldType := fun k => match k with
  | _ => .int
abbrev cJ1_charAt_3b067 : ByteArray := prog_11_method_2_code
def yJ1_charAt_3b067 : MethodName := ⟨RJ1, "charAt", "([BI)C"⟩
def RJ2 : String := "java/lang/StringUTF16"
def TJ2 : u_T := fun k => match k with
  | _ => ("", "", "", false)
def tyJ2 : Nat → FieldType := fun k => match k with
  | _ => .int
abbrev cJ2_getChar_3b067 : ByteArray := prog_12_method_5_code
def yJ2_getChar_3b067 : MethodName := ⟨RJ2, "getChar", "([BI)C"⟩
abbrev cJ2_length_9d52b : ByteArray := prog_12_method_6_code
def yJ2_length_9d52b : MethodName := ⟨RJ2, "length", "([B)I"⟩
abbrev cJ2_charAt_3b067 : ByteArray := prog_12_method_83_code
def yJ2_charAt_3b067 : MethodName := ⟨RJ2, "charAt", "([BI)C"⟩
abbrev cJ2_checkIndex_2214a : ByteArray := prog_12_method_91_code
def yJ2_checkIndex_2214a : MethodName := ⟨RJ2, "checkIndex", "(I[B)V"⟩
def RJ10 : String := "java/lang/System"
def TJ10 : u_T := fun k => match k with
  | _ => ("", "", "", false)
def tyJ10 : Nat → FieldType := fun k => match k with
  | _ => .int
def RJ3 : String := "jdk/internal/util/Preconditions"
def TJ3 : u_T := fun k => match k with
  | _ => ("", "", "", false)
def tyJ3 : Nat → FieldType := fun k => match k with
  | _ => .int
abbrev cJ3_checkIndex_8e157 : ByteArray := prog_14_method_11_code
def yJ3_checkIndex_8e157 : MethodName := ⟨RJ3, "checkIndex", "(IILjava/util/function/BiFunction;)I"⟩
def RL : String := "ScandalCounterLaw"
abbrev cL_law : ByteArray := code
def yL_law : MethodName := ⟨RL, "law", "([I)Z"⟩
abbrev vwCl : List vw_C := [(RX0, TX0, 8), (RX1, TX1, 5), (RX2, TX2, 6), (RX3, TX3, 3), (RX4, TX4, 7), (RX5, TX5, 18)]
