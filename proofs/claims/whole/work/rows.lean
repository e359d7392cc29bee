section
-- ===== PART A: goes FIRST, ahead of the names: the tables' words, and 'selects' of the private methods out of them =====
/-- a private method of a class that the tables say can be made, by its rows of tables_1 -/
def lw_okq (q : MethodName × Nat) : Prop := (q.1.cls ≠ "java/lang/invoke/MethodHandle" ∧ q.1.cls ≠ "java/lang/invoke/VarHandle") ∧ Cond.instantiable q.1.cls q.2 ∈ tables_1 ∧ Cond.privateMethod q.1 ∈ tables_1 ∧ Cond.instanceMethod q.1 ∈ tables_1
theorem lw_p0 : lw_okq (⟨"ScandalCounter", "found", "(I)I"⟩, 7) := ⟨⟨by decide +kernel, by decide +kernel⟩, List.mem_of_getElem? (i := 15) (by decide +kernel), List.mem_of_getElem? (i := 171) (by decide +kernel), List.mem_of_getElem? (i := 172) (by decide +kernel)⟩
theorem lw_p1 : lw_okq (⟨"ScandalCounter$Person", "mostAsked", "(I)I"⟩, 5) := ⟨⟨by decide +kernel, by decide +kernel⟩, List.mem_of_getElem? (i := 30) (by decide +kernel), List.mem_of_getElem? (i := 207) (by decide +kernel), List.mem_of_getElem? (i := 208) (by decide +kernel)⟩
theorem lw_p2 : lw_okq (⟨"ScandalCounter$County", "tellSaying", "()V"⟩, 8) := ⟨⟨by decide +kernel, by decide +kernel⟩, List.mem_of_getElem? (i := 23) (by decide +kernel), List.mem_of_getElem? (i := 277) (by decide +kernel), List.mem_of_getElem? (i := 278) (by decide +kernel)⟩
theorem lw_p3 : lw_okq (⟨"ScandalCounter$County", "serve", "(I)V"⟩, 8) := ⟨⟨by decide +kernel, by decide +kernel⟩, List.mem_of_getElem? (i := 23) (by decide +kernel), List.mem_of_getElem? (i := 297) (by decide +kernel), List.mem_of_getElem? (i := 298) (by decide +kernel)⟩
theorem lw_p4 : lw_okq (⟨"ScandalCounter", "daysToBorne", "(III)I"⟩, 7) := ⟨⟨by decide +kernel, by decide +kernel⟩, List.mem_of_getElem? (i := 15) (by decide +kernel), List.mem_of_getElem? (i := 357) (by decide +kernel), List.mem_of_getElem? (i := 358) (by decide +kernel)⟩
theorem lw_p5 : lw_okq (⟨"ScandalCounter", "borneWithout", "(III)I"⟩, 7) := ⟨⟨by decide +kernel, by decide +kernel⟩, List.mem_of_getElem? (i := 15) (by decide +kernel), List.mem_of_getElem? (i := 409) (by decide +kernel), List.mem_of_getElem? (i := 410) (by decide +kernel)⟩
theorem lw_p6 : lw_okq (⟨"ScandalCounter", "hintsWithSwapped", "(III)I"⟩, 7) := ⟨⟨by decide +kernel, by decide +kernel⟩, List.mem_of_getElem? (i := 15) (by decide +kernel), List.mem_of_getElem? (i := 418) (by decide +kernel), List.mem_of_getElem? (i := 419) (by decide +kernel)⟩
theorem lw_p7 : lw_okq (⟨"ScandalCounter", "sheetAndPersonFinding", "(II)I"⟩, 7) := ⟨⟨by decide +kernel, by decide +kernel⟩, List.mem_of_getElem? (i := 15) (by decide +kernel), List.mem_of_getElem? (i := 426) (by decide +kernel), List.mem_of_getElem? (i := 427) (by decide +kernel)⟩
theorem lw_p8 : lw_okq (⟨"ScandalCounter", "sheetFinding", "(I)I"⟩, 7) := ⟨⟨by decide +kernel, by decide +kernel⟩, List.mem_of_getElem? (i := 15) (by decide +kernel), List.mem_of_getElem? (i := 430) (by decide +kernel), List.mem_of_getElem? (i := 431) (by decide +kernel)⟩
theorem lw_p9 : lw_okq (⟨"ScandalCounter", "isWeightAsTold", "(LScandalCounter$Sheet;II)Z"⟩, 7) := ⟨⟨by decide +kernel, by decide +kernel⟩, List.mem_of_getElem? (i := 15) (by decide +kernel), List.mem_of_getElem? (i := 439) (by decide +kernel), List.mem_of_getElem? (i := 440) (by decide +kernel)⟩
theorem lw_p10 : lw_okq (⟨"ScandalCounter", "isTrialAsTold", "(LScandalCounter$Sheet;II)Z"⟩, 7) := ⟨⟨by decide +kernel, by decide +kernel⟩, List.mem_of_getElem? (i := 15) (by decide +kernel), List.mem_of_getElem? (i := 443) (by decide +kernel), List.mem_of_getElem? (i := 444) (by decide +kernel)⟩
theorem lw_p11 : lw_okq (⟨"ScandalCounter$Reader", "step", "()V"⟩, 6) := ⟨⟨by decide +kernel, by decide +kernel⟩, List.mem_of_getElem? (i := 95) (by decide +kernel), List.mem_of_getElem? (i := 499) (by decide +kernel), List.mem_of_getElem? (i := 500) (by decide +kernel)⟩
theorem lw_p12 : lw_okq (⟨"ScandalCounter$Reader", "readItem", "(LScandalCounter$County;)Z"⟩, 6) := ⟨⟨by decide +kernel, by decide +kernel⟩, List.mem_of_getElem? (i := 95) (by decide +kernel), List.mem_of_getElem? (i := 510) (by decide +kernel), List.mem_of_getElem? (i := 511) (by decide +kernel)⟩
theorem lw_p13 : lw_okq (⟨"ScandalCounter$Reader", "isWord", "(Ljava/lang/String;)Z"⟩, 6) := ⟨⟨by decide +kernel, by decide +kernel⟩, List.mem_of_getElem? (i := 95) (by decide +kernel), List.mem_of_getElem? (i := 515) (by decide +kernel), List.mem_of_getElem? (i := 516) (by decide +kernel)⟩
theorem lw_p14 : lw_okq (⟨"ScandalCounter$Reader", "readSaying", "(LScandalCounter$County;)Z"⟩, 6) := ⟨⟨by decide +kernel, by decide +kernel⟩, List.mem_of_getElem? (i := 95) (by decide +kernel), List.mem_of_getElem? (i := 567) (by decide +kernel), List.mem_of_getElem? (i := 568) (by decide +kernel)⟩
theorem lw_p15 : lw_okq (⟨"ScandalCounter$Reader", "readNumber", "(I)I"⟩, 6) := ⟨⟨by decide +kernel, by decide +kernel⟩, List.mem_of_getElem? (i := 95) (by decide +kernel), List.mem_of_getElem? (i := 571) (by decide +kernel), List.mem_of_getElem? (i := 572) (by decide +kernel)⟩
def lw_privs_1 : List (MethodName × Nat) := [(⟨"ScandalCounter", "found", "(I)I"⟩, 7), (⟨"ScandalCounter$Person", "mostAsked", "(I)I"⟩, 5), (⟨"ScandalCounter$County", "tellSaying", "()V"⟩, 8), (⟨"ScandalCounter$County", "serve", "(I)V"⟩, 8), (⟨"ScandalCounter", "daysToBorne", "(III)I"⟩, 7), (⟨"ScandalCounter", "borneWithout", "(III)I"⟩, 7), (⟨"ScandalCounter", "hintsWithSwapped", "(III)I"⟩, 7), (⟨"ScandalCounter", "sheetAndPersonFinding", "(II)I"⟩, 7), (⟨"ScandalCounter", "sheetFinding", "(I)I"⟩, 7), (⟨"ScandalCounter", "isWeightAsTold", "(LScandalCounter$Sheet;II)Z"⟩, 7), (⟨"ScandalCounter", "isTrialAsTold", "(LScandalCounter$Sheet;II)Z"⟩, 7), (⟨"ScandalCounter$Reader", "step", "()V"⟩, 6), (⟨"ScandalCounter$Reader", "readItem", "(LScandalCounter$County;)Z"⟩, 6), (⟨"ScandalCounter$Reader", "isWord", "(Ljava/lang/String;)Z"⟩, 6), (⟨"ScandalCounter$Reader", "readSaying", "(LScandalCounter$County;)Z"⟩, 6), (⟨"ScandalCounter$Reader", "readNumber", "(I)I"⟩, 6)]
theorem lw_r1 : ∀ q ∈ lw_privs_1, lw_okq q := List.forall_mem_cons.mpr ⟨lw_p0, List.forall_mem_cons.mpr ⟨lw_p1, List.forall_mem_cons.mpr ⟨lw_p2, List.forall_mem_cons.mpr ⟨lw_p3, List.forall_mem_cons.mpr ⟨lw_p4, List.forall_mem_cons.mpr ⟨lw_p5, List.forall_mem_cons.mpr ⟨lw_p6, List.forall_mem_cons.mpr ⟨lw_p7, List.forall_mem_cons.mpr ⟨lw_p8, List.forall_mem_cons.mpr ⟨lw_p9, List.forall_mem_cons.mpr ⟨lw_p10, List.forall_mem_cons.mpr ⟨lw_p11, List.forall_mem_cons.mpr ⟨lw_p12, List.forall_mem_cons.mpr ⟨lw_p13, List.forall_mem_cons.mpr ⟨lw_p14, List.forall_mem_cons.mpr ⟨lw_p15, fun _ h => absurd h List.not_mem_nil⟩⟩⟩⟩⟩⟩⟩⟩⟩⟩⟩⟩⟩⟩⟩⟩
theorem lw_p16 : lw_okq (⟨"ScandalCounter$Reader", "readHints", "(LScandalCounter$County;)Z"⟩, 6) := ⟨⟨by decide +kernel, by decide +kernel⟩, List.mem_of_getElem? (i := 95) (by decide +kernel), List.mem_of_getElem? (i := 577) (by decide +kernel), List.mem_of_getElem? (i := 578) (by decide +kernel)⟩
theorem lw_p17 : lw_okq (⟨"ScandalCounter$Reader", "readPerson", "(LScandalCounter$County;)Z"⟩, 6) := ⟨⟨by decide +kernel, by decide +kernel⟩, List.mem_of_getElem? (i := 95) (by decide +kernel), List.mem_of_getElem? (i := 581) (by decide +kernel), List.mem_of_getElem? (i := 582) (by decide +kernel)⟩
theorem lw_p18 : lw_okq (⟨"ScandalCounter$Reader", "kindOfWord", "()I"⟩, 6) := ⟨⟨by decide +kernel, by decide +kernel⟩, List.mem_of_getElem? (i := 95) (by decide +kernel), List.mem_of_getElem? (i := 585) (by decide +kernel), List.mem_of_getElem? (i := 586) (by decide +kernel)⟩
theorem lw_p19 : lw_okq (⟨"ScandalCounter$Reader", "readAttribute", "(Ljava/lang/String;LScandalCounter$Person;I)Z"⟩, 6) := ⟨⟨by decide +kernel, by decide +kernel⟩, List.mem_of_getElem? (i := 95) (by decide +kernel), List.mem_of_getElem? (i := 599) (by decide +kernel), List.mem_of_getElem? (i := 600) (by decide +kernel)⟩
theorem lw_p20 : lw_okq (⟨"ScandalCounterModel", "becomes", "(II)I"⟩, 18) := ⟨⟨by decide +kernel, by decide +kernel⟩, List.mem_of_getElem? (i := 685) (by decide +kernel), List.mem_of_getElem? (i := 758) (by decide +kernel), List.mem_of_getElem? (i := 759) (by decide +kernel)⟩
theorem lw_p21 : lw_okq (⟨"ScandalCounterModel", "finds", "(I)I"⟩, 18) := ⟨⟨by decide +kernel, by decide +kernel⟩, List.mem_of_getElem? (i := 685) (by decide +kernel), List.mem_of_getElem? (i := 763) (by decide +kernel), List.mem_of_getElem? (i := 764) (by decide +kernel)⟩
theorem lw_p22 : lw_okq (⟨"ScandalCounterModel", "comes", "(II)V"⟩, 18) := ⟨⟨by decide +kernel, by decide +kernel⟩, List.mem_of_getElem? (i := 685) (by decide +kernel), List.mem_of_getElem? (i := 778) (by decide +kernel), List.mem_of_getElem? (i := 779) (by decide +kernel)⟩
theorem lw_p23 : lw_okq (⟨"ScandalCounterModel", "isOne", "(I)Z"⟩, 18) := ⟨⟨by decide +kernel, by decide +kernel⟩, List.mem_of_getElem? (i := 685) (by decide +kernel), List.mem_of_getElem? (i := 789) (by decide +kernel), List.mem_of_getElem? (i := 790) (by decide +kernel)⟩
theorem lw_p24 : lw_okq (⟨"ScandalCounterModel", "asks", "(I)I"⟩, 18) := ⟨⟨by decide +kernel, by decide +kernel⟩, List.mem_of_getElem? (i := 685) (by decide +kernel), List.mem_of_getElem? (i := 793) (by decide +kernel), List.mem_of_getElem? (i := 794) (by decide +kernel)⟩
theorem lw_p25 : lw_okq (⟨"ScandalCounterModel", "asksMost", "(I)I"⟩, 18) := ⟨⟨by decide +kernel, by decide +kernel⟩, List.mem_of_getElem? (i := 685) (by decide +kernel), List.mem_of_getElem? (i := 797) (by decide +kernel), List.mem_of_getElem? (i := 798) (by decide +kernel)⟩
theorem lw_p26 : lw_okq (⟨"ScandalCounterModel", "its", "(II)I"⟩, 18) := ⟨⟨by decide +kernel, by decide +kernel⟩, List.mem_of_getElem? (i := 685) (by decide +kernel), List.mem_of_getElem? (i := 801) (by decide +kernel), List.mem_of_getElem? (i := 802) (by decide +kernel)⟩
theorem lw_p27 : lw_okq (⟨"ScandalCounterModel", "room", "(I)I"⟩, 18) := ⟨⟨by decide +kernel, by decide +kernel⟩, List.mem_of_getElem? (i := 685) (by decide +kernel), List.mem_of_getElem? (i := 808) (by decide +kernel), List.mem_of_getElem? (i := 809) (by decide +kernel)⟩
theorem lw_p28 : lw_okq (⟨"ScandalCounterModel", "forgets", "(I)I"⟩, 18) := ⟨⟨by decide +kernel, by decide +kernel⟩, List.mem_of_getElem? (i := 685) (by decide +kernel), List.mem_of_getElem? (i := 815) (by decide +kernel), List.mem_of_getElem? (i := 816) (by decide +kernel)⟩
theorem lw_p29 : lw_okq (⟨"ScandalCounterModel", "feelsOf", "(II)I"⟩, 18) := ⟨⟨by decide +kernel, by decide +kernel⟩, List.mem_of_getElem? (i := 685) (by decide +kernel), List.mem_of_getElem? (i := 831) (by decide +kernel), List.mem_of_getElem? (i := 832) (by decide +kernel)⟩
theorem lw_p30 : lw_okq (⟨"ScandalCounterModel", "bearerOf", "(II)I"⟩, 18) := ⟨⟨by decide +kernel, by decide +kernel⟩, List.mem_of_getElem? (i := 685) (by decide +kernel), List.mem_of_getElem? (i := 839) (by decide +kernel), List.mem_of_getElem? (i := 840) (by decide +kernel)⟩
theorem lw_p31 : lw_okq (⟨"ScandalCounterModel", "roomiestBut", "(I)I"⟩, 18) := ⟨⟨by decide +kernel, by decide +kernel⟩, List.mem_of_getElem? (i := 685) (by decide +kernel), List.mem_of_getElem? (i := 843) (by decide +kernel), List.mem_of_getElem? (i := 844) (by decide +kernel)⟩
def lw_privs_2 : List (MethodName × Nat) := [(⟨"ScandalCounter$Reader", "readHints", "(LScandalCounter$County;)Z"⟩, 6), (⟨"ScandalCounter$Reader", "readPerson", "(LScandalCounter$County;)Z"⟩, 6), (⟨"ScandalCounter$Reader", "kindOfWord", "()I"⟩, 6), (⟨"ScandalCounter$Reader", "readAttribute", "(Ljava/lang/String;LScandalCounter$Person;I)Z"⟩, 6), (⟨"ScandalCounterModel", "becomes", "(II)I"⟩, 18), (⟨"ScandalCounterModel", "finds", "(I)I"⟩, 18), (⟨"ScandalCounterModel", "comes", "(II)V"⟩, 18), (⟨"ScandalCounterModel", "isOne", "(I)Z"⟩, 18), (⟨"ScandalCounterModel", "asks", "(I)I"⟩, 18), (⟨"ScandalCounterModel", "asksMost", "(I)I"⟩, 18), (⟨"ScandalCounterModel", "its", "(II)I"⟩, 18), (⟨"ScandalCounterModel", "room", "(I)I"⟩, 18), (⟨"ScandalCounterModel", "forgets", "(I)I"⟩, 18), (⟨"ScandalCounterModel", "feelsOf", "(II)I"⟩, 18), (⟨"ScandalCounterModel", "bearerOf", "(II)I"⟩, 18), (⟨"ScandalCounterModel", "roomiestBut", "(I)I"⟩, 18)]
theorem lw_r2 : ∀ q ∈ lw_privs_2, lw_okq q := List.forall_mem_cons.mpr ⟨lw_p16, List.forall_mem_cons.mpr ⟨lw_p17, List.forall_mem_cons.mpr ⟨lw_p18, List.forall_mem_cons.mpr ⟨lw_p19, List.forall_mem_cons.mpr ⟨lw_p20, List.forall_mem_cons.mpr ⟨lw_p21, List.forall_mem_cons.mpr ⟨lw_p22, List.forall_mem_cons.mpr ⟨lw_p23, List.forall_mem_cons.mpr ⟨lw_p24, List.forall_mem_cons.mpr ⟨lw_p25, List.forall_mem_cons.mpr ⟨lw_p26, List.forall_mem_cons.mpr ⟨lw_p27, List.forall_mem_cons.mpr ⟨lw_p28, List.forall_mem_cons.mpr ⟨lw_p29, List.forall_mem_cons.mpr ⟨lw_p30, List.forall_mem_cons.mpr ⟨lw_p31, fun _ h => absurd h List.not_mem_nil⟩⟩⟩⟩⟩⟩⟩⟩⟩⟩⟩⟩⟩⟩⟩⟩
theorem lw_p32 : lw_okq (⟨"ScandalCounterModel", "orNone", "(I)I"⟩, 18) := ⟨⟨by decide +kernel, by decide +kernel⟩, List.mem_of_getElem? (i := 685) (by decide +kernel), List.mem_of_getElem? (i := 847) (by decide +kernel), List.mem_of_getElem? (i := 848) (by decide +kernel)⟩
theorem lw_p33 : lw_okq (⟨"ScandalCounterModel", "goes", "(I)V"⟩, 18) := ⟨⟨by decide +kernel, by decide +kernel⟩, List.mem_of_getElem? (i := 685) (by decide +kernel), List.mem_of_getElem? (i := 859) (by decide +kernel), List.mem_of_getElem? (i := 860) (by decide +kernel)⟩
theorem lw_p34 : lw_okq (⟨"ScandalCounterModel", "dayBut", "(I)V"⟩, 18) := ⟨⟨by decide +kernel, by decide +kernel⟩, List.mem_of_getElem? (i := 685) (by decide +kernel), List.mem_of_getElem? (i := 863) (by decide +kernel), List.mem_of_getElem? (i := 864) (by decide +kernel)⟩
theorem lw_p35 : lw_okq (⟨"ScandalCounterModel", "bears", "(III)V"⟩, 18) := ⟨⟨by decide +kernel, by decide +kernel⟩, List.mem_of_getElem? (i := 685) (by decide +kernel), List.mem_of_getElem? (i := 867) (by decide +kernel), List.mem_of_getElem? (i := 868) (by decide +kernel)⟩
theorem lw_p36 : lw_okq (⟨"ScandalCounterModel", "asksNow", "(I)V"⟩, 18) := ⟨⟨by decide +kernel, by decide +kernel⟩, List.mem_of_getElem? (i := 685) (by decide +kernel), List.mem_of_getElem? (i := 871) (by decide +kernel), List.mem_of_getElem? (i := 872) (by decide +kernel)⟩
theorem lw_p37 : lw_okq (⟨"ScandalCounterModel", "sumOf", "(I)I"⟩, 18) := ⟨⟨by decide +kernel, by decide +kernel⟩, List.mem_of_getElem? (i := 685) (by decide +kernel), List.mem_of_getElem? (i := 875) (by decide +kernel), List.mem_of_getElem? (i := 876) (by decide +kernel)⟩
theorem lw_p38 : lw_okq (⟨"ScandalCounterModel", "owedOnes", "()I"⟩, 18) := ⟨⟨by decide +kernel, by decide +kernel⟩, List.mem_of_getElem? (i := 685) (by decide +kernel), List.mem_of_getElem? (i := 883) (by decide +kernel), List.mem_of_getElem? (i := 884) (by decide +kernel)⟩
theorem lw_p39 : lw_okq (⟨"ScandalCounterModel", "thenAt", "(II)I"⟩, 18) := ⟨⟨by decide +kernel, by decide +kernel⟩, List.mem_of_getElem? (i := 685) (by decide +kernel), List.mem_of_getElem? (i := 892) (by decide +kernel), List.mem_of_getElem? (i := 893) (by decide +kernel)⟩
theorem lw_p40 : lw_okq (⟨"ScandalCounterModel", "nextPlace", "()I"⟩, 18) := ⟨⟨by decide +kernel, by decide +kernel⟩, List.mem_of_getElem? (i := 685) (by decide +kernel), List.mem_of_getElem? (i := 921) (by decide +kernel), List.mem_of_getElem? (i := 922) (by decide +kernel)⟩
theorem lw_p41 : lw_okq (⟨"ScandalCounterModel", "isEvenOnce", "(I)Z"⟩, 18) := ⟨⟨by decide +kernel, by decide +kernel⟩, List.mem_of_getElem? (i := 685) (by decide +kernel), List.mem_of_getElem? (i := 929) (by decide +kernel), List.mem_of_getElem? (i := 930) (by decide +kernel)⟩
theorem lw_p42 : lw_okq (⟨"ScandalCounterModel", "isAsked", "(II)Z"⟩, 18) := ⟨⟨by decide +kernel, by decide +kernel⟩, List.mem_of_getElem? (i := 685) (by decide +kernel), List.mem_of_getElem? (i := 937) (by decide +kernel), List.mem_of_getElem? (i := 938) (by decide +kernel)⟩
theorem lw_p43 : lw_okq (⟨"ScandalCounterModel", "wantsFor", "(II)I"⟩, 18) := ⟨⟨by decide +kernel, by decide +kernel⟩, List.mem_of_getElem? (i := 685) (by decide +kernel), List.mem_of_getElem? (i := 960) (by decide +kernel), List.mem_of_getElem? (i := 961) (by decide +kernel)⟩
theorem lw_p44 : lw_okq (⟨"ScandalCounterModel", "wants", "(I)I"⟩, 18) := ⟨⟨by decide +kernel, by decide +kernel⟩, List.mem_of_getElem? (i := 685) (by decide +kernel), List.mem_of_getElem? (i := 964) (by decide +kernel), List.mem_of_getElem? (i := 965) (by decide +kernel)⟩
theorem lw_p45 : lw_okq (⟨"ScandalCounterModel", "findsFits", "(II)V"⟩, 18) := ⟨⟨by decide +kernel, by decide +kernel⟩, List.mem_of_getElem? (i := 685) (by decide +kernel), List.mem_of_getElem? (i := 972) (by decide +kernel), List.mem_of_getElem? (i := 973) (by decide +kernel)⟩
theorem lw_p46 : lw_okq (⟨"ScandalCounterModel", "isTold", "(II)Z"⟩, 18) := ⟨⟨by decide +kernel, by decide +kernel⟩, List.mem_of_getElem? (i := 685) (by decide +kernel), List.mem_of_getElem? (i := 976) (by decide +kernel), List.mem_of_getElem? (i := 977) (by decide +kernel)⟩
theorem lw_p47 : lw_okq (⟨"ScandalCounterModel", "draw", "()I"⟩, 18) := ⟨⟨by decide +kernel, by decide +kernel⟩, List.mem_of_getElem? (i := 685) (by decide +kernel), List.mem_of_getElem? (i := 992) (by decide +kernel), List.mem_of_getElem? (i := 993) (by decide +kernel)⟩
def lw_privs_3 : List (MethodName × Nat) := [(⟨"ScandalCounterModel", "orNone", "(I)I"⟩, 18), (⟨"ScandalCounterModel", "goes", "(I)V"⟩, 18), (⟨"ScandalCounterModel", "dayBut", "(I)V"⟩, 18), (⟨"ScandalCounterModel", "bears", "(III)V"⟩, 18), (⟨"ScandalCounterModel", "asksNow", "(I)V"⟩, 18), (⟨"ScandalCounterModel", "sumOf", "(I)I"⟩, 18), (⟨"ScandalCounterModel", "owedOnes", "()I"⟩, 18), (⟨"ScandalCounterModel", "thenAt", "(II)I"⟩, 18), (⟨"ScandalCounterModel", "nextPlace", "()I"⟩, 18), (⟨"ScandalCounterModel", "isEvenOnce", "(I)Z"⟩, 18), (⟨"ScandalCounterModel", "isAsked", "(II)Z"⟩, 18), (⟨"ScandalCounterModel", "wantsFor", "(II)I"⟩, 18), (⟨"ScandalCounterModel", "wants", "(I)I"⟩, 18), (⟨"ScandalCounterModel", "findsFits", "(II)V"⟩, 18), (⟨"ScandalCounterModel", "isTold", "(II)Z"⟩, 18), (⟨"ScandalCounterModel", "draw", "()I"⟩, 18)]
theorem lw_r3 : ∀ q ∈ lw_privs_3, lw_okq q := List.forall_mem_cons.mpr ⟨lw_p32, List.forall_mem_cons.mpr ⟨lw_p33, List.forall_mem_cons.mpr ⟨lw_p34, List.forall_mem_cons.mpr ⟨lw_p35, List.forall_mem_cons.mpr ⟨lw_p36, List.forall_mem_cons.mpr ⟨lw_p37, List.forall_mem_cons.mpr ⟨lw_p38, List.forall_mem_cons.mpr ⟨lw_p39, List.forall_mem_cons.mpr ⟨lw_p40, List.forall_mem_cons.mpr ⟨lw_p41, List.forall_mem_cons.mpr ⟨lw_p42, List.forall_mem_cons.mpr ⟨lw_p43, List.forall_mem_cons.mpr ⟨lw_p44, List.forall_mem_cons.mpr ⟨lw_p45, List.forall_mem_cons.mpr ⟨lw_p46, List.forall_mem_cons.mpr ⟨lw_p47, fun _ h => absurd h List.not_mem_nil⟩⟩⟩⟩⟩⟩⟩⟩⟩⟩⟩⟩⟩⟩⟩⟩
theorem lw_p48 : lw_okq (⟨"ScandalCounterModel", "nextToken", "()V"⟩, 18) := ⟨⟨by decide +kernel, by decide +kernel⟩, List.mem_of_getElem? (i := 685) (by decide +kernel), List.mem_of_getElem? (i := 1019) (by decide +kernel), List.mem_of_getElem? (i := 1020) (by decide +kernel)⟩
theorem lw_p49 : lw_okq (⟨"ScandalCounterModel", "byteAt", "(I)I"⟩, 18) := ⟨⟨by decide +kernel, by decide +kernel⟩, List.mem_of_getElem? (i := 685) (by decide +kernel), List.mem_of_getElem? (i := 1023) (by decide +kernel), List.mem_of_getElem? (i := 1024) (by decide +kernel)⟩
theorem lw_p50 : lw_okq (⟨"ScandalCounterModel", "itemHere", "()Z"⟩, 18) := ⟨⟨by decide +kernel, by decide +kernel⟩, List.mem_of_getElem? (i := 685) (by decide +kernel), List.mem_of_getElem? (i := 1033) (by decide +kernel), List.mem_of_getElem? (i := 1034) (by decide +kernel)⟩
theorem lw_p51 : lw_okq (⟨"ScandalCounterModel", "kindHere", "()I"⟩, 18) := ⟨⟨by decide +kernel, by decide +kernel⟩, List.mem_of_getElem? (i := 685) (by decide +kernel), List.mem_of_getElem? (i := 1037) (by decide +kernel), List.mem_of_getElem? (i := 1038) (by decide +kernel)⟩
theorem lw_p52 : lw_okq (⟨"ScandalCounterModel", "isSix", "(IIIIII)Z"⟩, 18) := ⟨⟨by decide +kernel, by decide +kernel⟩, List.mem_of_getElem? (i := 685) (by decide +kernel), List.mem_of_getElem? (i := 1041) (by decide +kernel), List.mem_of_getElem? (i := 1042) (by decide +kernel)⟩
theorem lw_p53 : lw_okq (⟨"ScandalCounterModel", "isWord", "(I)Z"⟩, 18) := ⟨⟨by decide +kernel, by decide +kernel⟩, List.mem_of_getElem? (i := 685) (by decide +kernel), List.mem_of_getElem? (i := 1045) (by decide +kernel), List.mem_of_getElem? (i := 1046) (by decide +kernel)⟩
theorem lw_p54 : lw_okq (⟨"ScandalCounterModel", "has3", "(IIII)Z"⟩, 18) := ⟨⟨by decide +kernel, by decide +kernel⟩, List.mem_of_getElem? (i := 685) (by decide +kernel), List.mem_of_getElem? (i := 1049) (by decide +kernel), List.mem_of_getElem? (i := 1050) (by decide +kernel)⟩
theorem lw_p55 : lw_okq (⟨"ScandalCounterModel", "isFour", "(IIII)Z"⟩, 18) := ⟨⟨by decide +kernel, by decide +kernel⟩, List.mem_of_getElem? (i := 685) (by decide +kernel), List.mem_of_getElem? (i := 1053) (by decide +kernel), List.mem_of_getElem? (i := 1054) (by decide +kernel)⟩
theorem lw_p56 : lw_okq (⟨"ScandalCounterModel", "isFive", "(IIIII)Z"⟩, 18) := ⟨⟨by decide +kernel, by decide +kernel⟩, List.mem_of_getElem? (i := 685) (by decide +kernel), List.mem_of_getElem? (i := 1057) (by decide +kernel), List.mem_of_getElem? (i := 1058) (by decide +kernel)⟩
theorem lw_p57 : lw_okq (⟨"ScandalCounterModel", "personHere", "(I)Z"⟩, 18) := ⟨⟨by decide +kernel, by decide +kernel⟩, List.mem_of_getElem? (i := 685) (by decide +kernel), List.mem_of_getElem? (i := 1061) (by decide +kernel), List.mem_of_getElem? (i := 1062) (by decide +kernel)⟩
theorem lw_p58 : lw_okq (⟨"ScandalCounterModel", "fails", "()Z"⟩, 18) := ⟨⟨by decide +kernel, by decide +kernel⟩, List.mem_of_getElem? (i := 685) (by decide +kernel), List.mem_of_getElem? (i := 1065) (by decide +kernel), List.mem_of_getElem? (i := 1066) (by decide +kernel)⟩
theorem lw_p59 : lw_okq (⟨"ScandalCounterModel", "perhaps", "(ZII)Z"⟩, 18) := ⟨⟨by decide +kernel, by decide +kernel⟩, List.mem_of_getElem? (i := 685) (by decide +kernel), List.mem_of_getElem? (i := 1069) (by decide +kernel), List.mem_of_getElem? (i := 1070) (by decide +kernel)⟩
theorem lw_p60 : lw_okq (⟨"ScandalCounterModel", "isNumber", "(II)Z"⟩, 18) := ⟨⟨by decide +kernel, by decide +kernel⟩, List.mem_of_getElem? (i := 685) (by decide +kernel), List.mem_of_getElem? (i := 1073) (by decide +kernel), List.mem_of_getElem? (i := 1074) (by decide +kernel)⟩
theorem lw_p61 : lw_okq (⟨"ScandalCounterModel", "saidHere", "()Z"⟩, 18) := ⟨⟨by decide +kernel, by decide +kernel⟩, List.mem_of_getElem? (i := 685) (by decide +kernel), List.mem_of_getElem? (i := 1077) (by decide +kernel), List.mem_of_getElem? (i := 1078) (by decide +kernel)⟩
def lw_privs_4 : List (MethodName × Nat) := [(⟨"ScandalCounterModel", "nextToken", "()V"⟩, 18), (⟨"ScandalCounterModel", "byteAt", "(I)I"⟩, 18), (⟨"ScandalCounterModel", "itemHere", "()Z"⟩, 18), (⟨"ScandalCounterModel", "kindHere", "()I"⟩, 18), (⟨"ScandalCounterModel", "isSix", "(IIIIII)Z"⟩, 18), (⟨"ScandalCounterModel", "isWord", "(I)Z"⟩, 18), (⟨"ScandalCounterModel", "has3", "(IIII)Z"⟩, 18), (⟨"ScandalCounterModel", "isFour", "(IIII)Z"⟩, 18), (⟨"ScandalCounterModel", "isFive", "(IIIII)Z"⟩, 18), (⟨"ScandalCounterModel", "personHere", "(I)Z"⟩, 18), (⟨"ScandalCounterModel", "fails", "()Z"⟩, 18), (⟨"ScandalCounterModel", "perhaps", "(ZII)Z"⟩, 18), (⟨"ScandalCounterModel", "isNumber", "(II)Z"⟩, 18), (⟨"ScandalCounterModel", "saidHere", "()Z"⟩, 18)]
theorem lw_r4 : ∀ q ∈ lw_privs_4, lw_okq q := List.forall_mem_cons.mpr ⟨lw_p48, List.forall_mem_cons.mpr ⟨lw_p49, List.forall_mem_cons.mpr ⟨lw_p50, List.forall_mem_cons.mpr ⟨lw_p51, List.forall_mem_cons.mpr ⟨lw_p52, List.forall_mem_cons.mpr ⟨lw_p53, List.forall_mem_cons.mpr ⟨lw_p54, List.forall_mem_cons.mpr ⟨lw_p55, List.forall_mem_cons.mpr ⟨lw_p56, List.forall_mem_cons.mpr ⟨lw_p57, List.forall_mem_cons.mpr ⟨lw_p58, List.forall_mem_cons.mpr ⟨lw_p59, List.forall_mem_cons.mpr ⟨lw_p60, List.forall_mem_cons.mpr ⟨lw_p61, fun _ h => absurd h List.not_mem_nil⟩⟩⟩⟩⟩⟩⟩⟩⟩⟩⟩⟩⟩⟩
def lw_privs : List (MethodName × Nat) := lw_privs_1 ++ (lw_privs_2 ++ (lw_privs_3 ++ (lw_privs_4)))
def lw_tbl : List Cond := k2_sels lw_privs ++ tables_1
theorem lw_privs_ok : ∀ q ∈ lw_privs, lw_okq q := by
  show ∀ q ∈ lw_privs_1 ++ (lw_privs_2 ++ (lw_privs_3 ++ (lw_privs_4))), lw_okq q
  exact List.forall_mem_append.mpr ⟨lw_r1, List.forall_mem_append.mpr ⟨lw_r2, List.forall_mem_append.mpr ⟨lw_r3, lw_r4⟩⟩⟩
def RX0 : String := "ScandalCounter$County"
def TX0 : u_T := fun k => match k with
  | 0 => ("ScandalCounter$County", "list", "[I", true)
  | 1 => ("ScandalCounter$County", "people", "[LScandalCounter$Person;", true)
  | 2 => ("ScandalCounter$County", "spots", "[I", true)
  | 3 => ("ScandalCounter$County", "size", "I", false)
  | 4 => ("ScandalCounter$County", "hints", "I", false)
  | 5 => ("ScandalCounter$County", "day", "I", false)
  | 6 => ("ScandalCounter$County", "z", "I", false)
  | _ => ("ScandalCounter$County", "silent", "I", false)
def tyX0 : Nat → FieldType := fun k => match k with
  | 0 => .array .int
  | 1 => .array (.object "ScandalCounter$Person")
  | 2 => .array .int
  | 3 => .int
  | 4 => .int
  | 5 => .int
  | 6 => .int
  | _ => .int
theorem nmX0 : ∀ a, a < 8 → ∀ b, b < 8 → a ≠ b → (TX0 a).2.1 ≠ (TX0 b).2.1 := by decide +kernel
theorem tyX0_ok : ∀ k, k < 8 → parseFieldDescriptor (TX0 k).2.2.1 = some (tyX0 k) := by decide +kernel
abbrev cX0_init : ByteArray := prog_2_method_1_code
def yX0_init : MethodName := ⟨RX0, "<init>", "()V"⟩
abbrev cX0_become : ByteArray := prog_2_method_2_code
def yX0_become : MethodName := ⟨RX0, "become", "(LScandalCounter$County;)V"⟩
abbrev cX0_has : ByteArray := prog_2_method_3_code
def yX0_has : MethodName := ⟨RX0, "has", "(I)Z"⟩
abbrev cX0_add : ByteArray := prog_2_method_4_code
def yX0_add : MethodName := ⟨RX0, "add", "(II)I"⟩
abbrev cX0_sumOf : ByteArray := prog_2_method_5_code
def yX0_sumOf : MethodName := ⟨RX0, "sumOf", "(I)I"⟩
abbrev cX0_owedSet : ByteArray := prog_2_method_6_code
def yX0_owedSet : MethodName := ⟨RX0, "owedSet", "()I"⟩
abbrev cX0_isEven : ByteArray := prog_2_method_7_code
def yX0_isEven : MethodName := ⟨RX0, "isEven", "()Z"⟩
abbrev cX0_withRoom : ByteArray := prog_2_method_8_code
def yX0_withRoom : MethodName := ⟨RX0, "withRoom", "()I"⟩
abbrev cX0_spotsInUse : ByteArray := prog_2_method_9_code
def yX0_spotsInUse : MethodName := ⟨RX0, "spotsInUse", "()I"⟩
abbrev cX0_roomiestBut : ByteArray := prog_2_method_10_code
def yX0_roomiestBut : MethodName := ⟨RX0, "roomiestBut", "(I)I"⟩
abbrev cX0_bears : ByteArray := prog_2_method_11_code
def yX0_bears : MethodName := ⟨RX0, "bears", "(II)Z"⟩
abbrev cX0_nextWhom : ByteArray := prog_2_method_12_code
def yX0_nextWhom : MethodName := ⟨RX0, "nextWhom", "()I"⟩
abbrev cX0_nextWeight : ByteArray := prog_2_method_13_code
def yX0_nextWeight : MethodName := ⟨RX0, "nextWeight", "()I"⟩
abbrev cX0_setNext : ByteArray := prog_2_method_14_code
def yX0_setNext : MethodName := ⟨RX0, "setNext", "(II)V"⟩
abbrev cX0_draw : ByteArray := prog_2_method_15_code
def yX0_draw : MethodName := ⟨RX0, "draw", "()I"⟩
abbrev cX0_passDays : ByteArray := prog_2_method_16_code
def yX0_passDays : MethodName := ⟨RX0, "passDays", "(I)V"⟩
abbrev cX0_isEvenWithin : ByteArray := prog_2_method_17_code
def yX0_isEvenWithin : MethodName := ⟨RX0, "isEvenWithin", "(I)Z"⟩
abbrev cX0_keepsHints : ByteArray := prog_2_method_18_code
def yX0_keepsHints : MethodName := ⟨RX0, "keepsHints", "(I)Z"⟩
abbrev cX0_passDay : ByteArray := prog_2_method_19_code
def yX0_passDay : MethodName := ⟨RX0, "passDay", "()V"⟩
abbrev cX0_tellSaying : ByteArray := prog_2_method_20_code
def yX0_tellSaying : MethodName := ⟨RX0, "tellSaying", "()V"⟩
abbrev cX0_serve : ByteArray := prog_2_method_21_code
def yX0_serve : MethodName := ⟨RX0, "serve", "(I)V"⟩
def RX1 : String := "ScandalCounter$Person"
def TX1 : u_T := fun k => match k with
  | 0 => ("ScandalCounter$Person", "kind", "I", false)
  | 1 => ("ScandalCounter$Person", "owed", "I", false)
  | 2 => ("ScandalCounter$Person", "build", "I", false)
  | 3 => ("ScandalCounter$Person", "borne", "I", false)
  | _ => ("ScandalCounter$Person", "told", "I", false)
def tyX1 : Nat → FieldType := fun k => match k with
  | 0 => .int
  | 1 => .int
  | 2 => .int
  | 3 => .int
  | _ => .int
theorem nmX1 : ∀ a, a < 5 → ∀ b, b < 5 → a ≠ b → (TX1 a).2.1 ≠ (TX1 b).2.1 := by decide +kernel
theorem tyX1_ok : ∀ k, k < 5 → parseFieldDescriptor (TX1 k).2.2.1 = some (tyX1 k) := by decide +kernel
abbrev cX1_init : ByteArray := prog_3_method_1_code
def yX1_init : MethodName := ⟨RX1, "<init>", "()V"⟩
abbrev cX1_begin : ByteArray := prog_3_method_2_code
def yX1_begin : MethodName := ⟨RX1, "begin", "(II)V"⟩
abbrev cX1_become : ByteArray := prog_3_method_3_code
def yX1_become : MethodName := ⟨RX1, "become", "(LScandalCounter$Person;)V"⟩
abbrev cX1_attribute : ByteArray := prog_3_method_4_code
def yX1_attribute : MethodName := ⟨RX1, "attribute", "(I)I"⟩
abbrev cX1_setAttribute : ByteArray := prog_3_method_5_code
def yX1_setAttribute : MethodName := ⟨RX1, "setAttribute", "(II)V"⟩
abbrev cX1_feeling : ByteArray := prog_3_method_6_code
def yX1_feeling : MethodName := ⟨RX1, "feeling", "(I)I"⟩
abbrev cX1_asking : ByteArray := prog_3_method_7_code
def yX1_asking : MethodName := ⟨RX1, "asking", "(I)I"⟩
abbrev cX1_mostAsked : ByteArray := prog_3_method_8_code
def yX1_mostAsked : MethodName := ⟨RX1, "mostAsked", "(I)I"⟩
abbrev cX1_room : ByteArray := prog_3_method_9_code
def yX1_room : MethodName := ⟨RX1, "room", "()I"⟩
abbrev cX1_forgetting : ByteArray := prog_3_method_10_code
def yX1_forgetting : MethodName := ⟨RX1, "forgetting", "()I"⟩
abbrev cX1_isOfKind : ByteArray := prog_3_method_11_code
def yX1_isOfKind : MethodName := ⟨RX1, "isOfKind", "(I)Z"⟩
abbrev cX1_suffer : ByteArray := prog_3_method_12_code
def yX1_suffer : MethodName := ⟨RX1, "suffer", "(II)V"⟩
abbrev cX1_forget : ByteArray := prog_3_method_13_code
def yX1_forget : MethodName := ⟨RX1, "forget", "()V"⟩
def RX2 : String := "ScandalCounter$Reader"
def TX2 : u_T := fun k => match k with
  | 0 => ("ScandalCounter$Reader", "tape", "[I", true)
  | 1 => ("ScandalCounter$Reader", "size", "I", false)
  | 2 => ("ScandalCounter$Reader", "token", "I", false)
  | 3 => ("ScandalCounter$Reader", "begin", "I", false)
  | 4 => ("ScandalCounter$Reader", "behind", "I", false)
  | _ => ("ScandalCounter$Reader", "value", "I", false)
def tyX2 : Nat → FieldType := fun k => match k with
  | 0 => .array .int
  | 1 => .int
  | 2 => .int
  | 3 => .int
  | 4 => .int
  | _ => .int
theorem nmX2 : ∀ a, a < 6 → ∀ b, b < 6 → a ≠ b → (TX2 a).2.1 ≠ (TX2 b).2.1 := by decide +kernel
theorem tyX2_ok : ∀ k, k < 6 → parseFieldDescriptor (TX2 k).2.2.1 = some (tyX2 k) := by decide +kernel
abbrev cX2_init : ByteArray := prog_4_method_1_code
def yX2_init : MethodName := ⟨RX2, "<init>", "()V"⟩
abbrev cX2_append : ByteArray := prog_4_method_2_code
def yX2_append : MethodName := ⟨RX2, "append", "(I)V"⟩
abbrev cX2_readInto : ByteArray := prog_4_method_3_code
def yX2_readInto : MethodName := ⟨RX2, "readInto", "(LScandalCounter$County;)I"⟩
abbrev cX2_readItem : ByteArray := prog_4_method_4_code
def yX2_readItem : MethodName := ⟨RX2, "readItem", "(LScandalCounter$County;)Z"⟩
abbrev cX2_readSaying : ByteArray := prog_4_method_5_code
def yX2_readSaying : MethodName := ⟨RX2, "readSaying", "(LScandalCounter$County;)Z"⟩
abbrev cX2_readHints : ByteArray := prog_4_method_6_code
def yX2_readHints : MethodName := ⟨RX2, "readHints", "(LScandalCounter$County;)Z"⟩
abbrev cX2_readPerson : ByteArray := prog_4_method_7_code
def yX2_readPerson : MethodName := ⟨RX2, "readPerson", "(LScandalCounter$County;)Z"⟩
abbrev cX2_readAttribute : ByteArray := prog_4_method_8_code
def yX2_readAttribute : MethodName := ⟨RX2, "readAttribute", "(Ljava/lang/String;LScandalCounter$Person;I)Z"⟩
abbrev cX2_readNumber : ByteArray := prog_4_method_9_code
def yX2_readNumber : MethodName := ⟨RX2, "readNumber", "(I)I"⟩
abbrev cX2_kindOfWord : ByteArray := prog_4_method_10_code
def yX2_kindOfWord : MethodName := ⟨RX2, "kindOfWord", "()I"⟩
abbrev cX2_isWord : ByteArray := prog_4_method_11_code
def yX2_isWord : MethodName := ⟨RX2, "isWord", "(Ljava/lang/String;)Z"⟩
abbrev cX2_step : ByteArray := prog_4_method_12_code
def yX2_step : MethodName := ⟨RX2, "step", "()V"⟩
abbrev cX2_isLetter : ByteArray := prog_4_method_13_code
def yX2_isLetter : MethodName := ⟨RX2, "isLetter", "(I)Z"⟩
abbrev cX2_isDigit : ByteArray := prog_4_method_14_code
def yX2_isDigit : MethodName := ⟨RX2, "isDigit", "(I)Z"⟩
def RX3 : String := "ScandalCounter$Sheet"
def TX3 : u_T := fun k => match k with
  | 0 => ("ScandalCounter$Sheet", "numbers", "[I", true)
  | 1 => ("ScandalCounter$Sheet", "bits", "I", false)
  | _ => ("ScandalCounter$Sheet", "size", "I", false)
def tyX3 : Nat → FieldType := fun k => match k with
  | 0 => .array .int
  | 1 => .int
  | _ => .int
theorem nmX3 : ∀ a, a < 3 → ∀ b, b < 3 → a ≠ b → (TX3 a).2.1 ≠ (TX3 b).2.1 := by decide +kernel
theorem tyX3_ok : ∀ k, k < 3 → parseFieldDescriptor (TX3 k).2.2.1 = some (tyX3 k) := by decide +kernel
abbrev cX3_init : ByteArray := prog_5_method_1_code
def yX3_init : MethodName := ⟨RX3, "<init>", "()V"⟩
abbrev cX3_isMissing : ByteArray := prog_5_method_2_code
def yX3_isMissing : MethodName := ⟨RX3, "isMissing", "()Z"⟩
abbrev cX3_lay : ByteArray := prog_5_method_3_code
def yX3_lay : MethodName := ⟨RX3, "lay", "(II)V"⟩
abbrev cX3_put : ByteArray := prog_5_method_4_code
def yX3_put : MethodName := ⟨RX3, "put", "(II)V"⟩
abbrev cX3_hasRange : ByteArray := prog_5_method_5_code
def yX3_hasRange : MethodName := ⟨RX3, "hasRange", "(II)Z"⟩
def RX4 : String := "ScandalCounter"
def TX4 : u_T := fun k => match k with
  | 0 => ("ScandalCounter", "county", "LScandalCounter$County;", true)
  | 1 => ("ScandalCounter", "kept", "LScandalCounter$County;", true)
  | 2 => ("ScandalCounter", "trial", "LScandalCounter$County;", true)
  | 3 => ("ScandalCounter", "reader", "LScandalCounter$Reader;", true)
  | 4 => ("ScandalCounter", "sheets", "[LScandalCounter$Sheet;", true)
  | 5 => ("ScandalCounter", "findings", "[I", true)
  | _ => ("ScandalCounter", "isKept", "Z", false)
def tyX4 : Nat → FieldType := fun k => match k with
  | 0 => .object "ScandalCounter$County"
  | 1 => .object "ScandalCounter$County"
  | 2 => .object "ScandalCounter$County"
  | 3 => .object "ScandalCounter$Reader"
  | 4 => .array (.object "ScandalCounter$Sheet")
  | 5 => .array .int
  | _ => .boolean
theorem nmX4 : ∀ a, a < 7 → ∀ b, b < 7 → a ≠ b → (TX4 a).2.1 ≠ (TX4 b).2.1 := by decide +kernel
theorem tyX4_ok : ∀ k, k < 7 → parseFieldDescriptor (TX4 k).2.2.1 = some (tyX4 k) := by decide +kernel
abbrev cX4_init : ByteArray := prog_1_method_1_code
def yX4_init : MethodName := ⟨RX4, "<init>", "()V"⟩
abbrev cX4_say : ByteArray := prog_1_method_2_code
def yX4_say : MethodName := ⟨RX4, "say", "(III)I"⟩
abbrev cX4_said : ByteArray := prog_1_method_3_code
def yX4_said : MethodName := ⟨RX4, "said", "(I)I"⟩
abbrev cX4_person : ByteArray := prog_1_method_4_code
def yX4_person : MethodName := ⟨RX4, "person", "(II)I"⟩
abbrev cX4_of : ByteArray := prog_1_method_5_code
def yX4_of : MethodName := ⟨RX4, "of", "(II)I"⟩
abbrev cX4_change : ByteArray := prog_1_method_6_code
def yX4_change : MethodName := ⟨RX4, "change", "(III)I"⟩
abbrev cX4_feels : ByteArray := prog_1_method_7_code
def yX4_feels : MethodName := ⟨RX4, "feels", "(II)I"⟩
abbrev cX4_bearer : ByteArray := prog_1_method_8_code
def yX4_bearer : MethodName := ⟨RX4, "bearer", "(II)I"⟩
abbrev cX4_go : ByteArray := prog_1_method_9_code
def yX4_go : MethodName := ⟨RX4, "go", "(I)I"⟩
abbrev cX4_now : ByteArray := prog_1_method_10_code
def yX4_now : MethodName := ⟨RX4, "now", "(I)I"⟩
abbrev cX4_ahead : ByteArray := prog_1_method_11_code
def yX4_ahead : MethodName := ⟨RX4, "ahead", "(III)I"⟩
abbrev cX4_hints : ByteArray := prog_1_method_12_code
def yX4_hints : MethodName := ⟨RX4, "hints", "(I)I"⟩
abbrev cX4_even : ByteArray := prog_1_method_13_code
def yX4_even : MethodName := ⟨RX4, "even", "()I"⟩
abbrev cX4_when : ByteArray := prog_1_method_14_code
def yX4_when : MethodName := ⟨RX4, "when", "(II)I"⟩
abbrev cX4_clean : ByteArray := prog_1_method_15_code
def yX4_clean : MethodName := ⟨RX4, "clean", "(I)I"⟩
abbrev cX4_daysToBorne : ByteArray := prog_1_method_16_code
def yX4_daysToBorne : MethodName := ⟨RX4, "daysToBorne", "(III)I"⟩
abbrev cX4_whom : ByteArray := prog_1_method_17_code
def yX4_whom : MethodName := ⟨RX4, "whom", "(I)I"⟩
abbrev cX4_weightFor : ByteArray := prog_1_method_18_code
def yX4_weightFor : MethodName := ⟨RX4, "weightFor", "(I)I"⟩
abbrev cX4_buildFor : ByteArray := prog_1_method_19_code
def yX4_buildFor : MethodName := ⟨RX4, "buildFor", "(II)I"⟩
abbrev cX4_kindFor : ByteArray := prog_1_method_20_code
def yX4_kindFor : MethodName := ⟨RX4, "kindFor", "(II)I"⟩
abbrev cX4_refuse : ByteArray := prog_1_method_21_code
def yX4_refuse : MethodName := ⟨RX4, "refuse", "(III)I"⟩
abbrev cX4_borneWithout : ByteArray := prog_1_method_22_code
def yX4_borneWithout : MethodName := ⟨RX4, "borneWithout", "(III)I"⟩
abbrev cX4_swapFor : ByteArray := prog_1_method_23_code
def yX4_swapFor : MethodName := ⟨RX4, "swapFor", "(I)I"⟩
abbrev cX4_hintsWithSwapped : ByteArray := prog_1_method_24_code
def yX4_hintsWithSwapped : MethodName := ⟨RX4, "hintsWithSwapped", "(III)I"⟩
abbrev cX4_fits : ByteArray := prog_1_method_25_code
def yX4_fits : MethodName := ⟨RX4, "fits", "(II)I"⟩
abbrev cX4_weighed : ByteArray := prog_1_method_26_code
def yX4_weighed : MethodName := ⟨RX4, "weighed", "(II)I"⟩
abbrev cX4_kinds : ByteArray := prog_1_method_27_code
def yX4_kinds : MethodName := ⟨RX4, "kinds", "(II)I"⟩
abbrev cX4_isWeightAsTold : ByteArray := prog_1_method_28_code
def yX4_isWeightAsTold : MethodName := ⟨RX4, "isWeightAsTold", "(LScandalCounter$Sheet;II)Z"⟩
abbrev cX4_isTrialAsTold : ByteArray := prog_1_method_29_code
def yX4_isTrialAsTold : MethodName := ⟨RX4, "isTrialAsTold", "(LScandalCounter$Sheet;II)Z"⟩
abbrev cX4_sheetAndPersonFinding : ByteArray := prog_1_method_30_code
def yX4_sheetAndPersonFinding : MethodName := ⟨RX4, "sheetAndPersonFinding", "(II)I"⟩
abbrev cX4_gossip : ByteArray := prog_1_method_31_code
def yX4_gossip : MethodName := ⟨RX4, "gossip", "(I)I"⟩
abbrev cX4_odds : ByteArray := prog_1_method_32_code
def yX4_odds : MethodName := ⟨RX4, "odds", "(II)J"⟩
abbrev cX4_seed : ByteArray := prog_1_method_33_code
def yX4_seed : MethodName := ⟨RX4, "seed", "(I)I"⟩
abbrev cX4_feed : ByteArray := prog_1_method_34_code
def yX4_feed : MethodName := ⟨RX4, "feed", "(II)I"⟩
abbrev cX4_wipe : ByteArray := prog_1_method_35_code
def yX4_wipe : MethodName := ⟨RX4, "wipe", "()I"⟩
abbrev cX4_text : ByteArray := prog_1_method_36_code
def yX4_text : MethodName := ⟨RX4, "text", "()I"⟩
abbrev cX4_hold : ByteArray := prog_1_method_37_code
def yX4_hold : MethodName := ⟨RX4, "hold", "(II)I"⟩
abbrev cX4_as : ByteArray := prog_1_method_38_code
def yX4_as : MethodName := ⟨RX4, "as", "(II)I"⟩
abbrev cX4_sheet : ByteArray := prog_1_method_39_code
def yX4_sheet : MethodName := ⟨RX4, "sheet", "(III)I"⟩
abbrev cX4_write : ByteArray := prog_1_method_40_code
def yX4_write : MethodName := ⟨RX4, "write", "(III)I"⟩
abbrev cX4_copy : ByteArray := prog_1_method_41_code
def yX4_copy : MethodName := ⟨RX4, "copy", "(IIIII)I"⟩
abbrev cX4_load : ByteArray := prog_1_method_42_code
def yX4_load : MethodName := ⟨RX4, "load", "(I)I"⟩
abbrev cX4_judge : ByteArray := prog_1_method_43_code
def yX4_judge : MethodName := ⟨RX4, "judge", "(I)I"⟩
abbrev cX4_sheetFinding : ByteArray := prog_1_method_44_code
def yX4_sheetFinding : MethodName := ⟨RX4, "sheetFinding", "(I)I"⟩
abbrev cX4_image : ByteArray := prog_1_method_45_code
def yX4_image : MethodName := ⟨RX4, "image", "()I"⟩
abbrev cX4_undo : ByteArray := prog_1_method_46_code
def yX4_undo : MethodName := ⟨RX4, "undo", "()I"⟩
abbrev cX4_tear : ByteArray := prog_1_method_47_code
def yX4_tear : MethodName := ⟨RX4, "tear", "()I"⟩
abbrev cX4_count : ByteArray := prog_1_method_48_code
def yX4_count : MethodName := ⟨RX4, "count", "(I)I"⟩
abbrev cX4_status : ByteArray := prog_1_method_49_code
def yX4_status : MethodName := ⟨RX4, "status", "(I)I"⟩
abbrev cX4_found : ByteArray := prog_1_method_50_code
def yX4_found : MethodName := ⟨RX4, "found", "(I)I"⟩
abbrev cX4_within : ByteArray := prog_1_method_51_code
def yX4_within : MethodName := ⟨RX4, "within", "(III)Z"⟩
abbrev cX4_isIn : ByteArray := prog_1_method_52_code
def yX4_isIn : MethodName := ⟨RX4, "isIn", "(II)Z"⟩
abbrev cX4_saying : ByteArray := prog_1_method_53_code
def yX4_saying : MethodName := ⟨RX4, "saying", "(II)I"⟩
abbrev cX4_isSaying : ByteArray := prog_1_method_54_code
def yX4_isSaying : MethodName := ⟨RX4, "isSaying", "(I)Z"⟩
abbrev cX4_mostOf : ByteArray := prog_1_method_55_code
def yX4_mostOf : MethodName := ⟨RX4, "mostOf", "(I)I"⟩
abbrev cX4_power : ByteArray := prog_1_method_56_code
def yX4_power : MethodName := ⟨RX4, "power", "(II)J"⟩
def RX5 : String := "ScandalCounterModel"
def TX5 : u_T := fun k => match k with
  | 0 => ("ScandalCounterModel", "s", "[I", true)
  | 1 => ("ScandalCounterModel", "kept", "[I", true)
  | 2 => ("ScandalCounterModel", "before", "[I", true)
  | 3 => ("ScandalCounterModel", "aside", "[I", true)
  | 4 => ("ScandalCounterModel", "isKept", "Z", false)
  | 5 => ("ScandalCounterModel", "findings", "[I", true)
  | 6 => ("ScandalCounterModel", "tape", "[I", true)
  | 7 => ("ScandalCounterModel", "taped", "I", false)
  | 8 => ("ScandalCounterModel", "bitsOf", "[I", true)
  | 9 => ("ScandalCounterModel", "sizes", "[I", true)
  | 10 => ("ScandalCounterModel", "numbers", "[I", true)
  | 11 => ("ScandalCounterModel", "fitting", "I", false)
  | 12 => ("ScandalCounterModel", "leastFit", "I", false)
  | 13 => ("ScandalCounterModel", "token", "I", false)
  | 14 => ("ScandalCounterModel", "from", "I", false)
  | 15 => ("ScandalCounterModel", "to", "I", false)
  | 16 => ("ScandalCounterModel", "value", "I", false)
  | _ => ("ScandalCounterModel", "faultAt", "I", false)
def tyX5 : Nat → FieldType := fun k => match k with
  | 0 => .array .int
  | 1 => .array .int
  | 2 => .array .int
  | 3 => .array .int
  | 4 => .boolean
  | 5 => .array .int
  | 6 => .array .int
  | 7 => .int
  | 8 => .array .int
  | 9 => .array .int
  | 10 => .array .int
  | 11 => .int
  | 12 => .int
  | 13 => .int
  | 14 => .int
  | 15 => .int
  | 16 => .int
  | _ => .int
theorem nmX5 : ∀ a, a < 18 → ∀ b, b < 18 → a ≠ b → (TX5 a).2.1 ≠ (TX5 b).2.1 := by decide +kernel
theorem tyX5_ok : ∀ k, k < 18 → parseFieldDescriptor (TX5 k).2.2.1 = some (tyX5 k) := by decide +kernel
abbrev cX5_init : ByteArray := prog_7_method_1_code
def yX5_init : MethodName := ⟨RX5, "<init>", "()V"⟩
abbrev cX5_isIn : ByteArray := prog_7_method_2_code
def yX5_isIn : MethodName := ⟨RX5, "isIn", "(JJJ)Z"⟩
abbrev cX5_finds : ByteArray := prog_7_method_3_code
def yX5_finds : MethodName := ⟨RX5, "finds", "(I)I"⟩
abbrev cX5_becomes : ByteArray := prog_7_method_4_code
def yX5_becomes : MethodName := ⟨RX5, "becomes", "(II)I"⟩
abbrev cX5_copyRow : ByteArray := prog_7_method_5_code
def yX5_copyRow : MethodName := ⟨RX5, "copyRow", "([I[I)V"⟩
abbrev cX5_isPlace : ByteArray := prog_7_method_6_code
def yX5_isPlace : MethodName := ⟨RX5, "isPlace", "(I)Z"⟩
abbrev cX5_isOne : ByteArray := prog_7_method_7_code
def yX5_isOne : MethodName := ⟨RX5, "isOne", "(I)Z"⟩
abbrev cX5_at : ByteArray := prog_7_method_8_code
def yX5_at : MethodName := ⟨RX5, "at", "(II)I"⟩
abbrev cX5_its : ByteArray := prog_7_method_9_code
def yX5_its : MethodName := ⟨RX5, "its", "(II)I"⟩
abbrev cX5_least : ByteArray := prog_7_method_10_code
def yX5_least : MethodName := ⟨RX5, "least", "(II)I"⟩
abbrev cX5_greatest : ByteArray := prog_7_method_11_code
def yX5_greatest : MethodName := ⟨RX5, "greatest", "(II)I"⟩
abbrev cX5_orNone : ByteArray := prog_7_method_12_code
def yX5_orNone : MethodName := ⟨RX5, "orNone", "(I)I"⟩
abbrev cX5_many : ByteArray := prog_7_method_13_code
def yX5_many : MethodName := ⟨RX5, "many", "(I)I"⟩
abbrev cX5_isSaying : ByteArray := prog_7_method_14_code
def yX5_isSaying : MethodName := ⟨RX5, "isSaying", "(I)Z"⟩
abbrev cX5_say : ByteArray := prog_7_method_15_code
def yX5_say : MethodName := ⟨RX5, "say", "(III)I"⟩
abbrev cX5_said : ByteArray := prog_7_method_16_code
def yX5_said : MethodName := ⟨RX5, "said", "(I)I"⟩
abbrev cX5_comes : ByteArray := prog_7_method_17_code
def yX5_comes : MethodName := ⟨RX5, "comes", "(II)V"⟩
abbrev cX5_person : ByteArray := prog_7_method_18_code
def yX5_person : MethodName := ⟨RX5, "person", "(II)I"⟩
abbrev cX5_feelsOf : ByteArray := prog_7_method_19_code
def yX5_feelsOf : MethodName := ⟨RX5, "feelsOf", "(II)I"⟩
abbrev cX5_asksMost : ByteArray := prog_7_method_20_code
def yX5_asksMost : MethodName := ⟨RX5, "asksMost", "(I)I"⟩
abbrev cX5_asks : ByteArray := prog_7_method_21_code
def yX5_asks : MethodName := ⟨RX5, "asks", "(I)I"⟩
abbrev cX5_room : ByteArray := prog_7_method_22_code
def yX5_room : MethodName := ⟨RX5, "room", "(I)I"⟩
abbrev cX5_forgets : ByteArray := prog_7_method_23_code
def yX5_forgets : MethodName := ⟨RX5, "forgets", "(I)I"⟩
abbrev cX5_of : ByteArray := prog_7_method_24_code
def yX5_of : MethodName := ⟨RX5, "of", "(II)I"⟩
abbrev cX5_greatestOf : ByteArray := prog_7_method_25_code
def yX5_greatestOf : MethodName := ⟨RX5, "greatestOf", "(I)I"⟩
abbrev cX5_change : ByteArray := prog_7_method_26_code
def yX5_change : MethodName := ⟨RX5, "change", "(III)I"⟩
abbrev cX5_feels : ByteArray := prog_7_method_27_code
def yX5_feels : MethodName := ⟨RX5, "feels", "(II)I"⟩
abbrev cX5_roomiestBut : ByteArray := prog_7_method_28_code
def yX5_roomiestBut : MethodName := ⟨RX5, "roomiestBut", "(I)I"⟩
abbrev cX5_bearerOf : ByteArray := prog_7_method_29_code
def yX5_bearerOf : MethodName := ⟨RX5, "bearerOf", "(II)I"⟩
abbrev cX5_bearer : ByteArray := prog_7_method_30_code
def yX5_bearer : MethodName := ⟨RX5, "bearer", "(II)I"⟩
abbrev cX5_bears : ByteArray := prog_7_method_31_code
def yX5_bears : MethodName := ⟨RX5, "bears", "(III)V"⟩
abbrev cX5_asksNow : ByteArray := prog_7_method_32_code
def yX5_asksNow : MethodName := ⟨RX5, "asksNow", "(I)V"⟩
abbrev cX5_dayBut : ByteArray := prog_7_method_33_code
def yX5_dayBut : MethodName := ⟨RX5, "dayBut", "(I)V"⟩
abbrev cX5_goes : ByteArray := prog_7_method_34_code
def yX5_goes : MethodName := ⟨RX5, "goes", "(I)V"⟩
abbrev cX5_sumOf : ByteArray := prog_7_method_35_code
def yX5_sumOf : MethodName := ⟨RX5, "sumOf", "(I)I"⟩
abbrev cX5_go : ByteArray := prog_7_method_36_code
def yX5_go : MethodName := ⟨RX5, "go", "(I)I"⟩
abbrev cX5_owedOnes : ByteArray := prog_7_method_37_code
def yX5_owedOnes : MethodName := ⟨RX5, "owedOnes", "()I"⟩
abbrev cX5_now : ByteArray := prog_7_method_38_code
def yX5_now : MethodName := ⟨RX5, "now", "(I)I"⟩
abbrev cX5_thenAt : ByteArray := prog_7_method_39_code
def yX5_thenAt : MethodName := ⟨RX5, "thenAt", "(II)I"⟩
abbrev cX5_ahead : ByteArray := prog_7_method_40_code
def yX5_ahead : MethodName := ⟨RX5, "ahead", "(III)I"⟩
abbrev cX5_hints : ByteArray := prog_7_method_41_code
def yX5_hints : MethodName := ⟨RX5, "hints", "(I)I"⟩
abbrev cX5_even : ByteArray := prog_7_method_42_code
def yX5_even : MethodName := ⟨RX5, "even", "()I"⟩
abbrev cX5_when : ByteArray := prog_7_method_43_code
def yX5_when : MethodName := ⟨RX5, "when", "(II)I"⟩
abbrev cX5_clean : ByteArray := prog_7_method_44_code
def yX5_clean : MethodName := ⟨RX5, "clean", "(I)I"⟩
abbrev cX5_nextPlace : ByteArray := prog_7_method_45_code
def yX5_nextPlace : MethodName := ⟨RX5, "nextPlace", "()I"⟩
abbrev cX5_whom : ByteArray := prog_7_method_46_code
def yX5_whom : MethodName := ⟨RX5, "whom", "(I)I"⟩
abbrev cX5_isEvenOnce : ByteArray := prog_7_method_47_code
def yX5_isEvenOnce : MethodName := ⟨RX5, "isEvenOnce", "(I)Z"⟩
abbrev cX5_weightFor : ByteArray := prog_7_method_48_code
def yX5_weightFor : MethodName := ⟨RX5, "weightFor", "(I)I"⟩
abbrev cX5_isAsked : ByteArray := prog_7_method_49_code
def yX5_isAsked : MethodName := ⟨RX5, "isAsked", "(II)Z"⟩
abbrev cX5_buildFor : ByteArray := prog_7_method_50_code
def yX5_buildFor : MethodName := ⟨RX5, "buildFor", "(II)I"⟩
abbrev cX5_kindFor : ByteArray := prog_7_method_51_code
def yX5_kindFor : MethodName := ⟨RX5, "kindFor", "(II)I"⟩
abbrev cX5_refuse : ByteArray := prog_7_method_52_code
def yX5_refuse : MethodName := ⟨RX5, "refuse", "(III)I"⟩
abbrev cX5_swapFor : ByteArray := prog_7_method_53_code
def yX5_swapFor : MethodName := ⟨RX5, "swapFor", "(I)I"⟩
abbrev cX5_isTold : ByteArray := prog_7_method_54_code
def yX5_isTold : MethodName := ⟨RX5, "isTold", "(II)Z"⟩
abbrev cX5_findsFits : ByteArray := prog_7_method_55_code
def yX5_findsFits : MethodName := ⟨RX5, "findsFits", "(II)V"⟩
abbrev cX5_wantsFor : ByteArray := prog_7_method_56_code
def yX5_wantsFor : MethodName := ⟨RX5, "wantsFor", "(II)I"⟩
abbrev cX5_fits : ByteArray := prog_7_method_57_code
def yX5_fits : MethodName := ⟨RX5, "fits", "(II)I"⟩
abbrev cX5_weighed : ByteArray := prog_7_method_58_code
def yX5_weighed : MethodName := ⟨RX5, "weighed", "(II)I"⟩
abbrev cX5_kinds : ByteArray := prog_7_method_59_code
def yX5_kinds : MethodName := ⟨RX5, "kinds", "(II)I"⟩
abbrev cX5_draw : ByteArray := prog_7_method_60_code
def yX5_draw : MethodName := ⟨RX5, "draw", "()I"⟩
abbrev cX5_gossip : ByteArray := prog_7_method_61_code
def yX5_gossip : MethodName := ⟨RX5, "gossip", "(I)I"⟩
abbrev cX5_odds : ByteArray := prog_7_method_62_code
def yX5_odds : MethodName := ⟨RX5, "odds", "(II)J"⟩
abbrev cX5_seed : ByteArray := prog_7_method_63_code
def yX5_seed : MethodName := ⟨RX5, "seed", "(I)I"⟩
abbrev cX5_feed : ByteArray := prog_7_method_64_code
def yX5_feed : MethodName := ⟨RX5, "feed", "(II)I"⟩
abbrev cX5_wipe : ByteArray := prog_7_method_65_code
def yX5_wipe : MethodName := ⟨RX5, "wipe", "()I"⟩
abbrev cX5_isLetter : ByteArray := prog_7_method_66_code
def yX5_isLetter : MethodName := ⟨RX5, "isLetter", "(I)Z"⟩
abbrev cX5_isDigit : ByteArray := prog_7_method_67_code
def yX5_isDigit : MethodName := ⟨RX5, "isDigit", "(I)Z"⟩
abbrev cX5_byteAt : ByteArray := prog_7_method_68_code
def yX5_byteAt : MethodName := ⟨RX5, "byteAt", "(I)I"⟩
abbrev cX5_nextToken : ByteArray := prog_7_method_69_code
def yX5_nextToken : MethodName := ⟨RX5, "nextToken", "()V"⟩
abbrev cX5_has3 : ByteArray := prog_7_method_70_code
def yX5_has3 : MethodName := ⟨RX5, "has3", "(IIII)Z"⟩
abbrev cX5_isWord : ByteArray := prog_7_method_71_code
def yX5_isWord : MethodName := ⟨RX5, "isWord", "(I)Z"⟩
abbrev cX5_fails : ByteArray := prog_7_method_72_code
def yX5_fails : MethodName := ⟨RX5, "fails", "()Z"⟩
abbrev cX5_isFour : ByteArray := prog_7_method_73_code
def yX5_isFour : MethodName := ⟨RX5, "isFour", "(IIII)Z"⟩
abbrev cX5_isFive : ByteArray := prog_7_method_74_code
def yX5_isFive : MethodName := ⟨RX5, "isFive", "(IIIII)Z"⟩
abbrev cX5_isSix : ByteArray := prog_7_method_75_code
def yX5_isSix : MethodName := ⟨RX5, "isSix", "(IIIIII)Z"⟩
abbrev cX5_isNumber : ByteArray := prog_7_method_76_code
def yX5_isNumber : MethodName := ⟨RX5, "isNumber", "(II)Z"⟩
abbrev cX5_kindHere : ByteArray := prog_7_method_77_code
def yX5_kindHere : MethodName := ⟨RX5, "kindHere", "()I"⟩
abbrev cX5_perhaps : ByteArray := prog_7_method_78_code
def yX5_perhaps : MethodName := ⟨RX5, "perhaps", "(ZII)Z"⟩
abbrev cX5_personHere : ByteArray := prog_7_method_79_code
def yX5_personHere : MethodName := ⟨RX5, "personHere", "(I)Z"⟩
abbrev cX5_saidHere : ByteArray := prog_7_method_80_code
def yX5_saidHere : MethodName := ⟨RX5, "saidHere", "()Z"⟩
abbrev cX5_itemHere : ByteArray := prog_7_method_81_code
def yX5_itemHere : MethodName := ⟨RX5, "itemHere", "()Z"⟩
abbrev cX5_text : ByteArray := prog_7_method_82_code
def yX5_text : MethodName := ⟨RX5, "text", "()I"⟩
abbrev cX5_hold : ByteArray := prog_7_method_83_code
def yX5_hold : MethodName := ⟨RX5, "hold", "(II)I"⟩
abbrev cX5_isUnder : ByteArray := prog_7_method_84_code
def yX5_isUnder : MethodName := ⟨RX5, "isUnder", "(II)Z"⟩
abbrev cX5_as : ByteArray := prog_7_method_85_code
def yX5_as : MethodName := ⟨RX5, "as", "(II)I"⟩
abbrev cX5_isSheet : ByteArray := prog_7_method_86_code
def yX5_isSheet : MethodName := ⟨RX5, "isSheet", "(I)Z"⟩
abbrev cX5_sheet : ByteArray := prog_7_method_87_code
def yX5_sheet : MethodName := ⟨RX5, "sheet", "(III)I"⟩
abbrev cX5_write : ByteArray := prog_7_method_88_code
def yX5_write : MethodName := ⟨RX5, "write", "(III)I"⟩
abbrev cX5_copy : ByteArray := prog_7_method_89_code
def yX5_copy : MethodName := ⟨RX5, "copy", "(IIIII)I"⟩
abbrev cX5_wants : ByteArray := prog_7_method_90_code
def yX5_wants : MethodName := ⟨RX5, "wants", "(I)I"⟩
abbrev cX5_load : ByteArray := prog_7_method_91_code
def yX5_load : MethodName := ⟨RX5, "load", "(I)I"⟩
abbrev cX5_judge : ByteArray := prog_7_method_92_code
def yX5_judge : MethodName := ⟨RX5, "judge", "(I)I"⟩
abbrev cX5_image : ByteArray := prog_7_method_93_code
def yX5_image : MethodName := ⟨RX5, "image", "()I"⟩
abbrev cX5_undo : ByteArray := prog_7_method_94_code
def yX5_undo : MethodName := ⟨RX5, "undo", "()I"⟩
abbrev cX5_tear : ByteArray := prog_7_method_95_code
def yX5_tear : MethodName := ⟨RX5, "tear", "()I"⟩
abbrev cX5_count : ByteArray := prog_7_method_96_code
def yX5_count : MethodName := ⟨RX5, "count", "(I)I"⟩
abbrev cX5_status : ByteArray := prog_7_method_97_code
def yX5_status : MethodName := ⟨RX5, "status", "(I)I"⟩
def RJ6 : String := "java/lang/Integer"
def TJ6 : u_T := fun k => match k with
  | _ => ("", "", "", false)
def tyJ6 : Nat → FieldType := fun k => match k with
  | _ => .int
abbrev cJ6_bitCount_0f7a4 : ByteArray := prog_8_method_49_code
def yJ6_bitCount_0f7a4 : MethodName := ⟨RJ6, "bitCount", "(I)I"⟩
def RJ9 : String := "java/lang/Math"
def TJ9 : u_T := fun k => match k with
  | _ => ("", "", "", false)
def tyJ9 : Nat → FieldType := fun k => match k with
  | _ => .int
abbrev cJ9_max_7cf53 : ByteArray := prog_9_method_65_code
def yJ9_max_7cf53 : MethodName := ⟨RJ9, "max", "(II)I"⟩
abbrev cJ9_min_7cf53 : ByteArray := prog_9_method_69_code
def yJ9_min_7cf53 : MethodName := ⟨RJ9, "min", "(II)I"⟩
def RJ0 : String := "java/lang/String"
def TJ0 : u_T := fun k => match k with
  | _ => ("", "", "", false)
def tyJ0 : Nat → FieldType := fun k => match k with
  | _ => .int
abbrev cJ0_length_8abf5 : ByteArray := prog_10_method_54_code
def yJ0_length_8abf5 : MethodName := ⟨RJ0, "length", "()I"⟩
abbrev cJ0_charAt_5068e : ByteArray := prog_10_method_56_code
def yJ0_charAt_5068e : MethodName := ⟨RJ0, "charAt", "(I)C"⟩
abbrev cJ0_coder_7d493 : ByteArray := prog_10_method_152_code
def yJ0_coder_7d493 : MethodName := ⟨RJ0, "coder", "()B"⟩
abbrev cJ0_isLatin1_aae02 : ByteArray := prog_10_method_154_code
def yJ0_isLatin1_aae02 : MethodName := ⟨RJ0, "isLatin1", "()Z"⟩
abbrev cJ0_checkIndex_df160 : ByteArray := prog_10_method_155_code
def yJ0_checkIndex_df160 : MethodName := ⟨RJ0, "checkIndex", "(II)V"⟩
def RJ1 : String := "java/lang/StringLatin1"
def TJ1 : u_T := fun k => match k with
  | _ => ("", "", "", false)
def tyJ1 : Nat → FieldType := fun k => match k with
  | _ => .int
abbrev cJ1_charAt_3b067 : ByteArray := prog_11_method_2_code
def yJ1_charAt_3b067 : MethodName := ⟨RJ1, "charAt", "([BI)C"⟩
def RJ2 : String := "java/lang/StringUTF16"
def TJ2 : u_T := fun k => match k with
  | _ => ("", "", "", false)
def tyJ2 : Nat → FieldType := fun k => match k with
  | _ => .int
abbrev cJ2_getChar_3b067 : ByteArray := prog_12_method_5_code
def yJ2_getChar_3b067 : MethodName := ⟨RJ2, "getChar", "([BI)C"⟩
abbrev cJ2_length_9d52b : ByteArray := prog_12_method_6_code
def yJ2_length_9d52b : MethodName := ⟨RJ2, "length", "([B)I"⟩
abbrev cJ2_charAt_3b067 : ByteArray := prog_12_method_83_code
def yJ2_charAt_3b067 : MethodName := ⟨RJ2, "charAt", "([BI)C"⟩
abbrev cJ2_checkIndex_2214a : ByteArray := prog_12_method_91_code
def yJ2_checkIndex_2214a : MethodName := ⟨RJ2, "checkIndex", "(I[B)V"⟩
def RJ10 : String := "java/lang/System"
def TJ10 : u_T := fun k => match k with
  | _ => ("", "", "", false)
def tyJ10 : Nat → FieldType := fun k => match k with
  | _ => .int
def RJ3 : String := "jdk/internal/util/Preconditions"
def TJ3 : u_T := fun k => match k with
  | _ => ("", "", "", false)
def tyJ3 : Nat → FieldType := fun k => match k with
  | _ => .int
abbrev cJ3_checkIndex_8e157 : ByteArray := prog_14_method_11_code
def yJ3_checkIndex_8e157 : MethodName := ⟨RJ3, "checkIndex", "(IILjava/util/function/BiFunction;)I"⟩
def RL : String := "ScandalCounterLaw"
abbrev cL_law : ByteArray := code
def yL_law : MethodName := ⟨RL, "law", "([I)Z"⟩
abbrev vwCl : List vw_C := [(RX0, TX0, 8), (RX1, TX1, 5), (RX2, TX2, 6), (RX3, TX3, 3), (RX4, TX4, 7), (RX5, TX5, 18)]
end
section
theorem dX0_init_0 : decode cX0_init 0 = .ok (.aload_n 0, 1) := by decide +kernel
theorem dX0_init_1 : decode cX0_init 1 = .ok (.invokespecial 3, 3) := by decide +kernel
theorem dX0_init_4 : decode cX0_init 4 = .ok (.aload_n 0, 1) := by decide +kernel
theorem dX0_init_5 : decode cX0_init 5 = .ok (.bipush 6, 2) := by decide +kernel
theorem dX0_init_7 : decode cX0_init 7 = .ok (.newarray .int, 2) := by decide +kernel
theorem dX0_init_9 : decode cX0_init 9 = .ok (.putfield 9, 3) := by decide +kernel
theorem dX0_init_12 : decode cX0_init 12 = .ok (.aload_n 0, 1) := by decide +kernel
theorem dX0_init_13 : decode cX0_init 13 = .ok (.bipush 8, 2) := by decide +kernel
theorem dX0_init_15 : decode cX0_init 15 = .ok (.anewarray 15, 3) := by decide +kernel
theorem dX0_init_18 : decode cX0_init 18 = .ok (.putfield 17, 3) := by decide +kernel
theorem dX0_init_21 : decode cX0_init 21 = .ok (.iconst 0, 1) := by decide +kernel
theorem dX0_init_22 : decode cX0_init 22 = .ok (.istore_n 1, 1) := by decide +kernel
theorem dX0_init_23 : decode cX0_init 23 = .ok (.iload_n 1, 1) := by decide +kernel
theorem dX0_init_24 : decode cX0_init 24 = .ok (.bipush 8, 2) := by decide +kernel
theorem dX0_init_26 : decode cX0_init 26 = .ok (.if_icmp .ge 22, 3) := by decide +kernel
theorem dX0_init_29 : decode cX0_init 29 = .ok (.aload_n 0, 1) := by decide +kernel
theorem dX0_init_30 : decode cX0_init 30 = .ok (.getfield 17, 3) := by decide +kernel
theorem dX0_init_33 : decode cX0_init 33 = .ok (.iload_n 1, 1) := by decide +kernel
theorem dX0_init_34 : decode cX0_init 34 = .ok (.new 15, 3) := by decide +kernel
theorem dX0_init_37 : decode cX0_init 37 = .ok (.dup, 1) := by decide +kernel
theorem dX0_init_38 : decode cX0_init 38 = .ok (.invokespecial 21, 3) := by decide +kernel
theorem dX0_init_41 : decode cX0_init 41 = .ok (.aastore, 1) := by decide +kernel
theorem dX0_init_42 : decode cX0_init 42 = .ok (.iinc 1 1, 3) := by decide +kernel
theorem dX0_init_45 : decode cX0_init 45 = .ok (.goto (-22), 3) := by decide +kernel
theorem dX0_init_48 : decode cX0_init 48 = .ok (.aload_n 0, 1) := by decide +kernel
theorem dX0_init_49 : decode cX0_init 49 = .ok (.bipush 10, 2) := by decide +kernel
theorem dX0_init_51 : decode cX0_init 51 = .ok (.newarray .int, 2) := by decide +kernel
theorem dX0_init_53 : decode cX0_init 53 = .ok (.putfield 22, 3) := by decide +kernel
theorem dX0_init_56 : decode cX0_init 56 = .ok (.iconst 0, 1) := by decide +kernel
theorem dX0_init_57 : decode cX0_init 57 = .ok (.istore_n 1, 1) := by decide +kernel
theorem dX0_init_58 : decode cX0_init 58 = .ok (.iload_n 1, 1) := by decide +kernel
theorem dX0_init_59 : decode cX0_init 59 = .ok (.bipush 10, 2) := by decide +kernel
theorem dX0_init_61 : decode cX0_init 61 = .ok (.if_icmp .ge 16, 3) := by decide +kernel
theorem dX0_init_64 : decode cX0_init 64 = .ok (.aload_n 0, 1) := by decide +kernel
theorem dX0_init_65 : decode cX0_init 65 = .ok (.getfield 22, 3) := by decide +kernel
theorem dX0_init_68 : decode cX0_init 68 = .ok (.iload_n 1, 1) := by decide +kernel
theorem dX0_init_69 : decode cX0_init 69 = .ok (.iconst (-1), 1) := by decide +kernel
theorem dX0_init_70 : decode cX0_init 70 = .ok (.iastore, 1) := by decide +kernel
theorem dX0_init_71 : decode cX0_init 71 = .ok (.iinc 1 1, 3) := by decide +kernel
theorem dX0_init_74 : decode cX0_init 74 = .ok (.goto (-16), 3) := by decide +kernel
theorem dX0_init_77 : decode cX0_init 77 = .ok (.aload_n 0, 1) := by decide +kernel
theorem dX0_init_78 : decode cX0_init 78 = .ok (.iconst 1, 1) := by decide +kernel
theorem dX0_init_79 : decode cX0_init 79 = .ok (.putfield 25, 3) := by decide +kernel
theorem dX0_init_82 : decode cX0_init 82 = .ok (.return_, 1) := by decide +kernel
theorem dX0_become_0 : decode cX0_become 0 = .ok (.aload_n 1, 1) := by decide +kernel
theorem dX0_become_1 : decode cX0_become 1 = .ok (.getfield 9, 3) := by decide +kernel
theorem dX0_become_4 : decode cX0_become 4 = .ok (.iconst 0, 1) := by decide +kernel
theorem dX0_become_5 : decode cX0_become 5 = .ok (.aload_n 0, 1) := by decide +kernel
theorem dX0_become_6 : decode cX0_become 6 = .ok (.getfield 9, 3) := by decide +kernel
theorem dX0_become_9 : decode cX0_become 9 = .ok (.iconst 0, 1) := by decide +kernel
theorem dX0_become_10 : decode cX0_become 10 = .ok (.bipush 6, 2) := by decide +kernel
theorem dX0_become_12 : decode cX0_become 12 = .ok (.invokestatic 29, 3) := by decide +kernel
theorem dX0_become_15 : decode cX0_become 15 = .ok (.aload_n 1, 1) := by decide +kernel
theorem dX0_become_16 : decode cX0_become 16 = .ok (.getfield 22, 3) := by decide +kernel
theorem dX0_become_19 : decode cX0_become 19 = .ok (.iconst 0, 1) := by decide +kernel
theorem dX0_become_20 : decode cX0_become 20 = .ok (.aload_n 0, 1) := by decide +kernel
theorem dX0_become_21 : decode cX0_become 21 = .ok (.getfield 22, 3) := by decide +kernel
theorem dX0_become_24 : decode cX0_become 24 = .ok (.iconst 0, 1) := by decide +kernel
theorem dX0_become_25 : decode cX0_become 25 = .ok (.bipush 10, 2) := by decide +kernel
theorem dX0_become_27 : decode cX0_become 27 = .ok (.invokestatic 29, 3) := by decide +kernel
theorem dX0_become_30 : decode cX0_become 30 = .ok (.iconst 0, 1) := by decide +kernel
theorem dX0_become_31 : decode cX0_become 31 = .ok (.istore_n 2, 1) := by decide +kernel
theorem dX0_become_32 : decode cX0_become 32 = .ok (.iload_n 2, 1) := by decide +kernel
theorem dX0_become_33 : decode cX0_become 33 = .ok (.aload_n 1, 1) := by decide +kernel
theorem dX0_become_34 : decode cX0_become 34 = .ok (.getfield 35, 3) := by decide +kernel
theorem dX0_become_37 : decode cX0_become 37 = .ok (.if_icmp .ge 24, 3) := by decide +kernel
theorem dX0_become_40 : decode cX0_become 40 = .ok (.aload_n 0, 1) := by decide +kernel
theorem dX0_become_41 : decode cX0_become 41 = .ok (.getfield 17, 3) := by decide +kernel
theorem dX0_become_44 : decode cX0_become 44 = .ok (.iload_n 2, 1) := by decide +kernel
theorem dX0_become_45 : decode cX0_become 45 = .ok (.aaload, 1) := by decide +kernel
theorem dX0_become_46 : decode cX0_become 46 = .ok (.aload_n 1, 1) := by decide +kernel
theorem dX0_become_47 : decode cX0_become 47 = .ok (.getfield 17, 3) := by decide +kernel
theorem dX0_become_50 : decode cX0_become 50 = .ok (.iload_n 2, 1) := by decide +kernel
theorem dX0_become_51 : decode cX0_become 51 = .ok (.aaload, 1) := by decide +kernel
theorem dX0_become_52 : decode cX0_become 52 = .ok (.invokevirtual 38, 3) := by decide +kernel
theorem dX0_become_55 : decode cX0_become 55 = .ok (.iinc 2 1, 3) := by decide +kernel
theorem dX0_become_58 : decode cX0_become 58 = .ok (.goto (-26), 3) := by decide +kernel
theorem dX0_become_61 : decode cX0_become 61 = .ok (.aload_n 0, 1) := by decide +kernel
theorem dX0_become_62 : decode cX0_become 62 = .ok (.aload_n 1, 1) := by decide +kernel
theorem dX0_become_63 : decode cX0_become 63 = .ok (.getfield 35, 3) := by decide +kernel
theorem dX0_become_66 : decode cX0_become 66 = .ok (.putfield 35, 3) := by decide +kernel
theorem dX0_become_69 : decode cX0_become 69 = .ok (.aload_n 0, 1) := by decide +kernel
theorem dX0_become_70 : decode cX0_become 70 = .ok (.aload_n 1, 1) := by decide +kernel
theorem dX0_become_71 : decode cX0_become 71 = .ok (.getfield 42, 3) := by decide +kernel
theorem dX0_become_74 : decode cX0_become 74 = .ok (.putfield 42, 3) := by decide +kernel
theorem dX0_become_77 : decode cX0_become 77 = .ok (.aload_n 0, 1) := by decide +kernel
theorem dX0_become_78 : decode cX0_become 78 = .ok (.aload_n 1, 1) := by decide +kernel
theorem dX0_become_79 : decode cX0_become 79 = .ok (.getfield 45, 3) := by decide +kernel
theorem dX0_become_82 : decode cX0_become 82 = .ok (.putfield 45, 3) := by decide +kernel
theorem dX0_become_85 : decode cX0_become 85 = .ok (.aload_n 0, 1) := by decide +kernel
theorem dX0_become_86 : decode cX0_become 86 = .ok (.aload_n 1, 1) := by decide +kernel
theorem dX0_become_87 : decode cX0_become 87 = .ok (.getfield 25, 3) := by decide +kernel
theorem dX0_become_90 : decode cX0_become 90 = .ok (.putfield 25, 3) := by decide +kernel
theorem dX0_become_93 : decode cX0_become 93 = .ok (.aload_n 0, 1) := by decide +kernel
theorem dX0_become_94 : decode cX0_become 94 = .ok (.aload_n 1, 1) := by decide +kernel
theorem dX0_become_95 : decode cX0_become 95 = .ok (.getfield 48, 3) := by decide +kernel
theorem dX0_become_98 : decode cX0_become 98 = .ok (.putfield 48, 3) := by decide +kernel
theorem dX0_become_101 : decode cX0_become 101 = .ok (.return_, 1) := by decide +kernel
theorem dX0_has_0 : decode cX0_has 0 = .ok (.iload_n 1, 1) := by decide +kernel
theorem dX0_has_1 : decode cX0_has 1 = .ok (.ifCond .lt 15, 3) := by decide +kernel
theorem dX0_has_4 : decode cX0_has 4 = .ok (.iload_n 1, 1) := by decide +kernel
theorem dX0_has_5 : decode cX0_has 5 = .ok (.aload_n 0, 1) := by decide +kernel
theorem dX0_has_6 : decode cX0_has 6 = .ok (.getfield 35, 3) := by decide +kernel
theorem dX0_has_9 : decode cX0_has 9 = .ok (.if_icmp .ge 7, 3) := by decide +kernel
theorem dX0_has_12 : decode cX0_has 12 = .ok (.iconst 1, 1) := by decide +kernel
theorem dX0_has_13 : decode cX0_has 13 = .ok (.goto 4, 3) := by decide +kernel
theorem dX0_has_16 : decode cX0_has 16 = .ok (.iconst 0, 1) := by decide +kernel
theorem dX0_has_17 : decode cX0_has 17 = .ok (.ireturn, 1) := by decide +kernel
theorem dX0_add_0 : decode cX0_add 0 = .ok (.aload_n 0, 1) := by decide +kernel
theorem dX0_add_1 : decode cX0_add 1 = .ok (.getfield 35, 3) := by decide +kernel
theorem dX0_add_4 : decode cX0_add 4 = .ok (.bipush 8, 2) := by decide +kernel
theorem dX0_add_6 : decode cX0_add 6 = .ok (.if_icmp .lt 5, 3) := by decide +kernel
theorem dX0_add_9 : decode cX0_add 9 = .ok (.iconst (-1), 1) := by decide +kernel
theorem dX0_add_10 : decode cX0_add 10 = .ok (.ireturn, 1) := by decide +kernel
theorem dX0_add_11 : decode cX0_add 11 = .ok (.aload_n 0, 1) := by decide +kernel
theorem dX0_add_12 : decode cX0_add 12 = .ok (.getfield 17, 3) := by decide +kernel
theorem dX0_add_15 : decode cX0_add 15 = .ok (.aload_n 0, 1) := by decide +kernel
theorem dX0_add_16 : decode cX0_add 16 = .ok (.getfield 35, 3) := by decide +kernel
theorem dX0_add_19 : decode cX0_add 19 = .ok (.aaload, 1) := by decide +kernel
theorem dX0_add_20 : decode cX0_add 20 = .ok (.iload_n 1, 1) := by decide +kernel
theorem dX0_add_21 : decode cX0_add 21 = .ok (.iload_n 2, 1) := by decide +kernel
theorem dX0_add_22 : decode cX0_add 22 = .ok (.invokevirtual 51, 3) := by decide +kernel
theorem dX0_add_25 : decode cX0_add 25 = .ok (.aload_n 0, 1) := by decide +kernel
theorem dX0_add_26 : decode cX0_add 26 = .ok (.dup, 1) := by decide +kernel
theorem dX0_add_27 : decode cX0_add 27 = .ok (.getfield 35, 3) := by decide +kernel
theorem dX0_add_30 : decode cX0_add 30 = .ok (.iconst 1, 1) := by decide +kernel
theorem dX0_add_31 : decode cX0_add 31 = .ok (.iadd, 1) := by decide +kernel
theorem dX0_add_32 : decode cX0_add 32 = .ok (.putfield 35, 3) := by decide +kernel
theorem dX0_add_35 : decode cX0_add 35 = .ok (.aload_n 0, 1) := by decide +kernel
theorem dX0_add_36 : decode cX0_add 36 = .ok (.getfield 35, 3) := by decide +kernel
theorem dX0_add_39 : decode cX0_add 39 = .ok (.iconst 1, 1) := by decide +kernel
theorem dX0_add_40 : decode cX0_add 40 = .ok (.isub, 1) := by decide +kernel
theorem dX0_add_41 : decode cX0_add 41 = .ok (.ireturn, 1) := by decide +kernel
theorem dX0_sumOf_0 : decode cX0_sumOf 0 = .ok (.iconst 0, 1) := by decide +kernel
theorem dX0_sumOf_1 : decode cX0_sumOf 1 = .ok (.istore_n 2, 1) := by decide +kernel
theorem dX0_sumOf_2 : decode cX0_sumOf 2 = .ok (.iconst 0, 1) := by decide +kernel
theorem dX0_sumOf_3 : decode cX0_sumOf 3 = .ok (.istore_n 3, 1) := by decide +kernel
theorem dX0_sumOf_4 : decode cX0_sumOf 4 = .ok (.iload_n 3, 1) := by decide +kernel
theorem dX0_sumOf_5 : decode cX0_sumOf 5 = .ok (.aload_n 0, 1) := by decide +kernel
theorem dX0_sumOf_6 : decode cX0_sumOf 6 = .ok (.getfield 35, 3) := by decide +kernel
theorem dX0_sumOf_9 : decode cX0_sumOf 9 = .ok (.if_icmp .ge 22, 3) := by decide +kernel
theorem dX0_sumOf_12 : decode cX0_sumOf 12 = .ok (.iload_n 2, 1) := by decide +kernel
theorem dX0_sumOf_13 : decode cX0_sumOf 13 = .ok (.aload_n 0, 1) := by decide +kernel
theorem dX0_sumOf_14 : decode cX0_sumOf 14 = .ok (.getfield 17, 3) := by decide +kernel
theorem dX0_sumOf_17 : decode cX0_sumOf 17 = .ok (.iload_n 3, 1) := by decide +kernel
theorem dX0_sumOf_18 : decode cX0_sumOf 18 = .ok (.aaload, 1) := by decide +kernel
theorem dX0_sumOf_19 : decode cX0_sumOf 19 = .ok (.iload_n 1, 1) := by decide +kernel
theorem dX0_sumOf_20 : decode cX0_sumOf 20 = .ok (.invokevirtual 55, 3) := by decide +kernel
theorem dX0_sumOf_23 : decode cX0_sumOf 23 = .ok (.iadd, 1) := by decide +kernel
theorem dX0_sumOf_24 : decode cX0_sumOf 24 = .ok (.istore_n 2, 1) := by decide +kernel
theorem dX0_sumOf_25 : decode cX0_sumOf 25 = .ok (.iinc 3 1, 3) := by decide +kernel
theorem dX0_sumOf_28 : decode cX0_sumOf 28 = .ok (.goto (-24), 3) := by decide +kernel
theorem dX0_sumOf_31 : decode cX0_sumOf 31 = .ok (.iload_n 2, 1) := by decide +kernel
theorem dX0_sumOf_32 : decode cX0_sumOf 32 = .ok (.ireturn, 1) := by decide +kernel
theorem dX0_owedSet_0 : decode cX0_owedSet 0 = .ok (.iconst 0, 1) := by decide +kernel
theorem dX0_owedSet_1 : decode cX0_owedSet 1 = .ok (.istore_n 1, 1) := by decide +kernel
theorem dX0_owedSet_2 : decode cX0_owedSet 2 = .ok (.iconst 0, 1) := by decide +kernel
theorem dX0_owedSet_3 : decode cX0_owedSet 3 = .ok (.istore_n 2, 1) := by decide +kernel
theorem dX0_owedSet_4 : decode cX0_owedSet 4 = .ok (.iload_n 2, 1) := by decide +kernel
theorem dX0_owedSet_5 : decode cX0_owedSet 5 = .ok (.aload_n 0, 1) := by decide +kernel
theorem dX0_owedSet_6 : decode cX0_owedSet 6 = .ok (.getfield 35, 3) := by decide +kernel
theorem dX0_owedSet_9 : decode cX0_owedSet 9 = .ok (.if_icmp .ge 27, 3) := by decide +kernel
theorem dX0_owedSet_12 : decode cX0_owedSet 12 = .ok (.aload_n 0, 1) := by decide +kernel
theorem dX0_owedSet_13 : decode cX0_owedSet 13 = .ok (.getfield 17, 3) := by decide +kernel
theorem dX0_owedSet_16 : decode cX0_owedSet 16 = .ok (.iload_n 2, 1) := by decide +kernel
theorem dX0_owedSet_17 : decode cX0_owedSet 17 = .ok (.aaload, 1) := by decide +kernel
theorem dX0_owedSet_18 : decode cX0_owedSet 18 = .ok (.getfield 59, 3) := by decide +kernel
theorem dX0_owedSet_21 : decode cX0_owedSet 21 = .ok (.ifCond .le 9, 3) := by decide +kernel
theorem dX0_owedSet_24 : decode cX0_owedSet 24 = .ok (.iload_n 1, 1) := by decide +kernel
theorem dX0_owedSet_25 : decode cX0_owedSet 25 = .ok (.iconst 1, 1) := by decide +kernel
theorem dX0_owedSet_26 : decode cX0_owedSet 26 = .ok (.iload_n 2, 1) := by decide +kernel
theorem dX0_owedSet_27 : decode cX0_owedSet 27 = .ok (.ishl, 1) := by decide +kernel
theorem dX0_owedSet_28 : decode cX0_owedSet 28 = .ok (.ior, 1) := by decide +kernel
theorem dX0_owedSet_29 : decode cX0_owedSet 29 = .ok (.istore_n 1, 1) := by decide +kernel
theorem dX0_owedSet_30 : decode cX0_owedSet 30 = .ok (.iinc 2 1, 3) := by decide +kernel
theorem dX0_owedSet_33 : decode cX0_owedSet 33 = .ok (.goto (-29), 3) := by decide +kernel
theorem dX0_owedSet_36 : decode cX0_owedSet 36 = .ok (.iload_n 1, 1) := by decide +kernel
theorem dX0_owedSet_37 : decode cX0_owedSet 37 = .ok (.ireturn, 1) := by decide +kernel
theorem dX0_isEven_0 : decode cX0_isEven 0 = .ok (.aload_n 0, 1) := by decide +kernel
theorem dX0_isEven_1 : decode cX0_isEven 1 = .ok (.invokevirtual 62, 3) := by decide +kernel
theorem dX0_isEven_4 : decode cX0_isEven 4 = .ok (.ifCond .ne 7, 3) := by decide +kernel
theorem dX0_isEven_7 : decode cX0_isEven 7 = .ok (.iconst 1, 1) := by decide +kernel
theorem dX0_isEven_8 : decode cX0_isEven 8 = .ok (.goto 4, 3) := by decide +kernel
theorem dX0_isEven_11 : decode cX0_isEven 11 = .ok (.iconst 0, 1) := by decide +kernel
theorem dX0_isEven_12 : decode cX0_isEven 12 = .ok (.ireturn, 1) := by decide +kernel
theorem dX0_withRoom_0 : decode cX0_withRoom 0 = .ok (.iconst 0, 1) := by decide +kernel
theorem dX0_withRoom_1 : decode cX0_withRoom 1 = .ok (.istore_n 1, 1) := by decide +kernel
theorem dX0_withRoom_2 : decode cX0_withRoom 2 = .ok (.iconst 0, 1) := by decide +kernel
theorem dX0_withRoom_3 : decode cX0_withRoom 3 = .ok (.istore_n 2, 1) := by decide +kernel
theorem dX0_withRoom_4 : decode cX0_withRoom 4 = .ok (.iload_n 2, 1) := by decide +kernel
theorem dX0_withRoom_5 : decode cX0_withRoom 5 = .ok (.aload_n 0, 1) := by decide +kernel
theorem dX0_withRoom_6 : decode cX0_withRoom 6 = .ok (.getfield 35, 3) := by decide +kernel
theorem dX0_withRoom_9 : decode cX0_withRoom 9 = .ok (.if_icmp .ge 24, 3) := by decide +kernel
theorem dX0_withRoom_12 : decode cX0_withRoom 12 = .ok (.aload_n 0, 1) := by decide +kernel
theorem dX0_withRoom_13 : decode cX0_withRoom 13 = .ok (.getfield 17, 3) := by decide +kernel
theorem dX0_withRoom_16 : decode cX0_withRoom 16 = .ok (.iload_n 2, 1) := by decide +kernel
theorem dX0_withRoom_17 : decode cX0_withRoom 17 = .ok (.aaload, 1) := by decide +kernel
theorem dX0_withRoom_18 : decode cX0_withRoom 18 = .ok (.invokevirtual 66, 3) := by decide +kernel
theorem dX0_withRoom_21 : decode cX0_withRoom 21 = .ok (.ifCond .le 6, 3) := by decide +kernel
theorem dX0_withRoom_24 : decode cX0_withRoom 24 = .ok (.iinc 1 1, 3) := by decide +kernel
theorem dX0_withRoom_27 : decode cX0_withRoom 27 = .ok (.iinc 2 1, 3) := by decide +kernel
theorem dX0_withRoom_30 : decode cX0_withRoom 30 = .ok (.goto (-26), 3) := by decide +kernel
theorem dX0_withRoom_33 : decode cX0_withRoom 33 = .ok (.iload_n 1, 1) := by decide +kernel
theorem dX0_withRoom_34 : decode cX0_withRoom 34 = .ok (.ireturn, 1) := by decide +kernel
theorem dX0_spotsInUse_0 : decode cX0_spotsInUse 0 = .ok (.iconst 0, 1) := by decide +kernel
theorem dX0_spotsInUse_1 : decode cX0_spotsInUse 1 = .ok (.istore_n 1, 1) := by decide +kernel
theorem dX0_spotsInUse_2 : decode cX0_spotsInUse 2 = .ok (.iconst 0, 1) := by decide +kernel
theorem dX0_spotsInUse_3 : decode cX0_spotsInUse 3 = .ok (.istore_n 2, 1) := by decide +kernel
theorem dX0_spotsInUse_4 : decode cX0_spotsInUse 4 = .ok (.iload_n 2, 1) := by decide +kernel
theorem dX0_spotsInUse_5 : decode cX0_spotsInUse 5 = .ok (.bipush 10, 2) := by decide +kernel
theorem dX0_spotsInUse_7 : decode cX0_spotsInUse 7 = .ok (.if_icmp .ge 22, 3) := by decide +kernel
theorem dX0_spotsInUse_10 : decode cX0_spotsInUse 10 = .ok (.aload_n 0, 1) := by decide +kernel
theorem dX0_spotsInUse_11 : decode cX0_spotsInUse 11 = .ok (.getfield 22, 3) := by decide +kernel
theorem dX0_spotsInUse_14 : decode cX0_spotsInUse 14 = .ok (.iload_n 2, 1) := by decide +kernel
theorem dX0_spotsInUse_15 : decode cX0_spotsInUse 15 = .ok (.iaload, 1) := by decide +kernel
theorem dX0_spotsInUse_16 : decode cX0_spotsInUse 16 = .ok (.iconst (-1), 1) := by decide +kernel
theorem dX0_spotsInUse_17 : decode cX0_spotsInUse 17 = .ok (.if_icmp .eq 6, 3) := by decide +kernel
theorem dX0_spotsInUse_20 : decode cX0_spotsInUse 20 = .ok (.iinc 1 1, 3) := by decide +kernel
theorem dX0_spotsInUse_23 : decode cX0_spotsInUse 23 = .ok (.iinc 2 1, 3) := by decide +kernel
theorem dX0_spotsInUse_26 : decode cX0_spotsInUse 26 = .ok (.goto (-22), 3) := by decide +kernel
theorem dX0_spotsInUse_29 : decode cX0_spotsInUse 29 = .ok (.iload_n 1, 1) := by decide +kernel
theorem dX0_spotsInUse_30 : decode cX0_spotsInUse 30 = .ok (.ireturn, 1) := by decide +kernel
theorem dX0_roomiestBut_0 : decode cX0_roomiestBut 0 = .ok (.iconst (-1), 1) := by decide +kernel
theorem dX0_roomiestBut_1 : decode cX0_roomiestBut 1 = .ok (.istore_n 2, 1) := by decide +kernel
theorem dX0_roomiestBut_2 : decode cX0_roomiestBut 2 = .ok (.iconst (-1), 1) := by decide +kernel
theorem dX0_roomiestBut_3 : decode cX0_roomiestBut 3 = .ok (.istore_n 3, 1) := by decide +kernel
theorem dX0_roomiestBut_4 : decode cX0_roomiestBut 4 = .ok (.iconst 0, 1) := by decide +kernel
theorem dX0_roomiestBut_5 : decode cX0_roomiestBut 5 = .ok (.istore 4, 2) := by decide +kernel
theorem dX0_roomiestBut_7 : decode cX0_roomiestBut 7 = .ok (.iload 4, 2) := by decide +kernel
theorem dX0_roomiestBut_9 : decode cX0_roomiestBut 9 = .ok (.aload_n 0, 1) := by decide +kernel
theorem dX0_roomiestBut_10 : decode cX0_roomiestBut 10 = .ok (.getfield 35, 3) := by decide +kernel
theorem dX0_roomiestBut_13 : decode cX0_roomiestBut 13 = .ok (.if_icmp .ge 43, 3) := by decide +kernel
theorem dX0_roomiestBut_16 : decode cX0_roomiestBut 16 = .ok (.iload 4, 2) := by decide +kernel
theorem dX0_roomiestBut_18 : decode cX0_roomiestBut 18 = .ok (.iload_n 1, 1) := by decide +kernel
theorem dX0_roomiestBut_19 : decode cX0_roomiestBut 19 = .ok (.if_icmp .ne 7, 3) := by decide +kernel
theorem dX0_roomiestBut_22 : decode cX0_roomiestBut 22 = .ok (.iconst (-1), 1) := by decide +kernel
theorem dX0_roomiestBut_23 : decode cX0_roomiestBut 23 = .ok (.goto 13, 3) := by decide +kernel
theorem dX0_roomiestBut_26 : decode cX0_roomiestBut 26 = .ok (.aload_n 0, 1) := by decide +kernel
theorem dX0_roomiestBut_27 : decode cX0_roomiestBut 27 = .ok (.getfield 17, 3) := by decide +kernel
theorem dX0_roomiestBut_30 : decode cX0_roomiestBut 30 = .ok (.iload 4, 2) := by decide +kernel
theorem dX0_roomiestBut_32 : decode cX0_roomiestBut 32 = .ok (.aaload, 1) := by decide +kernel
theorem dX0_roomiestBut_33 : decode cX0_roomiestBut 33 = .ok (.invokevirtual 66, 3) := by decide +kernel
theorem dX0_roomiestBut_36 : decode cX0_roomiestBut 36 = .ok (.istore 5, 2) := by decide +kernel
theorem dX0_roomiestBut_38 : decode cX0_roomiestBut 38 = .ok (.iload 5, 2) := by decide +kernel
theorem dX0_roomiestBut_40 : decode cX0_roomiestBut 40 = .ok (.iload_n 3, 1) := by decide +kernel
theorem dX0_roomiestBut_41 : decode cX0_roomiestBut 41 = .ok (.if_icmp .le 9, 3) := by decide +kernel
theorem dX0_roomiestBut_44 : decode cX0_roomiestBut 44 = .ok (.iload 5, 2) := by decide +kernel
theorem dX0_roomiestBut_46 : decode cX0_roomiestBut 46 = .ok (.istore_n 3, 1) := by decide +kernel
theorem dX0_roomiestBut_47 : decode cX0_roomiestBut 47 = .ok (.iload 4, 2) := by decide +kernel
theorem dX0_roomiestBut_49 : decode cX0_roomiestBut 49 = .ok (.istore_n 2, 1) := by decide +kernel
theorem dX0_roomiestBut_50 : decode cX0_roomiestBut 50 = .ok (.iinc 4 1, 3) := by decide +kernel
theorem dX0_roomiestBut_53 : decode cX0_roomiestBut 53 = .ok (.goto (-46), 3) := by decide +kernel
theorem dX0_roomiestBut_56 : decode cX0_roomiestBut 56 = .ok (.iload_n 2, 1) := by decide +kernel
theorem dX0_roomiestBut_57 : decode cX0_roomiestBut 57 = .ok (.ireturn, 1) := by decide +kernel
theorem dX0_bears_0 : decode cX0_bears 0 = .ok (.aload_n 0, 1) := by decide +kernel
theorem dX0_bears_1 : decode cX0_bears 1 = .ok (.iload_n 1, 1) := by decide +kernel
theorem dX0_bears_2 : decode cX0_bears 2 = .ok (.invokevirtual 69, 3) := by decide +kernel
theorem dX0_bears_5 : decode cX0_bears 5 = .ok (.ifCond .eq 20, 3) := by decide +kernel
theorem dX0_bears_8 : decode cX0_bears 8 = .ok (.aload_n 0, 1) := by decide +kernel
theorem dX0_bears_9 : decode cX0_bears 9 = .ok (.getfield 17, 3) := by decide +kernel
theorem dX0_bears_12 : decode cX0_bears 12 = .ok (.iload_n 1, 1) := by decide +kernel
theorem dX0_bears_13 : decode cX0_bears 13 = .ok (.aaload, 1) := by decide +kernel
theorem dX0_bears_14 : decode cX0_bears 14 = .ok (.invokevirtual 66, 3) := by decide +kernel
theorem dX0_bears_17 : decode cX0_bears 17 = .ok (.iload_n 2, 1) := by decide +kernel
theorem dX0_bears_18 : decode cX0_bears 18 = .ok (.if_icmp .lt 7, 3) := by decide +kernel
theorem dX0_bears_21 : decode cX0_bears 21 = .ok (.iconst 1, 1) := by decide +kernel
theorem dX0_bears_22 : decode cX0_bears 22 = .ok (.goto 4, 3) := by decide +kernel
theorem dX0_bears_25 : decode cX0_bears 25 = .ok (.iconst 0, 1) := by decide +kernel
theorem dX0_bears_26 : decode cX0_bears 26 = .ok (.ireturn, 1) := by decide +kernel
theorem dX0_nextWhom_0 : decode cX0_nextWhom 0 = .ok (.aload_n 0, 1) := by decide +kernel
theorem dX0_nextWhom_1 : decode cX0_nextWhom 1 = .ok (.getfield 9, 3) := by decide +kernel
theorem dX0_nextWhom_4 : decode cX0_nextWhom 4 = .ok (.aload_n 0, 1) := by decide +kernel
theorem dX0_nextWhom_5 : decode cX0_nextWhom 5 = .ok (.getfield 45, 3) := by decide +kernel
theorem dX0_nextWhom_8 : decode cX0_nextWhom 8 = .ok (.bipush 6, 2) := by decide +kernel
theorem dX0_nextWhom_10 : decode cX0_nextWhom 10 = .ok (.irem, 1) := by decide +kernel
theorem dX0_nextWhom_11 : decode cX0_nextWhom 11 = .ok (.iaload, 1) := by decide +kernel
theorem dX0_nextWhom_12 : decode cX0_nextWhom 12 = .ok (.bipush 100, 2) := by decide +kernel
theorem dX0_nextWhom_14 : decode cX0_nextWhom 14 = .ok (.idiv, 1) := by decide +kernel
theorem dX0_nextWhom_15 : decode cX0_nextWhom 15 = .ok (.ireturn, 1) := by decide +kernel
theorem dX0_nextWeight_0 : decode cX0_nextWeight 0 = .ok (.aload_n 0, 1) := by decide +kernel
theorem dX0_nextWeight_1 : decode cX0_nextWeight 1 = .ok (.getfield 9, 3) := by decide +kernel
theorem dX0_nextWeight_4 : decode cX0_nextWeight 4 = .ok (.aload_n 0, 1) := by decide +kernel
theorem dX0_nextWeight_5 : decode cX0_nextWeight 5 = .ok (.getfield 45, 3) := by decide +kernel
theorem dX0_nextWeight_8 : decode cX0_nextWeight 8 = .ok (.bipush 6, 2) := by decide +kernel
theorem dX0_nextWeight_10 : decode cX0_nextWeight 10 = .ok (.irem, 1) := by decide +kernel
theorem dX0_nextWeight_11 : decode cX0_nextWeight 11 = .ok (.iaload, 1) := by decide +kernel
theorem dX0_nextWeight_12 : decode cX0_nextWeight 12 = .ok (.bipush 100, 2) := by decide +kernel
theorem dX0_nextWeight_14 : decode cX0_nextWeight 14 = .ok (.irem, 1) := by decide +kernel
theorem dX0_nextWeight_15 : decode cX0_nextWeight 15 = .ok (.ireturn, 1) := by decide +kernel
theorem dX0_setNext_0 : decode cX0_setNext 0 = .ok (.aload_n 0, 1) := by decide +kernel
theorem dX0_setNext_1 : decode cX0_setNext 1 = .ok (.getfield 9, 3) := by decide +kernel
theorem dX0_setNext_4 : decode cX0_setNext 4 = .ok (.aload_n 0, 1) := by decide +kernel
theorem dX0_setNext_5 : decode cX0_setNext 5 = .ok (.getfield 45, 3) := by decide +kernel
theorem dX0_setNext_8 : decode cX0_setNext 8 = .ok (.bipush 6, 2) := by decide +kernel
theorem dX0_setNext_10 : decode cX0_setNext 10 = .ok (.irem, 1) := by decide +kernel
theorem dX0_setNext_11 : decode cX0_setNext 11 = .ok (.iload_n 1, 1) := by decide +kernel
theorem dX0_setNext_12 : decode cX0_setNext 12 = .ok (.iload_n 2, 1) := by decide +kernel
theorem dX0_setNext_13 : decode cX0_setNext 13 = .ok (.invokestatic 73, 3) := by decide +kernel
theorem dX0_setNext_16 : decode cX0_setNext 16 = .ok (.iastore, 1) := by decide +kernel
theorem dX0_setNext_17 : decode cX0_setNext 17 = .ok (.return_, 1) := by decide +kernel
theorem dX0_draw_0 : decode cX0_draw 0 = .ok (.aload_n 0, 1) := by decide +kernel
theorem dX0_draw_1 : decode cX0_draw 1 = .ok (.aload_n 0, 1) := by decide +kernel
theorem dX0_draw_2 : decode cX0_draw 2 = .ok (.getfield 25, 3) := by decide +kernel
theorem dX0_draw_5 : decode cX0_draw 5 = .ok (.ldc 77, 2) := by decide +kernel
theorem dX0_draw_7 : decode cX0_draw 7 = .ok (.imul, 1) := by decide +kernel
theorem dX0_draw_8 : decode cX0_draw 8 = .ok (.sipush 12345, 3) := by decide +kernel
theorem dX0_draw_11 : decode cX0_draw 11 = .ok (.iadd, 1) := by decide +kernel
theorem dX0_draw_12 : decode cX0_draw 12 = .ok (.putfield 25, 3) := by decide +kernel
theorem dX0_draw_15 : decode cX0_draw 15 = .ok (.aload_n 0, 1) := by decide +kernel
theorem dX0_draw_16 : decode cX0_draw 16 = .ok (.getfield 25, 3) := by decide +kernel
theorem dX0_draw_19 : decode cX0_draw 19 = .ok (.bipush 8, 2) := by decide +kernel
theorem dX0_draw_21 : decode cX0_draw 21 = .ok (.iushr, 1) := by decide +kernel
theorem dX0_draw_22 : decode cX0_draw 22 = .ok (.ireturn, 1) := by decide +kernel
theorem dX0_passDays_0 : decode cX0_passDays 0 = .ok (.iconst 0, 1) := by decide +kernel
theorem dX0_passDays_1 : decode cX0_passDays 1 = .ok (.istore_n 2, 1) := by decide +kernel
theorem dX0_passDays_2 : decode cX0_passDays 2 = .ok (.iload_n 2, 1) := by decide +kernel
theorem dX0_passDays_3 : decode cX0_passDays 3 = .ok (.iload_n 1, 1) := by decide +kernel
theorem dX0_passDays_4 : decode cX0_passDays 4 = .ok (.if_icmp .ge 13, 3) := by decide +kernel
theorem dX0_passDays_7 : decode cX0_passDays 7 = .ok (.aload_n 0, 1) := by decide +kernel
theorem dX0_passDays_8 : decode cX0_passDays 8 = .ok (.invokevirtual 78, 3) := by decide +kernel
theorem dX0_passDays_11 : decode cX0_passDays 11 = .ok (.iinc 2 1, 3) := by decide +kernel
theorem dX0_passDays_14 : decode cX0_passDays 14 = .ok (.goto (-12), 3) := by decide +kernel
theorem dX0_passDays_17 : decode cX0_passDays 17 = .ok (.return_, 1) := by decide +kernel
theorem dX0_isEvenWithin_0 : decode cX0_isEvenWithin 0 = .ok (.iconst 0, 1) := by decide +kernel
theorem dX0_isEvenWithin_1 : decode cX0_isEvenWithin 1 = .ok (.istore_n 2, 1) := by decide +kernel
theorem dX0_isEvenWithin_2 : decode cX0_isEvenWithin 2 = .ok (.iload_n 2, 1) := by decide +kernel
theorem dX0_isEvenWithin_3 : decode cX0_isEvenWithin 3 = .ok (.iload_n 1, 1) := by decide +kernel
theorem dX0_isEvenWithin_4 : decode cX0_isEvenWithin 4 = .ok (.if_icmp .ge 22, 3) := by decide +kernel
theorem dX0_isEvenWithin_7 : decode cX0_isEvenWithin 7 = .ok (.aload_n 0, 1) := by decide +kernel
theorem dX0_isEvenWithin_8 : decode cX0_isEvenWithin 8 = .ok (.invokevirtual 78, 3) := by decide +kernel
theorem dX0_isEvenWithin_11 : decode cX0_isEvenWithin 11 = .ok (.aload_n 0, 1) := by decide +kernel
theorem dX0_isEvenWithin_12 : decode cX0_isEvenWithin 12 = .ok (.invokevirtual 81, 3) := by decide +kernel
theorem dX0_isEvenWithin_15 : decode cX0_isEvenWithin 15 = .ok (.ifCond .eq 5, 3) := by decide +kernel
theorem dX0_isEvenWithin_18 : decode cX0_isEvenWithin 18 = .ok (.iconst 1, 1) := by decide +kernel
theorem dX0_isEvenWithin_19 : decode cX0_isEvenWithin 19 = .ok (.ireturn, 1) := by decide +kernel
theorem dX0_isEvenWithin_20 : decode cX0_isEvenWithin 20 = .ok (.iinc 2 1, 3) := by decide +kernel
theorem dX0_isEvenWithin_23 : decode cX0_isEvenWithin 23 = .ok (.goto (-21), 3) := by decide +kernel
theorem dX0_isEvenWithin_26 : decode cX0_isEvenWithin 26 = .ok (.iconst 0, 1) := by decide +kernel
theorem dX0_isEvenWithin_27 : decode cX0_isEvenWithin 27 = .ok (.ireturn, 1) := by decide +kernel
theorem dX0_keepsHints_0 : decode cX0_keepsHints 0 = .ok (.aload_n 0, 1) := by decide +kernel
theorem dX0_keepsHints_1 : decode cX0_keepsHints 1 = .ok (.getfield 42, 3) := by decide +kernel
theorem dX0_keepsHints_4 : decode cX0_keepsHints 4 = .ok (.istore_n 2, 1) := by decide +kernel
theorem dX0_keepsHints_5 : decode cX0_keepsHints 5 = .ok (.iconst 0, 1) := by decide +kernel
theorem dX0_keepsHints_6 : decode cX0_keepsHints 6 = .ok (.istore_n 3, 1) := by decide +kernel
theorem dX0_keepsHints_7 : decode cX0_keepsHints 7 = .ok (.iload_n 3, 1) := by decide +kernel
theorem dX0_keepsHints_8 : decode cX0_keepsHints 8 = .ok (.iload_n 1, 1) := by decide +kernel
theorem dX0_keepsHints_9 : decode cX0_keepsHints 9 = .ok (.if_icmp .ge 21, 3) := by decide +kernel
theorem dX0_keepsHints_12 : decode cX0_keepsHints 12 = .ok (.aload_n 0, 1) := by decide +kernel
theorem dX0_keepsHints_13 : decode cX0_keepsHints 13 = .ok (.getfield 42, 3) := by decide +kernel
theorem dX0_keepsHints_16 : decode cX0_keepsHints 16 = .ok (.iload_n 2, 1) := by decide +kernel
theorem dX0_keepsHints_17 : decode cX0_keepsHints 17 = .ok (.if_icmp .ne 13, 3) := by decide +kernel
theorem dX0_keepsHints_20 : decode cX0_keepsHints 20 = .ok (.aload_n 0, 1) := by decide +kernel
theorem dX0_keepsHints_21 : decode cX0_keepsHints 21 = .ok (.invokevirtual 78, 3) := by decide +kernel
theorem dX0_keepsHints_24 : decode cX0_keepsHints 24 = .ok (.iinc 3 1, 3) := by decide +kernel
theorem dX0_keepsHints_27 : decode cX0_keepsHints 27 = .ok (.goto (-20), 3) := by decide +kernel
theorem dX0_keepsHints_30 : decode cX0_keepsHints 30 = .ok (.aload_n 0, 1) := by decide +kernel
theorem dX0_keepsHints_31 : decode cX0_keepsHints 31 = .ok (.getfield 42, 3) := by decide +kernel
theorem dX0_keepsHints_34 : decode cX0_keepsHints 34 = .ok (.iload_n 2, 1) := by decide +kernel
theorem dX0_keepsHints_35 : decode cX0_keepsHints 35 = .ok (.if_icmp .ne 7, 3) := by decide +kernel
theorem dX0_keepsHints_38 : decode cX0_keepsHints 38 = .ok (.iconst 1, 1) := by decide +kernel
theorem dX0_keepsHints_39 : decode cX0_keepsHints 39 = .ok (.goto 4, 3) := by decide +kernel
theorem dX0_keepsHints_42 : decode cX0_keepsHints 42 = .ok (.iconst 0, 1) := by decide +kernel
theorem dX0_keepsHints_43 : decode cX0_keepsHints 43 = .ok (.ireturn, 1) := by decide +kernel
theorem dX0_passDay_0 : decode cX0_passDay 0 = .ok (.aload_n 0, 1) := by decide +kernel
theorem dX0_passDay_1 : decode cX0_passDay 1 = .ok (.invokevirtual 85, 3) := by decide +kernel
theorem dX0_passDay_4 : decode cX0_passDay 4 = .ok (.iconst 0, 1) := by decide +kernel
theorem dX0_passDay_5 : decode cX0_passDay 5 = .ok (.istore_n 1, 1) := by decide +kernel
theorem dX0_passDay_6 : decode cX0_passDay 6 = .ok (.iload_n 1, 1) := by decide +kernel
theorem dX0_passDay_7 : decode cX0_passDay 7 = .ok (.aload_n 0, 1) := by decide +kernel
theorem dX0_passDay_8 : decode cX0_passDay 8 = .ok (.getfield 35, 3) := by decide +kernel
theorem dX0_passDay_11 : decode cX0_passDay 11 = .ok (.if_icmp .ge 25, 3) := by decide +kernel
theorem dX0_passDay_14 : decode cX0_passDay 14 = .ok (.aload_n 0, 1) := by decide +kernel
theorem dX0_passDay_15 : decode cX0_passDay 15 = .ok (.getfield 48, 3) := by decide +kernel
theorem dX0_passDay_18 : decode cX0_passDay 18 = .ok (.iload_n 1, 1) := by decide +kernel
theorem dX0_passDay_19 : decode cX0_passDay 19 = .ok (.invokestatic 88, 3) := by decide +kernel
theorem dX0_passDay_22 : decode cX0_passDay 22 = .ok (.ifCond .ne 8, 3) := by decide +kernel
theorem dX0_passDay_25 : decode cX0_passDay 25 = .ok (.aload_n 0, 1) := by decide +kernel
theorem dX0_passDay_26 : decode cX0_passDay 26 = .ok (.iload_n 1, 1) := by decide +kernel
theorem dX0_passDay_27 : decode cX0_passDay 27 = .ok (.invokevirtual 92, 3) := by decide +kernel
theorem dX0_passDay_30 : decode cX0_passDay 30 = .ok (.iinc 1 1, 3) := by decide +kernel
theorem dX0_passDay_33 : decode cX0_passDay 33 = .ok (.goto (-27), 3) := by decide +kernel
theorem dX0_passDay_36 : decode cX0_passDay 36 = .ok (.iconst 0, 1) := by decide +kernel
theorem dX0_passDay_37 : decode cX0_passDay 37 = .ok (.istore_n 1, 1) := by decide +kernel
theorem dX0_passDay_38 : decode cX0_passDay 38 = .ok (.iload_n 1, 1) := by decide +kernel
theorem dX0_passDay_39 : decode cX0_passDay 39 = .ok (.aload_n 0, 1) := by decide +kernel
theorem dX0_passDay_40 : decode cX0_passDay 40 = .ok (.getfield 35, 3) := by decide +kernel
theorem dX0_passDay_43 : decode cX0_passDay 43 = .ok (.if_icmp .ge 18, 3) := by decide +kernel
theorem dX0_passDay_46 : decode cX0_passDay 46 = .ok (.aload_n 0, 1) := by decide +kernel
theorem dX0_passDay_47 : decode cX0_passDay 47 = .ok (.getfield 17, 3) := by decide +kernel
theorem dX0_passDay_50 : decode cX0_passDay 50 = .ok (.iload_n 1, 1) := by decide +kernel
theorem dX0_passDay_51 : decode cX0_passDay 51 = .ok (.aaload, 1) := by decide +kernel
theorem dX0_passDay_52 : decode cX0_passDay 52 = .ok (.invokevirtual 96, 3) := by decide +kernel
theorem dX0_passDay_55 : decode cX0_passDay 55 = .ok (.iinc 1 1, 3) := by decide +kernel
theorem dX0_passDay_58 : decode cX0_passDay 58 = .ok (.goto (-20), 3) := by decide +kernel
theorem dX0_passDay_61 : decode cX0_passDay 61 = .ok (.aload_n 0, 1) := by decide +kernel
theorem dX0_passDay_62 : decode cX0_passDay 62 = .ok (.ldc 99, 2) := by decide +kernel
theorem dX0_passDay_64 : decode cX0_passDay 64 = .ok (.aload_n 0, 1) := by decide +kernel
theorem dX0_passDay_65 : decode cX0_passDay 65 = .ok (.getfield 45, 3) := by decide +kernel
theorem dX0_passDay_68 : decode cX0_passDay 68 = .ok (.iconst 1, 1) := by decide +kernel
theorem dX0_passDay_69 : decode cX0_passDay 69 = .ok (.iadd, 1) := by decide +kernel
theorem dX0_passDay_70 : decode cX0_passDay 70 = .ok (.invokestatic 100, 3) := by decide +kernel
theorem dX0_passDay_73 : decode cX0_passDay 73 = .ok (.putfield 45, 3) := by decide +kernel
theorem dX0_passDay_76 : decode cX0_passDay 76 = .ok (.return_, 1) := by decide +kernel
theorem dX0_tellSaying_0 : decode cX0_tellSaying 0 = .ok (.aload_n 0, 1) := by decide +kernel
theorem dX0_tellSaying_1 : decode cX0_tellSaying 1 = .ok (.invokevirtual 105, 3) := by decide +kernel
theorem dX0_tellSaying_4 : decode cX0_tellSaying 4 = .ok (.istore_n 1, 1) := by decide +kernel
theorem dX0_tellSaying_5 : decode cX0_tellSaying 5 = .ok (.aload_n 0, 1) := by decide +kernel
theorem dX0_tellSaying_6 : decode cX0_tellSaying 6 = .ok (.invokevirtual 108, 3) := by decide +kernel
theorem dX0_tellSaying_9 : decode cX0_tellSaying 9 = .ok (.istore_n 2, 1) := by decide +kernel
theorem dX0_tellSaying_10 : decode cX0_tellSaying 10 = .ok (.aload_n 0, 1) := by decide +kernel
theorem dX0_tellSaying_11 : decode cX0_tellSaying 11 = .ok (.iload_n 1, 1) := by decide +kernel
theorem dX0_tellSaying_12 : decode cX0_tellSaying 12 = .ok (.invokevirtual 69, 3) := by decide +kernel
theorem dX0_tellSaying_15 : decode cX0_tellSaying 15 = .ok (.ifCond .eq 27, 3) := by decide +kernel
theorem dX0_tellSaying_18 : decode cX0_tellSaying 18 = .ok (.iload_n 2, 1) := by decide +kernel
theorem dX0_tellSaying_19 : decode cX0_tellSaying 19 = .ok (.ifCond .le 23, 3) := by decide +kernel
theorem dX0_tellSaying_22 : decode cX0_tellSaying 22 = .ok (.aload_n 0, 1) := by decide +kernel
theorem dX0_tellSaying_23 : decode cX0_tellSaying 23 = .ok (.getfield 17, 3) := by decide +kernel
theorem dX0_tellSaying_26 : decode cX0_tellSaying 26 = .ok (.iload_n 1, 1) := by decide +kernel
theorem dX0_tellSaying_27 : decode cX0_tellSaying 27 = .ok (.aaload, 1) := by decide +kernel
theorem dX0_tellSaying_28 : decode cX0_tellSaying 28 = .ok (.aload_n 0, 1) := by decide +kernel
theorem dX0_tellSaying_29 : decode cX0_tellSaying 29 = .ok (.getfield 17, 3) := by decide +kernel
theorem dX0_tellSaying_32 : decode cX0_tellSaying 32 = .ok (.iload_n 1, 1) := by decide +kernel
theorem dX0_tellSaying_33 : decode cX0_tellSaying 33 = .ok (.aaload, 1) := by decide +kernel
theorem dX0_tellSaying_34 : decode cX0_tellSaying 34 = .ok (.iload_n 2, 1) := by decide +kernel
theorem dX0_tellSaying_35 : decode cX0_tellSaying 35 = .ok (.invokevirtual 111, 3) := by decide +kernel
theorem dX0_tellSaying_38 : decode cX0_tellSaying 38 = .ok (.iload_n 2, 1) := by decide +kernel
theorem dX0_tellSaying_39 : decode cX0_tellSaying 39 = .ok (.invokevirtual 114, 3) := by decide +kernel
theorem dX0_tellSaying_42 : decode cX0_tellSaying 42 = .ok (.return_, 1) := by decide +kernel
theorem dX0_serve_0 : decode cX0_serve 0 = .ok (.aload_n 0, 1) := by decide +kernel
theorem dX0_serve_1 : decode cX0_serve 1 = .ok (.getfield 17, 3) := by decide +kernel
theorem dX0_serve_4 : decode cX0_serve 4 = .ok (.iload_n 1, 1) := by decide +kernel
theorem dX0_serve_5 : decode cX0_serve 5 = .ok (.aaload, 1) := by decide +kernel
theorem dX0_serve_6 : decode cX0_serve 6 = .ok (.astore_n 2, 1) := by decide +kernel
theorem dX0_serve_7 : decode cX0_serve 7 = .ok (.aload_n 2, 1) := by decide +kernel
theorem dX0_serve_8 : decode cX0_serve 8 = .ok (.aload_n 0, 1) := by decide +kernel
theorem dX0_serve_9 : decode cX0_serve 9 = .ok (.getfield 45, 3) := by decide +kernel
theorem dX0_serve_12 : decode cX0_serve 12 = .ok (.invokevirtual 117, 3) := by decide +kernel
theorem dX0_serve_15 : decode cX0_serve 15 = .ok (.istore_n 3, 1) := by decide +kernel
theorem dX0_serve_16 : decode cX0_serve 16 = .ok (.iload_n 3, 1) := by decide +kernel
theorem dX0_serve_17 : decode cX0_serve 17 = .ok (.ifCond .gt 4, 3) := by decide +kernel
theorem dX0_serve_20 : decode cX0_serve 20 = .ok (.return_, 1) := by decide +kernel
theorem dX0_serve_21 : decode cX0_serve 21 = .ok (.aload_n 0, 1) := by decide +kernel
theorem dX0_serve_22 : decode cX0_serve 22 = .ok (.iload_n 1, 1) := by decide +kernel
theorem dX0_serve_23 : decode cX0_serve 23 = .ok (.invokevirtual 120, 3) := by decide +kernel
theorem dX0_serve_26 : decode cX0_serve 26 = .ok (.istore 4, 2) := by decide +kernel
theorem dX0_serve_28 : decode cX0_serve 28 = .ok (.aload_n 0, 1) := by decide +kernel
theorem dX0_serve_29 : decode cX0_serve 29 = .ok (.iload 4, 2) := by decide +kernel
theorem dX0_serve_31 : decode cX0_serve 31 = .ok (.iload_n 3, 1) := by decide +kernel
theorem dX0_serve_32 : decode cX0_serve 32 = .ok (.invokevirtual 123, 3) := by decide +kernel
theorem dX0_serve_35 : decode cX0_serve 35 = .ok (.ifCond .eq 56, 3) := by decide +kernel
theorem dX0_serve_38 : decode cX0_serve 38 = .ok (.aload_n 2, 1) := by decide +kernel
theorem dX0_serve_39 : decode cX0_serve 39 = .ok (.dup, 1) := by decide +kernel
theorem dX0_serve_40 : decode cX0_serve 40 = .ok (.getfield 59, 3) := by decide +kernel
theorem dX0_serve_43 : decode cX0_serve 43 = .ok (.iload_n 3, 1) := by decide +kernel
theorem dX0_serve_44 : decode cX0_serve 44 = .ok (.isub, 1) := by decide +kernel
theorem dX0_serve_45 : decode cX0_serve 45 = .ok (.putfield 59, 3) := by decide +kernel
theorem dX0_serve_48 : decode cX0_serve 48 = .ok (.aload_n 2, 1) := by decide +kernel
theorem dX0_serve_49 : decode cX0_serve 49 = .ok (.sipush 9999, 3) := by decide +kernel
theorem dX0_serve_52 : decode cX0_serve 52 = .ok (.aload_n 2, 1) := by decide +kernel
theorem dX0_serve_53 : decode cX0_serve 53 = .ok (.getfield 126, 3) := by decide +kernel
theorem dX0_serve_56 : decode cX0_serve 56 = .ok (.iconst 1, 1) := by decide +kernel
theorem dX0_serve_57 : decode cX0_serve 57 = .ok (.iadd, 1) := by decide +kernel
theorem dX0_serve_58 : decode cX0_serve 58 = .ok (.invokestatic 100, 3) := by decide +kernel
theorem dX0_serve_61 : decode cX0_serve 61 = .ok (.putfield 126, 3) := by decide +kernel
theorem dX0_serve_64 : decode cX0_serve 64 = .ok (.aload_n 0, 1) := by decide +kernel
theorem dX0_serve_65 : decode cX0_serve 65 = .ok (.getfield 17, 3) := by decide +kernel
theorem dX0_serve_68 : decode cX0_serve 68 = .ok (.iload 4, 2) := by decide +kernel
theorem dX0_serve_70 : decode cX0_serve 70 = .ok (.aaload, 1) := by decide +kernel
theorem dX0_serve_71 : decode cX0_serve 71 = .ok (.aload_n 0, 1) := by decide +kernel
theorem dX0_serve_72 : decode cX0_serve 72 = .ok (.getfield 17, 3) := by decide +kernel
theorem dX0_serve_75 : decode cX0_serve 75 = .ok (.iload 4, 2) := by decide +kernel
theorem dX0_serve_77 : decode cX0_serve 77 = .ok (.aaload, 1) := by decide +kernel
theorem dX0_serve_78 : decode cX0_serve 78 = .ok (.iload_n 3, 1) := by decide +kernel
theorem dX0_serve_79 : decode cX0_serve 79 = .ok (.invokevirtual 111, 3) := by decide +kernel
theorem dX0_serve_82 : decode cX0_serve 82 = .ok (.iconst 2, 1) := by decide +kernel
theorem dX0_serve_83 : decode cX0_serve 83 = .ok (.idiv, 1) := by decide +kernel
theorem dX0_serve_84 : decode cX0_serve 84 = .ok (.iload_n 3, 1) := by decide +kernel
theorem dX0_serve_85 : decode cX0_serve 85 = .ok (.invokevirtual 114, 3) := by decide +kernel
theorem dX0_serve_88 : decode cX0_serve 88 = .ok (.goto 28, 3) := by decide +kernel
theorem dX0_serve_91 : decode cX0_serve 91 = .ok (.aload_n 2, 1) := by decide +kernel
theorem dX0_serve_92 : decode cX0_serve 92 = .ok (.dup, 1) := by decide +kernel
theorem dX0_serve_93 : decode cX0_serve 93 = .ok (.getfield 59, 3) := by decide +kernel
theorem dX0_serve_96 : decode cX0_serve 96 = .ok (.iconst 1, 1) := by decide +kernel
theorem dX0_serve_97 : decode cX0_serve 97 = .ok (.isub, 1) := by decide +kernel
theorem dX0_serve_98 : decode cX0_serve 98 = .ok (.putfield 59, 3) := by decide +kernel
theorem dX0_serve_101 : decode cX0_serve 101 = .ok (.aload_n 0, 1) := by decide +kernel
theorem dX0_serve_102 : decode cX0_serve 102 = .ok (.ldc 99, 2) := by decide +kernel
theorem dX0_serve_104 : decode cX0_serve 104 = .ok (.aload_n 0, 1) := by decide +kernel
theorem dX0_serve_105 : decode cX0_serve 105 = .ok (.getfield 42, 3) := by decide +kernel
theorem dX0_serve_108 : decode cX0_serve 108 = .ok (.iconst 1, 1) := by decide +kernel
theorem dX0_serve_109 : decode cX0_serve 109 = .ok (.iadd, 1) := by decide +kernel
theorem dX0_serve_110 : decode cX0_serve 110 = .ok (.invokestatic 100, 3) := by decide +kernel
theorem dX0_serve_113 : decode cX0_serve 113 = .ok (.putfield 42, 3) := by decide +kernel
theorem dX0_serve_116 : decode cX0_serve 116 = .ok (.return_, 1) := by decide +kernel
theorem dX1_init_0 : decode cX1_init 0 = .ok (.aload_n 0, 1) := by decide +kernel
theorem dX1_init_1 : decode cX1_init 1 = .ok (.invokespecial 3, 3) := by decide +kernel
theorem dX1_init_4 : decode cX1_init 4 = .ok (.return_, 1) := by decide +kernel
theorem dX1_begin_0 : decode cX1_begin 0 = .ok (.aload_n 0, 1) := by decide +kernel
theorem dX1_begin_1 : decode cX1_begin 1 = .ok (.iload_n 1, 1) := by decide +kernel
theorem dX1_begin_2 : decode cX1_begin 2 = .ok (.putfield 9, 3) := by decide +kernel
theorem dX1_begin_5 : decode cX1_begin 5 = .ok (.aload_n 0, 1) := by decide +kernel
theorem dX1_begin_6 : decode cX1_begin 6 = .ok (.iconst 0, 1) := by decide +kernel
theorem dX1_begin_7 : decode cX1_begin 7 = .ok (.putfield 15, 3) := by decide +kernel
theorem dX1_begin_10 : decode cX1_begin 10 = .ok (.aload_n 0, 1) := by decide +kernel
theorem dX1_begin_11 : decode cX1_begin 11 = .ok (.iload_n 2, 1) := by decide +kernel
theorem dX1_begin_12 : decode cX1_begin 12 = .ok (.putfield 18, 3) := by decide +kernel
theorem dX1_begin_15 : decode cX1_begin 15 = .ok (.aload_n 0, 1) := by decide +kernel
theorem dX1_begin_16 : decode cX1_begin 16 = .ok (.iconst 0, 1) := by decide +kernel
theorem dX1_begin_17 : decode cX1_begin 17 = .ok (.putfield 21, 3) := by decide +kernel
theorem dX1_begin_20 : decode cX1_begin 20 = .ok (.aload_n 0, 1) := by decide +kernel
theorem dX1_begin_21 : decode cX1_begin 21 = .ok (.iconst 0, 1) := by decide +kernel
theorem dX1_begin_22 : decode cX1_begin 22 = .ok (.putfield 24, 3) := by decide +kernel
theorem dX1_begin_25 : decode cX1_begin 25 = .ok (.return_, 1) := by decide +kernel
theorem dX1_become_0 : decode cX1_become 0 = .ok (.aload_n 0, 1) := by decide +kernel
theorem dX1_become_1 : decode cX1_become 1 = .ok (.aload_n 1, 1) := by decide +kernel
theorem dX1_become_2 : decode cX1_become 2 = .ok (.getfield 9, 3) := by decide +kernel
theorem dX1_become_5 : decode cX1_become 5 = .ok (.putfield 9, 3) := by decide +kernel
theorem dX1_become_8 : decode cX1_become 8 = .ok (.aload_n 0, 1) := by decide +kernel
theorem dX1_become_9 : decode cX1_become 9 = .ok (.aload_n 1, 1) := by decide +kernel
theorem dX1_become_10 : decode cX1_become 10 = .ok (.getfield 15, 3) := by decide +kernel
theorem dX1_become_13 : decode cX1_become 13 = .ok (.putfield 15, 3) := by decide +kernel
theorem dX1_become_16 : decode cX1_become 16 = .ok (.aload_n 0, 1) := by decide +kernel
theorem dX1_become_17 : decode cX1_become 17 = .ok (.aload_n 1, 1) := by decide +kernel
theorem dX1_become_18 : decode cX1_become 18 = .ok (.getfield 18, 3) := by decide +kernel
theorem dX1_become_21 : decode cX1_become 21 = .ok (.putfield 18, 3) := by decide +kernel
theorem dX1_become_24 : decode cX1_become 24 = .ok (.aload_n 0, 1) := by decide +kernel
theorem dX1_become_25 : decode cX1_become 25 = .ok (.aload_n 1, 1) := by decide +kernel
theorem dX1_become_26 : decode cX1_become 26 = .ok (.getfield 21, 3) := by decide +kernel
theorem dX1_become_29 : decode cX1_become 29 = .ok (.putfield 21, 3) := by decide +kernel
theorem dX1_become_32 : decode cX1_become 32 = .ok (.aload_n 0, 1) := by decide +kernel
theorem dX1_become_33 : decode cX1_become 33 = .ok (.aload_n 1, 1) := by decide +kernel
theorem dX1_become_34 : decode cX1_become 34 = .ok (.getfield 24, 3) := by decide +kernel
theorem dX1_become_37 : decode cX1_become 37 = .ok (.putfield 24, 3) := by decide +kernel
theorem dX1_become_40 : decode cX1_become 40 = .ok (.return_, 1) := by decide +kernel
theorem dX1_attribute_0 : decode cX1_attribute 0 = .ok (.iload_n 1, 1) := by decide +kernel
theorem dX1_attribute_1 : decode cX1_attribute 1 = .ok (.tableswitch 51 0 3 #[31, 36, 41, 46], 31) := by decide +kernel
theorem dX1_attribute_32 : decode cX1_attribute 32 = .ok (.aload_n 0, 1) := by decide +kernel
theorem dX1_attribute_33 : decode cX1_attribute 33 = .ok (.getfield 9, 3) := by decide +kernel
theorem dX1_attribute_36 : decode cX1_attribute 36 = .ok (.ireturn, 1) := by decide +kernel
theorem dX1_attribute_37 : decode cX1_attribute 37 = .ok (.aload_n 0, 1) := by decide +kernel
theorem dX1_attribute_38 : decode cX1_attribute 38 = .ok (.getfield 15, 3) := by decide +kernel
theorem dX1_attribute_41 : decode cX1_attribute 41 = .ok (.ireturn, 1) := by decide +kernel
theorem dX1_attribute_42 : decode cX1_attribute 42 = .ok (.aload_n 0, 1) := by decide +kernel
theorem dX1_attribute_43 : decode cX1_attribute 43 = .ok (.getfield 18, 3) := by decide +kernel
theorem dX1_attribute_46 : decode cX1_attribute 46 = .ok (.ireturn, 1) := by decide +kernel
theorem dX1_attribute_47 : decode cX1_attribute 47 = .ok (.aload_n 0, 1) := by decide +kernel
theorem dX1_attribute_48 : decode cX1_attribute 48 = .ok (.getfield 21, 3) := by decide +kernel
theorem dX1_attribute_51 : decode cX1_attribute 51 = .ok (.ireturn, 1) := by decide +kernel
theorem dX1_attribute_52 : decode cX1_attribute 52 = .ok (.aload_n 0, 1) := by decide +kernel
theorem dX1_attribute_53 : decode cX1_attribute 53 = .ok (.getfield 24, 3) := by decide +kernel
theorem dX1_attribute_56 : decode cX1_attribute 56 = .ok (.ireturn, 1) := by decide +kernel
theorem dX1_setAttribute_0 : decode cX1_setAttribute 0 = .ok (.iload_n 1, 1) := by decide +kernel
theorem dX1_setAttribute_1 : decode cX1_setAttribute 1 = .ok (.tableswitch 63 0 3 #[31, 39, 47, 55], 31) := by decide +kernel
theorem dX1_setAttribute_32 : decode cX1_setAttribute 32 = .ok (.aload_n 0, 1) := by decide +kernel
theorem dX1_setAttribute_33 : decode cX1_setAttribute 33 = .ok (.iload_n 2, 1) := by decide +kernel
theorem dX1_setAttribute_34 : decode cX1_setAttribute 34 = .ok (.putfield 9, 3) := by decide +kernel
theorem dX1_setAttribute_37 : decode cX1_setAttribute 37 = .ok (.goto 32, 3) := by decide +kernel
theorem dX1_setAttribute_40 : decode cX1_setAttribute 40 = .ok (.aload_n 0, 1) := by decide +kernel
theorem dX1_setAttribute_41 : decode cX1_setAttribute 41 = .ok (.iload_n 2, 1) := by decide +kernel
theorem dX1_setAttribute_42 : decode cX1_setAttribute 42 = .ok (.putfield 15, 3) := by decide +kernel
theorem dX1_setAttribute_45 : decode cX1_setAttribute 45 = .ok (.goto 24, 3) := by decide +kernel
theorem dX1_setAttribute_48 : decode cX1_setAttribute 48 = .ok (.aload_n 0, 1) := by decide +kernel
theorem dX1_setAttribute_49 : decode cX1_setAttribute 49 = .ok (.iload_n 2, 1) := by decide +kernel
theorem dX1_setAttribute_50 : decode cX1_setAttribute 50 = .ok (.putfield 18, 3) := by decide +kernel
theorem dX1_setAttribute_53 : decode cX1_setAttribute 53 = .ok (.goto 16, 3) := by decide +kernel
theorem dX1_setAttribute_56 : decode cX1_setAttribute 56 = .ok (.aload_n 0, 1) := by decide +kernel
theorem dX1_setAttribute_57 : decode cX1_setAttribute 57 = .ok (.iload_n 2, 1) := by decide +kernel
theorem dX1_setAttribute_58 : decode cX1_setAttribute 58 = .ok (.putfield 21, 3) := by decide +kernel
theorem dX1_setAttribute_61 : decode cX1_setAttribute 61 = .ok (.goto 8, 3) := by decide +kernel
theorem dX1_setAttribute_64 : decode cX1_setAttribute 64 = .ok (.aload_n 0, 1) := by decide +kernel
theorem dX1_setAttribute_65 : decode cX1_setAttribute 65 = .ok (.iload_n 2, 1) := by decide +kernel
theorem dX1_setAttribute_66 : decode cX1_setAttribute 66 = .ok (.putfield 24, 3) := by decide +kernel
theorem dX1_setAttribute_69 : decode cX1_setAttribute 69 = .ok (.return_, 1) := by decide +kernel
theorem dX1_feeling_0 : decode cX1_feeling 0 = .ok (.aload_n 0, 1) := by decide +kernel
theorem dX1_feeling_1 : decode cX1_feeling 1 = .ok (.getfield 9, 3) := by decide +kernel
theorem dX1_feeling_4 : decode cX1_feeling 4 = .ok (.tableswitch 89 1 6 #[40, 54, 58, 64, 78, 44], 40) := by decide +kernel
theorem dX1_feeling_44 : decode cX1_feeling 44 = .ok (.iconst 2, 1) := by decide +kernel
theorem dX1_feeling_45 : decode cX1_feeling 45 = .ok (.iload_n 1, 1) := by decide +kernel
theorem dX1_feeling_46 : decode cX1_feeling 46 = .ok (.imul, 1) := by decide +kernel
theorem dX1_feeling_47 : decode cX1_feeling 47 = .ok (.ireturn, 1) := by decide +kernel
theorem dX1_feeling_48 : decode cX1_feeling 48 = .ok (.iconst 0, 1) := by decide +kernel
theorem dX1_feeling_49 : decode cX1_feeling 49 = .ok (.iconst 2, 1) := by decide +kernel
theorem dX1_feeling_50 : decode cX1_feeling 50 = .ok (.iload_n 1, 1) := by decide +kernel
theorem dX1_feeling_51 : decode cX1_feeling 51 = .ok (.imul, 1) := by decide +kernel
theorem dX1_feeling_52 : decode cX1_feeling 52 = .ok (.iconst 3, 1) := by decide +kernel
theorem dX1_feeling_53 : decode cX1_feeling 53 = .ok (.isub, 1) := by decide +kernel
theorem dX1_feeling_54 : decode cX1_feeling 54 = .ok (.invokestatic 27, 3) := by decide +kernel
theorem dX1_feeling_57 : decode cX1_feeling 57 = .ok (.ireturn, 1) := by decide +kernel
theorem dX1_feeling_58 : decode cX1_feeling 58 = .ok (.iload_n 1, 1) := by decide +kernel
theorem dX1_feeling_59 : decode cX1_feeling 59 = .ok (.iconst 2, 1) := by decide +kernel
theorem dX1_feeling_60 : decode cX1_feeling 60 = .ok (.idiv, 1) := by decide +kernel
theorem dX1_feeling_61 : decode cX1_feeling 61 = .ok (.ireturn, 1) := by decide +kernel
theorem dX1_feeling_62 : decode cX1_feeling 62 = .ok (.iload_n 1, 1) := by decide +kernel
theorem dX1_feeling_63 : decode cX1_feeling 63 = .ok (.iconst 2, 1) := by decide +kernel
theorem dX1_feeling_64 : decode cX1_feeling 64 = .ok (.idiv, 1) := by decide +kernel
theorem dX1_feeling_65 : decode cX1_feeling 65 = .ok (.iconst 1, 1) := by decide +kernel
theorem dX1_feeling_66 : decode cX1_feeling 66 = .ok (.iadd, 1) := by decide +kernel
theorem dX1_feeling_67 : decode cX1_feeling 67 = .ok (.ireturn, 1) := by decide +kernel
theorem dX1_feeling_68 : decode cX1_feeling 68 = .ok (.iload_n 1, 1) := by decide +kernel
theorem dX1_feeling_69 : decode cX1_feeling 69 = .ok (.iconst 2, 1) := by decide +kernel
theorem dX1_feeling_70 : decode cX1_feeling 70 = .ok (.idiv, 1) := by decide +kernel
theorem dX1_feeling_71 : decode cX1_feeling 71 = .ok (.iconst 1, 1) := by decide +kernel
theorem dX1_feeling_72 : decode cX1_feeling 72 = .ok (.iadd, 1) := by decide +kernel
theorem dX1_feeling_73 : decode cX1_feeling 73 = .ok (.aload_n 0, 1) := by decide +kernel
theorem dX1_feeling_74 : decode cX1_feeling 74 = .ok (.getfield 21, 3) := by decide +kernel
theorem dX1_feeling_77 : decode cX1_feeling 77 = .ok (.bipush 10, 2) := by decide +kernel
theorem dX1_feeling_79 : decode cX1_feeling 79 = .ok (.idiv, 1) := by decide +kernel
theorem dX1_feeling_80 : decode cX1_feeling 80 = .ok (.iadd, 1) := by decide +kernel
theorem dX1_feeling_81 : decode cX1_feeling 81 = .ok (.ireturn, 1) := by decide +kernel
theorem dX1_feeling_82 : decode cX1_feeling 82 = .ok (.iload_n 1, 1) := by decide +kernel
theorem dX1_feeling_83 : decode cX1_feeling 83 = .ok (.iconst 5, 1) := by decide +kernel
theorem dX1_feeling_84 : decode cX1_feeling 84 = .ok (.if_icmp .ge 7, 3) := by decide +kernel
theorem dX1_feeling_87 : decode cX1_feeling 87 = .ok (.iconst 0, 1) := by decide +kernel
theorem dX1_feeling_88 : decode cX1_feeling 88 = .ok (.goto 4, 3) := by decide +kernel
theorem dX1_feeling_91 : decode cX1_feeling 91 = .ok (.iload_n 1, 1) := by decide +kernel
theorem dX1_feeling_92 : decode cX1_feeling 92 = .ok (.ireturn, 1) := by decide +kernel
theorem dX1_feeling_93 : decode cX1_feeling 93 = .ok (.iload_n 1, 1) := by decide +kernel
theorem dX1_feeling_94 : decode cX1_feeling 94 = .ok (.ireturn, 1) := by decide +kernel
theorem dX1_asking_0 : decode cX1_asking 0 = .ok (.aload_n 0, 1) := by decide +kernel
theorem dX1_asking_1 : decode cX1_asking 1 = .ok (.iload_n 1, 1) := by decide +kernel
theorem dX1_asking_2 : decode cX1_asking 2 = .ok (.invokevirtual 33, 3) := by decide +kernel
theorem dX1_asking_5 : decode cX1_asking 5 = .ok (.aload_n 0, 1) := by decide +kernel
theorem dX1_asking_6 : decode cX1_asking 6 = .ok (.getfield 15, 3) := by decide +kernel
theorem dX1_asking_9 : decode cX1_asking 9 = .ok (.invokestatic 37, 3) := by decide +kernel
theorem dX1_asking_12 : decode cX1_asking 12 = .ok (.ireturn, 1) := by decide +kernel
theorem dX1_mostAsked_0 : decode cX1_mostAsked 0 = .ok (.aload_n 0, 1) := by decide +kernel
theorem dX1_mostAsked_1 : decode cX1_mostAsked 1 = .ok (.getfield 9, 3) := by decide +kernel
theorem dX1_mostAsked_4 : decode cX1_mostAsked 4 = .ok (.tableswitch 65 1 6 #[40, 45, 48, 50, 65, 42], 40) := by decide +kernel
theorem dX1_mostAsked_44 : decode cX1_mostAsked 44 = .ok (.iconst 5, 1) := by decide +kernel
theorem dX1_mostAsked_45 : decode cX1_mostAsked 45 = .ok (.ireturn, 1) := by decide +kernel
theorem dX1_mostAsked_46 : decode cX1_mostAsked 46 = .ok (.bipush 15, 2) := by decide +kernel
theorem dX1_mostAsked_48 : decode cX1_mostAsked 48 = .ok (.ireturn, 1) := by decide +kernel
theorem dX1_mostAsked_49 : decode cX1_mostAsked 49 = .ok (.bipush 20, 2) := by decide +kernel
theorem dX1_mostAsked_51 : decode cX1_mostAsked 51 = .ok (.ireturn, 1) := by decide +kernel
theorem dX1_mostAsked_52 : decode cX1_mostAsked 52 = .ok (.iconst 0, 1) := by decide +kernel
theorem dX1_mostAsked_53 : decode cX1_mostAsked 53 = .ok (.ireturn, 1) := by decide +kernel
theorem dX1_mostAsked_54 : decode cX1_mostAsked 54 = .ok (.iload_n 1, 1) := by decide +kernel
theorem dX1_mostAsked_55 : decode cX1_mostAsked 55 = .ok (.bipush 7, 2) := by decide +kernel
theorem dX1_mostAsked_57 : decode cX1_mostAsked 57 = .ok (.irem, 1) := by decide +kernel
theorem dX1_mostAsked_58 : decode cX1_mostAsked 58 = .ok (.bipush 6, 2) := by decide +kernel
theorem dX1_mostAsked_60 : decode cX1_mostAsked 60 = .ok (.if_icmp .ne 7, 3) := by decide +kernel
theorem dX1_mostAsked_63 : decode cX1_mostAsked 63 = .ok (.iconst 3, 1) := by decide +kernel
theorem dX1_mostAsked_64 : decode cX1_mostAsked 64 = .ok (.goto 4, 3) := by decide +kernel
theorem dX1_mostAsked_67 : decode cX1_mostAsked 67 = .ok (.iconst 0, 1) := by decide +kernel
theorem dX1_mostAsked_68 : decode cX1_mostAsked 68 = .ok (.ireturn, 1) := by decide +kernel
theorem dX1_mostAsked_69 : decode cX1_mostAsked 69 = .ok (.bipush 10, 2) := by decide +kernel
theorem dX1_mostAsked_71 : decode cX1_mostAsked 71 = .ok (.ireturn, 1) := by decide +kernel
theorem dX1_room_0 : decode cX1_room 0 = .ok (.iconst 0, 1) := by decide +kernel
theorem dX1_room_1 : decode cX1_room 1 = .ok (.aload_n 0, 1) := by decide +kernel
theorem dX1_room_2 : decode cX1_room 2 = .ok (.getfield 18, 3) := by decide +kernel
theorem dX1_room_5 : decode cX1_room 5 = .ok (.aload_n 0, 1) := by decide +kernel
theorem dX1_room_6 : decode cX1_room 6 = .ok (.getfield 21, 3) := by decide +kernel
theorem dX1_room_9 : decode cX1_room 9 = .ok (.isub, 1) := by decide +kernel
theorem dX1_room_10 : decode cX1_room 10 = .ok (.invokestatic 27, 3) := by decide +kernel
theorem dX1_room_13 : decode cX1_room 13 = .ok (.istore_n 1, 1) := by decide +kernel
theorem dX1_room_14 : decode cX1_room 14 = .ok (.aload_n 0, 1) := by decide +kernel
theorem dX1_room_15 : decode cX1_room 15 = .ok (.getfield 9, 3) := by decide +kernel
theorem dX1_room_18 : decode cX1_room 18 = .ok (.tableswitch 69 1 6 #[38, 69, 48, 48, 55, 42], 38) := by decide +kernel
theorem dX1_room_56 : decode cX1_room 56 = .ok (.iload_n 1, 1) := by decide +kernel
theorem dX1_room_57 : decode cX1_room 57 = .ok (.iconst 2, 1) := by decide +kernel
theorem dX1_room_58 : decode cX1_room 58 = .ok (.idiv, 1) := by decide +kernel
theorem dX1_room_59 : decode cX1_room 59 = .ok (.ireturn, 1) := by decide +kernel
theorem dX1_room_60 : decode cX1_room 60 = .ok (.iload_n 1, 1) := by decide +kernel
theorem dX1_room_61 : decode cX1_room 61 = .ok (.iconst 2, 1) := by decide +kernel
theorem dX1_room_62 : decode cX1_room 62 = .ok (.idiv, 1) := by decide +kernel
theorem dX1_room_63 : decode cX1_room 63 = .ok (.iconst 5, 1) := by decide +kernel
theorem dX1_room_64 : decode cX1_room 64 = .ok (.iadd, 1) := by decide +kernel
theorem dX1_room_65 : decode cX1_room 65 = .ok (.ireturn, 1) := by decide +kernel
theorem dX1_room_66 : decode cX1_room 66 = .ok (.iload_n 1, 1) := by decide +kernel
theorem dX1_room_67 : decode cX1_room 67 = .ok (.aload_n 0, 1) := by decide +kernel
theorem dX1_room_68 : decode cX1_room 68 = .ok (.getfield 18, 3) := by decide +kernel
theorem dX1_room_71 : decode cX1_room 71 = .ok (.iadd, 1) := by decide +kernel
theorem dX1_room_72 : decode cX1_room 72 = .ok (.ireturn, 1) := by decide +kernel
theorem dX1_room_73 : decode cX1_room 73 = .ok (.aload_n 0, 1) := by decide +kernel
theorem dX1_room_74 : decode cX1_room 74 = .ok (.getfield 21, 3) := by decide +kernel
theorem dX1_room_77 : decode cX1_room 77 = .ok (.ifCond .ne 8, 3) := by decide +kernel
theorem dX1_room_80 : decode cX1_room 80 = .ok (.bipush 99, 2) := by decide +kernel
theorem dX1_room_82 : decode cX1_room 82 = .ok (.goto 4, 3) := by decide +kernel
theorem dX1_room_85 : decode cX1_room 85 = .ok (.iload_n 1, 1) := by decide +kernel
theorem dX1_room_86 : decode cX1_room 86 = .ok (.ireturn, 1) := by decide +kernel
theorem dX1_room_87 : decode cX1_room 87 = .ok (.iload_n 1, 1) := by decide +kernel
theorem dX1_room_88 : decode cX1_room 88 = .ok (.ireturn, 1) := by decide +kernel
theorem dX1_forgetting_0 : decode cX1_forgetting 0 = .ok (.aload_n 0, 1) := by decide +kernel
theorem dX1_forgetting_1 : decode cX1_forgetting 1 = .ok (.getfield 9, 3) := by decide +kernel
theorem dX1_forgetting_4 : decode cX1_forgetting 4 = .ok (.tableswitch 39 1 4 #[32, 34, 34, 36], 32) := by decide +kernel
theorem dX1_forgetting_36 : decode cX1_forgetting 36 = .ok (.iconst 0, 1) := by decide +kernel
theorem dX1_forgetting_37 : decode cX1_forgetting 37 = .ok (.ireturn, 1) := by decide +kernel
theorem dX1_forgetting_38 : decode cX1_forgetting 38 = .ok (.iconst 3, 1) := by decide +kernel
theorem dX1_forgetting_39 : decode cX1_forgetting 39 = .ok (.ireturn, 1) := by decide +kernel
theorem dX1_forgetting_40 : decode cX1_forgetting 40 = .ok (.bipush 6, 2) := by decide +kernel
theorem dX1_forgetting_42 : decode cX1_forgetting 42 = .ok (.ireturn, 1) := by decide +kernel
theorem dX1_forgetting_43 : decode cX1_forgetting 43 = .ok (.iconst 1, 1) := by decide +kernel
theorem dX1_forgetting_44 : decode cX1_forgetting 44 = .ok (.ireturn, 1) := by decide +kernel
theorem dX1_isOfKind_0 : decode cX1_isOfKind 0 = .ok (.aload_n 0, 1) := by decide +kernel
theorem dX1_isOfKind_1 : decode cX1_isOfKind 1 = .ok (.getfield 9, 3) := by decide +kernel
theorem dX1_isOfKind_4 : decode cX1_isOfKind 4 = .ok (.istore_n 2, 1) := by decide +kernel
theorem dX1_isOfKind_5 : decode cX1_isOfKind 5 = .ok (.iconst 0, 1) := by decide +kernel
theorem dX1_isOfKind_6 : decode cX1_isOfKind 6 = .ok (.istore_n 3, 1) := by decide +kernel
theorem dX1_isOfKind_7 : decode cX1_isOfKind 7 = .ok (.iload_n 3, 1) := by decide +kernel
theorem dX1_isOfKind_8 : decode cX1_isOfKind 8 = .ok (.bipush 7, 2) := by decide +kernel
theorem dX1_isOfKind_10 : decode cX1_isOfKind 10 = .ok (.if_icmp .ge 32, 3) := by decide +kernel
theorem dX1_isOfKind_13 : decode cX1_isOfKind 13 = .ok (.iload_n 2, 1) := by decide +kernel
theorem dX1_isOfKind_14 : decode cX1_isOfKind 14 = .ok (.iconst 0, 1) := by decide +kernel
theorem dX1_isOfKind_15 : decode cX1_isOfKind 15 = .ok (.bipush 6, 2) := by decide +kernel
theorem dX1_isOfKind_17 : decode cX1_isOfKind 17 = .ok (.invokestatic 40, 3) := by decide +kernel
theorem dX1_isOfKind_20 : decode cX1_isOfKind 20 = .ok (.ifCond .eq 22, 3) := by decide +kernel
theorem dX1_isOfKind_23 : decode cX1_isOfKind 23 = .ok (.iload_n 2, 1) := by decide +kernel
theorem dX1_isOfKind_24 : decode cX1_isOfKind 24 = .ok (.iload_n 1, 1) := by decide +kernel
theorem dX1_isOfKind_25 : decode cX1_isOfKind 25 = .ok (.if_icmp .ne 5, 3) := by decide +kernel
theorem dX1_isOfKind_28 : decode cX1_isOfKind 28 = .ok (.iconst 1, 1) := by decide +kernel
theorem dX1_isOfKind_29 : decode cX1_isOfKind 29 = .ok (.ireturn, 1) := by decide +kernel
theorem dX1_isOfKind_30 : decode cX1_isOfKind 30 = .ok (.getstatic 44, 3) := by decide +kernel
theorem dX1_isOfKind_33 : decode cX1_isOfKind 33 = .ok (.iload_n 2, 1) := by decide +kernel
theorem dX1_isOfKind_34 : decode cX1_isOfKind 34 = .ok (.iaload, 1) := by decide +kernel
theorem dX1_isOfKind_35 : decode cX1_isOfKind 35 = .ok (.istore_n 2, 1) := by decide +kernel
theorem dX1_isOfKind_36 : decode cX1_isOfKind 36 = .ok (.iinc 3 1, 3) := by decide +kernel
theorem dX1_isOfKind_39 : decode cX1_isOfKind 39 = .ok (.goto (-32), 3) := by decide +kernel
theorem dX1_isOfKind_42 : decode cX1_isOfKind 42 = .ok (.iconst 0, 1) := by decide +kernel
theorem dX1_isOfKind_43 : decode cX1_isOfKind 43 = .ok (.ireturn, 1) := by decide +kernel
theorem dX1_suffer_0 : decode cX1_suffer 0 = .ok (.aload_n 0, 1) := by decide +kernel
theorem dX1_suffer_1 : decode cX1_suffer 1 = .ok (.sipush 9999, 3) := by decide +kernel
theorem dX1_suffer_4 : decode cX1_suffer 4 = .ok (.aload_n 0, 1) := by decide +kernel
theorem dX1_suffer_5 : decode cX1_suffer 5 = .ok (.getfield 15, 3) := by decide +kernel
theorem dX1_suffer_8 : decode cX1_suffer 8 = .ok (.iload_n 1, 1) := by decide +kernel
theorem dX1_suffer_9 : decode cX1_suffer 9 = .ok (.iadd, 1) := by decide +kernel
theorem dX1_suffer_10 : decode cX1_suffer 10 = .ok (.invokestatic 37, 3) := by decide +kernel
theorem dX1_suffer_13 : decode cX1_suffer 13 = .ok (.putfield 15, 3) := by decide +kernel
theorem dX1_suffer_16 : decode cX1_suffer 16 = .ok (.aload_n 0, 1) := by decide +kernel
theorem dX1_suffer_17 : decode cX1_suffer 17 = .ok (.sipush 9999, 3) := by decide +kernel
theorem dX1_suffer_20 : decode cX1_suffer 20 = .ok (.aload_n 0, 1) := by decide +kernel
theorem dX1_suffer_21 : decode cX1_suffer 21 = .ok (.getfield 21, 3) := by decide +kernel
theorem dX1_suffer_24 : decode cX1_suffer 24 = .ok (.iload_n 2, 1) := by decide +kernel
theorem dX1_suffer_25 : decode cX1_suffer 25 = .ok (.iadd, 1) := by decide +kernel
theorem dX1_suffer_26 : decode cX1_suffer 26 = .ok (.invokestatic 37, 3) := by decide +kernel
theorem dX1_suffer_29 : decode cX1_suffer 29 = .ok (.putfield 21, 3) := by decide +kernel
theorem dX1_suffer_32 : decode cX1_suffer 32 = .ok (.return_, 1) := by decide +kernel
theorem dX1_forget_0 : decode cX1_forget 0 = .ok (.aload_n 0, 1) := by decide +kernel
theorem dX1_forget_1 : decode cX1_forget 1 = .ok (.iconst 0, 1) := by decide +kernel
theorem dX1_forget_2 : decode cX1_forget 2 = .ok (.aload_n 0, 1) := by decide +kernel
theorem dX1_forget_3 : decode cX1_forget 3 = .ok (.getfield 21, 3) := by decide +kernel
theorem dX1_forget_6 : decode cX1_forget 6 = .ok (.aload_n 0, 1) := by decide +kernel
theorem dX1_forget_7 : decode cX1_forget 7 = .ok (.invokevirtual 48, 3) := by decide +kernel
theorem dX1_forget_10 : decode cX1_forget 10 = .ok (.isub, 1) := by decide +kernel
theorem dX1_forget_11 : decode cX1_forget 11 = .ok (.invokestatic 27, 3) := by decide +kernel
theorem dX1_forget_14 : decode cX1_forget 14 = .ok (.putfield 21, 3) := by decide +kernel
theorem dX1_forget_17 : decode cX1_forget 17 = .ok (.return_, 1) := by decide +kernel
theorem dX2_init_0 : decode cX2_init 0 = .ok (.aload_n 0, 1) := by decide +kernel
theorem dX2_init_1 : decode cX2_init 1 = .ok (.invokespecial 3, 3) := by decide +kernel
theorem dX2_init_4 : decode cX2_init 4 = .ok (.aload_n 0, 1) := by decide +kernel
theorem dX2_init_5 : decode cX2_init 5 = .ok (.bipush 120, 2) := by decide +kernel
theorem dX2_init_7 : decode cX2_init 7 = .ok (.newarray .int, 2) := by decide +kernel
theorem dX2_init_9 : decode cX2_init 9 = .ok (.putfield 9, 3) := by decide +kernel
theorem dX2_init_12 : decode cX2_init 12 = .ok (.return_, 1) := by decide +kernel
theorem dX2_append_0 : decode cX2_append 0 = .ok (.aload_n 0, 1) := by decide +kernel
theorem dX2_append_1 : decode cX2_append 1 = .ok (.getfield 15, 3) := by decide +kernel
theorem dX2_append_4 : decode cX2_append 4 = .ok (.bipush 120, 2) := by decide +kernel
theorem dX2_append_6 : decode cX2_append 6 = .ok (.if_icmp .ge 23, 3) := by decide +kernel
theorem dX2_append_9 : decode cX2_append 9 = .ok (.aload_n 0, 1) := by decide +kernel
theorem dX2_append_10 : decode cX2_append 10 = .ok (.getfield 9, 3) := by decide +kernel
theorem dX2_append_13 : decode cX2_append 13 = .ok (.aload_n 0, 1) := by decide +kernel
theorem dX2_append_14 : decode cX2_append 14 = .ok (.getfield 15, 3) := by decide +kernel
theorem dX2_append_17 : decode cX2_append 17 = .ok (.iload_n 1, 1) := by decide +kernel
theorem dX2_append_18 : decode cX2_append 18 = .ok (.iastore, 1) := by decide +kernel
theorem dX2_append_19 : decode cX2_append 19 = .ok (.aload_n 0, 1) := by decide +kernel
theorem dX2_append_20 : decode cX2_append 20 = .ok (.dup, 1) := by decide +kernel
theorem dX2_append_21 : decode cX2_append 21 = .ok (.getfield 15, 3) := by decide +kernel
theorem dX2_append_24 : decode cX2_append 24 = .ok (.iconst 1, 1) := by decide +kernel
theorem dX2_append_25 : decode cX2_append 25 = .ok (.iadd, 1) := by decide +kernel
theorem dX2_append_26 : decode cX2_append 26 = .ok (.putfield 15, 3) := by decide +kernel
theorem dX2_append_29 : decode cX2_append 29 = .ok (.return_, 1) := by decide +kernel
theorem dX2_readInto_0 : decode cX2_readInto 0 = .ok (.aload_n 0, 1) := by decide +kernel
theorem dX2_readInto_1 : decode cX2_readInto 1 = .ok (.iconst 0, 1) := by decide +kernel
theorem dX2_readInto_2 : decode cX2_readInto 2 = .ok (.putfield 19, 3) := by decide +kernel
theorem dX2_readInto_5 : decode cX2_readInto 5 = .ok (.aload_n 0, 1) := by decide +kernel
theorem dX2_readInto_6 : decode cX2_readInto 6 = .ok (.invokevirtual 22, 3) := by decide +kernel
theorem dX2_readInto_9 : decode cX2_readInto 9 = .ok (.iconst 1, 1) := by decide +kernel
theorem dX2_readInto_10 : decode cX2_readInto 10 = .ok (.istore_n 2, 1) := by decide +kernel
theorem dX2_readInto_11 : decode cX2_readInto 11 = .ok (.iload_n 2, 1) := by decide +kernel
theorem dX2_readInto_12 : decode cX2_readInto 12 = .ok (.bipush 120, 2) := by decide +kernel
theorem dX2_readInto_14 : decode cX2_readInto 14 = .ok (.if_icmp .gt 44, 3) := by decide +kernel
theorem dX2_readInto_17 : decode cX2_readInto 17 = .ok (.aload_n 0, 1) := by decide +kernel
theorem dX2_readInto_18 : decode cX2_readInto 18 = .ok (.aload_n 1, 1) := by decide +kernel
theorem dX2_readInto_19 : decode cX2_readInto 19 = .ok (.invokevirtual 25, 3) := by decide +kernel
theorem dX2_readInto_22 : decode cX2_readInto 22 = .ok (.ifCond .ne 6, 3) := by decide +kernel
theorem dX2_readInto_25 : decode cX2_readInto 25 = .ok (.goto 33, 3) := by decide +kernel
theorem dX2_readInto_28 : decode cX2_readInto 28 = .ok (.aload_n 0, 1) := by decide +kernel
theorem dX2_readInto_29 : decode cX2_readInto 29 = .ok (.getfield 29, 3) := by decide +kernel
theorem dX2_readInto_32 : decode cX2_readInto 32 = .ok (.ifCond .ne 5, 3) := by decide +kernel
theorem dX2_readInto_35 : decode cX2_readInto 35 = .ok (.iload_n 2, 1) := by decide +kernel
theorem dX2_readInto_36 : decode cX2_readInto 36 = .ok (.ireturn, 1) := by decide +kernel
theorem dX2_readInto_37 : decode cX2_readInto 37 = .ok (.aload_n 0, 1) := by decide +kernel
theorem dX2_readInto_38 : decode cX2_readInto 38 = .ok (.getfield 29, 3) := by decide +kernel
theorem dX2_readInto_41 : decode cX2_readInto 41 = .ok (.iconst 3, 1) := by decide +kernel
theorem dX2_readInto_42 : decode cX2_readInto 42 = .ok (.if_icmp .eq 6, 3) := by decide +kernel
theorem dX2_readInto_45 : decode cX2_readInto 45 = .ok (.goto 13, 3) := by decide +kernel
theorem dX2_readInto_48 : decode cX2_readInto 48 = .ok (.aload_n 0, 1) := by decide +kernel
theorem dX2_readInto_49 : decode cX2_readInto 49 = .ok (.invokevirtual 22, 3) := by decide +kernel
theorem dX2_readInto_52 : decode cX2_readInto 52 = .ok (.iinc 2 1, 3) := by decide +kernel
theorem dX2_readInto_55 : decode cX2_readInto 55 = .ok (.goto (-44), 3) := by decide +kernel
theorem dX2_readInto_58 : decode cX2_readInto 58 = .ok (.iconst (-1), 1) := by decide +kernel
theorem dX2_readInto_59 : decode cX2_readInto 59 = .ok (.aload_n 0, 1) := by decide +kernel
theorem dX2_readInto_60 : decode cX2_readInto 60 = .ok (.getfield 32, 3) := by decide +kernel
theorem dX2_readInto_63 : decode cX2_readInto 63 = .ok (.isub, 1) := by decide +kernel
theorem dX2_readInto_64 : decode cX2_readInto 64 = .ok (.ireturn, 1) := by decide +kernel
theorem dX2_readItem_0 : decode cX2_readItem 0 = .ok (.aload_n 0, 1) := by decide +kernel
theorem dX2_readItem_1 : decode cX2_readItem 1 = .ok (.ldc 35, 2) := by decide +kernel
theorem dX2_readItem_3 : decode cX2_readItem 3 = .ok (.invokevirtual 37, 3) := by decide +kernel
theorem dX2_readItem_6 : decode cX2_readItem 6 = .ok (.ifCond .eq 13, 3) := by decide +kernel
theorem dX2_readItem_9 : decode cX2_readItem 9 = .ok (.aload_n 0, 1) := by decide +kernel
theorem dX2_readItem_10 : decode cX2_readItem 10 = .ok (.invokevirtual 22, 3) := by decide +kernel
theorem dX2_readItem_13 : decode cX2_readItem 13 = .ok (.aload_n 0, 1) := by decide +kernel
theorem dX2_readItem_14 : decode cX2_readItem 14 = .ok (.aload_n 1, 1) := by decide +kernel
theorem dX2_readItem_15 : decode cX2_readItem 15 = .ok (.invokevirtual 41, 3) := by decide +kernel
theorem dX2_readItem_18 : decode cX2_readItem 18 = .ok (.ireturn, 1) := by decide +kernel
theorem dX2_readItem_19 : decode cX2_readItem 19 = .ok (.aload_n 0, 1) := by decide +kernel
theorem dX2_readItem_20 : decode cX2_readItem 20 = .ok (.ldc 44, 2) := by decide +kernel
theorem dX2_readItem_22 : decode cX2_readItem 22 = .ok (.invokevirtual 37, 3) := by decide +kernel
theorem dX2_readItem_25 : decode cX2_readItem 25 = .ok (.ifCond .eq 13, 3) := by decide +kernel
theorem dX2_readItem_28 : decode cX2_readItem 28 = .ok (.aload_n 0, 1) := by decide +kernel
theorem dX2_readItem_29 : decode cX2_readItem 29 = .ok (.invokevirtual 22, 3) := by decide +kernel
theorem dX2_readItem_32 : decode cX2_readItem 32 = .ok (.aload_n 0, 1) := by decide +kernel
theorem dX2_readItem_33 : decode cX2_readItem 33 = .ok (.aload_n 1, 1) := by decide +kernel
theorem dX2_readItem_34 : decode cX2_readItem 34 = .ok (.invokevirtual 46, 3) := by decide +kernel
theorem dX2_readItem_37 : decode cX2_readItem 37 = .ok (.ireturn, 1) := by decide +kernel
theorem dX2_readItem_38 : decode cX2_readItem 38 = .ok (.aload_n 0, 1) := by decide +kernel
theorem dX2_readItem_39 : decode cX2_readItem 39 = .ok (.aload_n 1, 1) := by decide +kernel
theorem dX2_readItem_40 : decode cX2_readItem 40 = .ok (.invokevirtual 49, 3) := by decide +kernel
theorem dX2_readItem_43 : decode cX2_readItem 43 = .ok (.ireturn, 1) := by decide +kernel
theorem dX2_readSaying_0 : decode cX2_readSaying 0 = .ok (.aload_n 0, 1) := by decide +kernel
theorem dX2_readSaying_1 : decode cX2_readSaying 1 = .ok (.iconst 5, 1) := by decide +kernel
theorem dX2_readSaying_2 : decode cX2_readSaying 2 = .ok (.invokevirtual 52, 3) := by decide +kernel
theorem dX2_readSaying_5 : decode cX2_readSaying 5 = .ok (.istore_n 2, 1) := by decide +kernel
theorem dX2_readSaying_6 : decode cX2_readSaying 6 = .ok (.iload_n 2, 1) := by decide +kernel
theorem dX2_readSaying_7 : decode cX2_readSaying 7 = .ok (.iconst (-1), 1) := by decide +kernel
theorem dX2_readSaying_8 : decode cX2_readSaying 8 = .ok (.if_icmp .ne 5, 3) := by decide +kernel
theorem dX2_readSaying_11 : decode cX2_readSaying 11 = .ok (.iconst 0, 1) := by decide +kernel
theorem dX2_readSaying_12 : decode cX2_readSaying 12 = .ok (.ireturn, 1) := by decide +kernel
theorem dX2_readSaying_13 : decode cX2_readSaying 13 = .ok (.aload_n 0, 1) := by decide +kernel
theorem dX2_readSaying_14 : decode cX2_readSaying 14 = .ok (.bipush 7, 2) := by decide +kernel
theorem dX2_readSaying_16 : decode cX2_readSaying 16 = .ok (.invokevirtual 52, 3) := by decide +kernel
theorem dX2_readSaying_19 : decode cX2_readSaying 19 = .ok (.istore_n 3, 1) := by decide +kernel
theorem dX2_readSaying_20 : decode cX2_readSaying 20 = .ok (.iload_n 3, 1) := by decide +kernel
theorem dX2_readSaying_21 : decode cX2_readSaying 21 = .ok (.iconst (-1), 1) := by decide +kernel
theorem dX2_readSaying_22 : decode cX2_readSaying 22 = .ok (.if_icmp .ne 5, 3) := by decide +kernel
theorem dX2_readSaying_25 : decode cX2_readSaying 25 = .ok (.iconst 0, 1) := by decide +kernel
theorem dX2_readSaying_26 : decode cX2_readSaying 26 = .ok (.ireturn, 1) := by decide +kernel
theorem dX2_readSaying_27 : decode cX2_readSaying 27 = .ok (.aload_n 0, 1) := by decide +kernel
theorem dX2_readSaying_28 : decode cX2_readSaying 28 = .ok (.bipush 20, 2) := by decide +kernel
theorem dX2_readSaying_30 : decode cX2_readSaying 30 = .ok (.invokevirtual 52, 3) := by decide +kernel
theorem dX2_readSaying_33 : decode cX2_readSaying 33 = .ok (.istore 4, 2) := by decide +kernel
theorem dX2_readSaying_35 : decode cX2_readSaying 35 = .ok (.iload 4, 2) := by decide +kernel
theorem dX2_readSaying_37 : decode cX2_readSaying 37 = .ok (.iconst (-1), 1) := by decide +kernel
theorem dX2_readSaying_38 : decode cX2_readSaying 38 = .ok (.if_icmp .ne 5, 3) := by decide +kernel
theorem dX2_readSaying_41 : decode cX2_readSaying 41 = .ok (.iconst 0, 1) := by decide +kernel
theorem dX2_readSaying_42 : decode cX2_readSaying 42 = .ok (.ireturn, 1) := by decide +kernel
theorem dX2_readSaying_43 : decode cX2_readSaying 43 = .ok (.aload_n 1, 1) := by decide +kernel
theorem dX2_readSaying_44 : decode cX2_readSaying 44 = .ok (.getfield 56, 3) := by decide +kernel
theorem dX2_readSaying_47 : decode cX2_readSaying 47 = .ok (.iload_n 2, 1) := by decide +kernel
theorem dX2_readSaying_48 : decode cX2_readSaying 48 = .ok (.iload_n 3, 1) := by decide +kernel
theorem dX2_readSaying_49 : decode cX2_readSaying 49 = .ok (.iload 4, 2) := by decide +kernel
theorem dX2_readSaying_51 : decode cX2_readSaying 51 = .ok (.invokestatic 61, 3) := by decide +kernel
theorem dX2_readSaying_54 : decode cX2_readSaying 54 = .ok (.iastore, 1) := by decide +kernel
theorem dX2_readSaying_55 : decode cX2_readSaying 55 = .ok (.iconst 1, 1) := by decide +kernel
theorem dX2_readSaying_56 : decode cX2_readSaying 56 = .ok (.ireturn, 1) := by decide +kernel
theorem dX2_readHints_0 : decode cX2_readHints 0 = .ok (.aload_n 0, 1) := by decide +kernel
theorem dX2_readHints_1 : decode cX2_readHints 1 = .ok (.sipush 9999, 3) := by decide +kernel
theorem dX2_readHints_4 : decode cX2_readHints 4 = .ok (.invokevirtual 52, 3) := by decide +kernel
theorem dX2_readHints_7 : decode cX2_readHints 7 = .ok (.istore_n 2, 1) := by decide +kernel
theorem dX2_readHints_8 : decode cX2_readHints 8 = .ok (.iload_n 2, 1) := by decide +kernel
theorem dX2_readHints_9 : decode cX2_readHints 9 = .ok (.iconst (-1), 1) := by decide +kernel
theorem dX2_readHints_10 : decode cX2_readHints 10 = .ok (.if_icmp .ne 5, 3) := by decide +kernel
theorem dX2_readHints_13 : decode cX2_readHints 13 = .ok (.iconst 0, 1) := by decide +kernel
theorem dX2_readHints_14 : decode cX2_readHints 14 = .ok (.ireturn, 1) := by decide +kernel
theorem dX2_readHints_15 : decode cX2_readHints 15 = .ok (.aload_n 1, 1) := by decide +kernel
theorem dX2_readHints_16 : decode cX2_readHints 16 = .ok (.iload_n 2, 1) := by decide +kernel
theorem dX2_readHints_17 : decode cX2_readHints 17 = .ok (.putfield 65, 3) := by decide +kernel
theorem dX2_readHints_20 : decode cX2_readHints 20 = .ok (.iconst 1, 1) := by decide +kernel
theorem dX2_readHints_21 : decode cX2_readHints 21 = .ok (.ireturn, 1) := by decide +kernel
theorem dX2_readPerson_0 : decode cX2_readPerson 0 = .ok (.aload_n 0, 1) := by decide +kernel
theorem dX2_readPerson_1 : decode cX2_readPerson 1 = .ok (.invokevirtual 67, 3) := by decide +kernel
theorem dX2_readPerson_4 : decode cX2_readPerson 4 = .ok (.istore_n 2, 1) := by decide +kernel
theorem dX2_readPerson_5 : decode cX2_readPerson 5 = .ok (.iload_n 2, 1) := by decide +kernel
theorem dX2_readPerson_6 : decode cX2_readPerson 6 = .ok (.iconst (-1), 1) := by decide +kernel
theorem dX2_readPerson_7 : decode cX2_readPerson 7 = .ok (.if_icmp .ne 7, 3) := by decide +kernel
theorem dX2_readPerson_10 : decode cX2_readPerson 10 = .ok (.iconst (-1), 1) := by decide +kernel
theorem dX2_readPerson_11 : decode cX2_readPerson 11 = .ok (.goto 10, 3) := by decide +kernel
theorem dX2_readPerson_14 : decode cX2_readPerson 14 = .ok (.aload_n 1, 1) := by decide +kernel
theorem dX2_readPerson_15 : decode cX2_readPerson 15 = .ok (.iload_n 2, 1) := by decide +kernel
theorem dX2_readPerson_16 : decode cX2_readPerson 16 = .ok (.bipush 20, 2) := by decide +kernel
theorem dX2_readPerson_18 : decode cX2_readPerson 18 = .ok (.invokevirtual 71, 3) := by decide +kernel
theorem dX2_readPerson_21 : decode cX2_readPerson 21 = .ok (.istore_n 3, 1) := by decide +kernel
theorem dX2_readPerson_22 : decode cX2_readPerson 22 = .ok (.aload_n 1, 1) := by decide +kernel
theorem dX2_readPerson_23 : decode cX2_readPerson 23 = .ok (.iload_n 3, 1) := by decide +kernel
theorem dX2_readPerson_24 : decode cX2_readPerson 24 = .ok (.invokevirtual 74, 3) := by decide +kernel
theorem dX2_readPerson_27 : decode cX2_readPerson 27 = .ok (.ifCond .ne 5, 3) := by decide +kernel
theorem dX2_readPerson_30 : decode cX2_readPerson 30 = .ok (.iconst 0, 1) := by decide +kernel
theorem dX2_readPerson_31 : decode cX2_readPerson 31 = .ok (.ireturn, 1) := by decide +kernel
theorem dX2_readPerson_32 : decode cX2_readPerson 32 = .ok (.aload_n 0, 1) := by decide +kernel
theorem dX2_readPerson_33 : decode cX2_readPerson 33 = .ok (.invokevirtual 22, 3) := by decide +kernel
theorem dX2_readPerson_36 : decode cX2_readPerson 36 = .ok (.aload_n 1, 1) := by decide +kernel
theorem dX2_readPerson_37 : decode cX2_readPerson 37 = .ok (.getfield 78, 3) := by decide +kernel
theorem dX2_readPerson_40 : decode cX2_readPerson 40 = .ok (.iload_n 3, 1) := by decide +kernel
theorem dX2_readPerson_41 : decode cX2_readPerson 41 = .ok (.aaload, 1) := by decide +kernel
theorem dX2_readPerson_42 : decode cX2_readPerson 42 = .ok (.astore 4, 2) := by decide +kernel
theorem dX2_readPerson_44 : decode cX2_readPerson 44 = .ok (.aload_n 0, 1) := by decide +kernel
theorem dX2_readPerson_45 : decode cX2_readPerson 45 = .ok (.ldc 82, 2) := by decide +kernel
theorem dX2_readPerson_47 : decode cX2_readPerson 47 = .ok (.aload 4, 2) := by decide +kernel
theorem dX2_readPerson_49 : decode cX2_readPerson 49 = .ok (.iconst 2, 1) := by decide +kernel
theorem dX2_readPerson_50 : decode cX2_readPerson 50 = .ok (.invokevirtual 84, 3) := by decide +kernel
theorem dX2_readPerson_53 : decode cX2_readPerson 53 = .ok (.ifCond .eq 31, 3) := by decide +kernel
theorem dX2_readPerson_56 : decode cX2_readPerson 56 = .ok (.aload_n 0, 1) := by decide +kernel
theorem dX2_readPerson_57 : decode cX2_readPerson 57 = .ok (.ldc 88, 2) := by decide +kernel
theorem dX2_readPerson_59 : decode cX2_readPerson 59 = .ok (.aload 4, 2) := by decide +kernel
theorem dX2_readPerson_61 : decode cX2_readPerson 61 = .ok (.iconst 1, 1) := by decide +kernel
theorem dX2_readPerson_62 : decode cX2_readPerson 62 = .ok (.invokevirtual 84, 3) := by decide +kernel
theorem dX2_readPerson_65 : decode cX2_readPerson 65 = .ok (.ifCond .eq 19, 3) := by decide +kernel
theorem dX2_readPerson_68 : decode cX2_readPerson 68 = .ok (.aload_n 0, 1) := by decide +kernel
theorem dX2_readPerson_69 : decode cX2_readPerson 69 = .ok (.ldc 90, 2) := by decide +kernel
theorem dX2_readPerson_71 : decode cX2_readPerson 71 = .ok (.aload 4, 2) := by decide +kernel
theorem dX2_readPerson_73 : decode cX2_readPerson 73 = .ok (.iconst 3, 1) := by decide +kernel
theorem dX2_readPerson_74 : decode cX2_readPerson 74 = .ok (.invokevirtual 84, 3) := by decide +kernel
theorem dX2_readPerson_77 : decode cX2_readPerson 77 = .ok (.ifCond .eq 7, 3) := by decide +kernel
theorem dX2_readPerson_80 : decode cX2_readPerson 80 = .ok (.iconst 1, 1) := by decide +kernel
theorem dX2_readPerson_81 : decode cX2_readPerson 81 = .ok (.goto 4, 3) := by decide +kernel
theorem dX2_readPerson_84 : decode cX2_readPerson 84 = .ok (.iconst 0, 1) := by decide +kernel
theorem dX2_readPerson_85 : decode cX2_readPerson 85 = .ok (.ireturn, 1) := by decide +kernel
theorem dX2_readAttribute_0 : decode cX2_readAttribute 0 = .ok (.aload_n 0, 1) := by decide +kernel
theorem dX2_readAttribute_1 : decode cX2_readAttribute 1 = .ok (.aload_n 1, 1) := by decide +kernel
theorem dX2_readAttribute_2 : decode cX2_readAttribute 2 = .ok (.invokevirtual 37, 3) := by decide +kernel
theorem dX2_readAttribute_5 : decode cX2_readAttribute 5 = .ok (.ifCond .ne 5, 3) := by decide +kernel
theorem dX2_readAttribute_8 : decode cX2_readAttribute 8 = .ok (.iconst 1, 1) := by decide +kernel
theorem dX2_readAttribute_9 : decode cX2_readAttribute 9 = .ok (.ireturn, 1) := by decide +kernel
theorem dX2_readAttribute_10 : decode cX2_readAttribute 10 = .ok (.aload_n 0, 1) := by decide +kernel
theorem dX2_readAttribute_11 : decode cX2_readAttribute 11 = .ok (.invokevirtual 22, 3) := by decide +kernel
theorem dX2_readAttribute_14 : decode cX2_readAttribute 14 = .ok (.aload_n 0, 1) := by decide +kernel
theorem dX2_readAttribute_15 : decode cX2_readAttribute 15 = .ok (.iload_n 3, 1) := by decide +kernel
theorem dX2_readAttribute_16 : decode cX2_readAttribute 16 = .ok (.invokestatic 92, 3) := by decide +kernel
theorem dX2_readAttribute_19 : decode cX2_readAttribute 19 = .ok (.invokevirtual 52, 3) := by decide +kernel
theorem dX2_readAttribute_22 : decode cX2_readAttribute 22 = .ok (.istore 4, 2) := by decide +kernel
theorem dX2_readAttribute_24 : decode cX2_readAttribute 24 = .ok (.iload 4, 2) := by decide +kernel
theorem dX2_readAttribute_26 : decode cX2_readAttribute 26 = .ok (.iconst (-1), 1) := by decide +kernel
theorem dX2_readAttribute_27 : decode cX2_readAttribute 27 = .ok (.if_icmp .ne 5, 3) := by decide +kernel
theorem dX2_readAttribute_30 : decode cX2_readAttribute 30 = .ok (.iconst 0, 1) := by decide +kernel
theorem dX2_readAttribute_31 : decode cX2_readAttribute 31 = .ok (.ireturn, 1) := by decide +kernel
theorem dX2_readAttribute_32 : decode cX2_readAttribute 32 = .ok (.aload_n 2, 1) := by decide +kernel
theorem dX2_readAttribute_33 : decode cX2_readAttribute 33 = .ok (.iload_n 3, 1) := by decide +kernel
theorem dX2_readAttribute_34 : decode cX2_readAttribute 34 = .ok (.iload 4, 2) := by decide +kernel
theorem dX2_readAttribute_36 : decode cX2_readAttribute 36 = .ok (.invokevirtual 95, 3) := by decide +kernel
theorem dX2_readAttribute_39 : decode cX2_readAttribute 39 = .ok (.iconst 1, 1) := by decide +kernel
theorem dX2_readAttribute_40 : decode cX2_readAttribute 40 = .ok (.ireturn, 1) := by decide +kernel
theorem dX2_readNumber_0 : decode cX2_readNumber 0 = .ok (.aload_n 0, 1) := by decide +kernel
theorem dX2_readNumber_1 : decode cX2_readNumber 1 = .ok (.getfield 29, 3) := by decide +kernel
theorem dX2_readNumber_4 : decode cX2_readNumber 4 = .ok (.iconst 2, 1) := by decide +kernel
theorem dX2_readNumber_5 : decode cX2_readNumber 5 = .ok (.if_icmp .ne 11, 3) := by decide +kernel
theorem dX2_readNumber_8 : decode cX2_readNumber 8 = .ok (.aload_n 0, 1) := by decide +kernel
theorem dX2_readNumber_9 : decode cX2_readNumber 9 = .ok (.getfield 101, 3) := by decide +kernel
theorem dX2_readNumber_12 : decode cX2_readNumber 12 = .ok (.iload_n 1, 1) := by decide +kernel
theorem dX2_readNumber_13 : decode cX2_readNumber 13 = .ok (.if_icmp .le 5, 3) := by decide +kernel
theorem dX2_readNumber_16 : decode cX2_readNumber 16 = .ok (.iconst (-1), 1) := by decide +kernel
theorem dX2_readNumber_17 : decode cX2_readNumber 17 = .ok (.ireturn, 1) := by decide +kernel
theorem dX2_readNumber_18 : decode cX2_readNumber 18 = .ok (.aload_n 0, 1) := by decide +kernel
theorem dX2_readNumber_19 : decode cX2_readNumber 19 = .ok (.getfield 101, 3) := by decide +kernel
theorem dX2_readNumber_22 : decode cX2_readNumber 22 = .ok (.istore_n 2, 1) := by decide +kernel
theorem dX2_readNumber_23 : decode cX2_readNumber 23 = .ok (.aload_n 0, 1) := by decide +kernel
theorem dX2_readNumber_24 : decode cX2_readNumber 24 = .ok (.invokevirtual 22, 3) := by decide +kernel
theorem dX2_readNumber_27 : decode cX2_readNumber 27 = .ok (.iload_n 2, 1) := by decide +kernel
theorem dX2_readNumber_28 : decode cX2_readNumber 28 = .ok (.ireturn, 1) := by decide +kernel
theorem dX2_kindOfWord_0 : decode cX2_kindOfWord 0 = .ok (.aload_n 0, 1) := by decide +kernel
theorem dX2_kindOfWord_1 : decode cX2_kindOfWord 1 = .ok (.ldc 104, 2) := by decide +kernel
theorem dX2_kindOfWord_3 : decode cX2_kindOfWord 3 = .ok (.invokevirtual 37, 3) := by decide +kernel
theorem dX2_kindOfWord_6 : decode cX2_kindOfWord 6 = .ok (.ifCond .eq 5, 3) := by decide +kernel
theorem dX2_kindOfWord_9 : decode cX2_kindOfWord 9 = .ok (.iconst 0, 1) := by decide +kernel
theorem dX2_kindOfWord_10 : decode cX2_kindOfWord 10 = .ok (.ireturn, 1) := by decide +kernel
theorem dX2_kindOfWord_11 : decode cX2_kindOfWord 11 = .ok (.aload_n 0, 1) := by decide +kernel
theorem dX2_kindOfWord_12 : decode cX2_kindOfWord 12 = .ok (.ldc 106, 2) := by decide +kernel
theorem dX2_kindOfWord_14 : decode cX2_kindOfWord 14 = .ok (.invokevirtual 37, 3) := by decide +kernel
theorem dX2_kindOfWord_17 : decode cX2_kindOfWord 17 = .ok (.ifCond .eq 5, 3) := by decide +kernel
theorem dX2_kindOfWord_20 : decode cX2_kindOfWord 20 = .ok (.iconst 1, 1) := by decide +kernel
theorem dX2_kindOfWord_21 : decode cX2_kindOfWord 21 = .ok (.ireturn, 1) := by decide +kernel
theorem dX2_kindOfWord_22 : decode cX2_kindOfWord 22 = .ok (.aload_n 0, 1) := by decide +kernel
theorem dX2_kindOfWord_23 : decode cX2_kindOfWord 23 = .ok (.ldc 108, 2) := by decide +kernel
theorem dX2_kindOfWord_25 : decode cX2_kindOfWord 25 = .ok (.invokevirtual 37, 3) := by decide +kernel
theorem dX2_kindOfWord_28 : decode cX2_kindOfWord 28 = .ok (.ifCond .eq 5, 3) := by decide +kernel
theorem dX2_kindOfWord_31 : decode cX2_kindOfWord 31 = .ok (.iconst 2, 1) := by decide +kernel
theorem dX2_kindOfWord_32 : decode cX2_kindOfWord 32 = .ok (.ireturn, 1) := by decide +kernel
theorem dX2_kindOfWord_33 : decode cX2_kindOfWord 33 = .ok (.aload_n 0, 1) := by decide +kernel
theorem dX2_kindOfWord_34 : decode cX2_kindOfWord 34 = .ok (.ldc 110, 2) := by decide +kernel
theorem dX2_kindOfWord_36 : decode cX2_kindOfWord 36 = .ok (.invokevirtual 37, 3) := by decide +kernel
theorem dX2_kindOfWord_39 : decode cX2_kindOfWord 39 = .ok (.ifCond .eq 5, 3) := by decide +kernel
theorem dX2_kindOfWord_42 : decode cX2_kindOfWord 42 = .ok (.iconst 3, 1) := by decide +kernel
theorem dX2_kindOfWord_43 : decode cX2_kindOfWord 43 = .ok (.ireturn, 1) := by decide +kernel
theorem dX2_kindOfWord_44 : decode cX2_kindOfWord 44 = .ok (.aload_n 0, 1) := by decide +kernel
theorem dX2_kindOfWord_45 : decode cX2_kindOfWord 45 = .ok (.ldc 112, 2) := by decide +kernel
theorem dX2_kindOfWord_47 : decode cX2_kindOfWord 47 = .ok (.invokevirtual 37, 3) := by decide +kernel
theorem dX2_kindOfWord_50 : decode cX2_kindOfWord 50 = .ok (.ifCond .eq 5, 3) := by decide +kernel
theorem dX2_kindOfWord_53 : decode cX2_kindOfWord 53 = .ok (.iconst 4, 1) := by decide +kernel
theorem dX2_kindOfWord_54 : decode cX2_kindOfWord 54 = .ok (.ireturn, 1) := by decide +kernel
theorem dX2_kindOfWord_55 : decode cX2_kindOfWord 55 = .ok (.aload_n 0, 1) := by decide +kernel
theorem dX2_kindOfWord_56 : decode cX2_kindOfWord 56 = .ok (.ldc 114, 2) := by decide +kernel
theorem dX2_kindOfWord_58 : decode cX2_kindOfWord 58 = .ok (.invokevirtual 37, 3) := by decide +kernel
theorem dX2_kindOfWord_61 : decode cX2_kindOfWord 61 = .ok (.ifCond .eq 5, 3) := by decide +kernel
theorem dX2_kindOfWord_64 : decode cX2_kindOfWord 64 = .ok (.iconst 5, 1) := by decide +kernel
theorem dX2_kindOfWord_65 : decode cX2_kindOfWord 65 = .ok (.ireturn, 1) := by decide +kernel
theorem dX2_kindOfWord_66 : decode cX2_kindOfWord 66 = .ok (.aload_n 0, 1) := by decide +kernel
theorem dX2_kindOfWord_67 : decode cX2_kindOfWord 67 = .ok (.ldc 116, 2) := by decide +kernel
theorem dX2_kindOfWord_69 : decode cX2_kindOfWord 69 = .ok (.invokevirtual 37, 3) := by decide +kernel
theorem dX2_kindOfWord_72 : decode cX2_kindOfWord 72 = .ok (.ifCond .eq 6, 3) := by decide +kernel
theorem dX2_kindOfWord_75 : decode cX2_kindOfWord 75 = .ok (.bipush 6, 2) := by decide +kernel
theorem dX2_kindOfWord_77 : decode cX2_kindOfWord 77 = .ok (.ireturn, 1) := by decide +kernel
theorem dX2_kindOfWord_78 : decode cX2_kindOfWord 78 = .ok (.iconst (-1), 1) := by decide +kernel
theorem dX2_kindOfWord_79 : decode cX2_kindOfWord 79 = .ok (.ireturn, 1) := by decide +kernel
theorem dX2_isWord_0 : decode cX2_isWord 0 = .ok (.aload_n 0, 1) := by decide +kernel
theorem dX2_isWord_1 : decode cX2_isWord 1 = .ok (.getfield 29, 3) := by decide +kernel
theorem dX2_isWord_4 : decode cX2_isWord 4 = .ok (.iconst 1, 1) := by decide +kernel
theorem dX2_isWord_5 : decode cX2_isWord 5 = .ok (.if_icmp .ne 19, 3) := by decide +kernel
theorem dX2_isWord_8 : decode cX2_isWord 8 = .ok (.aload_n 0, 1) := by decide +kernel
theorem dX2_isWord_9 : decode cX2_isWord 9 = .ok (.getfield 19, 3) := by decide +kernel
theorem dX2_isWord_12 : decode cX2_isWord 12 = .ok (.aload_n 0, 1) := by decide +kernel
theorem dX2_isWord_13 : decode cX2_isWord 13 = .ok (.getfield 32, 3) := by decide +kernel
theorem dX2_isWord_16 : decode cX2_isWord 16 = .ok (.isub, 1) := by decide +kernel
theorem dX2_isWord_17 : decode cX2_isWord 17 = .ok (.aload_n 1, 1) := by decide +kernel
theorem dX2_isWord_18 : decode cX2_isWord 18 = .ok (.invokevirtual 118, 3) := by decide +kernel
theorem dX2_isWord_21 : decode cX2_isWord 21 = .ok (.if_icmp .eq 5, 3) := by decide +kernel
theorem dX2_isWord_24 : decode cX2_isWord 24 = .ok (.iconst 0, 1) := by decide +kernel
theorem dX2_isWord_25 : decode cX2_isWord 25 = .ok (.ireturn, 1) := by decide +kernel
theorem dX2_isWord_26 : decode cX2_isWord 26 = .ok (.iconst 0, 1) := by decide +kernel
theorem dX2_isWord_27 : decode cX2_isWord 27 = .ok (.istore_n 2, 1) := by decide +kernel
theorem dX2_isWord_28 : decode cX2_isWord 28 = .ok (.iload_n 2, 1) := by decide +kernel
theorem dX2_isWord_29 : decode cX2_isWord 29 = .ok (.aload_n 1, 1) := by decide +kernel
theorem dX2_isWord_30 : decode cX2_isWord 30 = .ok (.invokevirtual 118, 3) := by decide +kernel
theorem dX2_isWord_33 : decode cX2_isWord 33 = .ok (.if_icmp .ge 30, 3) := by decide +kernel
theorem dX2_isWord_36 : decode cX2_isWord 36 = .ok (.aload_n 0, 1) := by decide +kernel
theorem dX2_isWord_37 : decode cX2_isWord 37 = .ok (.getfield 9, 3) := by decide +kernel
theorem dX2_isWord_40 : decode cX2_isWord 40 = .ok (.aload_n 0, 1) := by decide +kernel
theorem dX2_isWord_41 : decode cX2_isWord 41 = .ok (.getfield 32, 3) := by decide +kernel
theorem dX2_isWord_44 : decode cX2_isWord 44 = .ok (.iload_n 2, 1) := by decide +kernel
theorem dX2_isWord_45 : decode cX2_isWord 45 = .ok (.iadd, 1) := by decide +kernel
theorem dX2_isWord_46 : decode cX2_isWord 46 = .ok (.iaload, 1) := by decide +kernel
theorem dX2_isWord_47 : decode cX2_isWord 47 = .ok (.aload_n 1, 1) := by decide +kernel
theorem dX2_isWord_48 : decode cX2_isWord 48 = .ok (.iload_n 2, 1) := by decide +kernel
theorem dX2_isWord_49 : decode cX2_isWord 49 = .ok (.invokevirtual 123, 3) := by decide +kernel
theorem dX2_isWord_52 : decode cX2_isWord 52 = .ok (.if_icmp .eq 5, 3) := by decide +kernel
theorem dX2_isWord_55 : decode cX2_isWord 55 = .ok (.iconst 0, 1) := by decide +kernel
theorem dX2_isWord_56 : decode cX2_isWord 56 = .ok (.ireturn, 1) := by decide +kernel
theorem dX2_isWord_57 : decode cX2_isWord 57 = .ok (.iinc 2 1, 3) := by decide +kernel
theorem dX2_isWord_60 : decode cX2_isWord 60 = .ok (.goto (-32), 3) := by decide +kernel
theorem dX2_isWord_63 : decode cX2_isWord 63 = .ok (.iconst 1, 1) := by decide +kernel
theorem dX2_isWord_64 : decode cX2_isWord 64 = .ok (.ireturn, 1) := by decide +kernel
theorem dX2_step_0 : decode cX2_step 0 = .ok (.aload_n 0, 1) := by decide +kernel
theorem dX2_step_1 : decode cX2_step 1 = .ok (.getfield 19, 3) := by decide +kernel
theorem dX2_step_4 : decode cX2_step 4 = .ok (.aload_n 0, 1) := by decide +kernel
theorem dX2_step_5 : decode cX2_step 5 = .ok (.getfield 15, 3) := by decide +kernel
theorem dX2_step_8 : decode cX2_step 8 = .ok (.if_icmp .ge 30, 3) := by decide +kernel
theorem dX2_step_11 : decode cX2_step 11 = .ok (.aload_n 0, 1) := by decide +kernel
theorem dX2_step_12 : decode cX2_step 12 = .ok (.getfield 9, 3) := by decide +kernel
theorem dX2_step_15 : decode cX2_step 15 = .ok (.aload_n 0, 1) := by decide +kernel
theorem dX2_step_16 : decode cX2_step 16 = .ok (.getfield 19, 3) := by decide +kernel
theorem dX2_step_19 : decode cX2_step 19 = .ok (.iaload, 1) := by decide +kernel
theorem dX2_step_20 : decode cX2_step 20 = .ok (.bipush 32, 2) := by decide +kernel
theorem dX2_step_22 : decode cX2_step 22 = .ok (.if_icmp .ne 16, 3) := by decide +kernel
theorem dX2_step_25 : decode cX2_step 25 = .ok (.aload_n 0, 1) := by decide +kernel
theorem dX2_step_26 : decode cX2_step 26 = .ok (.dup, 1) := by decide +kernel
theorem dX2_step_27 : decode cX2_step 27 = .ok (.getfield 19, 3) := by decide +kernel
theorem dX2_step_30 : decode cX2_step 30 = .ok (.iconst 1, 1) := by decide +kernel
theorem dX2_step_31 : decode cX2_step 31 = .ok (.iadd, 1) := by decide +kernel
theorem dX2_step_32 : decode cX2_step 32 = .ok (.putfield 19, 3) := by decide +kernel
theorem dX2_step_35 : decode cX2_step 35 = .ok (.goto (-35), 3) := by decide +kernel
theorem dX2_step_38 : decode cX2_step 38 = .ok (.aload_n 0, 1) := by decide +kernel
theorem dX2_step_39 : decode cX2_step 39 = .ok (.aload_n 0, 1) := by decide +kernel
theorem dX2_step_40 : decode cX2_step 40 = .ok (.getfield 19, 3) := by decide +kernel
theorem dX2_step_43 : decode cX2_step 43 = .ok (.putfield 32, 3) := by decide +kernel
theorem dX2_step_46 : decode cX2_step 46 = .ok (.aload_n 0, 1) := by decide +kernel
theorem dX2_step_47 : decode cX2_step 47 = .ok (.getfield 32, 3) := by decide +kernel
theorem dX2_step_50 : decode cX2_step 50 = .ok (.aload_n 0, 1) := by decide +kernel
theorem dX2_step_51 : decode cX2_step 51 = .ok (.getfield 15, 3) := by decide +kernel
theorem dX2_step_54 : decode cX2_step 54 = .ok (.if_icmp .lt 11, 3) := by decide +kernel
theorem dX2_step_57 : decode cX2_step 57 = .ok (.aload_n 0, 1) := by decide +kernel
theorem dX2_step_58 : decode cX2_step 58 = .ok (.iconst 0, 1) := by decide +kernel
theorem dX2_step_59 : decode cX2_step 59 = .ok (.putfield 29, 3) := by decide +kernel
theorem dX2_step_62 : decode cX2_step 62 = .ok (.goto 189, 3) := by decide +kernel
theorem dX2_step_65 : decode cX2_step 65 = .ok (.aload_n 0, 1) := by decide +kernel
theorem dX2_step_66 : decode cX2_step 66 = .ok (.getfield 9, 3) := by decide +kernel
theorem dX2_step_69 : decode cX2_step 69 = .ok (.aload_n 0, 1) := by decide +kernel
theorem dX2_step_70 : decode cX2_step 70 = .ok (.getfield 32, 3) := by decide +kernel
theorem dX2_step_73 : decode cX2_step 73 = .ok (.iaload, 1) := by decide +kernel
theorem dX2_step_74 : decode cX2_step 74 = .ok (.invokestatic 127, 3) := by decide +kernel
theorem dX2_step_77 : decode cX2_step 77 = .ok (.ifCond .eq 47, 3) := by decide +kernel
theorem dX2_step_80 : decode cX2_step 80 = .ok (.aload_n 0, 1) := by decide +kernel
theorem dX2_step_81 : decode cX2_step 81 = .ok (.iconst 1, 1) := by decide +kernel
theorem dX2_step_82 : decode cX2_step 82 = .ok (.putfield 29, 3) := by decide +kernel
theorem dX2_step_85 : decode cX2_step 85 = .ok (.aload_n 0, 1) := by decide +kernel
theorem dX2_step_86 : decode cX2_step 86 = .ok (.getfield 19, 3) := by decide +kernel
theorem dX2_step_89 : decode cX2_step 89 = .ok (.aload_n 0, 1) := by decide +kernel
theorem dX2_step_90 : decode cX2_step 90 = .ok (.getfield 15, 3) := by decide +kernel
theorem dX2_step_93 : decode cX2_step 93 = .ok (.if_icmp .ge 158, 3) := by decide +kernel
theorem dX2_step_96 : decode cX2_step 96 = .ok (.aload_n 0, 1) := by decide +kernel
theorem dX2_step_97 : decode cX2_step 97 = .ok (.getfield 9, 3) := by decide +kernel
theorem dX2_step_100 : decode cX2_step 100 = .ok (.aload_n 0, 1) := by decide +kernel
theorem dX2_step_101 : decode cX2_step 101 = .ok (.getfield 19, 3) := by decide +kernel
theorem dX2_step_104 : decode cX2_step 104 = .ok (.iaload, 1) := by decide +kernel
theorem dX2_step_105 : decode cX2_step 105 = .ok (.invokestatic 127, 3) := by decide +kernel
theorem dX2_step_108 : decode cX2_step 108 = .ok (.ifCond .eq 143, 3) := by decide +kernel
theorem dX2_step_111 : decode cX2_step 111 = .ok (.aload_n 0, 1) := by decide +kernel
theorem dX2_step_112 : decode cX2_step 112 = .ok (.dup, 1) := by decide +kernel
theorem dX2_step_113 : decode cX2_step 113 = .ok (.getfield 19, 3) := by decide +kernel
theorem dX2_step_116 : decode cX2_step 116 = .ok (.iconst 1, 1) := by decide +kernel
theorem dX2_step_117 : decode cX2_step 117 = .ok (.iadd, 1) := by decide +kernel
theorem dX2_step_118 : decode cX2_step 118 = .ok (.putfield 19, 3) := by decide +kernel
theorem dX2_step_121 : decode cX2_step 121 = .ok (.goto (-36), 3) := by decide +kernel
theorem dX2_step_124 : decode cX2_step 124 = .ok (.aload_n 0, 1) := by decide +kernel
theorem dX2_step_125 : decode cX2_step 125 = .ok (.getfield 9, 3) := by decide +kernel
theorem dX2_step_128 : decode cX2_step 128 = .ok (.aload_n 0, 1) := by decide +kernel
theorem dX2_step_129 : decode cX2_step 129 = .ok (.getfield 32, 3) := by decide +kernel
theorem dX2_step_132 : decode cX2_step 132 = .ok (.iaload, 1) := by decide +kernel
theorem dX2_step_133 : decode cX2_step 133 = .ok (.invokestatic 130, 3) := by decide +kernel
theorem dX2_step_136 : decode cX2_step 136 = .ok (.ifCond .eq 82, 3) := by decide +kernel
theorem dX2_step_139 : decode cX2_step 139 = .ok (.aload_n 0, 1) := by decide +kernel
theorem dX2_step_140 : decode cX2_step 140 = .ok (.iconst 2, 1) := by decide +kernel
theorem dX2_step_141 : decode cX2_step 141 = .ok (.putfield 29, 3) := by decide +kernel
theorem dX2_step_144 : decode cX2_step 144 = .ok (.aload_n 0, 1) := by decide +kernel
theorem dX2_step_145 : decode cX2_step 145 = .ok (.iconst 0, 1) := by decide +kernel
theorem dX2_step_146 : decode cX2_step 146 = .ok (.putfield 101, 3) := by decide +kernel
theorem dX2_step_149 : decode cX2_step 149 = .ok (.aload_n 0, 1) := by decide +kernel
theorem dX2_step_150 : decode cX2_step 150 = .ok (.getfield 19, 3) := by decide +kernel
theorem dX2_step_153 : decode cX2_step 153 = .ok (.aload_n 0, 1) := by decide +kernel
theorem dX2_step_154 : decode cX2_step 154 = .ok (.getfield 15, 3) := by decide +kernel
theorem dX2_step_157 : decode cX2_step 157 = .ok (.if_icmp .ge 94, 3) := by decide +kernel
theorem dX2_step_160 : decode cX2_step 160 = .ok (.aload_n 0, 1) := by decide +kernel
theorem dX2_step_161 : decode cX2_step 161 = .ok (.getfield 9, 3) := by decide +kernel
theorem dX2_step_164 : decode cX2_step 164 = .ok (.aload_n 0, 1) := by decide +kernel
theorem dX2_step_165 : decode cX2_step 165 = .ok (.getfield 19, 3) := by decide +kernel
theorem dX2_step_168 : decode cX2_step 168 = .ok (.iaload, 1) := by decide +kernel
theorem dX2_step_169 : decode cX2_step 169 = .ok (.invokestatic 130, 3) := by decide +kernel
theorem dX2_step_172 : decode cX2_step 172 = .ok (.ifCond .eq 79, 3) := by decide +kernel
theorem dX2_step_175 : decode cX2_step 175 = .ok (.aload_n 0, 1) := by decide +kernel
theorem dX2_step_176 : decode cX2_step 176 = .ok (.sipush 10000, 3) := by decide +kernel
theorem dX2_step_179 : decode cX2_step 179 = .ok (.bipush 10, 2) := by decide +kernel
theorem dX2_step_181 : decode cX2_step 181 = .ok (.aload_n 0, 1) := by decide +kernel
theorem dX2_step_182 : decode cX2_step 182 = .ok (.getfield 101, 3) := by decide +kernel
theorem dX2_step_185 : decode cX2_step 185 = .ok (.imul, 1) := by decide +kernel
theorem dX2_step_186 : decode cX2_step 186 = .ok (.aload_n 0, 1) := by decide +kernel
theorem dX2_step_187 : decode cX2_step 187 = .ok (.getfield 9, 3) := by decide +kernel
theorem dX2_step_190 : decode cX2_step 190 = .ok (.aload_n 0, 1) := by decide +kernel
theorem dX2_step_191 : decode cX2_step 191 = .ok (.getfield 19, 3) := by decide +kernel
theorem dX2_step_194 : decode cX2_step 194 = .ok (.iaload, 1) := by decide +kernel
theorem dX2_step_195 : decode cX2_step 195 = .ok (.iadd, 1) := by decide +kernel
theorem dX2_step_196 : decode cX2_step 196 = .ok (.bipush 48, 2) := by decide +kernel
theorem dX2_step_198 : decode cX2_step 198 = .ok (.isub, 1) := by decide +kernel
theorem dX2_step_199 : decode cX2_step 199 = .ok (.invokestatic 133, 3) := by decide +kernel
theorem dX2_step_202 : decode cX2_step 202 = .ok (.putfield 101, 3) := by decide +kernel
theorem dX2_step_205 : decode cX2_step 205 = .ok (.aload_n 0, 1) := by decide +kernel
theorem dX2_step_206 : decode cX2_step 206 = .ok (.dup, 1) := by decide +kernel
theorem dX2_step_207 : decode cX2_step 207 = .ok (.getfield 19, 3) := by decide +kernel
theorem dX2_step_210 : decode cX2_step 210 = .ok (.iconst 1, 1) := by decide +kernel
theorem dX2_step_211 : decode cX2_step 211 = .ok (.iadd, 1) := by decide +kernel
theorem dX2_step_212 : decode cX2_step 212 = .ok (.putfield 19, 3) := by decide +kernel
theorem dX2_step_215 : decode cX2_step 215 = .ok (.goto (-66), 3) := by decide +kernel
theorem dX2_step_218 : decode cX2_step 218 = .ok (.aload_n 0, 1) := by decide +kernel
theorem dX2_step_219 : decode cX2_step 219 = .ok (.aload_n 0, 1) := by decide +kernel
theorem dX2_step_220 : decode cX2_step 220 = .ok (.getfield 9, 3) := by decide +kernel
theorem dX2_step_223 : decode cX2_step 223 = .ok (.aload_n 0, 1) := by decide +kernel
theorem dX2_step_224 : decode cX2_step 224 = .ok (.getfield 32, 3) := by decide +kernel
theorem dX2_step_227 : decode cX2_step 227 = .ok (.iaload, 1) := by decide +kernel
theorem dX2_step_228 : decode cX2_step 228 = .ok (.bipush 59, 2) := by decide +kernel
theorem dX2_step_230 : decode cX2_step 230 = .ok (.if_icmp .ne 7, 3) := by decide +kernel
theorem dX2_step_233 : decode cX2_step 233 = .ok (.iconst 3, 1) := by decide +kernel
theorem dX2_step_234 : decode cX2_step 234 = .ok (.goto 4, 3) := by decide +kernel
theorem dX2_step_237 : decode cX2_step 237 = .ok (.iconst 4, 1) := by decide +kernel
theorem dX2_step_238 : decode cX2_step 238 = .ok (.putfield 29, 3) := by decide +kernel
theorem dX2_step_241 : decode cX2_step 241 = .ok (.aload_n 0, 1) := by decide +kernel
theorem dX2_step_242 : decode cX2_step 242 = .ok (.dup, 1) := by decide +kernel
theorem dX2_step_243 : decode cX2_step 243 = .ok (.getfield 19, 3) := by decide +kernel
theorem dX2_step_246 : decode cX2_step 246 = .ok (.iconst 1, 1) := by decide +kernel
theorem dX2_step_247 : decode cX2_step 247 = .ok (.iadd, 1) := by decide +kernel
theorem dX2_step_248 : decode cX2_step 248 = .ok (.putfield 19, 3) := by decide +kernel
theorem dX2_step_251 : decode cX2_step 251 = .ok (.return_, 1) := by decide +kernel
theorem dX2_isLetter_0 : decode cX2_isLetter 0 = .ok (.iload_n 0, 1) := by decide +kernel
theorem dX2_isLetter_1 : decode cX2_isLetter 1 = .ok (.bipush 97, 2) := by decide +kernel
theorem dX2_isLetter_3 : decode cX2_isLetter 3 = .ok (.if_icmp .lt 13, 3) := by decide +kernel
theorem dX2_isLetter_6 : decode cX2_isLetter 6 = .ok (.iload_n 0, 1) := by decide +kernel
theorem dX2_isLetter_7 : decode cX2_isLetter 7 = .ok (.bipush 122, 2) := by decide +kernel
theorem dX2_isLetter_9 : decode cX2_isLetter 9 = .ok (.if_icmp .gt 7, 3) := by decide +kernel
theorem dX2_isLetter_12 : decode cX2_isLetter 12 = .ok (.iconst 1, 1) := by decide +kernel
theorem dX2_isLetter_13 : decode cX2_isLetter 13 = .ok (.goto 4, 3) := by decide +kernel
theorem dX2_isLetter_16 : decode cX2_isLetter 16 = .ok (.iconst 0, 1) := by decide +kernel
theorem dX2_isLetter_17 : decode cX2_isLetter 17 = .ok (.ireturn, 1) := by decide +kernel
theorem dX2_isDigit_0 : decode cX2_isDigit 0 = .ok (.iload_n 0, 1) := by decide +kernel
theorem dX2_isDigit_1 : decode cX2_isDigit 1 = .ok (.bipush 48, 2) := by decide +kernel
theorem dX2_isDigit_3 : decode cX2_isDigit 3 = .ok (.if_icmp .lt 13, 3) := by decide +kernel
theorem dX2_isDigit_6 : decode cX2_isDigit 6 = .ok (.iload_n 0, 1) := by decide +kernel
theorem dX2_isDigit_7 : decode cX2_isDigit 7 = .ok (.bipush 57, 2) := by decide +kernel
theorem dX2_isDigit_9 : decode cX2_isDigit 9 = .ok (.if_icmp .gt 7, 3) := by decide +kernel
theorem dX2_isDigit_12 : decode cX2_isDigit 12 = .ok (.iconst 1, 1) := by decide +kernel
theorem dX2_isDigit_13 : decode cX2_isDigit 13 = .ok (.goto 4, 3) := by decide +kernel
theorem dX2_isDigit_16 : decode cX2_isDigit 16 = .ok (.iconst 0, 1) := by decide +kernel
theorem dX2_isDigit_17 : decode cX2_isDigit 17 = .ok (.ireturn, 1) := by decide +kernel
theorem dX3_init_0 : decode cX3_init 0 = .ok (.aload_n 0, 1) := by decide +kernel
theorem dX3_init_1 : decode cX3_init 1 = .ok (.invokespecial 3, 3) := by decide +kernel
theorem dX3_init_4 : decode cX3_init 4 = .ok (.aload_n 0, 1) := by decide +kernel
theorem dX3_init_5 : decode cX3_init 5 = .ok (.bipush 40, 2) := by decide +kernel
theorem dX3_init_7 : decode cX3_init 7 = .ok (.newarray .int, 2) := by decide +kernel
theorem dX3_init_9 : decode cX3_init 9 = .ok (.putfield 9, 3) := by decide +kernel
theorem dX3_init_12 : decode cX3_init 12 = .ok (.return_, 1) := by decide +kernel
theorem dX3_isMissing_0 : decode cX3_isMissing 0 = .ok (.aload_n 0, 1) := by decide +kernel
theorem dX3_isMissing_1 : decode cX3_isMissing 1 = .ok (.getfield 15, 3) := by decide +kernel
theorem dX3_isMissing_4 : decode cX3_isMissing 4 = .ok (.ifCond .ne 7, 3) := by decide +kernel
theorem dX3_isMissing_7 : decode cX3_isMissing 7 = .ok (.iconst 1, 1) := by decide +kernel
theorem dX3_isMissing_8 : decode cX3_isMissing 8 = .ok (.goto 4, 3) := by decide +kernel
theorem dX3_isMissing_11 : decode cX3_isMissing 11 = .ok (.iconst 0, 1) := by decide +kernel
theorem dX3_isMissing_12 : decode cX3_isMissing 12 = .ok (.ireturn, 1) := by decide +kernel
theorem dX3_lay_0 : decode cX3_lay 0 = .ok (.aload_n 0, 1) := by decide +kernel
theorem dX3_lay_1 : decode cX3_lay 1 = .ok (.iload_n 1, 1) := by decide +kernel
theorem dX3_lay_2 : decode cX3_lay 2 = .ok (.putfield 15, 3) := by decide +kernel
theorem dX3_lay_5 : decode cX3_lay 5 = .ok (.aload_n 0, 1) := by decide +kernel
theorem dX3_lay_6 : decode cX3_lay 6 = .ok (.iload_n 2, 1) := by decide +kernel
theorem dX3_lay_7 : decode cX3_lay 7 = .ok (.putfield 19, 3) := by decide +kernel
theorem dX3_lay_10 : decode cX3_lay 10 = .ok (.iconst 0, 1) := by decide +kernel
theorem dX3_lay_11 : decode cX3_lay 11 = .ok (.istore_n 3, 1) := by decide +kernel
theorem dX3_lay_12 : decode cX3_lay 12 = .ok (.iload_n 3, 1) := by decide +kernel
theorem dX3_lay_13 : decode cX3_lay 13 = .ok (.bipush 40, 2) := by decide +kernel
theorem dX3_lay_15 : decode cX3_lay 15 = .ok (.if_icmp .ge 16, 3) := by decide +kernel
theorem dX3_lay_18 : decode cX3_lay 18 = .ok (.aload_n 0, 1) := by decide +kernel
theorem dX3_lay_19 : decode cX3_lay 19 = .ok (.getfield 9, 3) := by decide +kernel
theorem dX3_lay_22 : decode cX3_lay 22 = .ok (.iload_n 3, 1) := by decide +kernel
theorem dX3_lay_23 : decode cX3_lay 23 = .ok (.iconst 0, 1) := by decide +kernel
theorem dX3_lay_24 : decode cX3_lay 24 = .ok (.iastore, 1) := by decide +kernel
theorem dX3_lay_25 : decode cX3_lay 25 = .ok (.iinc 3 1, 3) := by decide +kernel
theorem dX3_lay_28 : decode cX3_lay 28 = .ok (.goto (-16), 3) := by decide +kernel
theorem dX3_lay_31 : decode cX3_lay 31 = .ok (.return_, 1) := by decide +kernel
theorem dX3_put_0 : decode cX3_put 0 = .ok (.bipush 32, 2) := by decide +kernel
theorem dX3_put_2 : decode cX3_put 2 = .ok (.aload_n 0, 1) := by decide +kernel
theorem dX3_put_3 : decode cX3_put 3 = .ok (.getfield 15, 3) := by decide +kernel
theorem dX3_put_6 : decode cX3_put 6 = .ok (.isub, 1) := by decide +kernel
theorem dX3_put_7 : decode cX3_put 7 = .ok (.istore_n 3, 1) := by decide +kernel
theorem dX3_put_8 : decode cX3_put 8 = .ok (.aload_n 0, 1) := by decide +kernel
theorem dX3_put_9 : decode cX3_put 9 = .ok (.getfield 9, 3) := by decide +kernel
theorem dX3_put_12 : decode cX3_put 12 = .ok (.iload_n 1, 1) := by decide +kernel
theorem dX3_put_13 : decode cX3_put 13 = .ok (.iload_n 2, 1) := by decide +kernel
theorem dX3_put_14 : decode cX3_put 14 = .ok (.iload_n 3, 1) := by decide +kernel
theorem dX3_put_15 : decode cX3_put 15 = .ok (.ishl, 1) := by decide +kernel
theorem dX3_put_16 : decode cX3_put 16 = .ok (.iload_n 3, 1) := by decide +kernel
theorem dX3_put_17 : decode cX3_put 17 = .ok (.ishr, 1) := by decide +kernel
theorem dX3_put_18 : decode cX3_put 18 = .ok (.iastore, 1) := by decide +kernel
theorem dX3_put_19 : decode cX3_put 19 = .ok (.return_, 1) := by decide +kernel
theorem dX3_hasRange_0 : decode cX3_hasRange 0 = .ok (.iload_n 1, 1) := by decide +kernel
theorem dX3_hasRange_1 : decode cX3_hasRange 1 = .ok (.ifCond .lt 29, 3) := by decide +kernel
theorem dX3_hasRange_4 : decode cX3_hasRange 4 = .ok (.iload_n 2, 1) := by decide +kernel
theorem dX3_hasRange_5 : decode cX3_hasRange 5 = .ok (.ifCond .lt 25, 3) := by decide +kernel
theorem dX3_hasRange_8 : decode cX3_hasRange 8 = .ok (.iload_n 2, 1) := by decide +kernel
theorem dX3_hasRange_9 : decode cX3_hasRange 9 = .ok (.aload_n 0, 1) := by decide +kernel
theorem dX3_hasRange_10 : decode cX3_hasRange 10 = .ok (.getfield 19, 3) := by decide +kernel
theorem dX3_hasRange_13 : decode cX3_hasRange 13 = .ok (.if_icmp .gt 17, 3) := by decide +kernel
theorem dX3_hasRange_16 : decode cX3_hasRange 16 = .ok (.iload_n 1, 1) := by decide +kernel
theorem dX3_hasRange_17 : decode cX3_hasRange 17 = .ok (.aload_n 0, 1) := by decide +kernel
theorem dX3_hasRange_18 : decode cX3_hasRange 18 = .ok (.getfield 19, 3) := by decide +kernel
theorem dX3_hasRange_21 : decode cX3_hasRange 21 = .ok (.iload_n 2, 1) := by decide +kernel
theorem dX3_hasRange_22 : decode cX3_hasRange 22 = .ok (.isub, 1) := by decide +kernel
theorem dX3_hasRange_23 : decode cX3_hasRange 23 = .ok (.if_icmp .gt 7, 3) := by decide +kernel
theorem dX3_hasRange_26 : decode cX3_hasRange 26 = .ok (.iconst 1, 1) := by decide +kernel
theorem dX3_hasRange_27 : decode cX3_hasRange 27 = .ok (.goto 4, 3) := by decide +kernel
theorem dX3_hasRange_30 : decode cX3_hasRange 30 = .ok (.iconst 0, 1) := by decide +kernel
theorem dX3_hasRange_31 : decode cX3_hasRange 31 = .ok (.ireturn, 1) := by decide +kernel
theorem dX4_init_0 : decode cX4_init 0 = .ok (.aload_n 0, 1) := by decide +kernel
theorem dX4_init_1 : decode cX4_init 1 = .ok (.invokespecial 3, 3) := by decide +kernel
theorem dX4_init_4 : decode cX4_init 4 = .ok (.aload_n 0, 1) := by decide +kernel
theorem dX4_init_5 : decode cX4_init 5 = .ok (.new 9, 3) := by decide +kernel
theorem dX4_init_8 : decode cX4_init 8 = .ok (.dup, 1) := by decide +kernel
theorem dX4_init_9 : decode cX4_init 9 = .ok (.invokespecial 11, 3) := by decide +kernel
theorem dX4_init_12 : decode cX4_init 12 = .ok (.putfield 12, 3) := by decide +kernel
theorem dX4_init_15 : decode cX4_init 15 = .ok (.aload_n 0, 1) := by decide +kernel
theorem dX4_init_16 : decode cX4_init 16 = .ok (.new 9, 3) := by decide +kernel
theorem dX4_init_19 : decode cX4_init 19 = .ok (.dup, 1) := by decide +kernel
theorem dX4_init_20 : decode cX4_init 20 = .ok (.invokespecial 11, 3) := by decide +kernel
theorem dX4_init_23 : decode cX4_init 23 = .ok (.putfield 16, 3) := by decide +kernel
theorem dX4_init_26 : decode cX4_init 26 = .ok (.aload_n 0, 1) := by decide +kernel
theorem dX4_init_27 : decode cX4_init 27 = .ok (.new 9, 3) := by decide +kernel
theorem dX4_init_30 : decode cX4_init 30 = .ok (.dup, 1) := by decide +kernel
theorem dX4_init_31 : decode cX4_init 31 = .ok (.invokespecial 11, 3) := by decide +kernel
theorem dX4_init_34 : decode cX4_init 34 = .ok (.putfield 19, 3) := by decide +kernel
theorem dX4_init_37 : decode cX4_init 37 = .ok (.aload_n 0, 1) := by decide +kernel
theorem dX4_init_38 : decode cX4_init 38 = .ok (.new 22, 3) := by decide +kernel
theorem dX4_init_41 : decode cX4_init 41 = .ok (.dup, 1) := by decide +kernel
theorem dX4_init_42 : decode cX4_init 42 = .ok (.invokespecial 24, 3) := by decide +kernel
theorem dX4_init_45 : decode cX4_init 45 = .ok (.putfield 25, 3) := by decide +kernel
theorem dX4_init_48 : decode cX4_init 48 = .ok (.aload_n 0, 1) := by decide +kernel
theorem dX4_init_49 : decode cX4_init 49 = .ok (.iconst 4, 1) := by decide +kernel
theorem dX4_init_50 : decode cX4_init 50 = .ok (.anewarray 29, 3) := by decide +kernel
theorem dX4_init_53 : decode cX4_init 53 = .ok (.putfield 31, 3) := by decide +kernel
theorem dX4_init_56 : decode cX4_init 56 = .ok (.iconst 0, 1) := by decide +kernel
theorem dX4_init_57 : decode cX4_init 57 = .ok (.istore_n 1, 1) := by decide +kernel
theorem dX4_init_58 : decode cX4_init 58 = .ok (.iload_n 1, 1) := by decide +kernel
theorem dX4_init_59 : decode cX4_init 59 = .ok (.iconst 4, 1) := by decide +kernel
theorem dX4_init_60 : decode cX4_init 60 = .ok (.if_icmp .ge 22, 3) := by decide +kernel
theorem dX4_init_63 : decode cX4_init 63 = .ok (.aload_n 0, 1) := by decide +kernel
theorem dX4_init_64 : decode cX4_init 64 = .ok (.getfield 31, 3) := by decide +kernel
theorem dX4_init_67 : decode cX4_init 67 = .ok (.iload_n 1, 1) := by decide +kernel
theorem dX4_init_68 : decode cX4_init 68 = .ok (.new 29, 3) := by decide +kernel
theorem dX4_init_71 : decode cX4_init 71 = .ok (.dup, 1) := by decide +kernel
theorem dX4_init_72 : decode cX4_init 72 = .ok (.invokespecial 35, 3) := by decide +kernel
theorem dX4_init_75 : decode cX4_init 75 = .ok (.aastore, 1) := by decide +kernel
theorem dX4_init_76 : decode cX4_init 76 = .ok (.iinc 1 1, 3) := by decide +kernel
theorem dX4_init_79 : decode cX4_init 79 = .ok (.goto (-21), 3) := by decide +kernel
theorem dX4_init_82 : decode cX4_init 82 = .ok (.aload_n 0, 1) := by decide +kernel
theorem dX4_init_83 : decode cX4_init 83 = .ok (.bipush 7, 2) := by decide +kernel
theorem dX4_init_85 : decode cX4_init 85 = .ok (.newarray .int, 2) := by decide +kernel
theorem dX4_init_87 : decode cX4_init 87 = .ok (.putfield 36, 3) := by decide +kernel
theorem dX4_init_90 : decode cX4_init 90 = .ok (.return_, 1) := by decide +kernel
theorem dX4_say_0 : decode cX4_say 0 = .ok (.iload_n 1, 1) := by decide +kernel
theorem dX4_say_1 : decode cX4_say 1 = .ok (.iconst 0, 1) := by decide +kernel
theorem dX4_say_2 : decode cX4_say 2 = .ok (.iconst 5, 1) := by decide +kernel
theorem dX4_say_3 : decode cX4_say 3 = .ok (.invokestatic 40, 3) := by decide +kernel
theorem dX4_say_6 : decode cX4_say 6 = .ok (.ifCond .eq 23, 3) := by decide +kernel
theorem dX4_say_9 : decode cX4_say 9 = .ok (.iload_n 2, 1) := by decide +kernel
theorem dX4_say_10 : decode cX4_say 10 = .ok (.iconst 0, 1) := by decide +kernel
theorem dX4_say_11 : decode cX4_say 11 = .ok (.bipush 7, 2) := by decide +kernel
theorem dX4_say_13 : decode cX4_say 13 = .ok (.invokestatic 40, 3) := by decide +kernel
theorem dX4_say_16 : decode cX4_say 16 = .ok (.ifCond .eq 13, 3) := by decide +kernel
theorem dX4_say_19 : decode cX4_say 19 = .ok (.iload_n 3, 1) := by decide +kernel
theorem dX4_say_20 : decode cX4_say 20 = .ok (.iconst 0, 1) := by decide +kernel
theorem dX4_say_21 : decode cX4_say 21 = .ok (.bipush 20, 2) := by decide +kernel
theorem dX4_say_23 : decode cX4_say 23 = .ok (.invokestatic 40, 3) := by decide +kernel
theorem dX4_say_26 : decode cX4_say 26 = .ok (.ifCond .ne 10, 3) := by decide +kernel
theorem dX4_say_29 : decode cX4_say 29 = .ok (.aload_n 0, 1) := by decide +kernel
theorem dX4_say_30 : decode cX4_say 30 = .ok (.ldc 44, 2) := by decide +kernel
theorem dX4_say_32 : decode cX4_say 32 = .ok (.invokevirtual 45, 3) := by decide +kernel
theorem dX4_say_35 : decode cX4_say 35 = .ok (.ireturn, 1) := by decide +kernel
theorem dX4_say_36 : decode cX4_say 36 = .ok (.aload_n 0, 1) := by decide +kernel
theorem dX4_say_37 : decode cX4_say 37 = .ok (.getfield 12, 3) := by decide +kernel
theorem dX4_say_40 : decode cX4_say 40 = .ok (.getfield 49, 3) := by decide +kernel
theorem dX4_say_43 : decode cX4_say 43 = .ok (.iload_n 1, 1) := by decide +kernel
theorem dX4_say_44 : decode cX4_say 44 = .ok (.iaload, 1) := by decide +kernel
theorem dX4_say_45 : decode cX4_say 45 = .ok (.istore 4, 2) := by decide +kernel
theorem dX4_say_47 : decode cX4_say 47 = .ok (.aload_n 0, 1) := by decide +kernel
theorem dX4_say_48 : decode cX4_say 48 = .ok (.getfield 12, 3) := by decide +kernel
theorem dX4_say_51 : decode cX4_say 51 = .ok (.getfield 49, 3) := by decide +kernel
theorem dX4_say_54 : decode cX4_say 54 = .ok (.iload_n 1, 1) := by decide +kernel
theorem dX4_say_55 : decode cX4_say 55 = .ok (.iload_n 2, 1) := by decide +kernel
theorem dX4_say_56 : decode cX4_say 56 = .ok (.iload_n 3, 1) := by decide +kernel
theorem dX4_say_57 : decode cX4_say 57 = .ok (.invokestatic 52, 3) := by decide +kernel
theorem dX4_say_60 : decode cX4_say 60 = .ok (.iastore, 1) := by decide +kernel
theorem dX4_say_61 : decode cX4_say 61 = .ok (.iload 4, 2) := by decide +kernel
theorem dX4_say_63 : decode cX4_say 63 = .ok (.ireturn, 1) := by decide +kernel
theorem dX4_said_0 : decode cX4_said 0 = .ok (.iload_n 1, 1) := by decide +kernel
theorem dX4_said_1 : decode cX4_said 1 = .ok (.iconst 0, 1) := by decide +kernel
theorem dX4_said_2 : decode cX4_said 2 = .ok (.iconst 5, 1) := by decide +kernel
theorem dX4_said_3 : decode cX4_said 3 = .ok (.invokestatic 40, 3) := by decide +kernel
theorem dX4_said_6 : decode cX4_said 6 = .ok (.ifCond .eq 15, 3) := by decide +kernel
theorem dX4_said_9 : decode cX4_said 9 = .ok (.aload_n 0, 1) := by decide +kernel
theorem dX4_said_10 : decode cX4_said 10 = .ok (.getfield 12, 3) := by decide +kernel
theorem dX4_said_13 : decode cX4_said 13 = .ok (.getfield 49, 3) := by decide +kernel
theorem dX4_said_16 : decode cX4_said 16 = .ok (.iload_n 1, 1) := by decide +kernel
theorem dX4_said_17 : decode cX4_said 17 = .ok (.iaload, 1) := by decide +kernel
theorem dX4_said_18 : decode cX4_said 18 = .ok (.goto 9, 3) := by decide +kernel
theorem dX4_said_21 : decode cX4_said 21 = .ok (.aload_n 0, 1) := by decide +kernel
theorem dX4_said_22 : decode cX4_said 22 = .ok (.ldc 44, 2) := by decide +kernel
theorem dX4_said_24 : decode cX4_said 24 = .ok (.invokevirtual 45, 3) := by decide +kernel
theorem dX4_said_27 : decode cX4_said 27 = .ok (.ireturn, 1) := by decide +kernel
theorem dX4_person_0 : decode cX4_person 0 = .ok (.iload_n 1, 1) := by decide +kernel
theorem dX4_person_1 : decode cX4_person 1 = .ok (.iconst 0, 1) := by decide +kernel
theorem dX4_person_2 : decode cX4_person 2 = .ok (.bipush 6, 2) := by decide +kernel
theorem dX4_person_4 : decode cX4_person 4 = .ok (.invokestatic 40, 3) := by decide +kernel
theorem dX4_person_7 : decode cX4_person 7 = .ok (.ifCond .eq 13, 3) := by decide +kernel
theorem dX4_person_10 : decode cX4_person 10 = .ok (.iload_n 2, 1) := by decide +kernel
theorem dX4_person_11 : decode cX4_person 11 = .ok (.iconst 0, 1) := by decide +kernel
theorem dX4_person_12 : decode cX4_person 12 = .ok (.bipush 99, 2) := by decide +kernel
theorem dX4_person_14 : decode cX4_person 14 = .ok (.invokestatic 40, 3) := by decide +kernel
theorem dX4_person_17 : decode cX4_person 17 = .ok (.ifCond .ne 10, 3) := by decide +kernel
theorem dX4_person_20 : decode cX4_person 20 = .ok (.aload_n 0, 1) := by decide +kernel
theorem dX4_person_21 : decode cX4_person 21 = .ok (.ldc 44, 2) := by decide +kernel
theorem dX4_person_23 : decode cX4_person 23 = .ok (.invokevirtual 45, 3) := by decide +kernel
theorem dX4_person_26 : decode cX4_person 26 = .ok (.ireturn, 1) := by decide +kernel
theorem dX4_person_27 : decode cX4_person 27 = .ok (.aload_n 0, 1) := by decide +kernel
theorem dX4_person_28 : decode cX4_person 28 = .ok (.getfield 12, 3) := by decide +kernel
theorem dX4_person_31 : decode cX4_person 31 = .ok (.getfield 56, 3) := by decide +kernel
theorem dX4_person_34 : decode cX4_person 34 = .ok (.bipush 8, 2) := by decide +kernel
theorem dX4_person_36 : decode cX4_person 36 = .ok (.if_icmp .lt 10, 3) := by decide +kernel
theorem dX4_person_39 : decode cX4_person 39 = .ok (.aload_n 0, 1) := by decide +kernel
theorem dX4_person_40 : decode cX4_person 40 = .ok (.ldc 60, 2) := by decide +kernel
theorem dX4_person_42 : decode cX4_person 42 = .ok (.invokevirtual 45, 3) := by decide +kernel
theorem dX4_person_45 : decode cX4_person 45 = .ok (.ireturn, 1) := by decide +kernel
theorem dX4_person_46 : decode cX4_person 46 = .ok (.aload_n 0, 1) := by decide +kernel
theorem dX4_person_47 : decode cX4_person 47 = .ok (.getfield 12, 3) := by decide +kernel
theorem dX4_person_50 : decode cX4_person 50 = .ok (.iload_n 1, 1) := by decide +kernel
theorem dX4_person_51 : decode cX4_person 51 = .ok (.iload_n 2, 1) := by decide +kernel
theorem dX4_person_52 : decode cX4_person 52 = .ok (.invokevirtual 61, 3) := by decide +kernel
theorem dX4_person_55 : decode cX4_person 55 = .ok (.ireturn, 1) := by decide +kernel
theorem dX4_of_0 : decode cX4_of 0 = .ok (.aload_n 0, 1) := by decide +kernel
theorem dX4_of_1 : decode cX4_of 1 = .ok (.getfield 12, 3) := by decide +kernel
theorem dX4_of_4 : decode cX4_of 4 = .ok (.iload_n 1, 1) := by decide +kernel
theorem dX4_of_5 : decode cX4_of 5 = .ok (.invokevirtual 64, 3) := by decide +kernel
theorem dX4_of_8 : decode cX4_of 8 = .ok (.ifCond .eq 13, 3) := by decide +kernel
theorem dX4_of_11 : decode cX4_of 11 = .ok (.iload_n 2, 1) := by decide +kernel
theorem dX4_of_12 : decode cX4_of 12 = .ok (.iconst 0, 1) := by decide +kernel
theorem dX4_of_13 : decode cX4_of 13 = .ok (.bipush 7, 2) := by decide +kernel
theorem dX4_of_15 : decode cX4_of 15 = .ok (.invokestatic 40, 3) := by decide +kernel
theorem dX4_of_18 : decode cX4_of 18 = .ok (.ifCond .ne 10, 3) := by decide +kernel
theorem dX4_of_21 : decode cX4_of 21 = .ok (.aload_n 0, 1) := by decide +kernel
theorem dX4_of_22 : decode cX4_of 22 = .ok (.ldc 44, 2) := by decide +kernel
theorem dX4_of_24 : decode cX4_of 24 = .ok (.invokevirtual 45, 3) := by decide +kernel
theorem dX4_of_27 : decode cX4_of 27 = .ok (.ireturn, 1) := by decide +kernel
theorem dX4_of_28 : decode cX4_of 28 = .ok (.aload_n 0, 1) := by decide +kernel
theorem dX4_of_29 : decode cX4_of 29 = .ok (.getfield 12, 3) := by decide +kernel
theorem dX4_of_32 : decode cX4_of 32 = .ok (.getfield 68, 3) := by decide +kernel
theorem dX4_of_35 : decode cX4_of 35 = .ok (.iload_n 1, 1) := by decide +kernel
theorem dX4_of_36 : decode cX4_of 36 = .ok (.aaload, 1) := by decide +kernel
theorem dX4_of_37 : decode cX4_of 37 = .ok (.astore_n 3, 1) := by decide +kernel
theorem dX4_of_38 : decode cX4_of 38 = .ok (.iload_n 2, 1) := by decide +kernel
theorem dX4_of_39 : decode cX4_of 39 = .ok (.tableswitch 47 5 7 #[25, 37, 42], 25) := by decide +kernel
theorem dX4_of_64 : decode cX4_of 64 = .ok (.aload_n 3, 1) := by decide +kernel
theorem dX4_of_65 : decode cX4_of 65 = .ok (.aload_n 0, 1) := by decide +kernel
theorem dX4_of_66 : decode cX4_of 66 = .ok (.getfield 12, 3) := by decide +kernel
theorem dX4_of_69 : decode cX4_of 69 = .ok (.getfield 72, 3) := by decide +kernel
theorem dX4_of_72 : decode cX4_of 72 = .ok (.invokevirtual 75, 3) := by decide +kernel
theorem dX4_of_75 : decode cX4_of 75 = .ok (.ireturn, 1) := by decide +kernel
theorem dX4_of_76 : decode cX4_of 76 = .ok (.aload_n 3, 1) := by decide +kernel
theorem dX4_of_77 : decode cX4_of 77 = .ok (.invokevirtual 80, 3) := by decide +kernel
theorem dX4_of_80 : decode cX4_of 80 = .ok (.ireturn, 1) := by decide +kernel
theorem dX4_of_81 : decode cX4_of 81 = .ok (.aload_n 3, 1) := by decide +kernel
theorem dX4_of_82 : decode cX4_of 82 = .ok (.invokevirtual 84, 3) := by decide +kernel
theorem dX4_of_85 : decode cX4_of 85 = .ok (.ireturn, 1) := by decide +kernel
theorem dX4_of_86 : decode cX4_of 86 = .ok (.aload_n 3, 1) := by decide +kernel
theorem dX4_of_87 : decode cX4_of 87 = .ok (.iload_n 2, 1) := by decide +kernel
theorem dX4_of_88 : decode cX4_of 88 = .ok (.invokevirtual 87, 3) := by decide +kernel
theorem dX4_of_91 : decode cX4_of 91 = .ok (.ireturn, 1) := by decide +kernel
theorem dX4_change_0 : decode cX4_change 0 = .ok (.aload_n 0, 1) := by decide +kernel
theorem dX4_change_1 : decode cX4_change 1 = .ok (.getfield 12, 3) := by decide +kernel
theorem dX4_change_4 : decode cX4_change 4 = .ok (.iload_n 1, 1) := by decide +kernel
theorem dX4_change_5 : decode cX4_change 5 = .ok (.invokevirtual 64, 3) := by decide +kernel
theorem dX4_change_8 : decode cX4_change 8 = .ok (.ifCond .eq 24, 3) := by decide +kernel
theorem dX4_change_11 : decode cX4_change 11 = .ok (.iload_n 2, 1) := by decide +kernel
theorem dX4_change_12 : decode cX4_change 12 = .ok (.iconst 0, 1) := by decide +kernel
theorem dX4_change_13 : decode cX4_change 13 = .ok (.iconst 4, 1) := by decide +kernel
theorem dX4_change_14 : decode cX4_change 14 = .ok (.invokestatic 40, 3) := by decide +kernel
theorem dX4_change_17 : decode cX4_change 17 = .ok (.ifCond .eq 15, 3) := by decide +kernel
theorem dX4_change_20 : decode cX4_change 20 = .ok (.iload_n 3, 1) := by decide +kernel
theorem dX4_change_21 : decode cX4_change 21 = .ok (.iconst 0, 1) := by decide +kernel
theorem dX4_change_22 : decode cX4_change 22 = .ok (.iload_n 2, 1) := by decide +kernel
theorem dX4_change_23 : decode cX4_change 23 = .ok (.invokestatic 90, 3) := by decide +kernel
theorem dX4_change_26 : decode cX4_change 26 = .ok (.invokestatic 40, 3) := by decide +kernel
theorem dX4_change_29 : decode cX4_change 29 = .ok (.ifCond .ne 10, 3) := by decide +kernel
theorem dX4_change_32 : decode cX4_change 32 = .ok (.aload_n 0, 1) := by decide +kernel
theorem dX4_change_33 : decode cX4_change 33 = .ok (.ldc 44, 2) := by decide +kernel
theorem dX4_change_35 : decode cX4_change 35 = .ok (.invokevirtual 45, 3) := by decide +kernel
theorem dX4_change_38 : decode cX4_change 38 = .ok (.ireturn, 1) := by decide +kernel
theorem dX4_change_39 : decode cX4_change 39 = .ok (.aload_n 0, 1) := by decide +kernel
theorem dX4_change_40 : decode cX4_change 40 = .ok (.getfield 12, 3) := by decide +kernel
theorem dX4_change_43 : decode cX4_change 43 = .ok (.getfield 68, 3) := by decide +kernel
theorem dX4_change_46 : decode cX4_change 46 = .ok (.iload_n 1, 1) := by decide +kernel
theorem dX4_change_47 : decode cX4_change 47 = .ok (.aaload, 1) := by decide +kernel
theorem dX4_change_48 : decode cX4_change 48 = .ok (.astore 4, 2) := by decide +kernel
theorem dX4_change_50 : decode cX4_change 50 = .ok (.aload 4, 2) := by decide +kernel
theorem dX4_change_52 : decode cX4_change 52 = .ok (.iload_n 2, 1) := by decide +kernel
theorem dX4_change_53 : decode cX4_change 53 = .ok (.invokevirtual 87, 3) := by decide +kernel
theorem dX4_change_56 : decode cX4_change 56 = .ok (.istore 5, 2) := by decide +kernel
theorem dX4_change_58 : decode cX4_change 58 = .ok (.aload 4, 2) := by decide +kernel
theorem dX4_change_60 : decode cX4_change 60 = .ok (.iload_n 2, 1) := by decide +kernel
theorem dX4_change_61 : decode cX4_change 61 = .ok (.iload_n 3, 1) := by decide +kernel
theorem dX4_change_62 : decode cX4_change 62 = .ok (.invokevirtual 93, 3) := by decide +kernel
theorem dX4_change_65 : decode cX4_change 65 = .ok (.iload 5, 2) := by decide +kernel
theorem dX4_change_67 : decode cX4_change 67 = .ok (.ireturn, 1) := by decide +kernel
theorem dX4_feels_0 : decode cX4_feels 0 = .ok (.aload_n 0, 1) := by decide +kernel
theorem dX4_feels_1 : decode cX4_feels 1 = .ok (.getfield 12, 3) := by decide +kernel
theorem dX4_feels_4 : decode cX4_feels 4 = .ok (.iload_n 1, 1) := by decide +kernel
theorem dX4_feels_5 : decode cX4_feels 5 = .ok (.invokevirtual 64, 3) := by decide +kernel
theorem dX4_feels_8 : decode cX4_feels 8 = .ok (.ifCond .eq 13, 3) := by decide +kernel
theorem dX4_feels_11 : decode cX4_feels 11 = .ok (.iload_n 2, 1) := by decide +kernel
theorem dX4_feels_12 : decode cX4_feels 12 = .ok (.iconst 0, 1) := by decide +kernel
theorem dX4_feels_13 : decode cX4_feels 13 = .ok (.bipush 20, 2) := by decide +kernel
theorem dX4_feels_15 : decode cX4_feels 15 = .ok (.invokestatic 40, 3) := by decide +kernel
theorem dX4_feels_18 : decode cX4_feels 18 = .ok (.ifCond .ne 10, 3) := by decide +kernel
theorem dX4_feels_21 : decode cX4_feels 21 = .ok (.aload_n 0, 1) := by decide +kernel
theorem dX4_feels_22 : decode cX4_feels 22 = .ok (.ldc 44, 2) := by decide +kernel
theorem dX4_feels_24 : decode cX4_feels 24 = .ok (.invokevirtual 45, 3) := by decide +kernel
theorem dX4_feels_27 : decode cX4_feels 27 = .ok (.ireturn, 1) := by decide +kernel
theorem dX4_feels_28 : decode cX4_feels 28 = .ok (.aload_n 0, 1) := by decide +kernel
theorem dX4_feels_29 : decode cX4_feels 29 = .ok (.getfield 12, 3) := by decide +kernel
theorem dX4_feels_32 : decode cX4_feels 32 = .ok (.getfield 68, 3) := by decide +kernel
theorem dX4_feels_35 : decode cX4_feels 35 = .ok (.iload_n 1, 1) := by decide +kernel
theorem dX4_feels_36 : decode cX4_feels 36 = .ok (.aaload, 1) := by decide +kernel
theorem dX4_feels_37 : decode cX4_feels 37 = .ok (.iload_n 2, 1) := by decide +kernel
theorem dX4_feels_38 : decode cX4_feels 38 = .ok (.invokevirtual 97, 3) := by decide +kernel
theorem dX4_feels_41 : decode cX4_feels 41 = .ok (.ireturn, 1) := by decide +kernel
theorem dX4_bearer_0 : decode cX4_bearer 0 = .ok (.aload_n 0, 1) := by decide +kernel
theorem dX4_bearer_1 : decode cX4_bearer 1 = .ok (.getfield 12, 3) := by decide +kernel
theorem dX4_bearer_4 : decode cX4_bearer 4 = .ok (.iload_n 1, 1) := by decide +kernel
theorem dX4_bearer_5 : decode cX4_bearer 5 = .ok (.invokevirtual 64, 3) := by decide +kernel
theorem dX4_bearer_8 : decode cX4_bearer 8 = .ok (.ifCond .eq 13, 3) := by decide +kernel
theorem dX4_bearer_11 : decode cX4_bearer 11 = .ok (.iload_n 2, 1) := by decide +kernel
theorem dX4_bearer_12 : decode cX4_bearer 12 = .ok (.iconst 1, 1) := by decide +kernel
theorem dX4_bearer_13 : decode cX4_bearer 13 = .ok (.bipush 20, 2) := by decide +kernel
theorem dX4_bearer_15 : decode cX4_bearer 15 = .ok (.invokestatic 40, 3) := by decide +kernel
theorem dX4_bearer_18 : decode cX4_bearer 18 = .ok (.ifCond .ne 10, 3) := by decide +kernel
theorem dX4_bearer_21 : decode cX4_bearer 21 = .ok (.aload_n 0, 1) := by decide +kernel
theorem dX4_bearer_22 : decode cX4_bearer 22 = .ok (.ldc 44, 2) := by decide +kernel
theorem dX4_bearer_24 : decode cX4_bearer 24 = .ok (.invokevirtual 45, 3) := by decide +kernel
theorem dX4_bearer_27 : decode cX4_bearer 27 = .ok (.ireturn, 1) := by decide +kernel
theorem dX4_bearer_28 : decode cX4_bearer 28 = .ok (.aload_n 0, 1) := by decide +kernel
theorem dX4_bearer_29 : decode cX4_bearer 29 = .ok (.getfield 12, 3) := by decide +kernel
theorem dX4_bearer_32 : decode cX4_bearer 32 = .ok (.iload_n 1, 1) := by decide +kernel
theorem dX4_bearer_33 : decode cX4_bearer 33 = .ok (.invokevirtual 100, 3) := by decide +kernel
theorem dX4_bearer_36 : decode cX4_bearer 36 = .ok (.istore_n 3, 1) := by decide +kernel
theorem dX4_bearer_37 : decode cX4_bearer 37 = .ok (.aload_n 0, 1) := by decide +kernel
theorem dX4_bearer_38 : decode cX4_bearer 38 = .ok (.getfield 12, 3) := by decide +kernel
theorem dX4_bearer_41 : decode cX4_bearer 41 = .ok (.iload_n 3, 1) := by decide +kernel
theorem dX4_bearer_42 : decode cX4_bearer 42 = .ok (.iload_n 2, 1) := by decide +kernel
theorem dX4_bearer_43 : decode cX4_bearer 43 = .ok (.invokevirtual 103, 3) := by decide +kernel
theorem dX4_bearer_46 : decode cX4_bearer 46 = .ok (.ifCond .eq 7, 3) := by decide +kernel
theorem dX4_bearer_49 : decode cX4_bearer 49 = .ok (.iload_n 3, 1) := by decide +kernel
theorem dX4_bearer_50 : decode cX4_bearer 50 = .ok (.goto 9, 3) := by decide +kernel
theorem dX4_bearer_53 : decode cX4_bearer 53 = .ok (.aload_n 0, 1) := by decide +kernel
theorem dX4_bearer_54 : decode cX4_bearer 54 = .ok (.ldc 107, 2) := by decide +kernel
theorem dX4_bearer_56 : decode cX4_bearer 56 = .ok (.invokevirtual 45, 3) := by decide +kernel
theorem dX4_bearer_59 : decode cX4_bearer 59 = .ok (.ireturn, 1) := by decide +kernel
theorem dX4_go_0 : decode cX4_go 0 = .ok (.iload_n 1, 1) := by decide +kernel
theorem dX4_go_1 : decode cX4_go 1 = .ok (.iconst 1, 1) := by decide +kernel
theorem dX4_go_2 : decode cX4_go 2 = .ok (.bipush 60, 2) := by decide +kernel
theorem dX4_go_4 : decode cX4_go 4 = .ok (.invokestatic 40, 3) := by decide +kernel
theorem dX4_go_7 : decode cX4_go 7 = .ok (.ifCond .ne 10, 3) := by decide +kernel
theorem dX4_go_10 : decode cX4_go 10 = .ok (.aload_n 0, 1) := by decide +kernel
theorem dX4_go_11 : decode cX4_go 11 = .ok (.ldc 44, 2) := by decide +kernel
theorem dX4_go_13 : decode cX4_go 13 = .ok (.invokevirtual 45, 3) := by decide +kernel
theorem dX4_go_16 : decode cX4_go 16 = .ok (.ireturn, 1) := by decide +kernel
theorem dX4_go_17 : decode cX4_go 17 = .ok (.aload_n 0, 1) := by decide +kernel
theorem dX4_go_18 : decode cX4_go 18 = .ok (.getfield 12, 3) := by decide +kernel
theorem dX4_go_21 : decode cX4_go 21 = .ok (.getfield 72, 3) := by decide +kernel
theorem dX4_go_24 : decode cX4_go 24 = .ok (.iload_n 1, 1) := by decide +kernel
theorem dX4_go_25 : decode cX4_go 25 = .ok (.iadd, 1) := by decide +kernel
theorem dX4_go_26 : decode cX4_go 26 = .ok (.ldc 108, 2) := by decide +kernel
theorem dX4_go_28 : decode cX4_go 28 = .ok (.if_icmp .le 10, 3) := by decide +kernel
theorem dX4_go_31 : decode cX4_go 31 = .ok (.aload_n 0, 1) := by decide +kernel
theorem dX4_go_32 : decode cX4_go 32 = .ok (.ldc 109, 2) := by decide +kernel
theorem dX4_go_34 : decode cX4_go 34 = .ok (.invokevirtual 45, 3) := by decide +kernel
theorem dX4_go_37 : decode cX4_go 37 = .ok (.ireturn, 1) := by decide +kernel
theorem dX4_go_38 : decode cX4_go 38 = .ok (.aload_n 0, 1) := by decide +kernel
theorem dX4_go_39 : decode cX4_go 39 = .ok (.getfield 12, 3) := by decide +kernel
theorem dX4_go_42 : decode cX4_go 42 = .ok (.iload_n 1, 1) := by decide +kernel
theorem dX4_go_43 : decode cX4_go 43 = .ok (.invokevirtual 110, 3) := by decide +kernel
theorem dX4_go_46 : decode cX4_go 46 = .ok (.aload_n 0, 1) := by decide +kernel
theorem dX4_go_47 : decode cX4_go 47 = .ok (.getfield 12, 3) := by decide +kernel
theorem dX4_go_50 : decode cX4_go 50 = .ok (.iconst 1, 1) := by decide +kernel
theorem dX4_go_51 : decode cX4_go 51 = .ok (.invokevirtual 114, 3) := by decide +kernel
theorem dX4_go_54 : decode cX4_go 54 = .ok (.ireturn, 1) := by decide +kernel
theorem dX4_now_0 : decode cX4_now 0 = .ok (.iload_n 1, 1) := by decide +kernel
theorem dX4_now_1 : decode cX4_now 1 = .ok (.tableswitch 123 0 7 #[47, 55, 64, 73, 81, 89, 98, 107], 47) := by decide +kernel
theorem dX4_now_48 : decode cX4_now 48 = .ok (.aload_n 0, 1) := by decide +kernel
theorem dX4_now_49 : decode cX4_now 49 = .ok (.getfield 12, 3) := by decide +kernel
theorem dX4_now_52 : decode cX4_now 52 = .ok (.getfield 72, 3) := by decide +kernel
theorem dX4_now_55 : decode cX4_now 55 = .ok (.ireturn, 1) := by decide +kernel
theorem dX4_now_56 : decode cX4_now 56 = .ok (.aload_n 0, 1) := by decide +kernel
theorem dX4_now_57 : decode cX4_now 57 = .ok (.getfield 12, 3) := by decide +kernel
theorem dX4_now_60 : decode cX4_now 60 = .ok (.iconst 1, 1) := by decide +kernel
theorem dX4_now_61 : decode cX4_now 61 = .ok (.invokevirtual 114, 3) := by decide +kernel
theorem dX4_now_64 : decode cX4_now 64 = .ok (.ireturn, 1) := by decide +kernel
theorem dX4_now_65 : decode cX4_now 65 = .ok (.aload_n 0, 1) := by decide +kernel
theorem dX4_now_66 : decode cX4_now 66 = .ok (.getfield 12, 3) := by decide +kernel
theorem dX4_now_69 : decode cX4_now 69 = .ok (.iconst 3, 1) := by decide +kernel
theorem dX4_now_70 : decode cX4_now 70 = .ok (.invokevirtual 114, 3) := by decide +kernel
theorem dX4_now_73 : decode cX4_now 73 = .ok (.ireturn, 1) := by decide +kernel
theorem dX4_now_74 : decode cX4_now 74 = .ok (.aload_n 0, 1) := by decide +kernel
theorem dX4_now_75 : decode cX4_now 75 = .ok (.getfield 12, 3) := by decide +kernel
theorem dX4_now_78 : decode cX4_now 78 = .ok (.getfield 117, 3) := by decide +kernel
theorem dX4_now_81 : decode cX4_now 81 = .ok (.ireturn, 1) := by decide +kernel
theorem dX4_now_82 : decode cX4_now 82 = .ok (.aload_n 0, 1) := by decide +kernel
theorem dX4_now_83 : decode cX4_now 83 = .ok (.getfield 12, 3) := by decide +kernel
theorem dX4_now_86 : decode cX4_now 86 = .ok (.invokevirtual 120, 3) := by decide +kernel
theorem dX4_now_89 : decode cX4_now 89 = .ok (.ireturn, 1) := by decide +kernel
theorem dX4_now_90 : decode cX4_now 90 = .ok (.aload_n 0, 1) := by decide +kernel
theorem dX4_now_91 : decode cX4_now 91 = .ok (.getfield 12, 3) := by decide +kernel
theorem dX4_now_94 : decode cX4_now 94 = .ok (.iconst (-1), 1) := by decide +kernel
theorem dX4_now_95 : decode cX4_now 95 = .ok (.invokevirtual 100, 3) := by decide +kernel
theorem dX4_now_98 : decode cX4_now 98 = .ok (.ireturn, 1) := by decide +kernel
theorem dX4_now_99 : decode cX4_now 99 = .ok (.aload_n 0, 1) := by decide +kernel
theorem dX4_now_100 : decode cX4_now 100 = .ok (.getfield 12, 3) := by decide +kernel
theorem dX4_now_103 : decode cX4_now 103 = .ok (.iconst 4, 1) := by decide +kernel
theorem dX4_now_104 : decode cX4_now 104 = .ok (.invokevirtual 114, 3) := by decide +kernel
theorem dX4_now_107 : decode cX4_now 107 = .ok (.ireturn, 1) := by decide +kernel
theorem dX4_now_108 : decode cX4_now 108 = .ok (.aload_n 0, 1) := by decide +kernel
theorem dX4_now_109 : decode cX4_now 109 = .ok (.getfield 12, 3) := by decide +kernel
theorem dX4_now_112 : decode cX4_now 112 = .ok (.invokevirtual 123, 3) := by decide +kernel
theorem dX4_now_115 : decode cX4_now 115 = .ok (.ifCond .eq 7, 3) := by decide +kernel
theorem dX4_now_118 : decode cX4_now 118 = .ok (.iconst 1, 1) := by decide +kernel
theorem dX4_now_119 : decode cX4_now 119 = .ok (.goto 4, 3) := by decide +kernel
theorem dX4_now_122 : decode cX4_now 122 = .ok (.iconst 0, 1) := by decide +kernel
theorem dX4_now_123 : decode cX4_now 123 = .ok (.ireturn, 1) := by decide +kernel
theorem dX4_now_124 : decode cX4_now 124 = .ok (.aload_n 0, 1) := by decide +kernel
theorem dX4_now_125 : decode cX4_now 125 = .ok (.ldc 44, 2) := by decide +kernel
theorem dX4_now_127 : decode cX4_now 127 = .ok (.invokevirtual 45, 3) := by decide +kernel
theorem dX4_now_130 : decode cX4_now 130 = .ok (.ireturn, 1) := by decide +kernel
theorem dX4_ahead_0 : decode cX4_ahead 0 = .ok (.iload_n 2, 1) := by decide +kernel
theorem dX4_ahead_1 : decode cX4_ahead 1 = .ok (.iconst 1, 1) := by decide +kernel
theorem dX4_ahead_2 : decode cX4_ahead 2 = .ok (.if_icmp .eq 13, 3) := by decide +kernel
theorem dX4_ahead_5 : decode cX4_ahead 5 = .ok (.iload_n 2, 1) := by decide +kernel
theorem dX4_ahead_6 : decode cX4_ahead 6 = .ok (.iconst 3, 1) := by decide +kernel
theorem dX4_ahead_7 : decode cX4_ahead 7 = .ok (.if_icmp .eq 8, 3) := by decide +kernel
theorem dX4_ahead_10 : decode cX4_ahead 10 = .ok (.iload_n 2, 1) := by decide +kernel
theorem dX4_ahead_11 : decode cX4_ahead 11 = .ok (.iconst 4, 1) := by decide +kernel
theorem dX4_ahead_12 : decode cX4_ahead 12 = .ok (.if_icmp .ne 7, 3) := by decide +kernel
theorem dX4_ahead_15 : decode cX4_ahead 15 = .ok (.iconst 1, 1) := by decide +kernel
theorem dX4_ahead_16 : decode cX4_ahead 16 = .ok (.goto 4, 3) := by decide +kernel
theorem dX4_ahead_19 : decode cX4_ahead 19 = .ok (.iconst 0, 1) := by decide +kernel
theorem dX4_ahead_20 : decode cX4_ahead 20 = .ok (.istore 4, 2) := by decide +kernel
theorem dX4_ahead_22 : decode cX4_ahead 22 = .ok (.aload_n 0, 1) := by decide +kernel
theorem dX4_ahead_23 : decode cX4_ahead 23 = .ok (.getfield 12, 3) := by decide +kernel
theorem dX4_ahead_26 : decode cX4_ahead 26 = .ok (.iload_n 1, 1) := by decide +kernel
theorem dX4_ahead_27 : decode cX4_ahead 27 = .ok (.invokevirtual 64, 3) := by decide +kernel
theorem dX4_ahead_30 : decode cX4_ahead 30 = .ok (.ifCond .eq 18, 3) := by decide +kernel
theorem dX4_ahead_33 : decode cX4_ahead 33 = .ok (.iload 4, 2) := by decide +kernel
theorem dX4_ahead_35 : decode cX4_ahead 35 = .ok (.ifCond .eq 13, 3) := by decide +kernel
theorem dX4_ahead_38 : decode cX4_ahead 38 = .ok (.iload_n 3, 1) := by decide +kernel
theorem dX4_ahead_39 : decode cX4_ahead 39 = .ok (.iconst 0, 1) := by decide +kernel
theorem dX4_ahead_40 : decode cX4_ahead 40 = .ok (.bipush 100, 2) := by decide +kernel
theorem dX4_ahead_42 : decode cX4_ahead 42 = .ok (.invokestatic 40, 3) := by decide +kernel
theorem dX4_ahead_45 : decode cX4_ahead 45 = .ok (.ifCond .ne 10, 3) := by decide +kernel
theorem dX4_ahead_48 : decode cX4_ahead 48 = .ok (.aload_n 0, 1) := by decide +kernel
theorem dX4_ahead_49 : decode cX4_ahead 49 = .ok (.ldc 44, 2) := by decide +kernel
theorem dX4_ahead_51 : decode cX4_ahead 51 = .ok (.invokevirtual 45, 3) := by decide +kernel
theorem dX4_ahead_54 : decode cX4_ahead 54 = .ok (.ireturn, 1) := by decide +kernel
theorem dX4_ahead_55 : decode cX4_ahead 55 = .ok (.aload_n 0, 1) := by decide +kernel
theorem dX4_ahead_56 : decode cX4_ahead 56 = .ok (.getfield 19, 3) := by decide +kernel
theorem dX4_ahead_59 : decode cX4_ahead 59 = .ok (.aload_n 0, 1) := by decide +kernel
theorem dX4_ahead_60 : decode cX4_ahead 60 = .ok (.getfield 12, 3) := by decide +kernel
theorem dX4_ahead_63 : decode cX4_ahead 63 = .ok (.invokevirtual 127, 3) := by decide +kernel
theorem dX4_ahead_66 : decode cX4_ahead 66 = .ok (.aload_n 0, 1) := by decide +kernel
theorem dX4_ahead_67 : decode cX4_ahead 67 = .ok (.getfield 19, 3) := by decide +kernel
theorem dX4_ahead_70 : decode cX4_ahead 70 = .ok (.iload_n 3, 1) := by decide +kernel
theorem dX4_ahead_71 : decode cX4_ahead 71 = .ok (.invokevirtual 110, 3) := by decide +kernel
theorem dX4_ahead_74 : decode cX4_ahead 74 = .ok (.aload_n 0, 1) := by decide +kernel
theorem dX4_ahead_75 : decode cX4_ahead 75 = .ok (.getfield 19, 3) := by decide +kernel
theorem dX4_ahead_78 : decode cX4_ahead 78 = .ok (.getfield 68, 3) := by decide +kernel
theorem dX4_ahead_81 : decode cX4_ahead 81 = .ok (.iload_n 1, 1) := by decide +kernel
theorem dX4_ahead_82 : decode cX4_ahead 82 = .ok (.aaload, 1) := by decide +kernel
theorem dX4_ahead_83 : decode cX4_ahead 83 = .ok (.iload_n 2, 1) := by decide +kernel
theorem dX4_ahead_84 : decode cX4_ahead 84 = .ok (.invokevirtual 87, 3) := by decide +kernel
theorem dX4_ahead_87 : decode cX4_ahead 87 = .ok (.ireturn, 1) := by decide +kernel
theorem dX4_hints_0 : decode cX4_hints 0 = .ok (.iload_n 1, 1) := by decide +kernel
theorem dX4_hints_1 : decode cX4_hints 1 = .ok (.iconst 0, 1) := by decide +kernel
theorem dX4_hints_2 : decode cX4_hints 2 = .ok (.bipush 100, 2) := by decide +kernel
theorem dX4_hints_4 : decode cX4_hints 4 = .ok (.invokestatic 40, 3) := by decide +kernel
theorem dX4_hints_7 : decode cX4_hints 7 = .ok (.ifCond .ne 10, 3) := by decide +kernel
theorem dX4_hints_10 : decode cX4_hints 10 = .ok (.aload_n 0, 1) := by decide +kernel
theorem dX4_hints_11 : decode cX4_hints 11 = .ok (.ldc 44, 2) := by decide +kernel
theorem dX4_hints_13 : decode cX4_hints 13 = .ok (.invokevirtual 45, 3) := by decide +kernel
theorem dX4_hints_16 : decode cX4_hints 16 = .ok (.ireturn, 1) := by decide +kernel
theorem dX4_hints_17 : decode cX4_hints 17 = .ok (.aload_n 0, 1) := by decide +kernel
theorem dX4_hints_18 : decode cX4_hints 18 = .ok (.getfield 19, 3) := by decide +kernel
theorem dX4_hints_21 : decode cX4_hints 21 = .ok (.aload_n 0, 1) := by decide +kernel
theorem dX4_hints_22 : decode cX4_hints 22 = .ok (.getfield 12, 3) := by decide +kernel
theorem dX4_hints_25 : decode cX4_hints 25 = .ok (.invokevirtual 127, 3) := by decide +kernel
theorem dX4_hints_28 : decode cX4_hints 28 = .ok (.aload_n 0, 1) := by decide +kernel
theorem dX4_hints_29 : decode cX4_hints 29 = .ok (.getfield 19, 3) := by decide +kernel
theorem dX4_hints_32 : decode cX4_hints 32 = .ok (.iload_n 1, 1) := by decide +kernel
theorem dX4_hints_33 : decode cX4_hints 33 = .ok (.invokevirtual 110, 3) := by decide +kernel
theorem dX4_hints_36 : decode cX4_hints 36 = .ok (.aload_n 0, 1) := by decide +kernel
theorem dX4_hints_37 : decode cX4_hints 37 = .ok (.getfield 19, 3) := by decide +kernel
theorem dX4_hints_40 : decode cX4_hints 40 = .ok (.getfield 117, 3) := by decide +kernel
theorem dX4_hints_43 : decode cX4_hints 43 = .ok (.ireturn, 1) := by decide +kernel
theorem dX4_even_0 : decode cX4_even 0 = .ok (.aload_n 0, 1) := by decide +kernel
theorem dX4_even_1 : decode cX4_even 1 = .ok (.getfield 19, 3) := by decide +kernel
theorem dX4_even_4 : decode cX4_even 4 = .ok (.aload_n 0, 1) := by decide +kernel
theorem dX4_even_5 : decode cX4_even 5 = .ok (.getfield 12, 3) := by decide +kernel
theorem dX4_even_8 : decode cX4_even 8 = .ok (.invokevirtual 127, 3) := by decide +kernel
theorem dX4_even_11 : decode cX4_even 11 = .ok (.iconst 0, 1) := by decide +kernel
theorem dX4_even_12 : decode cX4_even 12 = .ok (.istore_n 1, 1) := by decide +kernel
theorem dX4_even_13 : decode cX4_even 13 = .ok (.iload_n 1, 1) := by decide +kernel
theorem dX4_even_14 : decode cX4_even 14 = .ok (.sipush 200, 3) := by decide +kernel
theorem dX4_even_17 : decode cX4_even 17 = .ok (.if_icmp .gt 28, 3) := by decide +kernel
theorem dX4_even_20 : decode cX4_even 20 = .ok (.aload_n 0, 1) := by decide +kernel
theorem dX4_even_21 : decode cX4_even 21 = .ok (.getfield 19, 3) := by decide +kernel
theorem dX4_even_24 : decode cX4_even 24 = .ok (.invokevirtual 123, 3) := by decide +kernel
theorem dX4_even_27 : decode cX4_even 27 = .ok (.ifCond .eq 5, 3) := by decide +kernel
theorem dX4_even_30 : decode cX4_even 30 = .ok (.iload_n 1, 1) := by decide +kernel
theorem dX4_even_31 : decode cX4_even 31 = .ok (.ireturn, 1) := by decide +kernel
theorem dX4_even_32 : decode cX4_even 32 = .ok (.aload_n 0, 1) := by decide +kernel
theorem dX4_even_33 : decode cX4_even 33 = .ok (.getfield 19, 3) := by decide +kernel
theorem dX4_even_36 : decode cX4_even 36 = .ok (.invokevirtual 131, 3) := by decide +kernel
theorem dX4_even_39 : decode cX4_even 39 = .ok (.iinc 1 1, 3) := by decide +kernel
theorem dX4_even_42 : decode cX4_even 42 = .ok (.goto (-29), 3) := by decide +kernel
theorem dX4_even_45 : decode cX4_even 45 = .ok (.aload_n 0, 1) := by decide +kernel
theorem dX4_even_46 : decode cX4_even 46 = .ok (.ldc 107, 2) := by decide +kernel
theorem dX4_even_48 : decode cX4_even 48 = .ok (.invokevirtual 45, 3) := by decide +kernel
theorem dX4_even_51 : decode cX4_even 51 = .ok (.ireturn, 1) := by decide +kernel
theorem dX4_when_0 : decode cX4_when 0 = .ok (.aload_n 0, 1) := by decide +kernel
theorem dX4_when_1 : decode cX4_when 1 = .ok (.getfield 12, 3) := by decide +kernel
theorem dX4_when_4 : decode cX4_when 4 = .ok (.iload_n 1, 1) := by decide +kernel
theorem dX4_when_5 : decode cX4_when 5 = .ok (.invokevirtual 64, 3) := by decide +kernel
theorem dX4_when_8 : decode cX4_when 8 = .ok (.ifCond .eq 14, 3) := by decide +kernel
theorem dX4_when_11 : decode cX4_when 11 = .ok (.iload_n 2, 1) := by decide +kernel
theorem dX4_when_12 : decode cX4_when 12 = .ok (.iconst 0, 1) := by decide +kernel
theorem dX4_when_13 : decode cX4_when 13 = .ok (.sipush 9999, 3) := by decide +kernel
theorem dX4_when_16 : decode cX4_when 16 = .ok (.invokestatic 40, 3) := by decide +kernel
theorem dX4_when_19 : decode cX4_when 19 = .ok (.ifCond .ne 10, 3) := by decide +kernel
theorem dX4_when_22 : decode cX4_when 22 = .ok (.aload_n 0, 1) := by decide +kernel
theorem dX4_when_23 : decode cX4_when 23 = .ok (.ldc 44, 2) := by decide +kernel
theorem dX4_when_25 : decode cX4_when 25 = .ok (.invokevirtual 45, 3) := by decide +kernel
theorem dX4_when_28 : decode cX4_when 28 = .ok (.ireturn, 1) := by decide +kernel
theorem dX4_when_29 : decode cX4_when 29 = .ok (.aload_n 0, 1) := by decide +kernel
theorem dX4_when_30 : decode cX4_when 30 = .ok (.iload_n 1, 1) := by decide +kernel
theorem dX4_when_31 : decode cX4_when 31 = .ok (.iload_n 2, 1) := by decide +kernel
theorem dX4_when_32 : decode cX4_when 32 = .ok (.sipush 9999, 3) := by decide +kernel
theorem dX4_when_35 : decode cX4_when 35 = .ok (.invokevirtual 134, 3) := by decide +kernel
theorem dX4_when_38 : decode cX4_when 38 = .ok (.ireturn, 1) := by decide +kernel
theorem dX4_clean_0 : decode cX4_clean 0 = .ok (.aload_n 0, 1) := by decide +kernel
theorem dX4_clean_1 : decode cX4_clean 1 = .ok (.getfield 12, 3) := by decide +kernel
theorem dX4_clean_4 : decode cX4_clean 4 = .ok (.iload_n 1, 1) := by decide +kernel
theorem dX4_clean_5 : decode cX4_clean 5 = .ok (.invokevirtual 64, 3) := by decide +kernel
theorem dX4_clean_8 : decode cX4_clean 8 = .ok (.ifCond .eq 13, 3) := by decide +kernel
theorem dX4_clean_11 : decode cX4_clean 11 = .ok (.aload_n 0, 1) := by decide +kernel
theorem dX4_clean_12 : decode cX4_clean 12 = .ok (.iload_n 1, 1) := by decide +kernel
theorem dX4_clean_13 : decode cX4_clean 13 = .ok (.iconst 0, 1) := by decide +kernel
theorem dX4_clean_14 : decode cX4_clean 14 = .ok (.iconst 0, 1) := by decide +kernel
theorem dX4_clean_15 : decode cX4_clean 15 = .ok (.invokevirtual 134, 3) := by decide +kernel
theorem dX4_clean_18 : decode cX4_clean 18 = .ok (.goto 9, 3) := by decide +kernel
theorem dX4_clean_21 : decode cX4_clean 21 = .ok (.aload_n 0, 1) := by decide +kernel
theorem dX4_clean_22 : decode cX4_clean 22 = .ok (.ldc 44, 2) := by decide +kernel
theorem dX4_clean_24 : decode cX4_clean 24 = .ok (.invokevirtual 45, 3) := by decide +kernel
theorem dX4_clean_27 : decode cX4_clean 27 = .ok (.ireturn, 1) := by decide +kernel
theorem dX4_daysToBorne_0 : decode cX4_daysToBorne 0 = .ok (.aload_n 0, 1) := by decide +kernel
theorem dX4_daysToBorne_1 : decode cX4_daysToBorne 1 = .ok (.getfield 19, 3) := by decide +kernel
theorem dX4_daysToBorne_4 : decode cX4_daysToBorne 4 = .ok (.aload_n 0, 1) := by decide +kernel
theorem dX4_daysToBorne_5 : decode cX4_daysToBorne 5 = .ok (.getfield 12, 3) := by decide +kernel
theorem dX4_daysToBorne_8 : decode cX4_daysToBorne 8 = .ok (.invokevirtual 127, 3) := by decide +kernel
theorem dX4_daysToBorne_11 : decode cX4_daysToBorne 11 = .ok (.iconst 0, 1) := by decide +kernel
theorem dX4_daysToBorne_12 : decode cX4_daysToBorne 12 = .ok (.istore 4, 2) := by decide +kernel
theorem dX4_daysToBorne_14 : decode cX4_daysToBorne 14 = .ok (.iload 4, 2) := by decide +kernel
theorem dX4_daysToBorne_16 : decode cX4_daysToBorne 16 = .ok (.sipush 200, 3) := by decide +kernel
theorem dX4_daysToBorne_19 : decode cX4_daysToBorne 19 = .ok (.if_icmp .gt 39, 3) := by decide +kernel
theorem dX4_daysToBorne_22 : decode cX4_daysToBorne 22 = .ok (.aload_n 0, 1) := by decide +kernel
theorem dX4_daysToBorne_23 : decode cX4_daysToBorne 23 = .ok (.getfield 19, 3) := by decide +kernel
theorem dX4_daysToBorne_26 : decode cX4_daysToBorne 26 = .ok (.getfield 68, 3) := by decide +kernel
theorem dX4_daysToBorne_29 : decode cX4_daysToBorne 29 = .ok (.iload_n 1, 1) := by decide +kernel
theorem dX4_daysToBorne_30 : decode cX4_daysToBorne 30 = .ok (.aaload, 1) := by decide +kernel
theorem dX4_daysToBorne_31 : decode cX4_daysToBorne 31 = .ok (.getfield 138, 3) := by decide +kernel
theorem dX4_daysToBorne_34 : decode cX4_daysToBorne 34 = .ok (.iload_n 2, 1) := by decide +kernel
theorem dX4_daysToBorne_35 : decode cX4_daysToBorne 35 = .ok (.iload_n 3, 1) := by decide +kernel
theorem dX4_daysToBorne_36 : decode cX4_daysToBorne 36 = .ok (.invokestatic 40, 3) := by decide +kernel
theorem dX4_daysToBorne_39 : decode cX4_daysToBorne 39 = .ok (.ifCond .eq 6, 3) := by decide +kernel
theorem dX4_daysToBorne_42 : decode cX4_daysToBorne 42 = .ok (.iload 4, 2) := by decide +kernel
theorem dX4_daysToBorne_44 : decode cX4_daysToBorne 44 = .ok (.ireturn, 1) := by decide +kernel
theorem dX4_daysToBorne_45 : decode cX4_daysToBorne 45 = .ok (.aload_n 0, 1) := by decide +kernel
theorem dX4_daysToBorne_46 : decode cX4_daysToBorne 46 = .ok (.getfield 19, 3) := by decide +kernel
theorem dX4_daysToBorne_49 : decode cX4_daysToBorne 49 = .ok (.invokevirtual 131, 3) := by decide +kernel
theorem dX4_daysToBorne_52 : decode cX4_daysToBorne 52 = .ok (.iinc 4 1, 3) := by decide +kernel
theorem dX4_daysToBorne_55 : decode cX4_daysToBorne 55 = .ok (.goto (-41), 3) := by decide +kernel
theorem dX4_daysToBorne_58 : decode cX4_daysToBorne 58 = .ok (.aload_n 0, 1) := by decide +kernel
theorem dX4_daysToBorne_59 : decode cX4_daysToBorne 59 = .ok (.ldc 107, 2) := by decide +kernel
theorem dX4_daysToBorne_61 : decode cX4_daysToBorne 61 = .ok (.invokevirtual 45, 3) := by decide +kernel
theorem dX4_daysToBorne_64 : decode cX4_daysToBorne 64 = .ok (.ireturn, 1) := by decide +kernel
theorem dX4_whom_0 : decode cX4_whom 0 = .ok (.iload_n 1, 1) := by decide +kernel
theorem dX4_whom_1 : decode cX4_whom 1 = .ok (.iconst 0, 1) := by decide +kernel
theorem dX4_whom_2 : decode cX4_whom 2 = .ok (.bipush 40, 2) := by decide +kernel
theorem dX4_whom_4 : decode cX4_whom 4 = .ok (.invokestatic 40, 3) := by decide +kernel
theorem dX4_whom_7 : decode cX4_whom 7 = .ok (.ifCond .ne 10, 3) := by decide +kernel
theorem dX4_whom_10 : decode cX4_whom 10 = .ok (.aload_n 0, 1) := by decide +kernel
theorem dX4_whom_11 : decode cX4_whom 11 = .ok (.ldc 44, 2) := by decide +kernel
theorem dX4_whom_13 : decode cX4_whom 13 = .ok (.invokevirtual 45, 3) := by decide +kernel
theorem dX4_whom_16 : decode cX4_whom 16 = .ok (.ireturn, 1) := by decide +kernel
theorem dX4_whom_17 : decode cX4_whom 17 = .ok (.iconst (-1), 1) := by decide +kernel
theorem dX4_whom_18 : decode cX4_whom 18 = .ok (.istore_n 2, 1) := by decide +kernel
theorem dX4_whom_19 : decode cX4_whom 19 = .ok (.ldc 141, 2) := by decide +kernel
theorem dX4_whom_21 : decode cX4_whom 21 = .ok (.istore_n 3, 1) := by decide +kernel
theorem dX4_whom_22 : decode cX4_whom 22 = .ok (.iconst 0, 1) := by decide +kernel
theorem dX4_whom_23 : decode cX4_whom 23 = .ok (.istore 4, 2) := by decide +kernel
theorem dX4_whom_25 : decode cX4_whom 25 = .ok (.iload 4, 2) := by decide +kernel
theorem dX4_whom_27 : decode cX4_whom 27 = .ok (.aload_n 0, 1) := by decide +kernel
theorem dX4_whom_28 : decode cX4_whom 28 = .ok (.getfield 12, 3) := by decide +kernel
theorem dX4_whom_31 : decode cX4_whom 31 = .ok (.getfield 56, 3) := by decide +kernel
theorem dX4_whom_34 : decode cX4_whom 34 = .ok (.if_icmp .ge 66, 3) := by decide +kernel
theorem dX4_whom_37 : decode cX4_whom 37 = .ok (.aload_n 0, 1) := by decide +kernel
theorem dX4_whom_38 : decode cX4_whom 38 = .ok (.getfield 19, 3) := by decide +kernel
theorem dX4_whom_41 : decode cX4_whom 41 = .ok (.aload_n 0, 1) := by decide +kernel
theorem dX4_whom_42 : decode cX4_whom 42 = .ok (.getfield 12, 3) := by decide +kernel
theorem dX4_whom_45 : decode cX4_whom 45 = .ok (.invokevirtual 127, 3) := by decide +kernel
theorem dX4_whom_48 : decode cX4_whom 48 = .ok (.aload_n 0, 1) := by decide +kernel
theorem dX4_whom_49 : decode cX4_whom 49 = .ok (.getfield 19, 3) := by decide +kernel
theorem dX4_whom_52 : decode cX4_whom 52 = .ok (.iload 4, 2) := by decide +kernel
theorem dX4_whom_54 : decode cX4_whom 54 = .ok (.aload_n 0, 1) := by decide +kernel
theorem dX4_whom_55 : decode cX4_whom 55 = .ok (.getfield 12, 3) := by decide +kernel
theorem dX4_whom_58 : decode cX4_whom 58 = .ok (.invokevirtual 142, 3) := by decide +kernel
theorem dX4_whom_61 : decode cX4_whom 61 = .ok (.invokevirtual 145, 3) := by decide +kernel
theorem dX4_whom_64 : decode cX4_whom 64 = .ok (.aload_n 0, 1) := by decide +kernel
theorem dX4_whom_65 : decode cX4_whom 65 = .ok (.getfield 19, 3) := by decide +kernel
theorem dX4_whom_68 : decode cX4_whom 68 = .ok (.iload_n 1, 1) := by decide +kernel
theorem dX4_whom_69 : decode cX4_whom 69 = .ok (.invokevirtual 110, 3) := by decide +kernel
theorem dX4_whom_72 : decode cX4_whom 72 = .ok (.aload_n 0, 1) := by decide +kernel
theorem dX4_whom_73 : decode cX4_whom 73 = .ok (.getfield 19, 3) := by decide +kernel
theorem dX4_whom_76 : decode cX4_whom 76 = .ok (.iconst 1, 1) := by decide +kernel
theorem dX4_whom_77 : decode cX4_whom 77 = .ok (.invokevirtual 114, 3) := by decide +kernel
theorem dX4_whom_80 : decode cX4_whom 80 = .ok (.istore 5, 2) := by decide +kernel
theorem dX4_whom_82 : decode cX4_whom 82 = .ok (.iload 5, 2) := by decide +kernel
theorem dX4_whom_84 : decode cX4_whom 84 = .ok (.iload_n 3, 1) := by decide +kernel
theorem dX4_whom_85 : decode cX4_whom 85 = .ok (.if_icmp .ge 9, 3) := by decide +kernel
theorem dX4_whom_88 : decode cX4_whom 88 = .ok (.iload 5, 2) := by decide +kernel
theorem dX4_whom_90 : decode cX4_whom 90 = .ok (.istore_n 3, 1) := by decide +kernel
theorem dX4_whom_91 : decode cX4_whom 91 = .ok (.iload 4, 2) := by decide +kernel
theorem dX4_whom_93 : decode cX4_whom 93 = .ok (.istore_n 2, 1) := by decide +kernel
theorem dX4_whom_94 : decode cX4_whom 94 = .ok (.iinc 4 1, 3) := by decide +kernel
theorem dX4_whom_97 : decode cX4_whom 97 = .ok (.goto (-72), 3) := by decide +kernel
theorem dX4_whom_100 : decode cX4_whom 100 = .ok (.iload_n 2, 1) := by decide +kernel
theorem dX4_whom_101 : decode cX4_whom 101 = .ok (.iconst (-1), 1) := by decide +kernel
theorem dX4_whom_102 : decode cX4_whom 102 = .ok (.if_icmp .ne 12, 3) := by decide +kernel
theorem dX4_whom_105 : decode cX4_whom 105 = .ok (.aload_n 0, 1) := by decide +kernel
theorem dX4_whom_106 : decode cX4_whom 106 = .ok (.ldc 107, 2) := by decide +kernel
theorem dX4_whom_108 : decode cX4_whom 108 = .ok (.invokevirtual 45, 3) := by decide +kernel
theorem dX4_whom_111 : decode cX4_whom 111 = .ok (.goto 4, 3) := by decide +kernel
theorem dX4_whom_114 : decode cX4_whom 114 = .ok (.iload_n 2, 1) := by decide +kernel
theorem dX4_whom_115 : decode cX4_whom 115 = .ok (.ireturn, 1) := by decide +kernel
theorem dX4_weightFor_0 : decode cX4_weightFor 0 = .ok (.iload_n 1, 1) := by decide +kernel
theorem dX4_weightFor_1 : decode cX4_weightFor 1 = .ok (.iconst 1, 1) := by decide +kernel
theorem dX4_weightFor_2 : decode cX4_weightFor 2 = .ok (.bipush 40, 2) := by decide +kernel
theorem dX4_weightFor_4 : decode cX4_weightFor 4 = .ok (.invokestatic 40, 3) := by decide +kernel
theorem dX4_weightFor_7 : decode cX4_weightFor 7 = .ok (.ifCond .ne 10, 3) := by decide +kernel
theorem dX4_weightFor_10 : decode cX4_weightFor 10 = .ok (.aload_n 0, 1) := by decide +kernel
theorem dX4_weightFor_11 : decode cX4_weightFor 11 = .ok (.ldc 44, 2) := by decide +kernel
theorem dX4_weightFor_13 : decode cX4_weightFor 13 = .ok (.invokevirtual 45, 3) := by decide +kernel
theorem dX4_weightFor_16 : decode cX4_weightFor 16 = .ok (.ireturn, 1) := by decide +kernel
theorem dX4_weightFor_17 : decode cX4_weightFor 17 = .ok (.bipush 20, 2) := by decide +kernel
theorem dX4_weightFor_19 : decode cX4_weightFor 19 = .ok (.istore_n 2, 1) := by decide +kernel
theorem dX4_weightFor_20 : decode cX4_weightFor 20 = .ok (.iload_n 2, 1) := by decide +kernel
theorem dX4_weightFor_21 : decode cX4_weightFor 21 = .ok (.ifCond .lt 48, 3) := by decide +kernel
theorem dX4_weightFor_24 : decode cX4_weightFor 24 = .ok (.aload_n 0, 1) := by decide +kernel
theorem dX4_weightFor_25 : decode cX4_weightFor 25 = .ok (.getfield 19, 3) := by decide +kernel
theorem dX4_weightFor_28 : decode cX4_weightFor 28 = .ok (.aload_n 0, 1) := by decide +kernel
theorem dX4_weightFor_29 : decode cX4_weightFor 29 = .ok (.getfield 12, 3) := by decide +kernel
theorem dX4_weightFor_32 : decode cX4_weightFor 32 = .ok (.invokevirtual 127, 3) := by decide +kernel
theorem dX4_weightFor_35 : decode cX4_weightFor 35 = .ok (.aload_n 0, 1) := by decide +kernel
theorem dX4_weightFor_36 : decode cX4_weightFor 36 = .ok (.getfield 19, 3) := by decide +kernel
theorem dX4_weightFor_39 : decode cX4_weightFor 39 = .ok (.aload_n 0, 1) := by decide +kernel
theorem dX4_weightFor_40 : decode cX4_weightFor 40 = .ok (.getfield 12, 3) := by decide +kernel
theorem dX4_weightFor_43 : decode cX4_weightFor 43 = .ok (.invokevirtual 148, 3) := by decide +kernel
theorem dX4_weightFor_46 : decode cX4_weightFor 46 = .ok (.iload_n 2, 1) := by decide +kernel
theorem dX4_weightFor_47 : decode cX4_weightFor 47 = .ok (.invokevirtual 145, 3) := by decide +kernel
theorem dX4_weightFor_50 : decode cX4_weightFor 50 = .ok (.aload_n 0, 1) := by decide +kernel
theorem dX4_weightFor_51 : decode cX4_weightFor 51 = .ok (.getfield 19, 3) := by decide +kernel
theorem dX4_weightFor_54 : decode cX4_weightFor 54 = .ok (.iload_n 1, 1) := by decide +kernel
theorem dX4_weightFor_55 : decode cX4_weightFor 55 = .ok (.invokevirtual 151, 3) := by decide +kernel
theorem dX4_weightFor_58 : decode cX4_weightFor 58 = .ok (.ifCond .eq 5, 3) := by decide +kernel
theorem dX4_weightFor_61 : decode cX4_weightFor 61 = .ok (.iload_n 2, 1) := by decide +kernel
theorem dX4_weightFor_62 : decode cX4_weightFor 62 = .ok (.ireturn, 1) := by decide +kernel
theorem dX4_weightFor_63 : decode cX4_weightFor 63 = .ok (.iinc 2 (-1), 3) := by decide +kernel
theorem dX4_weightFor_66 : decode cX4_weightFor 66 = .ok (.goto (-46), 3) := by decide +kernel
theorem dX4_weightFor_69 : decode cX4_weightFor 69 = .ok (.aload_n 0, 1) := by decide +kernel
theorem dX4_weightFor_70 : decode cX4_weightFor 70 = .ok (.ldc 107, 2) := by decide +kernel
theorem dX4_weightFor_72 : decode cX4_weightFor 72 = .ok (.invokevirtual 45, 3) := by decide +kernel
theorem dX4_weightFor_75 : decode cX4_weightFor 75 = .ok (.ireturn, 1) := by decide +kernel
theorem dX4_buildFor_0 : decode cX4_buildFor 0 = .ok (.aload_n 0, 1) := by decide +kernel
theorem dX4_buildFor_1 : decode cX4_buildFor 1 = .ok (.getfield 12, 3) := by decide +kernel
theorem dX4_buildFor_4 : decode cX4_buildFor 4 = .ok (.iload_n 1, 1) := by decide +kernel
theorem dX4_buildFor_5 : decode cX4_buildFor 5 = .ok (.invokevirtual 64, 3) := by decide +kernel
theorem dX4_buildFor_8 : decode cX4_buildFor 8 = .ok (.ifCond .eq 13, 3) := by decide +kernel
theorem dX4_buildFor_11 : decode cX4_buildFor 11 = .ok (.iload_n 2, 1) := by decide +kernel
theorem dX4_buildFor_12 : decode cX4_buildFor 12 = .ok (.iconst 0, 1) := by decide +kernel
theorem dX4_buildFor_13 : decode cX4_buildFor 13 = .ok (.bipush 40, 2) := by decide +kernel
theorem dX4_buildFor_15 : decode cX4_buildFor 15 = .ok (.invokestatic 40, 3) := by decide +kernel
theorem dX4_buildFor_18 : decode cX4_buildFor 18 = .ok (.ifCond .ne 10, 3) := by decide +kernel
theorem dX4_buildFor_21 : decode cX4_buildFor 21 = .ok (.aload_n 0, 1) := by decide +kernel
theorem dX4_buildFor_22 : decode cX4_buildFor 22 = .ok (.ldc 44, 2) := by decide +kernel
theorem dX4_buildFor_24 : decode cX4_buildFor 24 = .ok (.invokevirtual 45, 3) := by decide +kernel
theorem dX4_buildFor_27 : decode cX4_buildFor 27 = .ok (.ireturn, 1) := by decide +kernel
theorem dX4_buildFor_28 : decode cX4_buildFor 28 = .ok (.iconst 0, 1) := by decide +kernel
theorem dX4_buildFor_29 : decode cX4_buildFor 29 = .ok (.istore_n 3, 1) := by decide +kernel
theorem dX4_buildFor_30 : decode cX4_buildFor 30 = .ok (.iload_n 3, 1) := by decide +kernel
theorem dX4_buildFor_31 : decode cX4_buildFor 31 = .ok (.bipush 99, 2) := by decide +kernel
theorem dX4_buildFor_33 : decode cX4_buildFor 33 = .ok (.if_icmp .gt 46, 3) := by decide +kernel
theorem dX4_buildFor_36 : decode cX4_buildFor 36 = .ok (.aload_n 0, 1) := by decide +kernel
theorem dX4_buildFor_37 : decode cX4_buildFor 37 = .ok (.getfield 19, 3) := by decide +kernel
theorem dX4_buildFor_40 : decode cX4_buildFor 40 = .ok (.aload_n 0, 1) := by decide +kernel
theorem dX4_buildFor_41 : decode cX4_buildFor 41 = .ok (.getfield 12, 3) := by decide +kernel
theorem dX4_buildFor_44 : decode cX4_buildFor 44 = .ok (.invokevirtual 127, 3) := by decide +kernel
theorem dX4_buildFor_47 : decode cX4_buildFor 47 = .ok (.aload_n 0, 1) := by decide +kernel
theorem dX4_buildFor_48 : decode cX4_buildFor 48 = .ok (.getfield 19, 3) := by decide +kernel
theorem dX4_buildFor_51 : decode cX4_buildFor 51 = .ok (.getfield 68, 3) := by decide +kernel
theorem dX4_buildFor_54 : decode cX4_buildFor 54 = .ok (.iload_n 1, 1) := by decide +kernel
theorem dX4_buildFor_55 : decode cX4_buildFor 55 = .ok (.aaload, 1) := by decide +kernel
theorem dX4_buildFor_56 : decode cX4_buildFor 56 = .ok (.iload_n 3, 1) := by decide +kernel
theorem dX4_buildFor_57 : decode cX4_buildFor 57 = .ok (.putfield 154, 3) := by decide +kernel
theorem dX4_buildFor_60 : decode cX4_buildFor 60 = .ok (.aload_n 0, 1) := by decide +kernel
theorem dX4_buildFor_61 : decode cX4_buildFor 61 = .ok (.getfield 19, 3) := by decide +kernel
theorem dX4_buildFor_64 : decode cX4_buildFor 64 = .ok (.iload_n 2, 1) := by decide +kernel
theorem dX4_buildFor_65 : decode cX4_buildFor 65 = .ok (.invokevirtual 157, 3) := by decide +kernel
theorem dX4_buildFor_68 : decode cX4_buildFor 68 = .ok (.ifCond .eq 5, 3) := by decide +kernel
theorem dX4_buildFor_71 : decode cX4_buildFor 71 = .ok (.iload_n 3, 1) := by decide +kernel
theorem dX4_buildFor_72 : decode cX4_buildFor 72 = .ok (.ireturn, 1) := by decide +kernel
theorem dX4_buildFor_73 : decode cX4_buildFor 73 = .ok (.iinc 3 1, 3) := by decide +kernel
theorem dX4_buildFor_76 : decode cX4_buildFor 76 = .ok (.goto (-46), 3) := by decide +kernel
theorem dX4_buildFor_79 : decode cX4_buildFor 79 = .ok (.aload_n 0, 1) := by decide +kernel
theorem dX4_buildFor_80 : decode cX4_buildFor 80 = .ok (.ldc 107, 2) := by decide +kernel
theorem dX4_buildFor_82 : decode cX4_buildFor 82 = .ok (.invokevirtual 45, 3) := by decide +kernel
theorem dX4_buildFor_85 : decode cX4_buildFor 85 = .ok (.ireturn, 1) := by decide +kernel
theorem dX4_kindFor_0 : decode cX4_kindFor 0 = .ok (.aload_n 0, 1) := by decide +kernel
theorem dX4_kindFor_1 : decode cX4_kindFor 1 = .ok (.getfield 12, 3) := by decide +kernel
theorem dX4_kindFor_4 : decode cX4_kindFor 4 = .ok (.iload_n 1, 1) := by decide +kernel
theorem dX4_kindFor_5 : decode cX4_kindFor 5 = .ok (.invokevirtual 64, 3) := by decide +kernel
theorem dX4_kindFor_8 : decode cX4_kindFor 8 = .ok (.ifCond .eq 13, 3) := by decide +kernel
theorem dX4_kindFor_11 : decode cX4_kindFor 11 = .ok (.iload_n 2, 1) := by decide +kernel
theorem dX4_kindFor_12 : decode cX4_kindFor 12 = .ok (.iconst 0, 1) := by decide +kernel
theorem dX4_kindFor_13 : decode cX4_kindFor 13 = .ok (.bipush 40, 2) := by decide +kernel
theorem dX4_kindFor_15 : decode cX4_kindFor 15 = .ok (.invokestatic 40, 3) := by decide +kernel
theorem dX4_kindFor_18 : decode cX4_kindFor 18 = .ok (.ifCond .ne 10, 3) := by decide +kernel
theorem dX4_kindFor_21 : decode cX4_kindFor 21 = .ok (.aload_n 0, 1) := by decide +kernel
theorem dX4_kindFor_22 : decode cX4_kindFor 22 = .ok (.ldc 44, 2) := by decide +kernel
theorem dX4_kindFor_24 : decode cX4_kindFor 24 = .ok (.invokevirtual 45, 3) := by decide +kernel
theorem dX4_kindFor_27 : decode cX4_kindFor 27 = .ok (.ireturn, 1) := by decide +kernel
theorem dX4_kindFor_28 : decode cX4_kindFor 28 = .ok (.iconst 0, 1) := by decide +kernel
theorem dX4_kindFor_29 : decode cX4_kindFor 29 = .ok (.istore_n 3, 1) := by decide +kernel
theorem dX4_kindFor_30 : decode cX4_kindFor 30 = .ok (.sipush 10000, 3) := by decide +kernel
theorem dX4_kindFor_33 : decode cX4_kindFor 33 = .ok (.istore 4, 2) := by decide +kernel
theorem dX4_kindFor_35 : decode cX4_kindFor 35 = .ok (.iconst 0, 1) := by decide +kernel
theorem dX4_kindFor_36 : decode cX4_kindFor 36 = .ok (.istore 5, 2) := by decide +kernel
theorem dX4_kindFor_38 : decode cX4_kindFor 38 = .ok (.iload 5, 2) := by decide +kernel
theorem dX4_kindFor_40 : decode cX4_kindFor 40 = .ok (.bipush 7, 2) := by decide +kernel
theorem dX4_kindFor_42 : decode cX4_kindFor 42 = .ok (.if_icmp .ge 70, 3) := by decide +kernel
theorem dX4_kindFor_45 : decode cX4_kindFor 45 = .ok (.aload_n 0, 1) := by decide +kernel
theorem dX4_kindFor_46 : decode cX4_kindFor 46 = .ok (.getfield 19, 3) := by decide +kernel
theorem dX4_kindFor_49 : decode cX4_kindFor 49 = .ok (.aload_n 0, 1) := by decide +kernel
theorem dX4_kindFor_50 : decode cX4_kindFor 50 = .ok (.getfield 12, 3) := by decide +kernel
theorem dX4_kindFor_53 : decode cX4_kindFor 53 = .ok (.invokevirtual 127, 3) := by decide +kernel
theorem dX4_kindFor_56 : decode cX4_kindFor 56 = .ok (.aload_n 0, 1) := by decide +kernel
theorem dX4_kindFor_57 : decode cX4_kindFor 57 = .ok (.getfield 19, 3) := by decide +kernel
theorem dX4_kindFor_60 : decode cX4_kindFor 60 = .ok (.getfield 68, 3) := by decide +kernel
theorem dX4_kindFor_63 : decode cX4_kindFor 63 = .ok (.iload_n 1, 1) := by decide +kernel
theorem dX4_kindFor_64 : decode cX4_kindFor 64 = .ok (.aaload, 1) := by decide +kernel
theorem dX4_kindFor_65 : decode cX4_kindFor 65 = .ok (.iload 5, 2) := by decide +kernel
theorem dX4_kindFor_67 : decode cX4_kindFor 67 = .ok (.putfield 160, 3) := by decide +kernel
theorem dX4_kindFor_70 : decode cX4_kindFor 70 = .ok (.aload_n 0, 1) := by decide +kernel
theorem dX4_kindFor_71 : decode cX4_kindFor 71 = .ok (.getfield 19, 3) := by decide +kernel
theorem dX4_kindFor_74 : decode cX4_kindFor 74 = .ok (.iload_n 2, 1) := by decide +kernel
theorem dX4_kindFor_75 : decode cX4_kindFor 75 = .ok (.invokevirtual 110, 3) := by decide +kernel
theorem dX4_kindFor_78 : decode cX4_kindFor 78 = .ok (.aload_n 0, 1) := by decide +kernel
theorem dX4_kindFor_79 : decode cX4_kindFor 79 = .ok (.getfield 19, 3) := by decide +kernel
theorem dX4_kindFor_82 : decode cX4_kindFor 82 = .ok (.getfield 68, 3) := by decide +kernel
theorem dX4_kindFor_85 : decode cX4_kindFor 85 = .ok (.iload_n 1, 1) := by decide +kernel
theorem dX4_kindFor_86 : decode cX4_kindFor 86 = .ok (.aaload, 1) := by decide +kernel
theorem dX4_kindFor_87 : decode cX4_kindFor 87 = .ok (.getfield 138, 3) := by decide +kernel
theorem dX4_kindFor_90 : decode cX4_kindFor 90 = .ok (.istore 6, 2) := by decide +kernel
theorem dX4_kindFor_92 : decode cX4_kindFor 92 = .ok (.iload 6, 2) := by decide +kernel
theorem dX4_kindFor_94 : decode cX4_kindFor 94 = .ok (.iload 4, 2) := by decide +kernel
theorem dX4_kindFor_96 : decode cX4_kindFor 96 = .ok (.if_icmp .ge 10, 3) := by decide +kernel
theorem dX4_kindFor_99 : decode cX4_kindFor 99 = .ok (.iload 6, 2) := by decide +kernel
theorem dX4_kindFor_101 : decode cX4_kindFor 101 = .ok (.istore 4, 2) := by decide +kernel
theorem dX4_kindFor_103 : decode cX4_kindFor 103 = .ok (.iload 5, 2) := by decide +kernel
theorem dX4_kindFor_105 : decode cX4_kindFor 105 = .ok (.istore_n 3, 1) := by decide +kernel
theorem dX4_kindFor_106 : decode cX4_kindFor 106 = .ok (.iinc 5 1, 3) := by decide +kernel
theorem dX4_kindFor_109 : decode cX4_kindFor 109 = .ok (.goto (-71), 3) := by decide +kernel
theorem dX4_kindFor_112 : decode cX4_kindFor 112 = .ok (.iload_n 3, 1) := by decide +kernel
theorem dX4_kindFor_113 : decode cX4_kindFor 113 = .ok (.ireturn, 1) := by decide +kernel
theorem dX4_refuse_0 : decode cX4_refuse 0 = .ok (.aload_n 0, 1) := by decide +kernel
theorem dX4_refuse_1 : decode cX4_refuse 1 = .ok (.getfield 12, 3) := by decide +kernel
theorem dX4_refuse_4 : decode cX4_refuse 4 = .ok (.iload_n 1, 1) := by decide +kernel
theorem dX4_refuse_5 : decode cX4_refuse 5 = .ok (.invokevirtual 64, 3) := by decide +kernel
theorem dX4_refuse_8 : decode cX4_refuse 8 = .ok (.ifCond .eq 24, 3) := by decide +kernel
theorem dX4_refuse_11 : decode cX4_refuse 11 = .ok (.iload_n 2, 1) := by decide +kernel
theorem dX4_refuse_12 : decode cX4_refuse 12 = .ok (.iconst 0, 1) := by decide +kernel
theorem dX4_refuse_13 : decode cX4_refuse 13 = .ok (.sipush 9999, 3) := by decide +kernel
theorem dX4_refuse_16 : decode cX4_refuse 16 = .ok (.invokestatic 40, 3) := by decide +kernel
theorem dX4_refuse_19 : decode cX4_refuse 19 = .ok (.ifCond .eq 13, 3) := by decide +kernel
theorem dX4_refuse_22 : decode cX4_refuse 22 = .ok (.iload_n 3, 1) := by decide +kernel
theorem dX4_refuse_23 : decode cX4_refuse 23 = .ok (.iconst 0, 1) := by decide +kernel
theorem dX4_refuse_24 : decode cX4_refuse 24 = .ok (.bipush 20, 2) := by decide +kernel
theorem dX4_refuse_26 : decode cX4_refuse 26 = .ok (.invokestatic 40, 3) := by decide +kernel
theorem dX4_refuse_29 : decode cX4_refuse 29 = .ok (.ifCond .ne 10, 3) := by decide +kernel
theorem dX4_refuse_32 : decode cX4_refuse 32 = .ok (.aload_n 0, 1) := by decide +kernel
theorem dX4_refuse_33 : decode cX4_refuse 33 = .ok (.ldc 44, 2) := by decide +kernel
theorem dX4_refuse_35 : decode cX4_refuse 35 = .ok (.invokevirtual 45, 3) := by decide +kernel
theorem dX4_refuse_38 : decode cX4_refuse 38 = .ok (.ireturn, 1) := by decide +kernel
theorem dX4_refuse_39 : decode cX4_refuse 39 = .ok (.iconst 0, 1) := by decide +kernel
theorem dX4_refuse_40 : decode cX4_refuse 40 = .ok (.istore 4, 2) := by decide +kernel
theorem dX4_refuse_42 : decode cX4_refuse 42 = .ok (.iload 4, 2) := by decide +kernel
theorem dX4_refuse_44 : decode cX4_refuse 44 = .ok (.aload_n 0, 1) := by decide +kernel
theorem dX4_refuse_45 : decode cX4_refuse 45 = .ok (.getfield 12, 3) := by decide +kernel
theorem dX4_refuse_48 : decode cX4_refuse 48 = .ok (.getfield 56, 3) := by decide +kernel
theorem dX4_refuse_51 : decode cX4_refuse 51 = .ok (.if_icmp .ge 66, 3) := by decide +kernel
theorem dX4_refuse_54 : decode cX4_refuse 54 = .ok (.iconst 0, 1) := by decide +kernel
theorem dX4_refuse_55 : decode cX4_refuse 55 = .ok (.istore 5, 2) := by decide +kernel
theorem dX4_refuse_57 : decode cX4_refuse 57 = .ok (.iload 5, 2) := by decide +kernel
theorem dX4_refuse_59 : decode cX4_refuse 59 = .ok (.iconst 1, 1) := by decide +kernel
theorem dX4_refuse_60 : decode cX4_refuse 60 = .ok (.aload_n 0, 1) := by decide +kernel
theorem dX4_refuse_61 : decode cX4_refuse 61 = .ok (.getfield 12, 3) := by decide +kernel
theorem dX4_refuse_64 : decode cX4_refuse 64 = .ok (.getfield 56, 3) := by decide +kernel
theorem dX4_refuse_67 : decode cX4_refuse 67 = .ok (.ishl, 1) := by decide +kernel
theorem dX4_refuse_68 : decode cX4_refuse 68 = .ok (.if_icmp .ge 43, 3) := by decide +kernel
theorem dX4_refuse_71 : decode cX4_refuse 71 = .ok (.iload 5, 2) := by decide +kernel
theorem dX4_refuse_73 : decode cX4_refuse 73 = .ok (.invokestatic 163, 3) := by decide +kernel
theorem dX4_refuse_76 : decode cX4_refuse 76 = .ok (.iload 4, 2) := by decide +kernel
theorem dX4_refuse_78 : decode cX4_refuse 78 = .ok (.if_icmp .ne 27, 3) := by decide +kernel
theorem dX4_refuse_81 : decode cX4_refuse 81 = .ok (.iload 5, 2) := by decide +kernel
theorem dX4_refuse_83 : decode cX4_refuse 83 = .ok (.iload_n 1, 1) := by decide +kernel
theorem dX4_refuse_84 : decode cX4_refuse 84 = .ok (.invokestatic 168, 3) := by decide +kernel
theorem dX4_refuse_87 : decode cX4_refuse 87 = .ok (.ifCond .ne 18, 3) := by decide +kernel
theorem dX4_refuse_90 : decode cX4_refuse 90 = .ok (.aload_n 0, 1) := by decide +kernel
theorem dX4_refuse_91 : decode cX4_refuse 91 = .ok (.iload 5, 2) := by decide +kernel
theorem dX4_refuse_93 : decode cX4_refuse 93 = .ok (.iload_n 1, 1) := by decide +kernel
theorem dX4_refuse_94 : decode cX4_refuse 94 = .ok (.iload_n 3, 1) := by decide +kernel
theorem dX4_refuse_95 : decode cX4_refuse 95 = .ok (.invokevirtual 171, 3) := by decide +kernel
theorem dX4_refuse_98 : decode cX4_refuse 98 = .ok (.iload_n 2, 1) := by decide +kernel
theorem dX4_refuse_99 : decode cX4_refuse 99 = .ok (.if_icmp .gt 6, 3) := by decide +kernel
theorem dX4_refuse_102 : decode cX4_refuse 102 = .ok (.iload 5, 2) := by decide +kernel
theorem dX4_refuse_104 : decode cX4_refuse 104 = .ok (.ireturn, 1) := by decide +kernel
theorem dX4_refuse_105 : decode cX4_refuse 105 = .ok (.iinc 5 1, 3) := by decide +kernel
theorem dX4_refuse_108 : decode cX4_refuse 108 = .ok (.goto (-51), 3) := by decide +kernel
theorem dX4_refuse_111 : decode cX4_refuse 111 = .ok (.iinc 4 1, 3) := by decide +kernel
theorem dX4_refuse_114 : decode cX4_refuse 114 = .ok (.goto (-72), 3) := by decide +kernel
theorem dX4_refuse_117 : decode cX4_refuse 117 = .ok (.aload_n 0, 1) := by decide +kernel
theorem dX4_refuse_118 : decode cX4_refuse 118 = .ok (.ldc 107, 2) := by decide +kernel
theorem dX4_refuse_120 : decode cX4_refuse 120 = .ok (.invokevirtual 45, 3) := by decide +kernel
theorem dX4_refuse_123 : decode cX4_refuse 123 = .ok (.ireturn, 1) := by decide +kernel
theorem dX4_borneWithout_0 : decode cX4_borneWithout 0 = .ok (.aload_n 0, 1) := by decide +kernel
theorem dX4_borneWithout_1 : decode cX4_borneWithout 1 = .ok (.getfield 19, 3) := by decide +kernel
theorem dX4_borneWithout_4 : decode cX4_borneWithout 4 = .ok (.aload_n 0, 1) := by decide +kernel
theorem dX4_borneWithout_5 : decode cX4_borneWithout 5 = .ok (.getfield 12, 3) := by decide +kernel
theorem dX4_borneWithout_8 : decode cX4_borneWithout 8 = .ok (.invokevirtual 127, 3) := by decide +kernel
theorem dX4_borneWithout_11 : decode cX4_borneWithout 11 = .ok (.aload_n 0, 1) := by decide +kernel
theorem dX4_borneWithout_12 : decode cX4_borneWithout 12 = .ok (.getfield 19, 3) := by decide +kernel
theorem dX4_borneWithout_15 : decode cX4_borneWithout 15 = .ok (.iload_n 1, 1) := by decide +kernel
theorem dX4_borneWithout_16 : decode cX4_borneWithout 16 = .ok (.putfield 174, 3) := by decide +kernel
theorem dX4_borneWithout_19 : decode cX4_borneWithout 19 = .ok (.aload_n 0, 1) := by decide +kernel
theorem dX4_borneWithout_20 : decode cX4_borneWithout 20 = .ok (.getfield 19, 3) := by decide +kernel
theorem dX4_borneWithout_23 : decode cX4_borneWithout 23 = .ok (.iload_n 3, 1) := by decide +kernel
theorem dX4_borneWithout_24 : decode cX4_borneWithout 24 = .ok (.invokevirtual 110, 3) := by decide +kernel
theorem dX4_borneWithout_27 : decode cX4_borneWithout 27 = .ok (.aload_n 0, 1) := by decide +kernel
theorem dX4_borneWithout_28 : decode cX4_borneWithout 28 = .ok (.getfield 19, 3) := by decide +kernel
theorem dX4_borneWithout_31 : decode cX4_borneWithout 31 = .ok (.getfield 68, 3) := by decide +kernel
theorem dX4_borneWithout_34 : decode cX4_borneWithout 34 = .ok (.iload_n 2, 1) := by decide +kernel
theorem dX4_borneWithout_35 : decode cX4_borneWithout 35 = .ok (.aaload, 1) := by decide +kernel
theorem dX4_borneWithout_36 : decode cX4_borneWithout 36 = .ok (.getfield 138, 3) := by decide +kernel
theorem dX4_borneWithout_39 : decode cX4_borneWithout 39 = .ok (.ireturn, 1) := by decide +kernel
theorem dX4_swapFor_0 : decode cX4_swapFor 0 = .ok (.iload_n 1, 1) := by decide +kernel
theorem dX4_swapFor_1 : decode cX4_swapFor 1 = .ok (.iconst 0, 1) := by decide +kernel
theorem dX4_swapFor_2 : decode cX4_swapFor 2 = .ok (.bipush 40, 2) := by decide +kernel
theorem dX4_swapFor_4 : decode cX4_swapFor 4 = .ok (.invokestatic 40, 3) := by decide +kernel
theorem dX4_swapFor_7 : decode cX4_swapFor 7 = .ok (.ifCond .ne 10, 3) := by decide +kernel
theorem dX4_swapFor_10 : decode cX4_swapFor 10 = .ok (.aload_n 0, 1) := by decide +kernel
theorem dX4_swapFor_11 : decode cX4_swapFor 11 = .ok (.ldc 44, 2) := by decide +kernel
theorem dX4_swapFor_13 : decode cX4_swapFor 13 = .ok (.invokevirtual 45, 3) := by decide +kernel
theorem dX4_swapFor_16 : decode cX4_swapFor 16 = .ok (.ireturn, 1) := by decide +kernel
theorem dX4_swapFor_17 : decode cX4_swapFor 17 = .ok (.iconst (-1), 1) := by decide +kernel
theorem dX4_swapFor_18 : decode cX4_swapFor 18 = .ok (.istore_n 2, 1) := by decide +kernel
theorem dX4_swapFor_19 : decode cX4_swapFor 19 = .ok (.ldc 177, 2) := by decide +kernel
theorem dX4_swapFor_21 : decode cX4_swapFor 21 = .ok (.istore_n 3, 1) := by decide +kernel
theorem dX4_swapFor_22 : decode cX4_swapFor 22 = .ok (.iconst 0, 1) := by decide +kernel
theorem dX4_swapFor_23 : decode cX4_swapFor 23 = .ok (.istore 4, 2) := by decide +kernel
theorem dX4_swapFor_25 : decode cX4_swapFor 25 = .ok (.iload 4, 2) := by decide +kernel
theorem dX4_swapFor_27 : decode cX4_swapFor 27 = .ok (.aload_n 0, 1) := by decide +kernel
theorem dX4_swapFor_28 : decode cX4_swapFor 28 = .ok (.getfield 12, 3) := by decide +kernel
theorem dX4_swapFor_31 : decode cX4_swapFor 31 = .ok (.getfield 56, 3) := by decide +kernel
theorem dX4_swapFor_34 : decode cX4_swapFor 34 = .ok (.if_icmp .ge 62, 3) := by decide +kernel
theorem dX4_swapFor_37 : decode cX4_swapFor 37 = .ok (.iload 4, 2) := by decide +kernel
theorem dX4_swapFor_39 : decode cX4_swapFor 39 = .ok (.iconst 1, 1) := by decide +kernel
theorem dX4_swapFor_40 : decode cX4_swapFor 40 = .ok (.iadd, 1) := by decide +kernel
theorem dX4_swapFor_41 : decode cX4_swapFor 41 = .ok (.istore 5, 2) := by decide +kernel
theorem dX4_swapFor_43 : decode cX4_swapFor 43 = .ok (.iload 5, 2) := by decide +kernel
theorem dX4_swapFor_45 : decode cX4_swapFor 45 = .ok (.aload_n 0, 1) := by decide +kernel
theorem dX4_swapFor_46 : decode cX4_swapFor 46 = .ok (.getfield 12, 3) := by decide +kernel
theorem dX4_swapFor_49 : decode cX4_swapFor 49 = .ok (.getfield 56, 3) := by decide +kernel
theorem dX4_swapFor_52 : decode cX4_swapFor 52 = .ok (.if_icmp .ge 38, 3) := by decide +kernel
theorem dX4_swapFor_55 : decode cX4_swapFor 55 = .ok (.aload_n 0, 1) := by decide +kernel
theorem dX4_swapFor_56 : decode cX4_swapFor 56 = .ok (.iload 4, 2) := by decide +kernel
theorem dX4_swapFor_58 : decode cX4_swapFor 58 = .ok (.iload 5, 2) := by decide +kernel
theorem dX4_swapFor_60 : decode cX4_swapFor 60 = .ok (.iload_n 1, 1) := by decide +kernel
theorem dX4_swapFor_61 : decode cX4_swapFor 61 = .ok (.invokevirtual 178, 3) := by decide +kernel
theorem dX4_swapFor_64 : decode cX4_swapFor 64 = .ok (.istore 6, 2) := by decide +kernel
theorem dX4_swapFor_66 : decode cX4_swapFor 66 = .ok (.iload 6, 2) := by decide +kernel
theorem dX4_swapFor_68 : decode cX4_swapFor 68 = .ok (.iload_n 3, 1) := by decide +kernel
theorem dX4_swapFor_69 : decode cX4_swapFor 69 = .ok (.if_icmp .ge 15, 3) := by decide +kernel
theorem dX4_swapFor_72 : decode cX4_swapFor 72 = .ok (.iload 6, 2) := by decide +kernel
theorem dX4_swapFor_74 : decode cX4_swapFor 74 = .ok (.istore_n 3, 1) := by decide +kernel
theorem dX4_swapFor_75 : decode cX4_swapFor 75 = .ok (.bipush 8, 2) := by decide +kernel
theorem dX4_swapFor_77 : decode cX4_swapFor 77 = .ok (.iload 4, 2) := by decide +kernel
theorem dX4_swapFor_79 : decode cX4_swapFor 79 = .ok (.imul, 1) := by decide +kernel
theorem dX4_swapFor_80 : decode cX4_swapFor 80 = .ok (.iload 5, 2) := by decide +kernel
theorem dX4_swapFor_82 : decode cX4_swapFor 82 = .ok (.iadd, 1) := by decide +kernel
theorem dX4_swapFor_83 : decode cX4_swapFor 83 = .ok (.istore_n 2, 1) := by decide +kernel
theorem dX4_swapFor_84 : decode cX4_swapFor 84 = .ok (.iinc 5 1, 3) := by decide +kernel
theorem dX4_swapFor_87 : decode cX4_swapFor 87 = .ok (.goto (-44), 3) := by decide +kernel
theorem dX4_swapFor_90 : decode cX4_swapFor 90 = .ok (.iinc 4 1, 3) := by decide +kernel
theorem dX4_swapFor_93 : decode cX4_swapFor 93 = .ok (.goto (-68), 3) := by decide +kernel
theorem dX4_swapFor_96 : decode cX4_swapFor 96 = .ok (.iload_n 2, 1) := by decide +kernel
theorem dX4_swapFor_97 : decode cX4_swapFor 97 = .ok (.iconst (-1), 1) := by decide +kernel
theorem dX4_swapFor_98 : decode cX4_swapFor 98 = .ok (.if_icmp .ne 12, 3) := by decide +kernel
theorem dX4_swapFor_101 : decode cX4_swapFor 101 = .ok (.aload_n 0, 1) := by decide +kernel
theorem dX4_swapFor_102 : decode cX4_swapFor 102 = .ok (.ldc 107, 2) := by decide +kernel
theorem dX4_swapFor_104 : decode cX4_swapFor 104 = .ok (.invokevirtual 45, 3) := by decide +kernel
theorem dX4_swapFor_107 : decode cX4_swapFor 107 = .ok (.goto 4, 3) := by decide +kernel
theorem dX4_swapFor_110 : decode cX4_swapFor 110 = .ok (.iload_n 2, 1) := by decide +kernel
theorem dX4_swapFor_111 : decode cX4_swapFor 111 = .ok (.ireturn, 1) := by decide +kernel
theorem dX4_hintsWithSwapped_0 : decode cX4_hintsWithSwapped 0 = .ok (.aload_n 0, 1) := by decide +kernel
theorem dX4_hintsWithSwapped_1 : decode cX4_hintsWithSwapped 1 = .ok (.getfield 19, 3) := by decide +kernel
theorem dX4_hintsWithSwapped_4 : decode cX4_hintsWithSwapped 4 = .ok (.aload_n 0, 1) := by decide +kernel
theorem dX4_hintsWithSwapped_5 : decode cX4_hintsWithSwapped 5 = .ok (.getfield 12, 3) := by decide +kernel
theorem dX4_hintsWithSwapped_8 : decode cX4_hintsWithSwapped 8 = .ok (.invokevirtual 127, 3) := by decide +kernel
theorem dX4_hintsWithSwapped_11 : decode cX4_hintsWithSwapped 11 = .ok (.aload_n 0, 1) := by decide +kernel
theorem dX4_hintsWithSwapped_12 : decode cX4_hintsWithSwapped 12 = .ok (.getfield 19, 3) := by decide +kernel
theorem dX4_hintsWithSwapped_15 : decode cX4_hintsWithSwapped 15 = .ok (.getfield 68, 3) := by decide +kernel
theorem dX4_hintsWithSwapped_18 : decode cX4_hintsWithSwapped 18 = .ok (.iload_n 1, 1) := by decide +kernel
theorem dX4_hintsWithSwapped_19 : decode cX4_hintsWithSwapped 19 = .ok (.aaload, 1) := by decide +kernel
theorem dX4_hintsWithSwapped_20 : decode cX4_hintsWithSwapped 20 = .ok (.aload_n 0, 1) := by decide +kernel
theorem dX4_hintsWithSwapped_21 : decode cX4_hintsWithSwapped 21 = .ok (.getfield 12, 3) := by decide +kernel
theorem dX4_hintsWithSwapped_24 : decode cX4_hintsWithSwapped 24 = .ok (.getfield 68, 3) := by decide +kernel
theorem dX4_hintsWithSwapped_27 : decode cX4_hintsWithSwapped 27 = .ok (.iload_n 2, 1) := by decide +kernel
theorem dX4_hintsWithSwapped_28 : decode cX4_hintsWithSwapped 28 = .ok (.aaload, 1) := by decide +kernel
theorem dX4_hintsWithSwapped_29 : decode cX4_hintsWithSwapped 29 = .ok (.getfield 154, 3) := by decide +kernel
theorem dX4_hintsWithSwapped_32 : decode cX4_hintsWithSwapped 32 = .ok (.putfield 154, 3) := by decide +kernel
theorem dX4_hintsWithSwapped_35 : decode cX4_hintsWithSwapped 35 = .ok (.aload_n 0, 1) := by decide +kernel
theorem dX4_hintsWithSwapped_36 : decode cX4_hintsWithSwapped 36 = .ok (.getfield 19, 3) := by decide +kernel
theorem dX4_hintsWithSwapped_39 : decode cX4_hintsWithSwapped 39 = .ok (.getfield 68, 3) := by decide +kernel
theorem dX4_hintsWithSwapped_42 : decode cX4_hintsWithSwapped 42 = .ok (.iload_n 2, 1) := by decide +kernel
theorem dX4_hintsWithSwapped_43 : decode cX4_hintsWithSwapped 43 = .ok (.aaload, 1) := by decide +kernel
theorem dX4_hintsWithSwapped_44 : decode cX4_hintsWithSwapped 44 = .ok (.aload_n 0, 1) := by decide +kernel
theorem dX4_hintsWithSwapped_45 : decode cX4_hintsWithSwapped 45 = .ok (.getfield 12, 3) := by decide +kernel
theorem dX4_hintsWithSwapped_48 : decode cX4_hintsWithSwapped 48 = .ok (.getfield 68, 3) := by decide +kernel
theorem dX4_hintsWithSwapped_51 : decode cX4_hintsWithSwapped 51 = .ok (.iload_n 1, 1) := by decide +kernel
theorem dX4_hintsWithSwapped_52 : decode cX4_hintsWithSwapped 52 = .ok (.aaload, 1) := by decide +kernel
theorem dX4_hintsWithSwapped_53 : decode cX4_hintsWithSwapped 53 = .ok (.getfield 154, 3) := by decide +kernel
theorem dX4_hintsWithSwapped_56 : decode cX4_hintsWithSwapped 56 = .ok (.putfield 154, 3) := by decide +kernel
theorem dX4_hintsWithSwapped_59 : decode cX4_hintsWithSwapped 59 = .ok (.aload_n 0, 1) := by decide +kernel
theorem dX4_hintsWithSwapped_60 : decode cX4_hintsWithSwapped 60 = .ok (.getfield 19, 3) := by decide +kernel
theorem dX4_hintsWithSwapped_63 : decode cX4_hintsWithSwapped 63 = .ok (.iload_n 3, 1) := by decide +kernel
theorem dX4_hintsWithSwapped_64 : decode cX4_hintsWithSwapped 64 = .ok (.invokevirtual 110, 3) := by decide +kernel
theorem dX4_hintsWithSwapped_67 : decode cX4_hintsWithSwapped 67 = .ok (.aload_n 0, 1) := by decide +kernel
theorem dX4_hintsWithSwapped_68 : decode cX4_hintsWithSwapped 68 = .ok (.getfield 19, 3) := by decide +kernel
theorem dX4_hintsWithSwapped_71 : decode cX4_hintsWithSwapped 71 = .ok (.getfield 117, 3) := by decide +kernel
theorem dX4_hintsWithSwapped_74 : decode cX4_hintsWithSwapped 74 = .ok (.ireturn, 1) := by decide +kernel
theorem dX4_fits_0 : decode cX4_fits 0 = .ok (.aload_n 0, 1) := by decide +kernel
theorem dX4_fits_1 : decode cX4_fits 1 = .ok (.iload_n 1, 1) := by decide +kernel
theorem dX4_fits_2 : decode cX4_fits 2 = .ok (.iload_n 2, 1) := by decide +kernel
theorem dX4_fits_3 : decode cX4_fits 3 = .ok (.invokevirtual 181, 3) := by decide +kernel
theorem dX4_fits_6 : decode cX4_fits 6 = .ok (.istore_n 3, 1) := by decide +kernel
theorem dX4_fits_7 : decode cX4_fits 7 = .ok (.iload_n 3, 1) := by decide +kernel
theorem dX4_fits_8 : decode cX4_fits 8 = .ok (.ifCond .ge 9, 3) := by decide +kernel
theorem dX4_fits_11 : decode cX4_fits 11 = .ok (.aload_n 0, 1) := by decide +kernel
theorem dX4_fits_12 : decode cX4_fits 12 = .ok (.iload_n 3, 1) := by decide +kernel
theorem dX4_fits_13 : decode cX4_fits 13 = .ok (.invokevirtual 45, 3) := by decide +kernel
theorem dX4_fits_16 : decode cX4_fits 16 = .ok (.ireturn, 1) := by decide +kernel
theorem dX4_fits_17 : decode cX4_fits 17 = .ok (.iconst 0, 1) := by decide +kernel
theorem dX4_fits_18 : decode cX4_fits 18 = .ok (.istore 4, 2) := by decide +kernel
theorem dX4_fits_20 : decode cX4_fits 20 = .ok (.iconst 0, 1) := by decide +kernel
theorem dX4_fits_21 : decode cX4_fits 21 = .ok (.istore 5, 2) := by decide +kernel
theorem dX4_fits_23 : decode cX4_fits 23 = .ok (.iload 5, 2) := by decide +kernel
theorem dX4_fits_25 : decode cX4_fits 25 = .ok (.bipush 20, 2) := by decide +kernel
theorem dX4_fits_27 : decode cX4_fits 27 = .ok (.if_icmp .gt 28, 3) := by decide +kernel
theorem dX4_fits_30 : decode cX4_fits 30 = .ok (.aload_n 0, 1) := by decide +kernel
theorem dX4_fits_31 : decode cX4_fits 31 = .ok (.aload_n 0, 1) := by decide +kernel
theorem dX4_fits_32 : decode cX4_fits 32 = .ok (.getfield 31, 3) := by decide +kernel
theorem dX4_fits_35 : decode cX4_fits 35 = .ok (.iload_n 1, 1) := by decide +kernel
theorem dX4_fits_36 : decode cX4_fits 36 = .ok (.aaload, 1) := by decide +kernel
theorem dX4_fits_37 : decode cX4_fits 37 = .ok (.iload_n 2, 1) := by decide +kernel
theorem dX4_fits_38 : decode cX4_fits 38 = .ok (.iload 5, 2) := by decide +kernel
theorem dX4_fits_40 : decode cX4_fits 40 = .ok (.invokevirtual 184, 3) := by decide +kernel
theorem dX4_fits_43 : decode cX4_fits 43 = .ok (.ifCond .eq 6, 3) := by decide +kernel
theorem dX4_fits_46 : decode cX4_fits 46 = .ok (.iinc 4 1, 3) := by decide +kernel
theorem dX4_fits_49 : decode cX4_fits 49 = .ok (.iinc 5 1, 3) := by decide +kernel
theorem dX4_fits_52 : decode cX4_fits 52 = .ok (.goto (-29), 3) := by decide +kernel
theorem dX4_fits_55 : decode cX4_fits 55 = .ok (.iload 4, 2) := by decide +kernel
theorem dX4_fits_57 : decode cX4_fits 57 = .ok (.ireturn, 1) := by decide +kernel
theorem dX4_weighed_0 : decode cX4_weighed 0 = .ok (.aload_n 0, 1) := by decide +kernel
theorem dX4_weighed_1 : decode cX4_weighed 1 = .ok (.iload_n 1, 1) := by decide +kernel
theorem dX4_weighed_2 : decode cX4_weighed 2 = .ok (.iload_n 2, 1) := by decide +kernel
theorem dX4_weighed_3 : decode cX4_weighed 3 = .ok (.invokevirtual 181, 3) := by decide +kernel
theorem dX4_weighed_6 : decode cX4_weighed 6 = .ok (.istore_n 3, 1) := by decide +kernel
theorem dX4_weighed_7 : decode cX4_weighed 7 = .ok (.iload_n 3, 1) := by decide +kernel
theorem dX4_weighed_8 : decode cX4_weighed 8 = .ok (.ifCond .ge 9, 3) := by decide +kernel
theorem dX4_weighed_11 : decode cX4_weighed 11 = .ok (.aload_n 0, 1) := by decide +kernel
theorem dX4_weighed_12 : decode cX4_weighed 12 = .ok (.iload_n 3, 1) := by decide +kernel
theorem dX4_weighed_13 : decode cX4_weighed 13 = .ok (.invokevirtual 45, 3) := by decide +kernel
theorem dX4_weighed_16 : decode cX4_weighed 16 = .ok (.ireturn, 1) := by decide +kernel
theorem dX4_weighed_17 : decode cX4_weighed 17 = .ok (.iconst 0, 1) := by decide +kernel
theorem dX4_weighed_18 : decode cX4_weighed 18 = .ok (.istore 4, 2) := by decide +kernel
theorem dX4_weighed_20 : decode cX4_weighed 20 = .ok (.iload 4, 2) := by decide +kernel
theorem dX4_weighed_22 : decode cX4_weighed 22 = .ok (.bipush 20, 2) := by decide +kernel
theorem dX4_weighed_24 : decode cX4_weighed 24 = .ok (.if_icmp .gt 28, 3) := by decide +kernel
theorem dX4_weighed_27 : decode cX4_weighed 27 = .ok (.aload_n 0, 1) := by decide +kernel
theorem dX4_weighed_28 : decode cX4_weighed 28 = .ok (.aload_n 0, 1) := by decide +kernel
theorem dX4_weighed_29 : decode cX4_weighed 29 = .ok (.getfield 31, 3) := by decide +kernel
theorem dX4_weighed_32 : decode cX4_weighed 32 = .ok (.iload_n 1, 1) := by decide +kernel
theorem dX4_weighed_33 : decode cX4_weighed 33 = .ok (.aaload, 1) := by decide +kernel
theorem dX4_weighed_34 : decode cX4_weighed 34 = .ok (.iload_n 2, 1) := by decide +kernel
theorem dX4_weighed_35 : decode cX4_weighed 35 = .ok (.iload 4, 2) := by decide +kernel
theorem dX4_weighed_37 : decode cX4_weighed 37 = .ok (.invokevirtual 184, 3) := by decide +kernel
theorem dX4_weighed_40 : decode cX4_weighed 40 = .ok (.ifCond .eq 6, 3) := by decide +kernel
theorem dX4_weighed_43 : decode cX4_weighed 43 = .ok (.iload 4, 2) := by decide +kernel
theorem dX4_weighed_45 : decode cX4_weighed 45 = .ok (.ireturn, 1) := by decide +kernel
theorem dX4_weighed_46 : decode cX4_weighed 46 = .ok (.iinc 4 1, 3) := by decide +kernel
theorem dX4_weighed_49 : decode cX4_weighed 49 = .ok (.goto (-29), 3) := by decide +kernel
theorem dX4_weighed_52 : decode cX4_weighed 52 = .ok (.aload_n 0, 1) := by decide +kernel
theorem dX4_weighed_53 : decode cX4_weighed 53 = .ok (.ldc 107, 2) := by decide +kernel
theorem dX4_weighed_55 : decode cX4_weighed 55 = .ok (.invokevirtual 45, 3) := by decide +kernel
theorem dX4_weighed_58 : decode cX4_weighed 58 = .ok (.ireturn, 1) := by decide +kernel
theorem dX4_kinds_0 : decode cX4_kinds 0 = .ok (.aload_n 0, 1) := by decide +kernel
theorem dX4_kinds_1 : decode cX4_kinds 1 = .ok (.iload_n 1, 1) := by decide +kernel
theorem dX4_kinds_2 : decode cX4_kinds 2 = .ok (.iload_n 2, 1) := by decide +kernel
theorem dX4_kinds_3 : decode cX4_kinds 3 = .ok (.invokevirtual 181, 3) := by decide +kernel
theorem dX4_kinds_6 : decode cX4_kinds 6 = .ok (.istore_n 3, 1) := by decide +kernel
theorem dX4_kinds_7 : decode cX4_kinds 7 = .ok (.iload_n 3, 1) := by decide +kernel
theorem dX4_kinds_8 : decode cX4_kinds 8 = .ok (.ifCond .ge 9, 3) := by decide +kernel
theorem dX4_kinds_11 : decode cX4_kinds 11 = .ok (.aload_n 0, 1) := by decide +kernel
theorem dX4_kinds_12 : decode cX4_kinds 12 = .ok (.iload_n 3, 1) := by decide +kernel
theorem dX4_kinds_13 : decode cX4_kinds 13 = .ok (.invokevirtual 45, 3) := by decide +kernel
theorem dX4_kinds_16 : decode cX4_kinds 16 = .ok (.ireturn, 1) := by decide +kernel
theorem dX4_kinds_17 : decode cX4_kinds 17 = .ok (.iconst 0, 1) := by decide +kernel
theorem dX4_kinds_18 : decode cX4_kinds 18 = .ok (.istore 4, 2) := by decide +kernel
theorem dX4_kinds_20 : decode cX4_kinds 20 = .ok (.iconst 0, 1) := by decide +kernel
theorem dX4_kinds_21 : decode cX4_kinds 21 = .ok (.istore 5, 2) := by decide +kernel
theorem dX4_kinds_23 : decode cX4_kinds 23 = .ok (.iload 5, 2) := by decide +kernel
theorem dX4_kinds_25 : decode cX4_kinds 25 = .ok (.bipush 7, 2) := by decide +kernel
theorem dX4_kinds_27 : decode cX4_kinds 27 = .ok (.if_icmp .ge 58, 3) := by decide +kernel
theorem dX4_kinds_30 : decode cX4_kinds 30 = .ok (.aload_n 0, 1) := by decide +kernel
theorem dX4_kinds_31 : decode cX4_kinds 31 = .ok (.getfield 19, 3) := by decide +kernel
theorem dX4_kinds_34 : decode cX4_kinds 34 = .ok (.aload_n 0, 1) := by decide +kernel
theorem dX4_kinds_35 : decode cX4_kinds 35 = .ok (.getfield 12, 3) := by decide +kernel
theorem dX4_kinds_38 : decode cX4_kinds 38 = .ok (.invokevirtual 127, 3) := by decide +kernel
theorem dX4_kinds_41 : decode cX4_kinds 41 = .ok (.aload_n 0, 1) := by decide +kernel
theorem dX4_kinds_42 : decode cX4_kinds 42 = .ok (.getfield 19, 3) := by decide +kernel
theorem dX4_kinds_45 : decode cX4_kinds 45 = .ok (.getfield 68, 3) := by decide +kernel
theorem dX4_kinds_48 : decode cX4_kinds 48 = .ok (.iload_n 2, 1) := by decide +kernel
theorem dX4_kinds_49 : decode cX4_kinds 49 = .ok (.aaload, 1) := by decide +kernel
theorem dX4_kinds_50 : decode cX4_kinds 50 = .ok (.iload 5, 2) := by decide +kernel
theorem dX4_kinds_52 : decode cX4_kinds 52 = .ok (.putfield 160, 3) := by decide +kernel
theorem dX4_kinds_55 : decode cX4_kinds 55 = .ok (.aload_n 0, 1) := by decide +kernel
theorem dX4_kinds_56 : decode cX4_kinds 56 = .ok (.aload_n 0, 1) := by decide +kernel
theorem dX4_kinds_57 : decode cX4_kinds 57 = .ok (.getfield 31, 3) := by decide +kernel
theorem dX4_kinds_60 : decode cX4_kinds 60 = .ok (.iload_n 1, 1) := by decide +kernel
theorem dX4_kinds_61 : decode cX4_kinds 61 = .ok (.aaload, 1) := by decide +kernel
theorem dX4_kinds_62 : decode cX4_kinds 62 = .ok (.iload_n 2, 1) := by decide +kernel
theorem dX4_kinds_63 : decode cX4_kinds 63 = .ok (.iconst 1, 1) := by decide +kernel
theorem dX4_kinds_64 : decode cX4_kinds 64 = .ok (.invokevirtual 188, 3) := by decide +kernel
theorem dX4_kinds_67 : decode cX4_kinds 67 = .ok (.ifCond .eq 12, 3) := by decide +kernel
theorem dX4_kinds_70 : decode cX4_kinds 70 = .ok (.iload 4, 2) := by decide +kernel
theorem dX4_kinds_72 : decode cX4_kinds 72 = .ok (.iconst 1, 1) := by decide +kernel
theorem dX4_kinds_73 : decode cX4_kinds 73 = .ok (.iload 5, 2) := by decide +kernel
theorem dX4_kinds_75 : decode cX4_kinds 75 = .ok (.ishl, 1) := by decide +kernel
theorem dX4_kinds_76 : decode cX4_kinds 76 = .ok (.ior, 1) := by decide +kernel
theorem dX4_kinds_77 : decode cX4_kinds 77 = .ok (.istore 4, 2) := by decide +kernel
theorem dX4_kinds_79 : decode cX4_kinds 79 = .ok (.iinc 5 1, 3) := by decide +kernel
theorem dX4_kinds_82 : decode cX4_kinds 82 = .ok (.goto (-59), 3) := by decide +kernel
theorem dX4_kinds_85 : decode cX4_kinds 85 = .ok (.iload 4, 2) := by decide +kernel
theorem dX4_kinds_87 : decode cX4_kinds 87 = .ok (.ireturn, 1) := by decide +kernel
theorem dX4_isWeightAsTold_0 : decode cX4_isWeightAsTold 0 = .ok (.aload_n 0, 1) := by decide +kernel
theorem dX4_isWeightAsTold_1 : decode cX4_isWeightAsTold 1 = .ok (.getfield 19, 3) := by decide +kernel
theorem dX4_isWeightAsTold_4 : decode cX4_isWeightAsTold 4 = .ok (.aload_n 0, 1) := by decide +kernel
theorem dX4_isWeightAsTold_5 : decode cX4_isWeightAsTold 5 = .ok (.getfield 12, 3) := by decide +kernel
theorem dX4_isWeightAsTold_8 : decode cX4_isWeightAsTold 8 = .ok (.invokevirtual 127, 3) := by decide +kernel
theorem dX4_isWeightAsTold_11 : decode cX4_isWeightAsTold 11 = .ok (.aload_n 0, 1) := by decide +kernel
theorem dX4_isWeightAsTold_12 : decode cX4_isWeightAsTold 12 = .ok (.getfield 19, 3) := by decide +kernel
theorem dX4_isWeightAsTold_15 : decode cX4_isWeightAsTold 15 = .ok (.aload_n 0, 1) := by decide +kernel
theorem dX4_isWeightAsTold_16 : decode cX4_isWeightAsTold 16 = .ok (.getfield 12, 3) := by decide +kernel
theorem dX4_isWeightAsTold_19 : decode cX4_isWeightAsTold 19 = .ok (.invokevirtual 148, 3) := by decide +kernel
theorem dX4_isWeightAsTold_22 : decode cX4_isWeightAsTold 22 = .ok (.iload_n 3, 1) := by decide +kernel
theorem dX4_isWeightAsTold_23 : decode cX4_isWeightAsTold 23 = .ok (.invokevirtual 145, 3) := by decide +kernel
theorem dX4_isWeightAsTold_26 : decode cX4_isWeightAsTold 26 = .ok (.aload_n 0, 1) := by decide +kernel
theorem dX4_isWeightAsTold_27 : decode cX4_isWeightAsTold 27 = .ok (.aload_n 1, 1) := by decide +kernel
theorem dX4_isWeightAsTold_28 : decode cX4_isWeightAsTold 28 = .ok (.iload_n 2, 1) := by decide +kernel
theorem dX4_isWeightAsTold_29 : decode cX4_isWeightAsTold 29 = .ok (.iconst 3, 1) := by decide +kernel
theorem dX4_isWeightAsTold_30 : decode cX4_isWeightAsTold 30 = .ok (.invokevirtual 188, 3) := by decide +kernel
theorem dX4_isWeightAsTold_33 : decode cX4_isWeightAsTold 33 = .ok (.ireturn, 1) := by decide +kernel
theorem dX4_isTrialAsTold_0 : decode cX4_isTrialAsTold 0 = .ok (.iconst 0, 1) := by decide +kernel
theorem dX4_isTrialAsTold_1 : decode cX4_isTrialAsTold 1 = .ok (.istore 4, 2) := by decide +kernel
theorem dX4_isTrialAsTold_3 : decode cX4_isTrialAsTold 3 = .ok (.iload 4, 2) := by decide +kernel
theorem dX4_isTrialAsTold_5 : decode cX4_isTrialAsTold 5 = .ok (.aload_n 1, 1) := by decide +kernel
theorem dX4_isTrialAsTold_6 : decode cX4_isTrialAsTold 6 = .ok (.getfield 191, 3) := by decide +kernel
theorem dX4_isTrialAsTold_9 : decode cX4_isTrialAsTold 9 = .ok (.if_icmp .ge 56, 3) := by decide +kernel
theorem dX4_isTrialAsTold_12 : decode cX4_isTrialAsTold 12 = .ok (.iload 4, 2) := by decide +kernel
theorem dX4_isTrialAsTold_14 : decode cX4_isTrialAsTold 14 = .ok (.ifCond .le 10, 3) := by decide +kernel
theorem dX4_isTrialAsTold_17 : decode cX4_isTrialAsTold 17 = .ok (.aload_n 0, 1) := by decide +kernel
theorem dX4_isTrialAsTold_18 : decode cX4_isTrialAsTold 18 = .ok (.getfield 19, 3) := by decide +kernel
theorem dX4_isTrialAsTold_21 : decode cX4_isTrialAsTold 21 = .ok (.invokevirtual 131, 3) := by decide +kernel
theorem dX4_isTrialAsTold_24 : decode cX4_isTrialAsTold 24 = .ok (.aload_n 1, 1) := by decide +kernel
theorem dX4_isTrialAsTold_25 : decode cX4_isTrialAsTold 25 = .ok (.getfield 192, 3) := by decide +kernel
theorem dX4_isTrialAsTold_28 : decode cX4_isTrialAsTold 28 = .ok (.iload 4, 2) := by decide +kernel
theorem dX4_isTrialAsTold_30 : decode cX4_isTrialAsTold 30 = .ok (.iaload, 1) := by decide +kernel
theorem dX4_isTrialAsTold_31 : decode cX4_isTrialAsTold 31 = .ok (.istore 5, 2) := by decide +kernel
theorem dX4_isTrialAsTold_33 : decode cX4_isTrialAsTold 33 = .ok (.iload 5, 2) := by decide +kernel
theorem dX4_isTrialAsTold_35 : decode cX4_isTrialAsTold 35 = .ok (.iconst (-1), 1) := by decide +kernel
theorem dX4_isTrialAsTold_36 : decode cX4_isTrialAsTold 36 = .ok (.if_icmp .eq 23, 3) := by decide +kernel
theorem dX4_isTrialAsTold_39 : decode cX4_isTrialAsTold 39 = .ok (.iload 5, 2) := by decide +kernel
theorem dX4_isTrialAsTold_41 : decode cX4_isTrialAsTold 41 = .ok (.aload_n 0, 1) := by decide +kernel
theorem dX4_isTrialAsTold_42 : decode cX4_isTrialAsTold 42 = .ok (.getfield 19, 3) := by decide +kernel
theorem dX4_isTrialAsTold_45 : decode cX4_isTrialAsTold 45 = .ok (.getfield 68, 3) := by decide +kernel
theorem dX4_isTrialAsTold_48 : decode cX4_isTrialAsTold 48 = .ok (.iload_n 2, 1) := by decide +kernel
theorem dX4_isTrialAsTold_49 : decode cX4_isTrialAsTold 49 = .ok (.aaload, 1) := by decide +kernel
theorem dX4_isTrialAsTold_50 : decode cX4_isTrialAsTold 50 = .ok (.iload_n 3, 1) := by decide +kernel
theorem dX4_isTrialAsTold_51 : decode cX4_isTrialAsTold 51 = .ok (.invokevirtual 87, 3) := by decide +kernel
theorem dX4_isTrialAsTold_54 : decode cX4_isTrialAsTold 54 = .ok (.if_icmp .eq 5, 3) := by decide +kernel
theorem dX4_isTrialAsTold_57 : decode cX4_isTrialAsTold 57 = .ok (.iconst 0, 1) := by decide +kernel
theorem dX4_isTrialAsTold_58 : decode cX4_isTrialAsTold 58 = .ok (.ireturn, 1) := by decide +kernel
theorem dX4_isTrialAsTold_59 : decode cX4_isTrialAsTold 59 = .ok (.iinc 4 1, 3) := by decide +kernel
theorem dX4_isTrialAsTold_62 : decode cX4_isTrialAsTold 62 = .ok (.goto (-59), 3) := by decide +kernel
theorem dX4_isTrialAsTold_65 : decode cX4_isTrialAsTold 65 = .ok (.iconst 1, 1) := by decide +kernel
theorem dX4_isTrialAsTold_66 : decode cX4_isTrialAsTold 66 = .ok (.ireturn, 1) := by decide +kernel
theorem dX4_sheetAndPersonFinding_0 : decode cX4_sheetAndPersonFinding 0 = .ok (.aload_n 0, 1) := by decide +kernel
theorem dX4_sheetAndPersonFinding_1 : decode cX4_sheetAndPersonFinding 1 = .ok (.iload_n 1, 1) := by decide +kernel
theorem dX4_sheetAndPersonFinding_2 : decode cX4_sheetAndPersonFinding 2 = .ok (.invokevirtual 195, 3) := by decide +kernel
theorem dX4_sheetAndPersonFinding_5 : decode cX4_sheetAndPersonFinding 5 = .ok (.istore_n 3, 1) := by decide +kernel
theorem dX4_sheetAndPersonFinding_6 : decode cX4_sheetAndPersonFinding 6 = .ok (.iload_n 3, 1) := by decide +kernel
theorem dX4_sheetAndPersonFinding_7 : decode cX4_sheetAndPersonFinding 7 = .ok (.ifCond .ge 5, 3) := by decide +kernel
theorem dX4_sheetAndPersonFinding_10 : decode cX4_sheetAndPersonFinding 10 = .ok (.iload_n 3, 1) := by decide +kernel
theorem dX4_sheetAndPersonFinding_11 : decode cX4_sheetAndPersonFinding 11 = .ok (.ireturn, 1) := by decide +kernel
theorem dX4_sheetAndPersonFinding_12 : decode cX4_sheetAndPersonFinding 12 = .ok (.aload_n 0, 1) := by decide +kernel
theorem dX4_sheetAndPersonFinding_13 : decode cX4_sheetAndPersonFinding 13 = .ok (.getfield 12, 3) := by decide +kernel
theorem dX4_sheetAndPersonFinding_16 : decode cX4_sheetAndPersonFinding 16 = .ok (.iload_n 2, 1) := by decide +kernel
theorem dX4_sheetAndPersonFinding_17 : decode cX4_sheetAndPersonFinding 17 = .ok (.invokevirtual 64, 3) := by decide +kernel
theorem dX4_sheetAndPersonFinding_20 : decode cX4_sheetAndPersonFinding 20 = .ok (.ifCond .eq 7, 3) := by decide +kernel
theorem dX4_sheetAndPersonFinding_23 : decode cX4_sheetAndPersonFinding 23 = .ok (.iconst 0, 1) := by decide +kernel
theorem dX4_sheetAndPersonFinding_24 : decode cX4_sheetAndPersonFinding 24 = .ok (.goto 5, 3) := by decide +kernel
theorem dX4_sheetAndPersonFinding_27 : decode cX4_sheetAndPersonFinding 27 = .ok (.ldc 44, 2) := by decide +kernel
theorem dX4_sheetAndPersonFinding_29 : decode cX4_sheetAndPersonFinding 29 = .ok (.ireturn, 1) := by decide +kernel
theorem dX4_gossip_0 : decode cX4_gossip 0 = .ok (.iload_n 1, 1) := by decide +kernel
theorem dX4_gossip_1 : decode cX4_gossip 1 = .ok (.iconst 1, 1) := by decide +kernel
theorem dX4_gossip_2 : decode cX4_gossip 2 = .ok (.bipush 20, 2) := by decide +kernel
theorem dX4_gossip_4 : decode cX4_gossip 4 = .ok (.invokestatic 40, 3) := by decide +kernel
theorem dX4_gossip_7 : decode cX4_gossip 7 = .ok (.ifCond .ne 10, 3) := by decide +kernel
theorem dX4_gossip_10 : decode cX4_gossip 10 = .ok (.aload_n 0, 1) := by decide +kernel
theorem dX4_gossip_11 : decode cX4_gossip 11 = .ok (.ldc 44, 2) := by decide +kernel
theorem dX4_gossip_13 : decode cX4_gossip 13 = .ok (.invokevirtual 45, 3) := by decide +kernel
theorem dX4_gossip_16 : decode cX4_gossip 16 = .ok (.ireturn, 1) := by decide +kernel
theorem dX4_gossip_17 : decode cX4_gossip 17 = .ok (.aload_n 0, 1) := by decide +kernel
theorem dX4_gossip_18 : decode cX4_gossip 18 = .ok (.getfield 12, 3) := by decide +kernel
theorem dX4_gossip_21 : decode cX4_gossip 21 = .ok (.getfield 72, 3) := by decide +kernel
theorem dX4_gossip_24 : decode cX4_gossip 24 = .ok (.iload_n 1, 1) := by decide +kernel
theorem dX4_gossip_25 : decode cX4_gossip 25 = .ok (.iadd, 1) := by decide +kernel
theorem dX4_gossip_26 : decode cX4_gossip 26 = .ok (.ldc 108, 2) := by decide +kernel
theorem dX4_gossip_28 : decode cX4_gossip 28 = .ok (.if_icmp .le 10, 3) := by decide +kernel
theorem dX4_gossip_31 : decode cX4_gossip 31 = .ok (.aload_n 0, 1) := by decide +kernel
theorem dX4_gossip_32 : decode cX4_gossip 32 = .ok (.ldc 109, 2) := by decide +kernel
theorem dX4_gossip_34 : decode cX4_gossip 34 = .ok (.invokevirtual 45, 3) := by decide +kernel
theorem dX4_gossip_37 : decode cX4_gossip 37 = .ok (.ireturn, 1) := by decide +kernel
theorem dX4_gossip_38 : decode cX4_gossip 38 = .ok (.iconst 0, 1) := by decide +kernel
theorem dX4_gossip_39 : decode cX4_gossip 39 = .ok (.istore_n 2, 1) := by decide +kernel
theorem dX4_gossip_40 : decode cX4_gossip 40 = .ok (.iload_n 2, 1) := by decide +kernel
theorem dX4_gossip_41 : decode cX4_gossip 41 = .ok (.iload_n 1, 1) := by decide +kernel
theorem dX4_gossip_42 : decode cX4_gossip 42 = .ok (.if_icmp .ge 49, 3) := by decide +kernel
theorem dX4_gossip_45 : decode cX4_gossip 45 = .ok (.aload_n 0, 1) := by decide +kernel
theorem dX4_gossip_46 : decode cX4_gossip 46 = .ok (.getfield 12, 3) := by decide +kernel
theorem dX4_gossip_49 : decode cX4_gossip 49 = .ok (.invokevirtual 198, 3) := by decide +kernel
theorem dX4_gossip_52 : decode cX4_gossip 52 = .ok (.bipush 8, 2) := by decide +kernel
theorem dX4_gossip_54 : decode cX4_gossip 54 = .ok (.irem, 1) := by decide +kernel
theorem dX4_gossip_55 : decode cX4_gossip 55 = .ok (.istore_n 3, 1) := by decide +kernel
theorem dX4_gossip_56 : decode cX4_gossip 56 = .ok (.aload_n 0, 1) := by decide +kernel
theorem dX4_gossip_57 : decode cX4_gossip 57 = .ok (.getfield 12, 3) := by decide +kernel
theorem dX4_gossip_60 : decode cX4_gossip 60 = .ok (.invokevirtual 198, 3) := by decide +kernel
theorem dX4_gossip_63 : decode cX4_gossip 63 = .ok (.bipush 21, 2) := by decide +kernel
theorem dX4_gossip_65 : decode cX4_gossip 65 = .ok (.irem, 1) := by decide +kernel
theorem dX4_gossip_66 : decode cX4_gossip 66 = .ok (.istore 4, 2) := by decide +kernel
theorem dX4_gossip_68 : decode cX4_gossip 68 = .ok (.aload_n 0, 1) := by decide +kernel
theorem dX4_gossip_69 : decode cX4_gossip 69 = .ok (.getfield 12, 3) := by decide +kernel
theorem dX4_gossip_72 : decode cX4_gossip 72 = .ok (.iload_n 3, 1) := by decide +kernel
theorem dX4_gossip_73 : decode cX4_gossip 73 = .ok (.iload 4, 2) := by decide +kernel
theorem dX4_gossip_75 : decode cX4_gossip 75 = .ok (.invokevirtual 145, 3) := by decide +kernel
theorem dX4_gossip_78 : decode cX4_gossip 78 = .ok (.aload_n 0, 1) := by decide +kernel
theorem dX4_gossip_79 : decode cX4_gossip 79 = .ok (.getfield 12, 3) := by decide +kernel
theorem dX4_gossip_82 : decode cX4_gossip 82 = .ok (.invokevirtual 131, 3) := by decide +kernel
theorem dX4_gossip_85 : decode cX4_gossip 85 = .ok (.iinc 2 1, 3) := by decide +kernel
theorem dX4_gossip_88 : decode cX4_gossip 88 = .ok (.goto (-48), 3) := by decide +kernel
theorem dX4_gossip_91 : decode cX4_gossip 91 = .ok (.aload_n 0, 1) := by decide +kernel
theorem dX4_gossip_92 : decode cX4_gossip 92 = .ok (.getfield 12, 3) := by decide +kernel
theorem dX4_gossip_95 : decode cX4_gossip 95 = .ok (.iconst 1, 1) := by decide +kernel
theorem dX4_gossip_96 : decode cX4_gossip 96 = .ok (.invokevirtual 114, 3) := by decide +kernel
theorem dX4_gossip_99 : decode cX4_gossip 99 = .ok (.ireturn, 1) := by decide +kernel
theorem dX4_odds_0 : decode cX4_odds 0 = .ok (.iload_n 1, 1) := by decide +kernel
theorem dX4_odds_1 : decode cX4_odds 1 = .ok (.iconst 0, 1) := by decide +kernel
theorem dX4_odds_2 : decode cX4_odds 2 = .ok (.bipush 20, 2) := by decide +kernel
theorem dX4_odds_4 : decode cX4_odds 4 = .ok (.invokestatic 40, 3) := by decide +kernel
theorem dX4_odds_7 : decode cX4_odds 7 = .ok (.ifCond .eq 12, 3) := by decide +kernel
theorem dX4_odds_10 : decode cX4_odds 10 = .ok (.iload_n 2, 1) := by decide +kernel
theorem dX4_odds_11 : decode cX4_odds 11 = .ok (.iconst 0, 1) := by decide +kernel
theorem dX4_odds_12 : decode cX4_odds 12 = .ok (.iconst 1, 1) := by decide +kernel
theorem dX4_odds_13 : decode cX4_odds 13 = .ok (.invokestatic 40, 3) := by decide +kernel
theorem dX4_odds_16 : decode cX4_odds 16 = .ok (.ifCond .ne 11, 3) := by decide +kernel
theorem dX4_odds_19 : decode cX4_odds 19 = .ok (.aload_n 0, 1) := by decide +kernel
theorem dX4_odds_20 : decode cX4_odds 20 = .ok (.ldc 44, 2) := by decide +kernel
theorem dX4_odds_22 : decode cX4_odds 22 = .ok (.invokevirtual 45, 3) := by decide +kernel
theorem dX4_odds_25 : decode cX4_odds 25 = .ok (.i2l, 1) := by decide +kernel
theorem dX4_odds_26 : decode cX4_odds 26 = .ok (.lreturn, 1) := by decide +kernel
theorem dX4_odds_27 : decode cX4_odds 27 = .ok (.aload_n 0, 1) := by decide +kernel
theorem dX4_odds_28 : decode cX4_odds 28 = .ok (.getfield 12, 3) := by decide +kernel
theorem dX4_odds_31 : decode cX4_odds 31 = .ok (.invokevirtual 201, 3) := by decide +kernel
theorem dX4_odds_34 : decode cX4_odds 34 = .ok (.istore_n 3, 1) := by decide +kernel
theorem dX4_odds_35 : decode cX4_odds 35 = .ok (.bipush 8, 2) := by decide +kernel
theorem dX4_odds_37 : decode cX4_odds 37 = .ok (.istore 4, 2) := by decide +kernel
theorem dX4_odds_39 : decode cX4_odds 39 = .ok (.iconst 0, 1) := by decide +kernel
theorem dX4_odds_40 : decode cX4_odds 40 = .ok (.istore 5, 2) := by decide +kernel
theorem dX4_odds_42 : decode cX4_odds 42 = .ok (.iload 5, 2) := by decide +kernel
theorem dX4_odds_44 : decode cX4_odds 44 = .ok (.iconst 3, 1) := by decide +kernel
theorem dX4_odds_45 : decode cX4_odds 45 = .ok (.if_icmp .ge 25, 3) := by decide +kernel
theorem dX4_odds_48 : decode cX4_odds 48 = .ok (.iload_n 3, 1) := by decide +kernel
theorem dX4_odds_49 : decode cX4_odds 49 = .ok (.iconst 2, 1) := by decide +kernel
theorem dX4_odds_50 : decode cX4_odds 50 = .ok (.irem, 1) := by decide +kernel
theorem dX4_odds_51 : decode cX4_odds 51 = .ok (.ifCond .ne 19, 3) := by decide +kernel
theorem dX4_odds_54 : decode cX4_odds 54 = .ok (.iload_n 3, 1) := by decide +kernel
theorem dX4_odds_55 : decode cX4_odds 55 = .ok (.iconst 2, 1) := by decide +kernel
theorem dX4_odds_56 : decode cX4_odds 56 = .ok (.idiv, 1) := by decide +kernel
theorem dX4_odds_57 : decode cX4_odds 57 = .ok (.istore_n 3, 1) := by decide +kernel
theorem dX4_odds_58 : decode cX4_odds 58 = .ok (.iload 4, 2) := by decide +kernel
theorem dX4_odds_60 : decode cX4_odds 60 = .ok (.iconst 2, 1) := by decide +kernel
theorem dX4_odds_61 : decode cX4_odds 61 = .ok (.idiv, 1) := by decide +kernel
theorem dX4_odds_62 : decode cX4_odds 62 = .ok (.istore 4, 2) := by decide +kernel
theorem dX4_odds_64 : decode cX4_odds 64 = .ok (.iinc 5 1, 3) := by decide +kernel
theorem dX4_odds_67 : decode cX4_odds 67 = .ok (.goto (-25), 3) := by decide +kernel
theorem dX4_odds_70 : decode cX4_odds 70 = .ok (.iload_n 2, 1) := by decide +kernel
theorem dX4_odds_71 : decode cX4_odds 71 = .ok (.ifCond .ne 7, 3) := by decide +kernel
theorem dX4_odds_74 : decode cX4_odds 74 = .ok (.iload_n 3, 1) := by decide +kernel
theorem dX4_odds_75 : decode cX4_odds 75 = .ok (.goto 5, 3) := by decide +kernel
theorem dX4_odds_78 : decode cX4_odds 78 = .ok (.iload 4, 2) := by decide +kernel
theorem dX4_odds_80 : decode cX4_odds 80 = .ok (.iload_n 1, 1) := by decide +kernel
theorem dX4_odds_81 : decode cX4_odds 81 = .ok (.invokestatic 204, 3) := by decide +kernel
theorem dX4_odds_84 : decode cX4_odds 84 = .ok (.lreturn, 1) := by decide +kernel
theorem dX4_seed_0 : decode cX4_seed 0 = .ok (.aload_n 0, 1) := by decide +kernel
theorem dX4_seed_1 : decode cX4_seed 1 = .ok (.getfield 12, 3) := by decide +kernel
theorem dX4_seed_4 : decode cX4_seed 4 = .ok (.getfield 208, 3) := by decide +kernel
theorem dX4_seed_7 : decode cX4_seed 7 = .ok (.istore_n 2, 1) := by decide +kernel
theorem dX4_seed_8 : decode cX4_seed 8 = .ok (.aload_n 0, 1) := by decide +kernel
theorem dX4_seed_9 : decode cX4_seed 9 = .ok (.getfield 12, 3) := by decide +kernel
theorem dX4_seed_12 : decode cX4_seed 12 = .ok (.iload_n 1, 1) := by decide +kernel
theorem dX4_seed_13 : decode cX4_seed 13 = .ok (.putfield 208, 3) := by decide +kernel
theorem dX4_seed_16 : decode cX4_seed 16 = .ok (.iload_n 2, 1) := by decide +kernel
theorem dX4_seed_17 : decode cX4_seed 17 = .ok (.ireturn, 1) := by decide +kernel
theorem dX4_feed_0 : decode cX4_feed 0 = .ok (.iload_n 2, 1) := by decide +kernel
theorem dX4_feed_1 : decode cX4_feed 1 = .ok (.iconst 1, 1) := by decide +kernel
theorem dX4_feed_2 : decode cX4_feed 2 = .ok (.iconst 4, 1) := by decide +kernel
theorem dX4_feed_3 : decode cX4_feed 3 = .ok (.invokestatic 40, 3) := by decide +kernel
theorem dX4_feed_6 : decode cX4_feed 6 = .ok (.ifCond .ne 10, 3) := by decide +kernel
theorem dX4_feed_9 : decode cX4_feed 9 = .ok (.aload_n 0, 1) := by decide +kernel
theorem dX4_feed_10 : decode cX4_feed 10 = .ok (.ldc 44, 2) := by decide +kernel
theorem dX4_feed_12 : decode cX4_feed 12 = .ok (.invokevirtual 45, 3) := by decide +kernel
theorem dX4_feed_15 : decode cX4_feed 15 = .ok (.ireturn, 1) := by decide +kernel
theorem dX4_feed_16 : decode cX4_feed 16 = .ok (.aload_n 0, 1) := by decide +kernel
theorem dX4_feed_17 : decode cX4_feed 17 = .ok (.getfield 25, 3) := by decide +kernel
theorem dX4_feed_20 : decode cX4_feed 20 = .ok (.getfield 211, 3) := by decide +kernel
theorem dX4_feed_23 : decode cX4_feed 23 = .ok (.iload_n 2, 1) := by decide +kernel
theorem dX4_feed_24 : decode cX4_feed 24 = .ok (.iadd, 1) := by decide +kernel
theorem dX4_feed_25 : decode cX4_feed 25 = .ok (.bipush 120, 2) := by decide +kernel
theorem dX4_feed_27 : decode cX4_feed 27 = .ok (.if_icmp .le 10, 3) := by decide +kernel
theorem dX4_feed_30 : decode cX4_feed 30 = .ok (.aload_n 0, 1) := by decide +kernel
theorem dX4_feed_31 : decode cX4_feed 31 = .ok (.ldc 60, 2) := by decide +kernel
theorem dX4_feed_33 : decode cX4_feed 33 = .ok (.invokevirtual 45, 3) := by decide +kernel
theorem dX4_feed_36 : decode cX4_feed 36 = .ok (.ireturn, 1) := by decide +kernel
theorem dX4_feed_37 : decode cX4_feed 37 = .ok (.iload_n 2, 1) := by decide +kernel
theorem dX4_feed_38 : decode cX4_feed 38 = .ok (.iconst 1, 1) := by decide +kernel
theorem dX4_feed_39 : decode cX4_feed 39 = .ok (.isub, 1) := by decide +kernel
theorem dX4_feed_40 : decode cX4_feed 40 = .ok (.istore_n 3, 1) := by decide +kernel
theorem dX4_feed_41 : decode cX4_feed 41 = .ok (.iload_n 3, 1) := by decide +kernel
theorem dX4_feed_42 : decode cX4_feed 42 = .ok (.ifCond .lt 26, 3) := by decide +kernel
theorem dX4_feed_45 : decode cX4_feed 45 = .ok (.aload_n 0, 1) := by decide +kernel
theorem dX4_feed_46 : decode cX4_feed 46 = .ok (.getfield 25, 3) := by decide +kernel
theorem dX4_feed_49 : decode cX4_feed 49 = .ok (.iload_n 1, 1) := by decide +kernel
theorem dX4_feed_50 : decode cX4_feed 50 = .ok (.bipush 8, 2) := by decide +kernel
theorem dX4_feed_52 : decode cX4_feed 52 = .ok (.iload_n 3, 1) := by decide +kernel
theorem dX4_feed_53 : decode cX4_feed 53 = .ok (.imul, 1) := by decide +kernel
theorem dX4_feed_54 : decode cX4_feed 54 = .ok (.iushr, 1) := by decide +kernel
theorem dX4_feed_55 : decode cX4_feed 55 = .ok (.sipush 255, 3) := by decide +kernel
theorem dX4_feed_58 : decode cX4_feed 58 = .ok (.iand, 1) := by decide +kernel
theorem dX4_feed_59 : decode cX4_feed 59 = .ok (.invokevirtual 212, 3) := by decide +kernel
theorem dX4_feed_62 : decode cX4_feed 62 = .ok (.iinc 3 (-1), 3) := by decide +kernel
theorem dX4_feed_65 : decode cX4_feed 65 = .ok (.goto (-24), 3) := by decide +kernel
theorem dX4_feed_68 : decode cX4_feed 68 = .ok (.aload_n 0, 1) := by decide +kernel
theorem dX4_feed_69 : decode cX4_feed 69 = .ok (.getfield 25, 3) := by decide +kernel
theorem dX4_feed_72 : decode cX4_feed 72 = .ok (.getfield 211, 3) := by decide +kernel
theorem dX4_feed_75 : decode cX4_feed 75 = .ok (.ireturn, 1) := by decide +kernel
theorem dX4_wipe_0 : decode cX4_wipe 0 = .ok (.aload_n 0, 1) := by decide +kernel
theorem dX4_wipe_1 : decode cX4_wipe 1 = .ok (.getfield 25, 3) := by decide +kernel
theorem dX4_wipe_4 : decode cX4_wipe 4 = .ok (.getfield 211, 3) := by decide +kernel
theorem dX4_wipe_7 : decode cX4_wipe 7 = .ok (.istore_n 1, 1) := by decide +kernel
theorem dX4_wipe_8 : decode cX4_wipe 8 = .ok (.aload_n 0, 1) := by decide +kernel
theorem dX4_wipe_9 : decode cX4_wipe 9 = .ok (.getfield 25, 3) := by decide +kernel
theorem dX4_wipe_12 : decode cX4_wipe 12 = .ok (.iconst 0, 1) := by decide +kernel
theorem dX4_wipe_13 : decode cX4_wipe 13 = .ok (.putfield 211, 3) := by decide +kernel
theorem dX4_wipe_16 : decode cX4_wipe 16 = .ok (.iload_n 1, 1) := by decide +kernel
theorem dX4_wipe_17 : decode cX4_wipe 17 = .ok (.ireturn, 1) := by decide +kernel
theorem dX4_text_0 : decode cX4_text 0 = .ok (.aload_n 0, 1) := by decide +kernel
theorem dX4_text_1 : decode cX4_text 1 = .ok (.getfield 19, 3) := by decide +kernel
theorem dX4_text_4 : decode cX4_text 4 = .ok (.aload_n 0, 1) := by decide +kernel
theorem dX4_text_5 : decode cX4_text 5 = .ok (.getfield 12, 3) := by decide +kernel
theorem dX4_text_8 : decode cX4_text 8 = .ok (.invokevirtual 127, 3) := by decide +kernel
theorem dX4_text_11 : decode cX4_text 11 = .ok (.aload_n 0, 1) := by decide +kernel
theorem dX4_text_12 : decode cX4_text 12 = .ok (.getfield 25, 3) := by decide +kernel
theorem dX4_text_15 : decode cX4_text 15 = .ok (.aload_n 0, 1) := by decide +kernel
theorem dX4_text_16 : decode cX4_text 16 = .ok (.getfield 19, 3) := by decide +kernel
theorem dX4_text_19 : decode cX4_text 19 = .ok (.invokevirtual 215, 3) := by decide +kernel
theorem dX4_text_22 : decode cX4_text 22 = .ok (.istore_n 1, 1) := by decide +kernel
theorem dX4_text_23 : decode cX4_text 23 = .ok (.iload_n 1, 1) := by decide +kernel
theorem dX4_text_24 : decode cX4_text 24 = .ok (.ifCond .lt 14, 3) := by decide +kernel
theorem dX4_text_27 : decode cX4_text 27 = .ok (.aload_n 0, 1) := by decide +kernel
theorem dX4_text_28 : decode cX4_text 28 = .ok (.getfield 12, 3) := by decide +kernel
theorem dX4_text_31 : decode cX4_text 31 = .ok (.aload_n 0, 1) := by decide +kernel
theorem dX4_text_32 : decode cX4_text 32 = .ok (.getfield 19, 3) := by decide +kernel
theorem dX4_text_35 : decode cX4_text 35 = .ok (.invokevirtual 127, 3) := by decide +kernel
theorem dX4_text_38 : decode cX4_text 38 = .ok (.aload_n 0, 1) := by decide +kernel
theorem dX4_text_39 : decode cX4_text 39 = .ok (.getfield 25, 3) := by decide +kernel
theorem dX4_text_42 : decode cX4_text 42 = .ok (.iconst 0, 1) := by decide +kernel
theorem dX4_text_43 : decode cX4_text 43 = .ok (.putfield 211, 3) := by decide +kernel
theorem dX4_text_46 : decode cX4_text 46 = .ok (.iload_n 1, 1) := by decide +kernel
theorem dX4_text_47 : decode cX4_text 47 = .ok (.ireturn, 1) := by decide +kernel
theorem dX4_hold_0 : decode cX4_hold 0 = .ok (.iload_n 1, 1) := by decide +kernel
theorem dX4_hold_1 : decode cX4_hold 1 = .ok (.iconst 0, 1) := by decide +kernel
theorem dX4_hold_2 : decode cX4_hold 2 = .ok (.bipush 9, 2) := by decide +kernel
theorem dX4_hold_4 : decode cX4_hold 4 = .ok (.invokestatic 40, 3) := by decide +kernel
theorem dX4_hold_7 : decode cX4_hold 7 = .ok (.ifCond .eq 19, 3) := by decide +kernel
theorem dX4_hold_10 : decode cX4_hold 10 = .ok (.iload_n 2, 1) := by decide +kernel
theorem dX4_hold_11 : decode cX4_hold 11 = .ok (.iconst (-1), 1) := by decide +kernel
theorem dX4_hold_12 : decode cX4_hold 12 = .ok (.if_icmp .eq 21, 3) := by decide +kernel
theorem dX4_hold_15 : decode cX4_hold 15 = .ok (.aload_n 0, 1) := by decide +kernel
theorem dX4_hold_16 : decode cX4_hold 16 = .ok (.getfield 12, 3) := by decide +kernel
theorem dX4_hold_19 : decode cX4_hold 19 = .ok (.iload_n 2, 1) := by decide +kernel
theorem dX4_hold_20 : decode cX4_hold 20 = .ok (.invokevirtual 64, 3) := by decide +kernel
theorem dX4_hold_23 : decode cX4_hold 23 = .ok (.ifCond .ne 10, 3) := by decide +kernel
theorem dX4_hold_26 : decode cX4_hold 26 = .ok (.aload_n 0, 1) := by decide +kernel
theorem dX4_hold_27 : decode cX4_hold 27 = .ok (.ldc 44, 2) := by decide +kernel
theorem dX4_hold_29 : decode cX4_hold 29 = .ok (.invokevirtual 45, 3) := by decide +kernel
theorem dX4_hold_32 : decode cX4_hold 32 = .ok (.ireturn, 1) := by decide +kernel
theorem dX4_hold_33 : decode cX4_hold 33 = .ok (.aload_n 0, 1) := by decide +kernel
theorem dX4_hold_34 : decode cX4_hold 34 = .ok (.getfield 12, 3) := by decide +kernel
theorem dX4_hold_37 : decode cX4_hold 37 = .ok (.getfield 219, 3) := by decide +kernel
theorem dX4_hold_40 : decode cX4_hold 40 = .ok (.iload_n 1, 1) := by decide +kernel
theorem dX4_hold_41 : decode cX4_hold 41 = .ok (.iload_n 2, 1) := by decide +kernel
theorem dX4_hold_42 : decode cX4_hold 42 = .ok (.iastore, 1) := by decide +kernel
theorem dX4_hold_43 : decode cX4_hold 43 = .ok (.iconst 1, 1) := by decide +kernel
theorem dX4_hold_44 : decode cX4_hold 44 = .ok (.ireturn, 1) := by decide +kernel
theorem dX4_as_0 : decode cX4_as 0 = .ok (.iload_n 1, 1) := by decide +kernel
theorem dX4_as_1 : decode cX4_as 1 = .ok (.iconst 0, 1) := by decide +kernel
theorem dX4_as_2 : decode cX4_as 2 = .ok (.bipush 9, 2) := by decide +kernel
theorem dX4_as_4 : decode cX4_as 4 = .ok (.invokestatic 40, 3) := by decide +kernel
theorem dX4_as_7 : decode cX4_as 7 = .ok (.ifCond .eq 13, 3) := by decide +kernel
theorem dX4_as_10 : decode cX4_as 10 = .ok (.iload_n 2, 1) := by decide +kernel
theorem dX4_as_11 : decode cX4_as 11 = .ok (.iconst 0, 1) := by decide +kernel
theorem dX4_as_12 : decode cX4_as 12 = .ok (.bipush 6, 2) := by decide +kernel
theorem dX4_as_14 : decode cX4_as 14 = .ok (.invokestatic 40, 3) := by decide +kernel
theorem dX4_as_17 : decode cX4_as 17 = .ok (.ifCond .ne 10, 3) := by decide +kernel
theorem dX4_as_20 : decode cX4_as 20 = .ok (.aload_n 0, 1) := by decide +kernel
theorem dX4_as_21 : decode cX4_as 21 = .ok (.ldc 44, 2) := by decide +kernel
theorem dX4_as_23 : decode cX4_as 23 = .ok (.invokevirtual 45, 3) := by decide +kernel
theorem dX4_as_26 : decode cX4_as 26 = .ok (.ireturn, 1) := by decide +kernel
theorem dX4_as_27 : decode cX4_as 27 = .ok (.aload_n 0, 1) := by decide +kernel
theorem dX4_as_28 : decode cX4_as 28 = .ok (.getfield 12, 3) := by decide +kernel
theorem dX4_as_31 : decode cX4_as 31 = .ok (.getfield 219, 3) := by decide +kernel
theorem dX4_as_34 : decode cX4_as 34 = .ok (.iload_n 1, 1) := by decide +kernel
theorem dX4_as_35 : decode cX4_as 35 = .ok (.iaload, 1) := by decide +kernel
theorem dX4_as_36 : decode cX4_as 36 = .ok (.istore_n 3, 1) := by decide +kernel
theorem dX4_as_37 : decode cX4_as 37 = .ok (.aload_n 0, 1) := by decide +kernel
theorem dX4_as_38 : decode cX4_as 38 = .ok (.getfield 12, 3) := by decide +kernel
theorem dX4_as_41 : decode cX4_as 41 = .ok (.iload_n 3, 1) := by decide +kernel
theorem dX4_as_42 : decode cX4_as 42 = .ok (.invokevirtual 64, 3) := by decide +kernel
theorem dX4_as_45 : decode cX4_as 45 = .ok (.ifCond .ne 10, 3) := by decide +kernel
theorem dX4_as_48 : decode cX4_as 48 = .ok (.aload_n 0, 1) := by decide +kernel
theorem dX4_as_49 : decode cX4_as 49 = .ok (.ldc 222, 2) := by decide +kernel
theorem dX4_as_51 : decode cX4_as 51 = .ok (.invokevirtual 45, 3) := by decide +kernel
theorem dX4_as_54 : decode cX4_as 54 = .ok (.ireturn, 1) := by decide +kernel
theorem dX4_as_55 : decode cX4_as 55 = .ok (.aload_n 0, 1) := by decide +kernel
theorem dX4_as_56 : decode cX4_as 56 = .ok (.getfield 12, 3) := by decide +kernel
theorem dX4_as_59 : decode cX4_as 59 = .ok (.getfield 68, 3) := by decide +kernel
theorem dX4_as_62 : decode cX4_as 62 = .ok (.iload_n 3, 1) := by decide +kernel
theorem dX4_as_63 : decode cX4_as 63 = .ok (.aaload, 1) := by decide +kernel
theorem dX4_as_64 : decode cX4_as 64 = .ok (.iload_n 2, 1) := by decide +kernel
theorem dX4_as_65 : decode cX4_as 65 = .ok (.invokevirtual 223, 3) := by decide +kernel
theorem dX4_as_68 : decode cX4_as 68 = .ok (.ifCond .eq 7, 3) := by decide +kernel
theorem dX4_as_71 : decode cX4_as 71 = .ok (.iload_n 3, 1) := by decide +kernel
theorem dX4_as_72 : decode cX4_as 72 = .ok (.goto 9, 3) := by decide +kernel
theorem dX4_as_75 : decode cX4_as 75 = .ok (.aload_n 0, 1) := by decide +kernel
theorem dX4_as_76 : decode cX4_as 76 = .ok (.ldc 226, 2) := by decide +kernel
theorem dX4_as_78 : decode cX4_as 78 = .ok (.invokevirtual 45, 3) := by decide +kernel
theorem dX4_as_81 : decode cX4_as 81 = .ok (.ireturn, 1) := by decide +kernel
theorem dX4_sheet_0 : decode cX4_sheet 0 = .ok (.iload_n 1, 1) := by decide +kernel
theorem dX4_sheet_1 : decode cX4_sheet 1 = .ok (.iconst 0, 1) := by decide +kernel
theorem dX4_sheet_2 : decode cX4_sheet 2 = .ok (.iconst 3, 1) := by decide +kernel
theorem dX4_sheet_3 : decode cX4_sheet 3 = .ok (.invokestatic 40, 3) := by decide +kernel
theorem dX4_sheet_6 : decode cX4_sheet 6 = .ok (.ifCond .eq 25, 3) := by decide +kernel
theorem dX4_sheet_9 : decode cX4_sheet 9 = .ok (.iload_n 2, 1) := by decide +kernel
theorem dX4_sheet_10 : decode cX4_sheet 10 = .ok (.ifCond .eq 28, 3) := by decide +kernel
theorem dX4_sheet_13 : decode cX4_sheet 13 = .ok (.iload_n 2, 1) := by decide +kernel
theorem dX4_sheet_14 : decode cX4_sheet 14 = .ok (.bipush 8, 2) := by decide +kernel
theorem dX4_sheet_16 : decode cX4_sheet 16 = .ok (.if_icmp .eq 22, 3) := by decide +kernel
theorem dX4_sheet_19 : decode cX4_sheet 19 = .ok (.iload_n 2, 1) := by decide +kernel
theorem dX4_sheet_20 : decode cX4_sheet 20 = .ok (.bipush 16, 2) := by decide +kernel
theorem dX4_sheet_22 : decode cX4_sheet 22 = .ok (.if_icmp .eq 16, 3) := by decide +kernel
theorem dX4_sheet_25 : decode cX4_sheet 25 = .ok (.iload_n 2, 1) := by decide +kernel
theorem dX4_sheet_26 : decode cX4_sheet 26 = .ok (.bipush 32, 2) := by decide +kernel
theorem dX4_sheet_28 : decode cX4_sheet 28 = .ok (.if_icmp .eq 10, 3) := by decide +kernel
theorem dX4_sheet_31 : decode cX4_sheet 31 = .ok (.aload_n 0, 1) := by decide +kernel
theorem dX4_sheet_32 : decode cX4_sheet 32 = .ok (.ldc 44, 2) := by decide +kernel
theorem dX4_sheet_34 : decode cX4_sheet 34 = .ok (.invokevirtual 45, 3) := by decide +kernel
theorem dX4_sheet_37 : decode cX4_sheet 37 = .ok (.ireturn, 1) := by decide +kernel
theorem dX4_sheet_38 : decode cX4_sheet 38 = .ok (.iload_n 3, 1) := by decide +kernel
theorem dX4_sheet_39 : decode cX4_sheet 39 = .ok (.ifCond .ge 10, 3) := by decide +kernel
theorem dX4_sheet_42 : decode cX4_sheet 42 = .ok (.aload_n 0, 1) := by decide +kernel
theorem dX4_sheet_43 : decode cX4_sheet 43 = .ok (.ldc 227, 2) := by decide +kernel
theorem dX4_sheet_45 : decode cX4_sheet 45 = .ok (.invokevirtual 45, 3) := by decide +kernel
theorem dX4_sheet_48 : decode cX4_sheet 48 = .ok (.ireturn, 1) := by decide +kernel
theorem dX4_sheet_49 : decode cX4_sheet 49 = .ok (.iload_n 3, 1) := by decide +kernel
theorem dX4_sheet_50 : decode cX4_sheet 50 = .ok (.bipush 40, 2) := by decide +kernel
theorem dX4_sheet_52 : decode cX4_sheet 52 = .ok (.if_icmp .le 10, 3) := by decide +kernel
theorem dX4_sheet_55 : decode cX4_sheet 55 = .ok (.aload_n 0, 1) := by decide +kernel
theorem dX4_sheet_56 : decode cX4_sheet 56 = .ok (.ldc 44, 2) := by decide +kernel
theorem dX4_sheet_58 : decode cX4_sheet 58 = .ok (.invokevirtual 45, 3) := by decide +kernel
theorem dX4_sheet_61 : decode cX4_sheet 61 = .ok (.ireturn, 1) := by decide +kernel
theorem dX4_sheet_62 : decode cX4_sheet 62 = .ok (.aload_n 0, 1) := by decide +kernel
theorem dX4_sheet_63 : decode cX4_sheet 63 = .ok (.getfield 31, 3) := by decide +kernel
theorem dX4_sheet_66 : decode cX4_sheet 66 = .ok (.iload_n 1, 1) := by decide +kernel
theorem dX4_sheet_67 : decode cX4_sheet 67 = .ok (.aaload, 1) := by decide +kernel
theorem dX4_sheet_68 : decode cX4_sheet 68 = .ok (.iload_n 2, 1) := by decide +kernel
theorem dX4_sheet_69 : decode cX4_sheet 69 = .ok (.iload_n 2, 1) := by decide +kernel
theorem dX4_sheet_70 : decode cX4_sheet 70 = .ok (.ifCond .ne 7, 3) := by decide +kernel
theorem dX4_sheet_73 : decode cX4_sheet 73 = .ok (.iconst 0, 1) := by decide +kernel
theorem dX4_sheet_74 : decode cX4_sheet 74 = .ok (.goto 4, 3) := by decide +kernel
theorem dX4_sheet_77 : decode cX4_sheet 77 = .ok (.iload_n 3, 1) := by decide +kernel
theorem dX4_sheet_78 : decode cX4_sheet 78 = .ok (.invokevirtual 228, 3) := by decide +kernel
theorem dX4_sheet_81 : decode cX4_sheet 81 = .ok (.aload_n 0, 1) := by decide +kernel
theorem dX4_sheet_82 : decode cX4_sheet 82 = .ok (.getfield 31, 3) := by decide +kernel
theorem dX4_sheet_85 : decode cX4_sheet 85 = .ok (.iload_n 1, 1) := by decide +kernel
theorem dX4_sheet_86 : decode cX4_sheet 86 = .ok (.aaload, 1) := by decide +kernel
theorem dX4_sheet_87 : decode cX4_sheet 87 = .ok (.getfield 191, 3) := by decide +kernel
theorem dX4_sheet_90 : decode cX4_sheet 90 = .ok (.ireturn, 1) := by decide +kernel
theorem dX4_write_0 : decode cX4_write 0 = .ok (.aload_n 0, 1) := by decide +kernel
theorem dX4_write_1 : decode cX4_write 1 = .ok (.iload_n 1, 1) := by decide +kernel
theorem dX4_write_2 : decode cX4_write 2 = .ok (.invokevirtual 195, 3) := by decide +kernel
theorem dX4_write_5 : decode cX4_write 5 = .ok (.istore 4, 2) := by decide +kernel
theorem dX4_write_7 : decode cX4_write 7 = .ok (.iload 4, 2) := by decide +kernel
theorem dX4_write_9 : decode cX4_write 9 = .ok (.ifCond .ge 10, 3) := by decide +kernel
theorem dX4_write_12 : decode cX4_write 12 = .ok (.aload_n 0, 1) := by decide +kernel
theorem dX4_write_13 : decode cX4_write 13 = .ok (.iload 4, 2) := by decide +kernel
theorem dX4_write_15 : decode cX4_write 15 = .ok (.invokevirtual 45, 3) := by decide +kernel
theorem dX4_write_18 : decode cX4_write 18 = .ok (.ireturn, 1) := by decide +kernel
theorem dX4_write_19 : decode cX4_write 19 = .ok (.iload_n 2, 1) := by decide +kernel
theorem dX4_write_20 : decode cX4_write 20 = .ok (.iconst 0, 1) := by decide +kernel
theorem dX4_write_21 : decode cX4_write 21 = .ok (.aload_n 0, 1) := by decide +kernel
theorem dX4_write_22 : decode cX4_write 22 = .ok (.getfield 31, 3) := by decide +kernel
theorem dX4_write_25 : decode cX4_write 25 = .ok (.iload_n 1, 1) := by decide +kernel
theorem dX4_write_26 : decode cX4_write 26 = .ok (.aaload, 1) := by decide +kernel
theorem dX4_write_27 : decode cX4_write 27 = .ok (.getfield 191, 3) := by decide +kernel
theorem dX4_write_30 : decode cX4_write 30 = .ok (.iconst 1, 1) := by decide +kernel
theorem dX4_write_31 : decode cX4_write 31 = .ok (.isub, 1) := by decide +kernel
theorem dX4_write_32 : decode cX4_write 32 = .ok (.invokestatic 40, 3) := by decide +kernel
theorem dX4_write_35 : decode cX4_write 35 = .ok (.ifCond .ne 10, 3) := by decide +kernel
theorem dX4_write_38 : decode cX4_write 38 = .ok (.aload_n 0, 1) := by decide +kernel
theorem dX4_write_39 : decode cX4_write 39 = .ok (.ldc 44, 2) := by decide +kernel
theorem dX4_write_41 : decode cX4_write 41 = .ok (.invokevirtual 45, 3) := by decide +kernel
theorem dX4_write_44 : decode cX4_write 44 = .ok (.ireturn, 1) := by decide +kernel
theorem dX4_write_45 : decode cX4_write 45 = .ok (.aload_n 0, 1) := by decide +kernel
theorem dX4_write_46 : decode cX4_write 46 = .ok (.getfield 31, 3) := by decide +kernel
theorem dX4_write_49 : decode cX4_write 49 = .ok (.iload_n 1, 1) := by decide +kernel
theorem dX4_write_50 : decode cX4_write 50 = .ok (.aaload, 1) := by decide +kernel
theorem dX4_write_51 : decode cX4_write 51 = .ok (.iload_n 2, 1) := by decide +kernel
theorem dX4_write_52 : decode cX4_write 52 = .ok (.iload_n 3, 1) := by decide +kernel
theorem dX4_write_53 : decode cX4_write 53 = .ok (.invokevirtual 231, 3) := by decide +kernel
theorem dX4_write_56 : decode cX4_write 56 = .ok (.iconst 1, 1) := by decide +kernel
theorem dX4_write_57 : decode cX4_write 57 = .ok (.ireturn, 1) := by decide +kernel
theorem dX4_copy_0 : decode cX4_copy 0 = .ok (.iload_n 1, 1) := by decide +kernel
theorem dX4_copy_1 : decode cX4_copy 1 = .ok (.iconst 0, 1) := by decide +kernel
theorem dX4_copy_2 : decode cX4_copy 2 = .ok (.iconst 3, 1) := by decide +kernel
theorem dX4_copy_3 : decode cX4_copy 3 = .ok (.invokestatic 40, 3) := by decide +kernel
theorem dX4_copy_6 : decode cX4_copy 6 = .ok (.ifCond .eq 12, 3) := by decide +kernel
theorem dX4_copy_9 : decode cX4_copy 9 = .ok (.iload_n 3, 1) := by decide +kernel
theorem dX4_copy_10 : decode cX4_copy 10 = .ok (.iconst 0, 1) := by decide +kernel
theorem dX4_copy_11 : decode cX4_copy 11 = .ok (.iconst 3, 1) := by decide +kernel
theorem dX4_copy_12 : decode cX4_copy 12 = .ok (.invokestatic 40, 3) := by decide +kernel
theorem dX4_copy_15 : decode cX4_copy 15 = .ok (.ifCond .ne 10, 3) := by decide +kernel
theorem dX4_copy_18 : decode cX4_copy 18 = .ok (.aload_n 0, 1) := by decide +kernel
theorem dX4_copy_19 : decode cX4_copy 19 = .ok (.ldc 44, 2) := by decide +kernel
theorem dX4_copy_21 : decode cX4_copy 21 = .ok (.invokevirtual 45, 3) := by decide +kernel
theorem dX4_copy_24 : decode cX4_copy 24 = .ok (.ireturn, 1) := by decide +kernel
theorem dX4_copy_25 : decode cX4_copy 25 = .ok (.aload_n 0, 1) := by decide +kernel
theorem dX4_copy_26 : decode cX4_copy 26 = .ok (.getfield 31, 3) := by decide +kernel
theorem dX4_copy_29 : decode cX4_copy 29 = .ok (.iload_n 1, 1) := by decide +kernel
theorem dX4_copy_30 : decode cX4_copy 30 = .ok (.aaload, 1) := by decide +kernel
theorem dX4_copy_31 : decode cX4_copy 31 = .ok (.astore 6, 2) := by decide +kernel
theorem dX4_copy_33 : decode cX4_copy 33 = .ok (.aload_n 0, 1) := by decide +kernel
theorem dX4_copy_34 : decode cX4_copy 34 = .ok (.getfield 31, 3) := by decide +kernel
theorem dX4_copy_37 : decode cX4_copy 37 = .ok (.iload_n 3, 1) := by decide +kernel
theorem dX4_copy_38 : decode cX4_copy 38 = .ok (.aaload, 1) := by decide +kernel
theorem dX4_copy_39 : decode cX4_copy 39 = .ok (.astore 7, 2) := by decide +kernel
theorem dX4_copy_41 : decode cX4_copy 41 = .ok (.aload 6, 2) := by decide +kernel
theorem dX4_copy_43 : decode cX4_copy 43 = .ok (.invokevirtual 234, 3) := by decide +kernel
theorem dX4_copy_46 : decode cX4_copy 46 = .ok (.ifCond .ne 11, 3) := by decide +kernel
theorem dX4_copy_49 : decode cX4_copy 49 = .ok (.aload 7, 2) := by decide +kernel
theorem dX4_copy_51 : decode cX4_copy 51 = .ok (.invokevirtual 234, 3) := by decide +kernel
theorem dX4_copy_54 : decode cX4_copy 54 = .ok (.ifCond .eq 10, 3) := by decide +kernel
theorem dX4_copy_57 : decode cX4_copy 57 = .ok (.aload_n 0, 1) := by decide +kernel
theorem dX4_copy_58 : decode cX4_copy 58 = .ok (.ldc 222, 2) := by decide +kernel
theorem dX4_copy_60 : decode cX4_copy 60 = .ok (.invokevirtual 45, 3) := by decide +kernel
theorem dX4_copy_63 : decode cX4_copy 63 = .ok (.ireturn, 1) := by decide +kernel
theorem dX4_copy_64 : decode cX4_copy 64 = .ok (.aload 6, 2) := by decide +kernel
theorem dX4_copy_66 : decode cX4_copy 66 = .ok (.getfield 237, 3) := by decide +kernel
theorem dX4_copy_69 : decode cX4_copy 69 = .ok (.aload 7, 2) := by decide +kernel
theorem dX4_copy_71 : decode cX4_copy 71 = .ok (.getfield 237, 3) := by decide +kernel
theorem dX4_copy_74 : decode cX4_copy 74 = .ok (.if_icmp .eq 10, 3) := by decide +kernel
theorem dX4_copy_77 : decode cX4_copy 77 = .ok (.aload_n 0, 1) := by decide +kernel
theorem dX4_copy_78 : decode cX4_copy 78 = .ok (.ldc 226, 2) := by decide +kernel
theorem dX4_copy_80 : decode cX4_copy 80 = .ok (.invokevirtual 45, 3) := by decide +kernel
theorem dX4_copy_83 : decode cX4_copy 83 = .ok (.ireturn, 1) := by decide +kernel
theorem dX4_copy_84 : decode cX4_copy 84 = .ok (.aload 6, 2) := by decide +kernel
theorem dX4_copy_86 : decode cX4_copy 86 = .ok (.iload_n 2, 1) := by decide +kernel
theorem dX4_copy_87 : decode cX4_copy 87 = .ok (.iload 5, 2) := by decide +kernel
theorem dX4_copy_89 : decode cX4_copy 89 = .ok (.invokevirtual 240, 3) := by decide +kernel
theorem dX4_copy_92 : decode cX4_copy 92 = .ok (.ifCond .eq 15, 3) := by decide +kernel
theorem dX4_copy_95 : decode cX4_copy 95 = .ok (.aload 7, 2) := by decide +kernel
theorem dX4_copy_97 : decode cX4_copy 97 = .ok (.iload 4, 2) := by decide +kernel
theorem dX4_copy_99 : decode cX4_copy 99 = .ok (.iload 5, 2) := by decide +kernel
theorem dX4_copy_101 : decode cX4_copy 101 = .ok (.invokevirtual 240, 3) := by decide +kernel
theorem dX4_copy_104 : decode cX4_copy 104 = .ok (.ifCond .ne 10, 3) := by decide +kernel
theorem dX4_copy_107 : decode cX4_copy 107 = .ok (.aload_n 0, 1) := by decide +kernel
theorem dX4_copy_108 : decode cX4_copy 108 = .ok (.ldc 44, 2) := by decide +kernel
theorem dX4_copy_110 : decode cX4_copy 110 = .ok (.invokevirtual 45, 3) := by decide +kernel
theorem dX4_copy_113 : decode cX4_copy 113 = .ok (.ireturn, 1) := by decide +kernel
theorem dX4_copy_114 : decode cX4_copy 114 = .ok (.aload 6, 2) := by decide +kernel
theorem dX4_copy_116 : decode cX4_copy 116 = .ok (.getfield 192, 3) := by decide +kernel
theorem dX4_copy_119 : decode cX4_copy 119 = .ok (.iload_n 2, 1) := by decide +kernel
theorem dX4_copy_120 : decode cX4_copy 120 = .ok (.aload 7, 2) := by decide +kernel
theorem dX4_copy_122 : decode cX4_copy 122 = .ok (.getfield 192, 3) := by decide +kernel
theorem dX4_copy_125 : decode cX4_copy 125 = .ok (.iload 4, 2) := by decide +kernel
theorem dX4_copy_127 : decode cX4_copy 127 = .ok (.iload 5, 2) := by decide +kernel
theorem dX4_copy_129 : decode cX4_copy 129 = .ok (.invokestatic 243, 3) := by decide +kernel
theorem dX4_copy_132 : decode cX4_copy 132 = .ok (.iload 5, 2) := by decide +kernel
theorem dX4_copy_134 : decode cX4_copy 134 = .ok (.ireturn, 1) := by decide +kernel
theorem dX4_load_0 : decode cX4_load 0 = .ok (.aload_n 0, 1) := by decide +kernel
theorem dX4_load_1 : decode cX4_load 1 = .ok (.iload_n 1, 1) := by decide +kernel
theorem dX4_load_2 : decode cX4_load 2 = .ok (.invokevirtual 195, 3) := by decide +kernel
theorem dX4_load_5 : decode cX4_load 5 = .ok (.istore_n 2, 1) := by decide +kernel
theorem dX4_load_6 : decode cX4_load 6 = .ok (.iload_n 2, 1) := by decide +kernel
theorem dX4_load_7 : decode cX4_load 7 = .ok (.ifCond .ge 9, 3) := by decide +kernel
theorem dX4_load_10 : decode cX4_load 10 = .ok (.aload_n 0, 1) := by decide +kernel
theorem dX4_load_11 : decode cX4_load 11 = .ok (.iload_n 2, 1) := by decide +kernel
theorem dX4_load_12 : decode cX4_load 12 = .ok (.invokevirtual 45, 3) := by decide +kernel
theorem dX4_load_15 : decode cX4_load 15 = .ok (.ireturn, 1) := by decide +kernel
theorem dX4_load_16 : decode cX4_load 16 = .ok (.aload_n 0, 1) := by decide +kernel
theorem dX4_load_17 : decode cX4_load 17 = .ok (.getfield 31, 3) := by decide +kernel
theorem dX4_load_20 : decode cX4_load 20 = .ok (.iload_n 1, 1) := by decide +kernel
theorem dX4_load_21 : decode cX4_load 21 = .ok (.aaload, 1) := by decide +kernel
theorem dX4_load_22 : decode cX4_load 22 = .ok (.astore_n 3, 1) := by decide +kernel
theorem dX4_load_23 : decode cX4_load 23 = .ok (.iconst 0, 1) := by decide +kernel
theorem dX4_load_24 : decode cX4_load 24 = .ok (.istore 4, 2) := by decide +kernel
theorem dX4_load_26 : decode cX4_load 26 = .ok (.iload 4, 2) := by decide +kernel
theorem dX4_load_28 : decode cX4_load 28 = .ok (.aload_n 3, 1) := by decide +kernel
theorem dX4_load_29 : decode cX4_load 29 = .ok (.getfield 191, 3) := by decide +kernel
theorem dX4_load_32 : decode cX4_load 32 = .ok (.if_icmp .ge 49, 3) := by decide +kernel
theorem dX4_load_35 : decode cX4_load 35 = .ok (.iload 4, 2) := by decide +kernel
theorem dX4_load_37 : decode cX4_load 37 = .ok (.bipush 6, 2) := by decide +kernel
theorem dX4_load_39 : decode cX4_load 39 = .ok (.if_icmp .ge 16, 3) := by decide +kernel
theorem dX4_load_42 : decode cX4_load 42 = .ok (.aload_n 3, 1) := by decide +kernel
theorem dX4_load_43 : decode cX4_load 43 = .ok (.getfield 192, 3) := by decide +kernel
theorem dX4_load_46 : decode cX4_load 46 = .ok (.iload 4, 2) := by decide +kernel
theorem dX4_load_48 : decode cX4_load 48 = .ok (.iaload, 1) := by decide +kernel
theorem dX4_load_49 : decode cX4_load 49 = .ok (.invokestatic 249, 3) := by decide +kernel
theorem dX4_load_52 : decode cX4_load 52 = .ok (.ifCond .ne 6, 3) := by decide +kernel
theorem dX4_load_55 : decode cX4_load 55 = .ok (.iload 4, 2) := by decide +kernel
theorem dX4_load_57 : decode cX4_load 57 = .ok (.ireturn, 1) := by decide +kernel
theorem dX4_load_58 : decode cX4_load 58 = .ok (.aload_n 0, 1) := by decide +kernel
theorem dX4_load_59 : decode cX4_load 59 = .ok (.getfield 12, 3) := by decide +kernel
theorem dX4_load_62 : decode cX4_load 62 = .ok (.getfield 49, 3) := by decide +kernel
theorem dX4_load_65 : decode cX4_load 65 = .ok (.iload 4, 2) := by decide +kernel
theorem dX4_load_67 : decode cX4_load 67 = .ok (.aload_n 3, 1) := by decide +kernel
theorem dX4_load_68 : decode cX4_load 68 = .ok (.getfield 192, 3) := by decide +kernel
theorem dX4_load_71 : decode cX4_load 71 = .ok (.iload 4, 2) := by decide +kernel
theorem dX4_load_73 : decode cX4_load 73 = .ok (.iaload, 1) := by decide +kernel
theorem dX4_load_74 : decode cX4_load 74 = .ok (.iastore, 1) := by decide +kernel
theorem dX4_load_75 : decode cX4_load 75 = .ok (.iinc 4 1, 3) := by decide +kernel
theorem dX4_load_78 : decode cX4_load 78 = .ok (.goto (-52), 3) := by decide +kernel
theorem dX4_load_81 : decode cX4_load 81 = .ok (.aload_n 3, 1) := by decide +kernel
theorem dX4_load_82 : decode cX4_load 82 = .ok (.getfield 191, 3) := by decide +kernel
theorem dX4_load_85 : decode cX4_load 85 = .ok (.ireturn, 1) := by decide +kernel
theorem dX4_judge_0 : decode cX4_judge 0 = .ok (.aload_n 0, 1) := by decide +kernel
theorem dX4_judge_1 : decode cX4_judge 1 = .ok (.iload_n 1, 1) := by decide +kernel
theorem dX4_judge_2 : decode cX4_judge 2 = .ok (.invokevirtual 195, 3) := by decide +kernel
theorem dX4_judge_5 : decode cX4_judge 5 = .ok (.istore_n 2, 1) := by decide +kernel
theorem dX4_judge_6 : decode cX4_judge 6 = .ok (.iload_n 2, 1) := by decide +kernel
theorem dX4_judge_7 : decode cX4_judge 7 = .ok (.ifCond .ge 9, 3) := by decide +kernel
theorem dX4_judge_10 : decode cX4_judge 10 = .ok (.aload_n 0, 1) := by decide +kernel
theorem dX4_judge_11 : decode cX4_judge 11 = .ok (.iload_n 2, 1) := by decide +kernel
theorem dX4_judge_12 : decode cX4_judge 12 = .ok (.invokevirtual 45, 3) := by decide +kernel
theorem dX4_judge_15 : decode cX4_judge 15 = .ok (.ireturn, 1) := by decide +kernel
theorem dX4_judge_16 : decode cX4_judge 16 = .ok (.aload_n 0, 1) := by decide +kernel
theorem dX4_judge_17 : decode cX4_judge 17 = .ok (.getfield 31, 3) := by decide +kernel
theorem dX4_judge_20 : decode cX4_judge 20 = .ok (.iload_n 1, 1) := by decide +kernel
theorem dX4_judge_21 : decode cX4_judge 21 = .ok (.aaload, 1) := by decide +kernel
theorem dX4_judge_22 : decode cX4_judge 22 = .ok (.astore_n 3, 1) := by decide +kernel
theorem dX4_judge_23 : decode cX4_judge 23 = .ok (.iconst 0, 1) := by decide +kernel
theorem dX4_judge_24 : decode cX4_judge 24 = .ok (.istore 4, 2) := by decide +kernel
theorem dX4_judge_26 : decode cX4_judge 26 = .ok (.iload 4, 2) := by decide +kernel
theorem dX4_judge_28 : decode cX4_judge 28 = .ok (.aload_n 3, 1) := by decide +kernel
theorem dX4_judge_29 : decode cX4_judge 29 = .ok (.getfield 191, 3) := by decide +kernel
theorem dX4_judge_32 : decode cX4_judge 32 = .ok (.if_icmp .ge 49, 3) := by decide +kernel
theorem dX4_judge_35 : decode cX4_judge 35 = .ok (.aload_n 0, 1) := by decide +kernel
theorem dX4_judge_36 : decode cX4_judge 36 = .ok (.getfield 12, 3) := by decide +kernel
theorem dX4_judge_39 : decode cX4_judge 39 = .ok (.iload 4, 2) := by decide +kernel
theorem dX4_judge_41 : decode cX4_judge 41 = .ok (.invokevirtual 64, 3) := by decide +kernel
theorem dX4_judge_44 : decode cX4_judge 44 = .ok (.ifCond .eq 26, 3) := by decide +kernel
theorem dX4_judge_47 : decode cX4_judge 47 = .ok (.aload_n 0, 1) := by decide +kernel
theorem dX4_judge_48 : decode cX4_judge 48 = .ok (.getfield 12, 3) := by decide +kernel
theorem dX4_judge_51 : decode cX4_judge 51 = .ok (.getfield 68, 3) := by decide +kernel
theorem dX4_judge_54 : decode cX4_judge 54 = .ok (.iload 4, 2) := by decide +kernel
theorem dX4_judge_56 : decode cX4_judge 56 = .ok (.aaload, 1) := by decide +kernel
theorem dX4_judge_57 : decode cX4_judge 57 = .ok (.getfield 252, 3) := by decide +kernel
theorem dX4_judge_60 : decode cX4_judge 60 = .ok (.aload_n 3, 1) := by decide +kernel
theorem dX4_judge_61 : decode cX4_judge 61 = .ok (.getfield 192, 3) := by decide +kernel
theorem dX4_judge_64 : decode cX4_judge 64 = .ok (.iload 4, 2) := by decide +kernel
theorem dX4_judge_66 : decode cX4_judge 66 = .ok (.iaload, 1) := by decide +kernel
theorem dX4_judge_67 : decode cX4_judge 67 = .ok (.if_icmp .eq 8, 3) := by decide +kernel
theorem dX4_judge_70 : decode cX4_judge 70 = .ok (.iconst 1, 1) := by decide +kernel
theorem dX4_judge_71 : decode cX4_judge 71 = .ok (.iload 4, 2) := by decide +kernel
theorem dX4_judge_73 : decode cX4_judge 73 = .ok (.iadd, 1) := by decide +kernel
theorem dX4_judge_74 : decode cX4_judge 74 = .ok (.ireturn, 1) := by decide +kernel
theorem dX4_judge_75 : decode cX4_judge 75 = .ok (.iinc 4 1, 3) := by decide +kernel
theorem dX4_judge_78 : decode cX4_judge 78 = .ok (.goto (-52), 3) := by decide +kernel
theorem dX4_judge_81 : decode cX4_judge 81 = .ok (.iconst 0, 1) := by decide +kernel
theorem dX4_judge_82 : decode cX4_judge 82 = .ok (.ireturn, 1) := by decide +kernel
theorem dX4_sheetFinding_0 : decode cX4_sheetFinding 0 = .ok (.iload_n 1, 1) := by decide +kernel
theorem dX4_sheetFinding_1 : decode cX4_sheetFinding 1 = .ok (.iconst 0, 1) := by decide +kernel
theorem dX4_sheetFinding_2 : decode cX4_sheetFinding 2 = .ok (.iconst 3, 1) := by decide +kernel
theorem dX4_sheetFinding_3 : decode cX4_sheetFinding 3 = .ok (.invokestatic 40, 3) := by decide +kernel
theorem dX4_sheetFinding_6 : decode cX4_sheetFinding 6 = .ok (.ifCond .ne 6, 3) := by decide +kernel
theorem dX4_sheetFinding_9 : decode cX4_sheetFinding 9 = .ok (.ldc 44, 2) := by decide +kernel
theorem dX4_sheetFinding_11 : decode cX4_sheetFinding 11 = .ok (.ireturn, 1) := by decide +kernel
theorem dX4_sheetFinding_12 : decode cX4_sheetFinding 12 = .ok (.aload_n 0, 1) := by decide +kernel
theorem dX4_sheetFinding_13 : decode cX4_sheetFinding 13 = .ok (.getfield 31, 3) := by decide +kernel
theorem dX4_sheetFinding_16 : decode cX4_sheetFinding 16 = .ok (.iload_n 1, 1) := by decide +kernel
theorem dX4_sheetFinding_17 : decode cX4_sheetFinding 17 = .ok (.aaload, 1) := by decide +kernel
theorem dX4_sheetFinding_18 : decode cX4_sheetFinding 18 = .ok (.invokevirtual 234, 3) := by decide +kernel
theorem dX4_sheetFinding_21 : decode cX4_sheetFinding 21 = .ok (.ifCond .eq 8, 3) := by decide +kernel
theorem dX4_sheetFinding_24 : decode cX4_sheetFinding 24 = .ok (.ldc 222, 2) := by decide +kernel
theorem dX4_sheetFinding_26 : decode cX4_sheetFinding 26 = .ok (.goto 4, 3) := by decide +kernel
theorem dX4_sheetFinding_29 : decode cX4_sheetFinding 29 = .ok (.iconst 0, 1) := by decide +kernel
theorem dX4_sheetFinding_30 : decode cX4_sheetFinding 30 = .ok (.ireturn, 1) := by decide +kernel
theorem dX4_image_0 : decode cX4_image 0 = .ok (.aload_n 0, 1) := by decide +kernel
theorem dX4_image_1 : decode cX4_image 1 = .ok (.getfield 16, 3) := by decide +kernel
theorem dX4_image_4 : decode cX4_image 4 = .ok (.aload_n 0, 1) := by decide +kernel
theorem dX4_image_5 : decode cX4_image 5 = .ok (.getfield 12, 3) := by decide +kernel
theorem dX4_image_8 : decode cX4_image 8 = .ok (.invokevirtual 127, 3) := by decide +kernel
theorem dX4_image_11 : decode cX4_image 11 = .ok (.aload_n 0, 1) := by decide +kernel
theorem dX4_image_12 : decode cX4_image 12 = .ok (.iconst 1, 1) := by decide +kernel
theorem dX4_image_13 : decode cX4_image 13 = .ok (.putfield 255, 3) := by decide +kernel
theorem dX4_image_16 : decode cX4_image 16 = .ok (.iconst 1, 1) := by decide +kernel
theorem dX4_image_17 : decode cX4_image 17 = .ok (.ireturn, 1) := by decide +kernel
theorem dX4_undo_0 : decode cX4_undo 0 = .ok (.aload_n 0, 1) := by decide +kernel
theorem dX4_undo_1 : decode cX4_undo 1 = .ok (.getfield 255, 3) := by decide +kernel
theorem dX4_undo_4 : decode cX4_undo 4 = .ok (.ifCond .ne 10, 3) := by decide +kernel
theorem dX4_undo_7 : decode cX4_undo 7 = .ok (.aload_n 0, 1) := by decide +kernel
theorem dX4_undo_8 : decode cX4_undo 8 = .ok (.ldc 107, 2) := by decide +kernel
theorem dX4_undo_10 : decode cX4_undo 10 = .ok (.invokevirtual 45, 3) := by decide +kernel
theorem dX4_undo_13 : decode cX4_undo 13 = .ok (.ireturn, 1) := by decide +kernel
theorem dX4_undo_14 : decode cX4_undo 14 = .ok (.aload_n 0, 1) := by decide +kernel
theorem dX4_undo_15 : decode cX4_undo 15 = .ok (.getfield 12, 3) := by decide +kernel
theorem dX4_undo_18 : decode cX4_undo 18 = .ok (.aload_n 0, 1) := by decide +kernel
theorem dX4_undo_19 : decode cX4_undo 19 = .ok (.getfield 16, 3) := by decide +kernel
theorem dX4_undo_22 : decode cX4_undo 22 = .ok (.invokevirtual 127, 3) := by decide +kernel
theorem dX4_undo_25 : decode cX4_undo 25 = .ok (.aload_n 0, 1) := by decide +kernel
theorem dX4_undo_26 : decode cX4_undo 26 = .ok (.getfield 12, 3) := by decide +kernel
theorem dX4_undo_29 : decode cX4_undo 29 = .ok (.getfield 72, 3) := by decide +kernel
theorem dX4_undo_32 : decode cX4_undo 32 = .ok (.ireturn, 1) := by decide +kernel
theorem dX4_tear_0 : decode cX4_tear 0 = .ok (.aload_n 0, 1) := by decide +kernel
theorem dX4_tear_1 : decode cX4_tear 1 = .ok (.getfield 255, 3) := by decide +kernel
theorem dX4_tear_4 : decode cX4_tear 4 = .ok (.ifCond .eq 7, 3) := by decide +kernel
theorem dX4_tear_7 : decode cX4_tear 7 = .ok (.iconst 1, 1) := by decide +kernel
theorem dX4_tear_8 : decode cX4_tear 8 = .ok (.goto 4, 3) := by decide +kernel
theorem dX4_tear_11 : decode cX4_tear 11 = .ok (.iconst 0, 1) := by decide +kernel
theorem dX4_tear_12 : decode cX4_tear 12 = .ok (.istore_n 1, 1) := by decide +kernel
theorem dX4_tear_13 : decode cX4_tear 13 = .ok (.aload_n 0, 1) := by decide +kernel
theorem dX4_tear_14 : decode cX4_tear 14 = .ok (.iconst 0, 1) := by decide +kernel
theorem dX4_tear_15 : decode cX4_tear 15 = .ok (.putfield 255, 3) := by decide +kernel
theorem dX4_tear_18 : decode cX4_tear 18 = .ok (.iload_n 1, 1) := by decide +kernel
theorem dX4_tear_19 : decode cX4_tear 19 = .ok (.ireturn, 1) := by decide +kernel
theorem dX4_count_0 : decode cX4_count 0 = .ok (.iload_n 1, 1) := by decide +kernel
theorem dX4_count_1 : decode cX4_count 1 = .ok (.tableswitch 113 0 7 #[47, 55, 63, 72, 81, 89, 97, 105], 47) := by decide +kernel
theorem dX4_count_48 : decode cX4_count 48 = .ok (.aload_n 0, 1) := by decide +kernel
theorem dX4_count_49 : decode cX4_count 49 = .ok (.getfield 12, 3) := by decide +kernel
theorem dX4_count_52 : decode cX4_count 52 = .ok (.getfield 72, 3) := by decide +kernel
theorem dX4_count_55 : decode cX4_count 55 = .ok (.ireturn, 1) := by decide +kernel
theorem dX4_count_56 : decode cX4_count 56 = .ok (.aload_n 0, 1) := by decide +kernel
theorem dX4_count_57 : decode cX4_count 57 = .ok (.getfield 12, 3) := by decide +kernel
theorem dX4_count_60 : decode cX4_count 60 = .ok (.getfield 56, 3) := by decide +kernel
theorem dX4_count_63 : decode cX4_count 63 = .ok (.ireturn, 1) := by decide +kernel
theorem dX4_count_64 : decode cX4_count 64 = .ok (.aload_n 0, 1) := by decide +kernel
theorem dX4_count_65 : decode cX4_count 65 = .ok (.getfield 12, 3) := by decide +kernel
theorem dX4_count_68 : decode cX4_count 68 = .ok (.iconst 1, 1) := by decide +kernel
theorem dX4_count_69 : decode cX4_count 69 = .ok (.invokevirtual 114, 3) := by decide +kernel
theorem dX4_count_72 : decode cX4_count 72 = .ok (.ireturn, 1) := by decide +kernel
theorem dX4_count_73 : decode cX4_count 73 = .ok (.aload_n 0, 1) := by decide +kernel
theorem dX4_count_74 : decode cX4_count 74 = .ok (.getfield 12, 3) := by decide +kernel
theorem dX4_count_77 : decode cX4_count 77 = .ok (.iconst 3, 1) := by decide +kernel
theorem dX4_count_78 : decode cX4_count 78 = .ok (.invokevirtual 114, 3) := by decide +kernel
theorem dX4_count_81 : decode cX4_count 81 = .ok (.ireturn, 1) := by decide +kernel
theorem dX4_count_82 : decode cX4_count 82 = .ok (.aload_n 0, 1) := by decide +kernel
theorem dX4_count_83 : decode cX4_count 83 = .ok (.getfield 12, 3) := by decide +kernel
theorem dX4_count_86 : decode cX4_count 86 = .ok (.getfield 117, 3) := by decide +kernel
theorem dX4_count_89 : decode cX4_count 89 = .ok (.ireturn, 1) := by decide +kernel
theorem dX4_count_90 : decode cX4_count 90 = .ok (.aload_n 0, 1) := by decide +kernel
theorem dX4_count_91 : decode cX4_count 91 = .ok (.getfield 25, 3) := by decide +kernel
theorem dX4_count_94 : decode cX4_count 94 = .ok (.getfield 211, 3) := by decide +kernel
theorem dX4_count_97 : decode cX4_count 97 = .ok (.ireturn, 1) := by decide +kernel
theorem dX4_count_98 : decode cX4_count 98 = .ok (.aload_n 0, 1) := by decide +kernel
theorem dX4_count_99 : decode cX4_count 99 = .ok (.getfield 12, 3) := by decide +kernel
theorem dX4_count_102 : decode cX4_count 102 = .ok (.getfield 208, 3) := by decide +kernel
theorem dX4_count_105 : decode cX4_count 105 = .ok (.ireturn, 1) := by decide +kernel
theorem dX4_count_106 : decode cX4_count 106 = .ok (.aload_n 0, 1) := by decide +kernel
theorem dX4_count_107 : decode cX4_count 107 = .ok (.getfield 12, 3) := by decide +kernel
theorem dX4_count_110 : decode cX4_count 110 = .ok (.invokevirtual 259, 3) := by decide +kernel
theorem dX4_count_113 : decode cX4_count 113 = .ok (.ireturn, 1) := by decide +kernel
theorem dX4_count_114 : decode cX4_count 114 = .ok (.aload_n 0, 1) := by decide +kernel
theorem dX4_count_115 : decode cX4_count 115 = .ok (.ldc 44, 2) := by decide +kernel
theorem dX4_count_117 : decode cX4_count 117 = .ok (.invokevirtual 45, 3) := by decide +kernel
theorem dX4_count_120 : decode cX4_count 120 = .ok (.ireturn, 1) := by decide +kernel
theorem dX4_status_0 : decode cX4_status 0 = .ok (.iload_n 1, 1) := by decide +kernel
theorem dX4_status_1 : decode cX4_status 1 = .ok (.iconst 0, 1) := by decide +kernel
theorem dX4_status_2 : decode cX4_status 2 = .ok (.bipush 6, 2) := by decide +kernel
theorem dX4_status_4 : decode cX4_status 4 = .ok (.invokestatic 40, 3) := by decide +kernel
theorem dX4_status_7 : decode cX4_status 7 = .ok (.ifCond .eq 10, 3) := by decide +kernel
theorem dX4_status_10 : decode cX4_status 10 = .ok (.aload_n 0, 1) := by decide +kernel
theorem dX4_status_11 : decode cX4_status 11 = .ok (.getfield 36, 3) := by decide +kernel
theorem dX4_status_14 : decode cX4_status 14 = .ok (.iload_n 1, 1) := by decide +kernel
theorem dX4_status_15 : decode cX4_status 15 = .ok (.iaload, 1) := by decide +kernel
theorem dX4_status_16 : decode cX4_status 16 = .ok (.ireturn, 1) := by decide +kernel
theorem dX4_status_17 : decode cX4_status 17 = .ok (.iload_n 1, 1) := by decide +kernel
theorem dX4_status_18 : decode cX4_status 18 = .ok (.iconst (-1), 1) := by decide +kernel
theorem dX4_status_19 : decode cX4_status 19 = .ok (.if_icmp .eq 10, 3) := by decide +kernel
theorem dX4_status_22 : decode cX4_status 22 = .ok (.aload_n 0, 1) := by decide +kernel
theorem dX4_status_23 : decode cX4_status 23 = .ok (.ldc 44, 2) := by decide +kernel
theorem dX4_status_25 : decode cX4_status 25 = .ok (.invokevirtual 45, 3) := by decide +kernel
theorem dX4_status_28 : decode cX4_status 28 = .ok (.ireturn, 1) := by decide +kernel
theorem dX4_status_29 : decode cX4_status 29 = .ok (.iconst 0, 1) := by decide +kernel
theorem dX4_status_30 : decode cX4_status 30 = .ok (.istore_n 2, 1) := by decide +kernel
theorem dX4_status_31 : decode cX4_status 31 = .ok (.iconst 0, 1) := by decide +kernel
theorem dX4_status_32 : decode cX4_status 32 = .ok (.istore_n 3, 1) := by decide +kernel
theorem dX4_status_33 : decode cX4_status 33 = .ok (.iload_n 3, 1) := by decide +kernel
theorem dX4_status_34 : decode cX4_status 34 = .ok (.bipush 7, 2) := by decide +kernel
theorem dX4_status_36 : decode cX4_status 36 = .ok (.if_icmp .ge 18, 3) := by decide +kernel
theorem dX4_status_39 : decode cX4_status 39 = .ok (.iload_n 2, 1) := by decide +kernel
theorem dX4_status_40 : decode cX4_status 40 = .ok (.aload_n 0, 1) := by decide +kernel
theorem dX4_status_41 : decode cX4_status 41 = .ok (.getfield 36, 3) := by decide +kernel
theorem dX4_status_44 : decode cX4_status 44 = .ok (.iload_n 3, 1) := by decide +kernel
theorem dX4_status_45 : decode cX4_status 45 = .ok (.iaload, 1) := by decide +kernel
theorem dX4_status_46 : decode cX4_status 46 = .ok (.iadd, 1) := by decide +kernel
theorem dX4_status_47 : decode cX4_status 47 = .ok (.istore_n 2, 1) := by decide +kernel
theorem dX4_status_48 : decode cX4_status 48 = .ok (.iinc 3 1, 3) := by decide +kernel
theorem dX4_status_51 : decode cX4_status 51 = .ok (.goto (-18), 3) := by decide +kernel
theorem dX4_status_54 : decode cX4_status 54 = .ok (.iload_n 2, 1) := by decide +kernel
theorem dX4_status_55 : decode cX4_status 55 = .ok (.ireturn, 1) := by decide +kernel
theorem dX4_found_0 : decode cX4_found 0 = .ok (.ldc 44, 2) := by decide +kernel
theorem dX4_found_2 : decode cX4_found 2 = .ok (.iload_n 1, 1) := by decide +kernel
theorem dX4_found_3 : decode cX4_found 3 = .ok (.isub, 1) := by decide +kernel
theorem dX4_found_4 : decode cX4_found 4 = .ok (.istore_n 2, 1) := by decide +kernel
theorem dX4_found_5 : decode cX4_found 5 = .ok (.iload_n 2, 1) := by decide +kernel
theorem dX4_found_6 : decode cX4_found 6 = .ok (.iconst 0, 1) := by decide +kernel
theorem dX4_found_7 : decode cX4_found 7 = .ok (.bipush 6, 2) := by decide +kernel
theorem dX4_found_9 : decode cX4_found 9 = .ok (.invokestatic 40, 3) := by decide +kernel
theorem dX4_found_12 : decode cX4_found 12 = .ok (.ifCond .eq 13, 3) := by decide +kernel
theorem dX4_found_15 : decode cX4_found 15 = .ok (.aload_n 0, 1) := by decide +kernel
theorem dX4_found_16 : decode cX4_found 16 = .ok (.getfield 36, 3) := by decide +kernel
theorem dX4_found_19 : decode cX4_found 19 = .ok (.iload_n 2, 1) := by decide +kernel
theorem dX4_found_20 : decode cX4_found 20 = .ok (.dup2, 1) := by decide +kernel
theorem dX4_found_21 : decode cX4_found 21 = .ok (.iaload, 1) := by decide +kernel
theorem dX4_found_22 : decode cX4_found 22 = .ok (.iconst 1, 1) := by decide +kernel
theorem dX4_found_23 : decode cX4_found 23 = .ok (.iadd, 1) := by decide +kernel
theorem dX4_found_24 : decode cX4_found 24 = .ok (.iastore, 1) := by decide +kernel
theorem dX4_found_25 : decode cX4_found 25 = .ok (.iload_n 1, 1) := by decide +kernel
theorem dX4_found_26 : decode cX4_found 26 = .ok (.ireturn, 1) := by decide +kernel
theorem dX4_within_0 : decode cX4_within 0 = .ok (.iload_n 0, 1) := by decide +kernel
theorem dX4_within_1 : decode cX4_within 1 = .ok (.iload_n 1, 1) := by decide +kernel
theorem dX4_within_2 : decode cX4_within 2 = .ok (.if_icmp .lt 12, 3) := by decide +kernel
theorem dX4_within_5 : decode cX4_within 5 = .ok (.iload_n 0, 1) := by decide +kernel
theorem dX4_within_6 : decode cX4_within 6 = .ok (.iload_n 2, 1) := by decide +kernel
theorem dX4_within_7 : decode cX4_within 7 = .ok (.if_icmp .gt 7, 3) := by decide +kernel
theorem dX4_within_10 : decode cX4_within 10 = .ok (.iconst 1, 1) := by decide +kernel
theorem dX4_within_11 : decode cX4_within 11 = .ok (.goto 4, 3) := by decide +kernel
theorem dX4_within_14 : decode cX4_within 14 = .ok (.iconst 0, 1) := by decide +kernel
theorem dX4_within_15 : decode cX4_within 15 = .ok (.ireturn, 1) := by decide +kernel
theorem dX4_isIn_0 : decode cX4_isIn 0 = .ok (.iload_n 0, 1) := by decide +kernel
theorem dX4_isIn_1 : decode cX4_isIn 1 = .ok (.iload_n 1, 1) := by decide +kernel
theorem dX4_isIn_2 : decode cX4_isIn 2 = .ok (.ishr, 1) := by decide +kernel
theorem dX4_isIn_3 : decode cX4_isIn 3 = .ok (.iconst 1, 1) := by decide +kernel
theorem dX4_isIn_4 : decode cX4_isIn 4 = .ok (.iand, 1) := by decide +kernel
theorem dX4_isIn_5 : decode cX4_isIn 5 = .ok (.iconst 1, 1) := by decide +kernel
theorem dX4_isIn_6 : decode cX4_isIn 6 = .ok (.if_icmp .ne 7, 3) := by decide +kernel
theorem dX4_isIn_9 : decode cX4_isIn 9 = .ok (.iconst 1, 1) := by decide +kernel
theorem dX4_isIn_10 : decode cX4_isIn 10 = .ok (.goto 4, 3) := by decide +kernel
theorem dX4_isIn_13 : decode cX4_isIn 13 = .ok (.iconst 0, 1) := by decide +kernel
theorem dX4_isIn_14 : decode cX4_isIn 14 = .ok (.ireturn, 1) := by decide +kernel
theorem dX4_saying_0 : decode cX4_saying 0 = .ok (.bipush 100, 2) := by decide +kernel
theorem dX4_saying_2 : decode cX4_saying 2 = .ok (.iload_n 0, 1) := by decide +kernel
theorem dX4_saying_3 : decode cX4_saying 3 = .ok (.imul, 1) := by decide +kernel
theorem dX4_saying_4 : decode cX4_saying 4 = .ok (.iload_n 1, 1) := by decide +kernel
theorem dX4_saying_5 : decode cX4_saying 5 = .ok (.iadd, 1) := by decide +kernel
theorem dX4_saying_6 : decode cX4_saying 6 = .ok (.ireturn, 1) := by decide +kernel
theorem dX4_isSaying_0 : decode cX4_isSaying 0 = .ok (.iload_n 0, 1) := by decide +kernel
theorem dX4_isSaying_1 : decode cX4_isSaying 1 = .ok (.iconst 0, 1) := by decide +kernel
theorem dX4_isSaying_2 : decode cX4_isSaying 2 = .ok (.bipush 7, 2) := by decide +kernel
theorem dX4_isSaying_4 : decode cX4_isSaying 4 = .ok (.bipush 20, 2) := by decide +kernel
theorem dX4_isSaying_6 : decode cX4_isSaying 6 = .ok (.invokestatic 52, 3) := by decide +kernel
theorem dX4_isSaying_9 : decode cX4_isSaying 9 = .ok (.invokestatic 40, 3) := by decide +kernel
theorem dX4_isSaying_12 : decode cX4_isSaying 12 = .ok (.ifCond .eq 16, 3) := by decide +kernel
theorem dX4_isSaying_15 : decode cX4_isSaying 15 = .ok (.iload_n 0, 1) := by decide +kernel
theorem dX4_isSaying_16 : decode cX4_isSaying 16 = .ok (.bipush 100, 2) := by decide +kernel
theorem dX4_isSaying_18 : decode cX4_isSaying 18 = .ok (.irem, 1) := by decide +kernel
theorem dX4_isSaying_19 : decode cX4_isSaying 19 = .ok (.bipush 20, 2) := by decide +kernel
theorem dX4_isSaying_21 : decode cX4_isSaying 21 = .ok (.if_icmp .gt 7, 3) := by decide +kernel
theorem dX4_isSaying_24 : decode cX4_isSaying 24 = .ok (.iconst 1, 1) := by decide +kernel
theorem dX4_isSaying_25 : decode cX4_isSaying 25 = .ok (.goto 4, 3) := by decide +kernel
theorem dX4_isSaying_28 : decode cX4_isSaying 28 = .ok (.iconst 0, 1) := by decide +kernel
theorem dX4_isSaying_29 : decode cX4_isSaying 29 = .ok (.ireturn, 1) := by decide +kernel
theorem dX4_mostOf_0 : decode cX4_mostOf 0 = .ok (.iload_n 0, 1) := by decide +kernel
theorem dX4_mostOf_1 : decode cX4_mostOf 1 = .ok (.lookupswitch 33 #[(0, 27), (2, 30)], 27) := by decide +kernel
theorem dX4_mostOf_28 : decode cX4_mostOf 28 = .ok (.bipush 6, 2) := by decide +kernel
theorem dX4_mostOf_30 : decode cX4_mostOf 30 = .ok (.ireturn, 1) := by decide +kernel
theorem dX4_mostOf_31 : decode cX4_mostOf 31 = .ok (.bipush 99, 2) := by decide +kernel
theorem dX4_mostOf_33 : decode cX4_mostOf 33 = .ok (.ireturn, 1) := by decide +kernel
theorem dX4_mostOf_34 : decode cX4_mostOf 34 = .ok (.sipush 9999, 3) := by decide +kernel
theorem dX4_mostOf_37 : decode cX4_mostOf 37 = .ok (.ireturn, 1) := by decide +kernel
theorem dX4_power_0 : decode cX4_power 0 = .ok (.lconst 1, 1) := by decide +kernel
theorem dX4_power_1 : decode cX4_power 1 = .ok (.lstore_n 2, 1) := by decide +kernel
theorem dX4_power_2 : decode cX4_power 2 = .ok (.iconst 0, 1) := by decide +kernel
theorem dX4_power_3 : decode cX4_power 3 = .ok (.istore 4, 2) := by decide +kernel
theorem dX4_power_5 : decode cX4_power 5 = .ok (.iload 4, 2) := by decide +kernel
theorem dX4_power_7 : decode cX4_power 7 = .ok (.iload_n 1, 1) := by decide +kernel
theorem dX4_power_8 : decode cX4_power 8 = .ok (.if_icmp .ge 14, 3) := by decide +kernel
theorem dX4_power_11 : decode cX4_power 11 = .ok (.lload_n 2, 1) := by decide +kernel
theorem dX4_power_12 : decode cX4_power 12 = .ok (.iload_n 0, 1) := by decide +kernel
theorem dX4_power_13 : decode cX4_power 13 = .ok (.i2l, 1) := by decide +kernel
theorem dX4_power_14 : decode cX4_power 14 = .ok (.lmul, 1) := by decide +kernel
theorem dX4_power_15 : decode cX4_power 15 = .ok (.lstore_n 2, 1) := by decide +kernel
theorem dX4_power_16 : decode cX4_power 16 = .ok (.iinc 4 1, 3) := by decide +kernel
theorem dX4_power_19 : decode cX4_power 19 = .ok (.goto (-14), 3) := by decide +kernel
theorem dX4_power_22 : decode cX4_power 22 = .ok (.lload_n 2, 1) := by decide +kernel
theorem dX4_power_23 : decode cX4_power 23 = .ok (.lreturn, 1) := by decide +kernel
theorem dX5_init_0 : decode cX5_init 0 = .ok (.aload_n 0, 1) := by decide +kernel
theorem dX5_init_1 : decode cX5_init 1 = .ok (.invokespecial 1, 3) := by decide +kernel
theorem dX5_init_4 : decode cX5_init 4 = .ok (.aload_n 0, 1) := by decide +kernel
theorem dX5_init_5 : decode cX5_init 5 = .ok (.bipush 60, 2) := by decide +kernel
theorem dX5_init_7 : decode cX5_init 7 = .ok (.newarray .int, 2) := by decide +kernel
theorem dX5_init_9 : decode cX5_init 9 = .ok (.putfield 7, 3) := by decide +kernel
theorem dX5_init_12 : decode cX5_init 12 = .ok (.aload_n 0, 1) := by decide +kernel
theorem dX5_init_13 : decode cX5_init 13 = .ok (.bipush 60, 2) := by decide +kernel
theorem dX5_init_15 : decode cX5_init 15 = .ok (.newarray .int, 2) := by decide +kernel
theorem dX5_init_17 : decode cX5_init 17 = .ok (.putfield 13, 3) := by decide +kernel
theorem dX5_init_20 : decode cX5_init 20 = .ok (.aload_n 0, 1) := by decide +kernel
theorem dX5_init_21 : decode cX5_init 21 = .ok (.bipush 60, 2) := by decide +kernel
theorem dX5_init_23 : decode cX5_init 23 = .ok (.newarray .int, 2) := by decide +kernel
theorem dX5_init_25 : decode cX5_init 25 = .ok (.putfield 16, 3) := by decide +kernel
theorem dX5_init_28 : decode cX5_init 28 = .ok (.aload_n 0, 1) := by decide +kernel
theorem dX5_init_29 : decode cX5_init 29 = .ok (.bipush 60, 2) := by decide +kernel
theorem dX5_init_31 : decode cX5_init 31 = .ok (.newarray .int, 2) := by decide +kernel
theorem dX5_init_33 : decode cX5_init 33 = .ok (.putfield 19, 3) := by decide +kernel
theorem dX5_init_36 : decode cX5_init 36 = .ok (.aload_n 0, 1) := by decide +kernel
theorem dX5_init_37 : decode cX5_init 37 = .ok (.bipush 8, 2) := by decide +kernel
theorem dX5_init_39 : decode cX5_init 39 = .ok (.newarray .int, 2) := by decide +kernel
theorem dX5_init_41 : decode cX5_init 41 = .ok (.putfield 22, 3) := by decide +kernel
theorem dX5_init_44 : decode cX5_init 44 = .ok (.aload_n 0, 1) := by decide +kernel
theorem dX5_init_45 : decode cX5_init 45 = .ok (.bipush 120, 2) := by decide +kernel
theorem dX5_init_47 : decode cX5_init 47 = .ok (.newarray .int, 2) := by decide +kernel
theorem dX5_init_49 : decode cX5_init 49 = .ok (.putfield 25, 3) := by decide +kernel
theorem dX5_init_52 : decode cX5_init 52 = .ok (.aload_n 0, 1) := by decide +kernel
theorem dX5_init_53 : decode cX5_init 53 = .ok (.iconst 4, 1) := by decide +kernel
theorem dX5_init_54 : decode cX5_init 54 = .ok (.newarray .int, 2) := by decide +kernel
theorem dX5_init_56 : decode cX5_init 56 = .ok (.dup, 1) := by decide +kernel
theorem dX5_init_57 : decode cX5_init 57 = .ok (.iconst 0, 1) := by decide +kernel
theorem dX5_init_58 : decode cX5_init 58 = .ok (.iconst (-1), 1) := by decide +kernel
theorem dX5_init_59 : decode cX5_init 59 = .ok (.iastore, 1) := by decide +kernel
theorem dX5_init_60 : decode cX5_init 60 = .ok (.dup, 1) := by decide +kernel
theorem dX5_init_61 : decode cX5_init 61 = .ok (.iconst 1, 1) := by decide +kernel
theorem dX5_init_62 : decode cX5_init 62 = .ok (.iconst (-1), 1) := by decide +kernel
theorem dX5_init_63 : decode cX5_init 63 = .ok (.iastore, 1) := by decide +kernel
theorem dX5_init_64 : decode cX5_init 64 = .ok (.dup, 1) := by decide +kernel
theorem dX5_init_65 : decode cX5_init 65 = .ok (.iconst 2, 1) := by decide +kernel
theorem dX5_init_66 : decode cX5_init 66 = .ok (.iconst (-1), 1) := by decide +kernel
theorem dX5_init_67 : decode cX5_init 67 = .ok (.iastore, 1) := by decide +kernel
theorem dX5_init_68 : decode cX5_init 68 = .ok (.dup, 1) := by decide +kernel
theorem dX5_init_69 : decode cX5_init 69 = .ok (.iconst 3, 1) := by decide +kernel
theorem dX5_init_70 : decode cX5_init 70 = .ok (.iconst (-1), 1) := by decide +kernel
theorem dX5_init_71 : decode cX5_init 71 = .ok (.iastore, 1) := by decide +kernel
theorem dX5_init_72 : decode cX5_init 72 = .ok (.putfield 28, 3) := by decide +kernel
theorem dX5_init_75 : decode cX5_init 75 = .ok (.aload_n 0, 1) := by decide +kernel
theorem dX5_init_76 : decode cX5_init 76 = .ok (.iconst 4, 1) := by decide +kernel
theorem dX5_init_77 : decode cX5_init 77 = .ok (.newarray .int, 2) := by decide +kernel
theorem dX5_init_79 : decode cX5_init 79 = .ok (.putfield 31, 3) := by decide +kernel
theorem dX5_init_82 : decode cX5_init 82 = .ok (.aload_n 0, 1) := by decide +kernel
theorem dX5_init_83 : decode cX5_init 83 = .ok (.sipush 160, 3) := by decide +kernel
theorem dX5_init_86 : decode cX5_init 86 = .ok (.newarray .int, 2) := by decide +kernel
theorem dX5_init_88 : decode cX5_init 88 = .ok (.putfield 34, 3) := by decide +kernel
theorem dX5_init_91 : decode cX5_init 91 = .ok (.aload_n 0, 1) := by decide +kernel
theorem dX5_init_92 : decode cX5_init 92 = .ok (.getfield 7, 3) := by decide +kernel
theorem dX5_init_95 : decode cX5_init 95 = .ok (.iconst 2, 1) := by decide +kernel
theorem dX5_init_96 : decode cX5_init 96 = .ok (.iconst 1, 1) := by decide +kernel
theorem dX5_init_97 : decode cX5_init 97 = .ok (.iastore, 1) := by decide +kernel
theorem dX5_init_98 : decode cX5_init 98 = .ok (.iconst 0, 1) := by decide +kernel
theorem dX5_init_99 : decode cX5_init 99 = .ok (.istore_n 1, 1) := by decide +kernel
theorem dX5_init_100 : decode cX5_init 100 = .ok (.iload_n 1, 1) := by decide +kernel
theorem dX5_init_101 : decode cX5_init 101 = .ok (.bipush 10, 2) := by decide +kernel
theorem dX5_init_103 : decode cX5_init 103 = .ok (.if_icmp .ge 19, 3) := by decide +kernel
theorem dX5_init_106 : decode cX5_init 106 = .ok (.aload_n 0, 1) := by decide +kernel
theorem dX5_init_107 : decode cX5_init 107 = .ok (.getfield 7, 3) := by decide +kernel
theorem dX5_init_110 : decode cX5_init 110 = .ok (.bipush 50, 2) := by decide +kernel
theorem dX5_init_112 : decode cX5_init 112 = .ok (.iload_n 1, 1) := by decide +kernel
theorem dX5_init_113 : decode cX5_init 113 = .ok (.iadd, 1) := by decide +kernel
theorem dX5_init_114 : decode cX5_init 114 = .ok (.iconst (-1), 1) := by decide +kernel
theorem dX5_init_115 : decode cX5_init 115 = .ok (.iastore, 1) := by decide +kernel
theorem dX5_init_116 : decode cX5_init 116 = .ok (.iinc 1 1, 3) := by decide +kernel
theorem dX5_init_119 : decode cX5_init 119 = .ok (.goto (-19), 3) := by decide +kernel
theorem dX5_init_122 : decode cX5_init 122 = .ok (.return_, 1) := by decide +kernel
theorem dX5_isIn_0 : decode cX5_isIn 0 = .ok (.lload_n 0, 1) := by decide +kernel
theorem dX5_isIn_1 : decode cX5_isIn 1 = .ok (.lload_n 2, 1) := by decide +kernel
theorem dX5_isIn_2 : decode cX5_isIn 2 = .ok (.lcmp, 1) := by decide +kernel
theorem dX5_isIn_3 : decode cX5_isIn 3 = .ok (.ifCond .lt 14, 3) := by decide +kernel
theorem dX5_isIn_6 : decode cX5_isIn 6 = .ok (.lload_n 0, 1) := by decide +kernel
theorem dX5_isIn_7 : decode cX5_isIn 7 = .ok (.lload 4, 2) := by decide +kernel
theorem dX5_isIn_9 : decode cX5_isIn 9 = .ok (.lcmp, 1) := by decide +kernel
theorem dX5_isIn_10 : decode cX5_isIn 10 = .ok (.ifCond .gt 7, 3) := by decide +kernel
theorem dX5_isIn_13 : decode cX5_isIn 13 = .ok (.iconst 1, 1) := by decide +kernel
theorem dX5_isIn_14 : decode cX5_isIn 14 = .ok (.goto 4, 3) := by decide +kernel
theorem dX5_isIn_17 : decode cX5_isIn 17 = .ok (.iconst 0, 1) := by decide +kernel
theorem dX5_isIn_18 : decode cX5_isIn 18 = .ok (.ireturn, 1) := by decide +kernel
theorem dX5_finds_0 : decode cX5_finds 0 = .ok (.aload_n 0, 1) := by decide +kernel
theorem dX5_finds_1 : decode cX5_finds 1 = .ok (.getfield 22, 3) := by decide +kernel
theorem dX5_finds_4 : decode cX5_finds 4 = .ok (.iconst 0, 1) := by decide +kernel
theorem dX5_finds_5 : decode cX5_finds 5 = .ok (.dup2, 1) := by decide +kernel
theorem dX5_finds_6 : decode cX5_finds 6 = .ok (.iaload, 1) := by decide +kernel
theorem dX5_finds_7 : decode cX5_finds 7 = .ok (.iconst 1, 1) := by decide +kernel
theorem dX5_finds_8 : decode cX5_finds 8 = .ok (.iadd, 1) := by decide +kernel
theorem dX5_finds_9 : decode cX5_finds 9 = .ok (.iastore, 1) := by decide +kernel
theorem dX5_finds_10 : decode cX5_finds 10 = .ok (.aload_n 0, 1) := by decide +kernel
theorem dX5_finds_11 : decode cX5_finds 11 = .ok (.getfield 22, 3) := by decide +kernel
theorem dX5_finds_14 : decode cX5_finds 14 = .ok (.ldc 37, 2) := by decide +kernel
theorem dX5_finds_16 : decode cX5_finds 16 = .ok (.iload_n 1, 1) := by decide +kernel
theorem dX5_finds_17 : decode cX5_finds 17 = .ok (.isub, 1) := by decide +kernel
theorem dX5_finds_18 : decode cX5_finds 18 = .ok (.iconst 1, 1) := by decide +kernel
theorem dX5_finds_19 : decode cX5_finds 19 = .ok (.iadd, 1) := by decide +kernel
theorem dX5_finds_20 : decode cX5_finds 20 = .ok (.dup2, 1) := by decide +kernel
theorem dX5_finds_21 : decode cX5_finds 21 = .ok (.iaload, 1) := by decide +kernel
theorem dX5_finds_22 : decode cX5_finds 22 = .ok (.iconst 1, 1) := by decide +kernel
theorem dX5_finds_23 : decode cX5_finds 23 = .ok (.iadd, 1) := by decide +kernel
theorem dX5_finds_24 : decode cX5_finds 24 = .ok (.iastore, 1) := by decide +kernel
theorem dX5_finds_25 : decode cX5_finds 25 = .ok (.iload_n 1, 1) := by decide +kernel
theorem dX5_finds_26 : decode cX5_finds 26 = .ok (.ireturn, 1) := by decide +kernel
theorem dX5_becomes_0 : decode cX5_becomes 0 = .ok (.aload_n 0, 1) := by decide +kernel
theorem dX5_becomes_1 : decode cX5_becomes 1 = .ok (.getfield 7, 3) := by decide +kernel
theorem dX5_becomes_4 : decode cX5_becomes 4 = .ok (.iload_n 1, 1) := by decide +kernel
theorem dX5_becomes_5 : decode cX5_becomes 5 = .ok (.iaload, 1) := by decide +kernel
theorem dX5_becomes_6 : decode cX5_becomes 6 = .ok (.istore_n 3, 1) := by decide +kernel
theorem dX5_becomes_7 : decode cX5_becomes 7 = .ok (.aload_n 0, 1) := by decide +kernel
theorem dX5_becomes_8 : decode cX5_becomes 8 = .ok (.getfield 7, 3) := by decide +kernel
theorem dX5_becomes_11 : decode cX5_becomes 11 = .ok (.iload_n 1, 1) := by decide +kernel
theorem dX5_becomes_12 : decode cX5_becomes 12 = .ok (.iload_n 2, 1) := by decide +kernel
theorem dX5_becomes_13 : decode cX5_becomes 13 = .ok (.iastore, 1) := by decide +kernel
theorem dX5_becomes_14 : decode cX5_becomes 14 = .ok (.iload_n 3, 1) := by decide +kernel
theorem dX5_becomes_15 : decode cX5_becomes 15 = .ok (.ireturn, 1) := by decide +kernel
theorem dX5_copyRow_0 : decode cX5_copyRow 0 = .ok (.iconst 0, 1) := by decide +kernel
theorem dX5_copyRow_1 : decode cX5_copyRow 1 = .ok (.istore_n 2, 1) := by decide +kernel
theorem dX5_copyRow_2 : decode cX5_copyRow 2 = .ok (.iload_n 2, 1) := by decide +kernel
theorem dX5_copyRow_3 : decode cX5_copyRow 3 = .ok (.bipush 60, 2) := by decide +kernel
theorem dX5_copyRow_5 : decode cX5_copyRow 5 = .ok (.if_icmp .ge 15, 3) := by decide +kernel
theorem dX5_copyRow_8 : decode cX5_copyRow 8 = .ok (.aload_n 1, 1) := by decide +kernel
theorem dX5_copyRow_9 : decode cX5_copyRow 9 = .ok (.iload_n 2, 1) := by decide +kernel
theorem dX5_copyRow_10 : decode cX5_copyRow 10 = .ok (.aload_n 0, 1) := by decide +kernel
theorem dX5_copyRow_11 : decode cX5_copyRow 11 = .ok (.iload_n 2, 1) := by decide +kernel
theorem dX5_copyRow_12 : decode cX5_copyRow 12 = .ok (.iaload, 1) := by decide +kernel
theorem dX5_copyRow_13 : decode cX5_copyRow 13 = .ok (.iastore, 1) := by decide +kernel
theorem dX5_copyRow_14 : decode cX5_copyRow 14 = .ok (.iinc 2 1, 3) := by decide +kernel
theorem dX5_copyRow_17 : decode cX5_copyRow 17 = .ok (.goto (-15), 3) := by decide +kernel
theorem dX5_copyRow_20 : decode cX5_copyRow 20 = .ok (.return_, 1) := by decide +kernel
theorem dX5_isPlace_0 : decode cX5_isPlace 0 = .ok (.iload_n 0, 1) := by decide +kernel
theorem dX5_isPlace_1 : decode cX5_isPlace 1 = .ok (.ifCond .lt 13, 3) := by decide +kernel
theorem dX5_isPlace_4 : decode cX5_isPlace 4 = .ok (.iload_n 0, 1) := by decide +kernel
theorem dX5_isPlace_5 : decode cX5_isPlace 5 = .ok (.bipush 6, 2) := by decide +kernel
theorem dX5_isPlace_7 : decode cX5_isPlace 7 = .ok (.if_icmp .ge 7, 3) := by decide +kernel
theorem dX5_isPlace_10 : decode cX5_isPlace 10 = .ok (.iconst 1, 1) := by decide +kernel
theorem dX5_isPlace_11 : decode cX5_isPlace 11 = .ok (.goto 4, 3) := by decide +kernel
theorem dX5_isPlace_14 : decode cX5_isPlace 14 = .ok (.iconst 0, 1) := by decide +kernel
theorem dX5_isPlace_15 : decode cX5_isPlace 15 = .ok (.ireturn, 1) := by decide +kernel
theorem dX5_isOne_0 : decode cX5_isOne 0 = .ok (.iload_n 1, 1) := by decide +kernel
theorem dX5_isOne_1 : decode cX5_isOne 1 = .ok (.ifCond .lt 17, 3) := by decide +kernel
theorem dX5_isOne_4 : decode cX5_isOne 4 = .ok (.iload_n 1, 1) := by decide +kernel
theorem dX5_isOne_5 : decode cX5_isOne 5 = .ok (.aload_n 0, 1) := by decide +kernel
theorem dX5_isOne_6 : decode cX5_isOne 6 = .ok (.getfield 7, 3) := by decide +kernel
theorem dX5_isOne_9 : decode cX5_isOne 9 = .ok (.iconst 0, 1) := by decide +kernel
theorem dX5_isOne_10 : decode cX5_isOne 10 = .ok (.iaload, 1) := by decide +kernel
theorem dX5_isOne_11 : decode cX5_isOne 11 = .ok (.if_icmp .ge 7, 3) := by decide +kernel
theorem dX5_isOne_14 : decode cX5_isOne 14 = .ok (.iconst 1, 1) := by decide +kernel
theorem dX5_isOne_15 : decode cX5_isOne 15 = .ok (.goto 4, 3) := by decide +kernel
theorem dX5_isOne_18 : decode cX5_isOne 18 = .ok (.iconst 0, 1) := by decide +kernel
theorem dX5_isOne_19 : decode cX5_isOne 19 = .ok (.ireturn, 1) := by decide +kernel
theorem dX5_at_0 : decode cX5_at 0 = .ok (.bipush 10, 2) := by decide +kernel
theorem dX5_at_2 : decode cX5_at 2 = .ok (.iconst 5, 1) := by decide +kernel
theorem dX5_at_3 : decode cX5_at 3 = .ok (.iload_n 0, 1) := by decide +kernel
theorem dX5_at_4 : decode cX5_at 4 = .ok (.imul, 1) := by decide +kernel
theorem dX5_at_5 : decode cX5_at 5 = .ok (.iadd, 1) := by decide +kernel
theorem dX5_at_6 : decode cX5_at 6 = .ok (.iload_n 1, 1) := by decide +kernel
theorem dX5_at_7 : decode cX5_at 7 = .ok (.iadd, 1) := by decide +kernel
theorem dX5_at_8 : decode cX5_at 8 = .ok (.ireturn, 1) := by decide +kernel
theorem dX5_its_0 : decode cX5_its 0 = .ok (.aload_n 0, 1) := by decide +kernel
theorem dX5_its_1 : decode cX5_its 1 = .ok (.getfield 7, 3) := by decide +kernel
theorem dX5_its_4 : decode cX5_its 4 = .ok (.bipush 10, 2) := by decide +kernel
theorem dX5_its_6 : decode cX5_its 6 = .ok (.iconst 5, 1) := by decide +kernel
theorem dX5_its_7 : decode cX5_its 7 = .ok (.iload_n 1, 1) := by decide +kernel
theorem dX5_its_8 : decode cX5_its 8 = .ok (.imul, 1) := by decide +kernel
theorem dX5_its_9 : decode cX5_its 9 = .ok (.iadd, 1) := by decide +kernel
theorem dX5_its_10 : decode cX5_its 10 = .ok (.iload_n 2, 1) := by decide +kernel
theorem dX5_its_11 : decode cX5_its 11 = .ok (.iadd, 1) := by decide +kernel
theorem dX5_its_12 : decode cX5_its 12 = .ok (.iaload, 1) := by decide +kernel
theorem dX5_its_13 : decode cX5_its 13 = .ok (.ireturn, 1) := by decide +kernel
theorem dX5_least_0 : decode cX5_least 0 = .ok (.iload_n 0, 1) := by decide +kernel
theorem dX5_least_1 : decode cX5_least 1 = .ok (.iload_n 1, 1) := by decide +kernel
theorem dX5_least_2 : decode cX5_least 2 = .ok (.if_icmp .ge 7, 3) := by decide +kernel
theorem dX5_least_5 : decode cX5_least 5 = .ok (.iload_n 0, 1) := by decide +kernel
theorem dX5_least_6 : decode cX5_least 6 = .ok (.goto 4, 3) := by decide +kernel
theorem dX5_least_9 : decode cX5_least 9 = .ok (.iload_n 1, 1) := by decide +kernel
theorem dX5_least_10 : decode cX5_least 10 = .ok (.ireturn, 1) := by decide +kernel
theorem dX5_greatest_0 : decode cX5_greatest 0 = .ok (.iload_n 0, 1) := by decide +kernel
theorem dX5_greatest_1 : decode cX5_greatest 1 = .ok (.iload_n 1, 1) := by decide +kernel
theorem dX5_greatest_2 : decode cX5_greatest 2 = .ok (.if_icmp .le 7, 3) := by decide +kernel
theorem dX5_greatest_5 : decode cX5_greatest 5 = .ok (.iload_n 0, 1) := by decide +kernel
theorem dX5_greatest_6 : decode cX5_greatest 6 = .ok (.goto 4, 3) := by decide +kernel
theorem dX5_greatest_9 : decode cX5_greatest 9 = .ok (.iload_n 1, 1) := by decide +kernel
theorem dX5_greatest_10 : decode cX5_greatest 10 = .ok (.ireturn, 1) := by decide +kernel
theorem dX5_orNone_0 : decode cX5_orNone 0 = .ok (.iload_n 1, 1) := by decide +kernel
theorem dX5_orNone_1 : decode cX5_orNone 1 = .ok (.ifCond .ge 12, 3) := by decide +kernel
theorem dX5_orNone_4 : decode cX5_orNone 4 = .ok (.aload_n 0, 1) := by decide +kernel
theorem dX5_orNone_5 : decode cX5_orNone 5 = .ok (.ldc 38, 2) := by decide +kernel
theorem dX5_orNone_7 : decode cX5_orNone 7 = .ok (.invokevirtual 39, 3) := by decide +kernel
theorem dX5_orNone_10 : decode cX5_orNone 10 = .ok (.goto 4, 3) := by decide +kernel
theorem dX5_orNone_13 : decode cX5_orNone 13 = .ok (.iload_n 1, 1) := by decide +kernel
theorem dX5_orNone_14 : decode cX5_orNone 14 = .ok (.ireturn, 1) := by decide +kernel
theorem dX5_many_0 : decode cX5_many 0 = .ok (.iconst 0, 1) := by decide +kernel
theorem dX5_many_1 : decode cX5_many 1 = .ok (.istore_n 1, 1) := by decide +kernel
theorem dX5_many_2 : decode cX5_many 2 = .ok (.iload_n 0, 1) := by decide +kernel
theorem dX5_many_3 : decode cX5_many 3 = .ok (.istore_n 2, 1) := by decide +kernel
theorem dX5_many_4 : decode cX5_many 4 = .ok (.iload_n 2, 1) := by decide +kernel
theorem dX5_many_5 : decode cX5_many 5 = .ok (.ifCond .eq 15, 3) := by decide +kernel
theorem dX5_many_8 : decode cX5_many 8 = .ok (.iinc 1 1, 3) := by decide +kernel
theorem dX5_many_11 : decode cX5_many 11 = .ok (.iload_n 2, 1) := by decide +kernel
theorem dX5_many_12 : decode cX5_many 12 = .ok (.iload_n 2, 1) := by decide +kernel
theorem dX5_many_13 : decode cX5_many 13 = .ok (.iconst 1, 1) := by decide +kernel
theorem dX5_many_14 : decode cX5_many 14 = .ok (.isub, 1) := by decide +kernel
theorem dX5_many_15 : decode cX5_many 15 = .ok (.iand, 1) := by decide +kernel
theorem dX5_many_16 : decode cX5_many 16 = .ok (.istore_n 2, 1) := by decide +kernel
theorem dX5_many_17 : decode cX5_many 17 = .ok (.goto (-13), 3) := by decide +kernel
theorem dX5_many_20 : decode cX5_many 20 = .ok (.iload_n 1, 1) := by decide +kernel
theorem dX5_many_21 : decode cX5_many 21 = .ok (.ireturn, 1) := by decide +kernel
theorem dX5_isSaying_0 : decode cX5_isSaying 0 = .ok (.iload_n 0, 1) := by decide +kernel
theorem dX5_isSaying_1 : decode cX5_isSaying 1 = .ok (.i2l, 1) := by decide +kernel
theorem dX5_isSaying_2 : decode cX5_isSaying 2 = .ok (.lconst 0, 1) := by decide +kernel
theorem dX5_isSaying_3 : decode cX5_isSaying 3 = .ok (.ldc2_w 43, 3) := by decide +kernel
theorem dX5_isSaying_6 : decode cX5_isSaying 6 = .ok (.invokestatic 45, 3) := by decide +kernel
theorem dX5_isSaying_9 : decode cX5_isSaying 9 = .ok (.ifCond .eq 16, 3) := by decide +kernel
theorem dX5_isSaying_12 : decode cX5_isSaying 12 = .ok (.iload_n 0, 1) := by decide +kernel
theorem dX5_isSaying_13 : decode cX5_isSaying 13 = .ok (.bipush 100, 2) := by decide +kernel
theorem dX5_isSaying_15 : decode cX5_isSaying 15 = .ok (.irem, 1) := by decide +kernel
theorem dX5_isSaying_16 : decode cX5_isSaying 16 = .ok (.bipush 20, 2) := by decide +kernel
theorem dX5_isSaying_18 : decode cX5_isSaying 18 = .ok (.if_icmp .gt 7, 3) := by decide +kernel
theorem dX5_isSaying_21 : decode cX5_isSaying 21 = .ok (.iconst 1, 1) := by decide +kernel
theorem dX5_isSaying_22 : decode cX5_isSaying 22 = .ok (.goto 4, 3) := by decide +kernel
theorem dX5_isSaying_25 : decode cX5_isSaying 25 = .ok (.iconst 0, 1) := by decide +kernel
theorem dX5_isSaying_26 : decode cX5_isSaying 26 = .ok (.ireturn, 1) := by decide +kernel
theorem dX5_say_0 : decode cX5_say 0 = .ok (.iload_n 1, 1) := by decide +kernel
theorem dX5_say_1 : decode cX5_say 1 = .ok (.invokestatic 49, 3) := by decide +kernel
theorem dX5_say_4 : decode cX5_say 4 = .ok (.ifCond .eq 31, 3) := by decide +kernel
theorem dX5_say_7 : decode cX5_say 7 = .ok (.iload_n 2, 1) := by decide +kernel
theorem dX5_say_8 : decode cX5_say 8 = .ok (.i2l, 1) := by decide +kernel
theorem dX5_say_9 : decode cX5_say 9 = .ok (.lconst 0, 1) := by decide +kernel
theorem dX5_say_10 : decode cX5_say 10 = .ok (.ldc2_w 53, 3) := by decide +kernel
theorem dX5_say_13 : decode cX5_say 13 = .ok (.invokestatic 45, 3) := by decide +kernel
theorem dX5_say_16 : decode cX5_say 16 = .ok (.ifCond .eq 19, 3) := by decide +kernel
theorem dX5_say_19 : decode cX5_say 19 = .ok (.iload_n 3, 1) := by decide +kernel
theorem dX5_say_20 : decode cX5_say 20 = .ok (.i2l, 1) := by decide +kernel
theorem dX5_say_21 : decode cX5_say 21 = .ok (.lconst 0, 1) := by decide +kernel
theorem dX5_say_22 : decode cX5_say 22 = .ok (.ldc2_w 55, 3) := by decide +kernel
theorem dX5_say_25 : decode cX5_say 25 = .ok (.invokestatic 45, 3) := by decide +kernel
theorem dX5_say_28 : decode cX5_say 28 = .ok (.ifCond .eq 7, 3) := by decide +kernel
theorem dX5_say_31 : decode cX5_say 31 = .ok (.iconst 1, 1) := by decide +kernel
theorem dX5_say_32 : decode cX5_say 32 = .ok (.goto 4, 3) := by decide +kernel
theorem dX5_say_35 : decode cX5_say 35 = .ok (.iconst 0, 1) := by decide +kernel
theorem dX5_say_36 : decode cX5_say 36 = .ok (.istore 4, 2) := by decide +kernel
theorem dX5_say_38 : decode cX5_say 38 = .ok (.iload 4, 2) := by decide +kernel
theorem dX5_say_40 : decode cX5_say 40 = .ok (.ifCond .eq 19, 3) := by decide +kernel
theorem dX5_say_43 : decode cX5_say 43 = .ok (.aload_n 0, 1) := by decide +kernel
theorem dX5_say_44 : decode cX5_say 44 = .ok (.iconst 4, 1) := by decide +kernel
theorem dX5_say_45 : decode cX5_say 45 = .ok (.iload_n 1, 1) := by decide +kernel
theorem dX5_say_46 : decode cX5_say 46 = .ok (.iadd, 1) := by decide +kernel
theorem dX5_say_47 : decode cX5_say 47 = .ok (.bipush 100, 2) := by decide +kernel
theorem dX5_say_49 : decode cX5_say 49 = .ok (.iload_n 2, 1) := by decide +kernel
theorem dX5_say_50 : decode cX5_say 50 = .ok (.imul, 1) := by decide +kernel
theorem dX5_say_51 : decode cX5_say 51 = .ok (.iload_n 3, 1) := by decide +kernel
theorem dX5_say_52 : decode cX5_say 52 = .ok (.iadd, 1) := by decide +kernel
theorem dX5_say_53 : decode cX5_say 53 = .ok (.invokevirtual 57, 3) := by decide +kernel
theorem dX5_say_56 : decode cX5_say 56 = .ok (.goto 9, 3) := by decide +kernel
theorem dX5_say_59 : decode cX5_say 59 = .ok (.aload_n 0, 1) := by decide +kernel
theorem dX5_say_60 : decode cX5_say 60 = .ok (.ldc 37, 2) := by decide +kernel
theorem dX5_say_62 : decode cX5_say 62 = .ok (.invokevirtual 39, 3) := by decide +kernel
theorem dX5_say_65 : decode cX5_say 65 = .ok (.ireturn, 1) := by decide +kernel
theorem dX5_said_0 : decode cX5_said 0 = .ok (.iload_n 1, 1) := by decide +kernel
theorem dX5_said_1 : decode cX5_said 1 = .ok (.invokestatic 49, 3) := by decide +kernel
theorem dX5_said_4 : decode cX5_said 4 = .ok (.ifCond .eq 14, 3) := by decide +kernel
theorem dX5_said_7 : decode cX5_said 7 = .ok (.aload_n 0, 1) := by decide +kernel
theorem dX5_said_8 : decode cX5_said 8 = .ok (.getfield 7, 3) := by decide +kernel
theorem dX5_said_11 : decode cX5_said 11 = .ok (.iconst 4, 1) := by decide +kernel
theorem dX5_said_12 : decode cX5_said 12 = .ok (.iload_n 1, 1) := by decide +kernel
theorem dX5_said_13 : decode cX5_said 13 = .ok (.iadd, 1) := by decide +kernel
theorem dX5_said_14 : decode cX5_said 14 = .ok (.iaload, 1) := by decide +kernel
theorem dX5_said_15 : decode cX5_said 15 = .ok (.goto 9, 3) := by decide +kernel
theorem dX5_said_18 : decode cX5_said 18 = .ok (.aload_n 0, 1) := by decide +kernel
theorem dX5_said_19 : decode cX5_said 19 = .ok (.ldc 37, 2) := by decide +kernel
theorem dX5_said_21 : decode cX5_said 21 = .ok (.invokevirtual 39, 3) := by decide +kernel
theorem dX5_said_24 : decode cX5_said 24 = .ok (.ireturn, 1) := by decide +kernel
theorem dX5_comes_0 : decode cX5_comes 0 = .ok (.aload_n 0, 1) := by decide +kernel
theorem dX5_comes_1 : decode cX5_comes 1 = .ok (.getfield 7, 3) := by decide +kernel
theorem dX5_comes_4 : decode cX5_comes 4 = .ok (.iconst 0, 1) := by decide +kernel
theorem dX5_comes_5 : decode cX5_comes 5 = .ok (.iaload, 1) := by decide +kernel
theorem dX5_comes_6 : decode cX5_comes 6 = .ok (.istore_n 3, 1) := by decide +kernel
theorem dX5_comes_7 : decode cX5_comes 7 = .ok (.aload_n 0, 1) := by decide +kernel
theorem dX5_comes_8 : decode cX5_comes 8 = .ok (.getfield 7, 3) := by decide +kernel
theorem dX5_comes_11 : decode cX5_comes 11 = .ok (.iload_n 3, 1) := by decide +kernel
theorem dX5_comes_12 : decode cX5_comes 12 = .ok (.iconst 0, 1) := by decide +kernel
theorem dX5_comes_13 : decode cX5_comes 13 = .ok (.invokestatic 61, 3) := by decide +kernel
theorem dX5_comes_16 : decode cX5_comes 16 = .ok (.iload_n 1, 1) := by decide +kernel
theorem dX5_comes_17 : decode cX5_comes 17 = .ok (.iastore, 1) := by decide +kernel
theorem dX5_comes_18 : decode cX5_comes 18 = .ok (.aload_n 0, 1) := by decide +kernel
theorem dX5_comes_19 : decode cX5_comes 19 = .ok (.getfield 7, 3) := by decide +kernel
theorem dX5_comes_22 : decode cX5_comes 22 = .ok (.iload_n 3, 1) := by decide +kernel
theorem dX5_comes_23 : decode cX5_comes 23 = .ok (.iconst 1, 1) := by decide +kernel
theorem dX5_comes_24 : decode cX5_comes 24 = .ok (.invokestatic 61, 3) := by decide +kernel
theorem dX5_comes_27 : decode cX5_comes 27 = .ok (.iconst 0, 1) := by decide +kernel
theorem dX5_comes_28 : decode cX5_comes 28 = .ok (.iastore, 1) := by decide +kernel
theorem dX5_comes_29 : decode cX5_comes 29 = .ok (.aload_n 0, 1) := by decide +kernel
theorem dX5_comes_30 : decode cX5_comes 30 = .ok (.getfield 7, 3) := by decide +kernel
theorem dX5_comes_33 : decode cX5_comes 33 = .ok (.iload_n 3, 1) := by decide +kernel
theorem dX5_comes_34 : decode cX5_comes 34 = .ok (.iconst 2, 1) := by decide +kernel
theorem dX5_comes_35 : decode cX5_comes 35 = .ok (.invokestatic 61, 3) := by decide +kernel
theorem dX5_comes_38 : decode cX5_comes 38 = .ok (.iload_n 2, 1) := by decide +kernel
theorem dX5_comes_39 : decode cX5_comes 39 = .ok (.iastore, 1) := by decide +kernel
theorem dX5_comes_40 : decode cX5_comes 40 = .ok (.aload_n 0, 1) := by decide +kernel
theorem dX5_comes_41 : decode cX5_comes 41 = .ok (.getfield 7, 3) := by decide +kernel
theorem dX5_comes_44 : decode cX5_comes 44 = .ok (.iload_n 3, 1) := by decide +kernel
theorem dX5_comes_45 : decode cX5_comes 45 = .ok (.iconst 3, 1) := by decide +kernel
theorem dX5_comes_46 : decode cX5_comes 46 = .ok (.invokestatic 61, 3) := by decide +kernel
theorem dX5_comes_49 : decode cX5_comes 49 = .ok (.iconst 0, 1) := by decide +kernel
theorem dX5_comes_50 : decode cX5_comes 50 = .ok (.iastore, 1) := by decide +kernel
theorem dX5_comes_51 : decode cX5_comes 51 = .ok (.aload_n 0, 1) := by decide +kernel
theorem dX5_comes_52 : decode cX5_comes 52 = .ok (.getfield 7, 3) := by decide +kernel
theorem dX5_comes_55 : decode cX5_comes 55 = .ok (.iload_n 3, 1) := by decide +kernel
theorem dX5_comes_56 : decode cX5_comes 56 = .ok (.iconst 4, 1) := by decide +kernel
theorem dX5_comes_57 : decode cX5_comes 57 = .ok (.invokestatic 61, 3) := by decide +kernel
theorem dX5_comes_60 : decode cX5_comes 60 = .ok (.iconst 0, 1) := by decide +kernel
theorem dX5_comes_61 : decode cX5_comes 61 = .ok (.iastore, 1) := by decide +kernel
theorem dX5_comes_62 : decode cX5_comes 62 = .ok (.aload_n 0, 1) := by decide +kernel
theorem dX5_comes_63 : decode cX5_comes 63 = .ok (.getfield 7, 3) := by decide +kernel
theorem dX5_comes_66 : decode cX5_comes 66 = .ok (.iconst 0, 1) := by decide +kernel
theorem dX5_comes_67 : decode cX5_comes 67 = .ok (.dup2, 1) := by decide +kernel
theorem dX5_comes_68 : decode cX5_comes 68 = .ok (.iaload, 1) := by decide +kernel
theorem dX5_comes_69 : decode cX5_comes 69 = .ok (.iconst 1, 1) := by decide +kernel
theorem dX5_comes_70 : decode cX5_comes 70 = .ok (.iadd, 1) := by decide +kernel
theorem dX5_comes_71 : decode cX5_comes 71 = .ok (.iastore, 1) := by decide +kernel
theorem dX5_comes_72 : decode cX5_comes 72 = .ok (.return_, 1) := by decide +kernel
theorem dX5_person_0 : decode cX5_person 0 = .ok (.iload_n 1, 1) := by decide +kernel
theorem dX5_person_1 : decode cX5_person 1 = .ok (.i2l, 1) := by decide +kernel
theorem dX5_person_2 : decode cX5_person 2 = .ok (.lconst 0, 1) := by decide +kernel
theorem dX5_person_3 : decode cX5_person 3 = .ok (.ldc2_w 64, 3) := by decide +kernel
theorem dX5_person_6 : decode cX5_person 6 = .ok (.invokestatic 45, 3) := by decide +kernel
theorem dX5_person_9 : decode cX5_person 9 = .ok (.ifCond .eq 15, 3) := by decide +kernel
theorem dX5_person_12 : decode cX5_person 12 = .ok (.iload_n 2, 1) := by decide +kernel
theorem dX5_person_13 : decode cX5_person 13 = .ok (.i2l, 1) := by decide +kernel
theorem dX5_person_14 : decode cX5_person 14 = .ok (.lconst 0, 1) := by decide +kernel
theorem dX5_person_15 : decode cX5_person 15 = .ok (.ldc2_w 66, 3) := by decide +kernel
theorem dX5_person_18 : decode cX5_person 18 = .ok (.invokestatic 45, 3) := by decide +kernel
theorem dX5_person_21 : decode cX5_person 21 = .ok (.ifCond .ne 10, 3) := by decide +kernel
theorem dX5_person_24 : decode cX5_person 24 = .ok (.aload_n 0, 1) := by decide +kernel
theorem dX5_person_25 : decode cX5_person 25 = .ok (.ldc 37, 2) := by decide +kernel
theorem dX5_person_27 : decode cX5_person 27 = .ok (.invokevirtual 39, 3) := by decide +kernel
theorem dX5_person_30 : decode cX5_person 30 = .ok (.ireturn, 1) := by decide +kernel
theorem dX5_person_31 : decode cX5_person 31 = .ok (.aload_n 0, 1) := by decide +kernel
theorem dX5_person_32 : decode cX5_person 32 = .ok (.getfield 7, 3) := by decide +kernel
theorem dX5_person_35 : decode cX5_person 35 = .ok (.iconst 0, 1) := by decide +kernel
theorem dX5_person_36 : decode cX5_person 36 = .ok (.iaload, 1) := by decide +kernel
theorem dX5_person_37 : decode cX5_person 37 = .ok (.bipush 8, 2) := by decide +kernel
theorem dX5_person_39 : decode cX5_person 39 = .ok (.if_icmp .ne 10, 3) := by decide +kernel
theorem dX5_person_42 : decode cX5_person 42 = .ok (.aload_n 0, 1) := by decide +kernel
theorem dX5_person_43 : decode cX5_person 43 = .ok (.ldc 68, 2) := by decide +kernel
theorem dX5_person_45 : decode cX5_person 45 = .ok (.invokevirtual 39, 3) := by decide +kernel
theorem dX5_person_48 : decode cX5_person 48 = .ok (.ireturn, 1) := by decide +kernel
theorem dX5_person_49 : decode cX5_person 49 = .ok (.aload_n 0, 1) := by decide +kernel
theorem dX5_person_50 : decode cX5_person 50 = .ok (.iload_n 1, 1) := by decide +kernel
theorem dX5_person_51 : decode cX5_person 51 = .ok (.iload_n 2, 1) := by decide +kernel
theorem dX5_person_52 : decode cX5_person 52 = .ok (.invokevirtual 69, 3) := by decide +kernel
theorem dX5_person_55 : decode cX5_person 55 = .ok (.aload_n 0, 1) := by decide +kernel
theorem dX5_person_56 : decode cX5_person 56 = .ok (.getfield 7, 3) := by decide +kernel
theorem dX5_person_59 : decode cX5_person 59 = .ok (.iconst 0, 1) := by decide +kernel
theorem dX5_person_60 : decode cX5_person 60 = .ok (.iaload, 1) := by decide +kernel
theorem dX5_person_61 : decode cX5_person 61 = .ok (.iconst 1, 1) := by decide +kernel
theorem dX5_person_62 : decode cX5_person 62 = .ok (.isub, 1) := by decide +kernel
theorem dX5_person_63 : decode cX5_person 63 = .ok (.ireturn, 1) := by decide +kernel
theorem dX5_feelsOf_0 : decode cX5_feelsOf 0 = .ok (.aload_n 0, 1) := by decide +kernel
theorem dX5_feelsOf_1 : decode cX5_feelsOf 1 = .ok (.iload_n 1, 1) := by decide +kernel
theorem dX5_feelsOf_2 : decode cX5_feelsOf 2 = .ok (.iconst 0, 1) := by decide +kernel
theorem dX5_feelsOf_3 : decode cX5_feelsOf 3 = .ok (.invokevirtual 73, 3) := by decide +kernel
theorem dX5_feelsOf_6 : decode cX5_feelsOf 6 = .ok (.tableswitch 89 1 6 #[38, 42, 46, 52, 68, 79], 38) := by decide +kernel
theorem dX5_feelsOf_44 : decode cX5_feelsOf 44 = .ok (.iconst 2, 1) := by decide +kernel
theorem dX5_feelsOf_45 : decode cX5_feelsOf 45 = .ok (.iload_n 2, 1) := by decide +kernel
theorem dX5_feelsOf_46 : decode cX5_feelsOf 46 = .ok (.imul, 1) := by decide +kernel
theorem dX5_feelsOf_47 : decode cX5_feelsOf 47 = .ok (.ireturn, 1) := by decide +kernel
theorem dX5_feelsOf_48 : decode cX5_feelsOf 48 = .ok (.iload_n 2, 1) := by decide +kernel
theorem dX5_feelsOf_49 : decode cX5_feelsOf 49 = .ok (.iconst 2, 1) := by decide +kernel
theorem dX5_feelsOf_50 : decode cX5_feelsOf 50 = .ok (.idiv, 1) := by decide +kernel
theorem dX5_feelsOf_51 : decode cX5_feelsOf 51 = .ok (.ireturn, 1) := by decide +kernel
theorem dX5_feelsOf_52 : decode cX5_feelsOf 52 = .ok (.iload_n 2, 1) := by decide +kernel
theorem dX5_feelsOf_53 : decode cX5_feelsOf 53 = .ok (.iconst 2, 1) := by decide +kernel
theorem dX5_feelsOf_54 : decode cX5_feelsOf 54 = .ok (.idiv, 1) := by decide +kernel
theorem dX5_feelsOf_55 : decode cX5_feelsOf 55 = .ok (.iconst 1, 1) := by decide +kernel
theorem dX5_feelsOf_56 : decode cX5_feelsOf 56 = .ok (.iadd, 1) := by decide +kernel
theorem dX5_feelsOf_57 : decode cX5_feelsOf 57 = .ok (.ireturn, 1) := by decide +kernel
theorem dX5_feelsOf_58 : decode cX5_feelsOf 58 = .ok (.iload_n 2, 1) := by decide +kernel
theorem dX5_feelsOf_59 : decode cX5_feelsOf 59 = .ok (.iconst 2, 1) := by decide +kernel
theorem dX5_feelsOf_60 : decode cX5_feelsOf 60 = .ok (.idiv, 1) := by decide +kernel
theorem dX5_feelsOf_61 : decode cX5_feelsOf 61 = .ok (.iconst 1, 1) := by decide +kernel
theorem dX5_feelsOf_62 : decode cX5_feelsOf 62 = .ok (.iadd, 1) := by decide +kernel
theorem dX5_feelsOf_63 : decode cX5_feelsOf 63 = .ok (.aload_n 0, 1) := by decide +kernel
theorem dX5_feelsOf_64 : decode cX5_feelsOf 64 = .ok (.iload_n 1, 1) := by decide +kernel
theorem dX5_feelsOf_65 : decode cX5_feelsOf 65 = .ok (.iconst 3, 1) := by decide +kernel
theorem dX5_feelsOf_66 : decode cX5_feelsOf 66 = .ok (.invokevirtual 73, 3) := by decide +kernel
theorem dX5_feelsOf_69 : decode cX5_feelsOf 69 = .ok (.bipush 10, 2) := by decide +kernel
theorem dX5_feelsOf_71 : decode cX5_feelsOf 71 = .ok (.idiv, 1) := by decide +kernel
theorem dX5_feelsOf_72 : decode cX5_feelsOf 72 = .ok (.iadd, 1) := by decide +kernel
theorem dX5_feelsOf_73 : decode cX5_feelsOf 73 = .ok (.ireturn, 1) := by decide +kernel
theorem dX5_feelsOf_74 : decode cX5_feelsOf 74 = .ok (.iload_n 2, 1) := by decide +kernel
theorem dX5_feelsOf_75 : decode cX5_feelsOf 75 = .ok (.iconst 5, 1) := by decide +kernel
theorem dX5_feelsOf_76 : decode cX5_feelsOf 76 = .ok (.if_icmp .ge 7, 3) := by decide +kernel
theorem dX5_feelsOf_79 : decode cX5_feelsOf 79 = .ok (.iconst 0, 1) := by decide +kernel
theorem dX5_feelsOf_80 : decode cX5_feelsOf 80 = .ok (.goto 4, 3) := by decide +kernel
theorem dX5_feelsOf_83 : decode cX5_feelsOf 83 = .ok (.iload_n 2, 1) := by decide +kernel
theorem dX5_feelsOf_84 : decode cX5_feelsOf 84 = .ok (.ireturn, 1) := by decide +kernel
theorem dX5_feelsOf_85 : decode cX5_feelsOf 85 = .ok (.iconst 0, 1) := by decide +kernel
theorem dX5_feelsOf_86 : decode cX5_feelsOf 86 = .ok (.iconst 2, 1) := by decide +kernel
theorem dX5_feelsOf_87 : decode cX5_feelsOf 87 = .ok (.iload_n 2, 1) := by decide +kernel
theorem dX5_feelsOf_88 : decode cX5_feelsOf 88 = .ok (.imul, 1) := by decide +kernel
theorem dX5_feelsOf_89 : decode cX5_feelsOf 89 = .ok (.iconst 3, 1) := by decide +kernel
theorem dX5_feelsOf_90 : decode cX5_feelsOf 90 = .ok (.isub, 1) := by decide +kernel
theorem dX5_feelsOf_91 : decode cX5_feelsOf 91 = .ok (.invokestatic 76, 3) := by decide +kernel
theorem dX5_feelsOf_94 : decode cX5_feelsOf 94 = .ok (.ireturn, 1) := by decide +kernel
theorem dX5_feelsOf_95 : decode cX5_feelsOf 95 = .ok (.iload_n 2, 1) := by decide +kernel
theorem dX5_feelsOf_96 : decode cX5_feelsOf 96 = .ok (.ireturn, 1) := by decide +kernel
theorem dX5_asksMost_0 : decode cX5_asksMost 0 = .ok (.aload_n 0, 1) := by decide +kernel
theorem dX5_asksMost_1 : decode cX5_asksMost 1 = .ok (.iload_n 1, 1) := by decide +kernel
theorem dX5_asksMost_2 : decode cX5_asksMost 2 = .ok (.iconst 0, 1) := by decide +kernel
theorem dX5_asksMost_3 : decode cX5_asksMost 3 = .ok (.invokevirtual 73, 3) := by decide +kernel
theorem dX5_asksMost_6 : decode cX5_asksMost 6 = .ok (.tableswitch 68 1 6 #[38, 40, 43, 45, 68, 65], 38) := by decide +kernel
theorem dX5_asksMost_44 : decode cX5_asksMost 44 = .ok (.iconst 5, 1) := by decide +kernel
theorem dX5_asksMost_45 : decode cX5_asksMost 45 = .ok (.ireturn, 1) := by decide +kernel
theorem dX5_asksMost_46 : decode cX5_asksMost 46 = .ok (.bipush 20, 2) := by decide +kernel
theorem dX5_asksMost_48 : decode cX5_asksMost 48 = .ok (.ireturn, 1) := by decide +kernel
theorem dX5_asksMost_49 : decode cX5_asksMost 49 = .ok (.iconst 0, 1) := by decide +kernel
theorem dX5_asksMost_50 : decode cX5_asksMost 50 = .ok (.ireturn, 1) := by decide +kernel
theorem dX5_asksMost_51 : decode cX5_asksMost 51 = .ok (.aload_n 0, 1) := by decide +kernel
theorem dX5_asksMost_52 : decode cX5_asksMost 52 = .ok (.getfield 7, 3) := by decide +kernel
theorem dX5_asksMost_55 : decode cX5_asksMost 55 = .ok (.iconst 1, 1) := by decide +kernel
theorem dX5_asksMost_56 : decode cX5_asksMost 56 = .ok (.iaload, 1) := by decide +kernel
theorem dX5_asksMost_57 : decode cX5_asksMost 57 = .ok (.bipush 7, 2) := by decide +kernel
theorem dX5_asksMost_59 : decode cX5_asksMost 59 = .ok (.irem, 1) := by decide +kernel
theorem dX5_asksMost_60 : decode cX5_asksMost 60 = .ok (.bipush 6, 2) := by decide +kernel
theorem dX5_asksMost_62 : decode cX5_asksMost 62 = .ok (.if_icmp .ne 7, 3) := by decide +kernel
theorem dX5_asksMost_65 : decode cX5_asksMost 65 = .ok (.iconst 3, 1) := by decide +kernel
theorem dX5_asksMost_66 : decode cX5_asksMost 66 = .ok (.goto 4, 3) := by decide +kernel
theorem dX5_asksMost_69 : decode cX5_asksMost 69 = .ok (.iconst 0, 1) := by decide +kernel
theorem dX5_asksMost_70 : decode cX5_asksMost 70 = .ok (.ireturn, 1) := by decide +kernel
theorem dX5_asksMost_71 : decode cX5_asksMost 71 = .ok (.bipush 15, 2) := by decide +kernel
theorem dX5_asksMost_73 : decode cX5_asksMost 73 = .ok (.ireturn, 1) := by decide +kernel
theorem dX5_asksMost_74 : decode cX5_asksMost 74 = .ok (.bipush 10, 2) := by decide +kernel
theorem dX5_asksMost_76 : decode cX5_asksMost 76 = .ok (.ireturn, 1) := by decide +kernel
theorem dX5_asks_0 : decode cX5_asks 0 = .ok (.aload_n 0, 1) := by decide +kernel
theorem dX5_asks_1 : decode cX5_asks 1 = .ok (.iload_n 1, 1) := by decide +kernel
theorem dX5_asks_2 : decode cX5_asks 2 = .ok (.invokevirtual 79, 3) := by decide +kernel
theorem dX5_asks_5 : decode cX5_asks 5 = .ok (.aload_n 0, 1) := by decide +kernel
theorem dX5_asks_6 : decode cX5_asks 6 = .ok (.iload_n 1, 1) := by decide +kernel
theorem dX5_asks_7 : decode cX5_asks 7 = .ok (.iconst 1, 1) := by decide +kernel
theorem dX5_asks_8 : decode cX5_asks 8 = .ok (.invokevirtual 73, 3) := by decide +kernel
theorem dX5_asks_11 : decode cX5_asks 11 = .ok (.invokestatic 82, 3) := by decide +kernel
theorem dX5_asks_14 : decode cX5_asks 14 = .ok (.ireturn, 1) := by decide +kernel
theorem dX5_room_0 : decode cX5_room 0 = .ok (.iconst 0, 1) := by decide +kernel
theorem dX5_room_1 : decode cX5_room 1 = .ok (.aload_n 0, 1) := by decide +kernel
theorem dX5_room_2 : decode cX5_room 2 = .ok (.iload_n 1, 1) := by decide +kernel
theorem dX5_room_3 : decode cX5_room 3 = .ok (.iconst 2, 1) := by decide +kernel
theorem dX5_room_4 : decode cX5_room 4 = .ok (.invokevirtual 73, 3) := by decide +kernel
theorem dX5_room_7 : decode cX5_room 7 = .ok (.aload_n 0, 1) := by decide +kernel
theorem dX5_room_8 : decode cX5_room 8 = .ok (.iload_n 1, 1) := by decide +kernel
theorem dX5_room_9 : decode cX5_room 9 = .ok (.iconst 3, 1) := by decide +kernel
theorem dX5_room_10 : decode cX5_room 10 = .ok (.invokevirtual 73, 3) := by decide +kernel
theorem dX5_room_13 : decode cX5_room 13 = .ok (.isub, 1) := by decide +kernel
theorem dX5_room_14 : decode cX5_room 14 = .ok (.invokestatic 76, 3) := by decide +kernel
theorem dX5_room_17 : decode cX5_room 17 = .ok (.istore_n 2, 1) := by decide +kernel
theorem dX5_room_18 : decode cX5_room 18 = .ok (.aload_n 0, 1) := by decide +kernel
theorem dX5_room_19 : decode cX5_room 19 = .ok (.iload_n 1, 1) := by decide +kernel
theorem dX5_room_20 : decode cX5_room 20 = .ok (.iconst 0, 1) := by decide +kernel
theorem dX5_room_21 : decode cX5_room 21 = .ok (.invokevirtual 73, 3) := by decide +kernel
theorem dX5_room_24 : decode cX5_room 24 = .ok (.tableswitch 75 1 6 #[40, 75, 44, 44, 53, 69], 40) := by decide +kernel
theorem dX5_room_64 : decode cX5_room 64 = .ok (.iload_n 2, 1) := by decide +kernel
theorem dX5_room_65 : decode cX5_room 65 = .ok (.iconst 2, 1) := by decide +kernel
theorem dX5_room_66 : decode cX5_room 66 = .ok (.idiv, 1) := by decide +kernel
theorem dX5_room_67 : decode cX5_room 67 = .ok (.ireturn, 1) := by decide +kernel
theorem dX5_room_68 : decode cX5_room 68 = .ok (.iload_n 2, 1) := by decide +kernel
theorem dX5_room_69 : decode cX5_room 69 = .ok (.aload_n 0, 1) := by decide +kernel
theorem dX5_room_70 : decode cX5_room 70 = .ok (.iload_n 1, 1) := by decide +kernel
theorem dX5_room_71 : decode cX5_room 71 = .ok (.iconst 2, 1) := by decide +kernel
theorem dX5_room_72 : decode cX5_room 72 = .ok (.invokevirtual 73, 3) := by decide +kernel
theorem dX5_room_75 : decode cX5_room 75 = .ok (.iadd, 1) := by decide +kernel
theorem dX5_room_76 : decode cX5_room 76 = .ok (.ireturn, 1) := by decide +kernel
theorem dX5_room_77 : decode cX5_room 77 = .ok (.aload_n 0, 1) := by decide +kernel
theorem dX5_room_78 : decode cX5_room 78 = .ok (.iload_n 1, 1) := by decide +kernel
theorem dX5_room_79 : decode cX5_room 79 = .ok (.iconst 3, 1) := by decide +kernel
theorem dX5_room_80 : decode cX5_room 80 = .ok (.invokevirtual 73, 3) := by decide +kernel
theorem dX5_room_83 : decode cX5_room 83 = .ok (.ifCond .ne 8, 3) := by decide +kernel
theorem dX5_room_86 : decode cX5_room 86 = .ok (.bipush 99, 2) := by decide +kernel
theorem dX5_room_88 : decode cX5_room 88 = .ok (.goto 4, 3) := by decide +kernel
theorem dX5_room_91 : decode cX5_room 91 = .ok (.iload_n 2, 1) := by decide +kernel
theorem dX5_room_92 : decode cX5_room 92 = .ok (.ireturn, 1) := by decide +kernel
theorem dX5_room_93 : decode cX5_room 93 = .ok (.iload_n 2, 1) := by decide +kernel
theorem dX5_room_94 : decode cX5_room 94 = .ok (.iconst 2, 1) := by decide +kernel
theorem dX5_room_95 : decode cX5_room 95 = .ok (.idiv, 1) := by decide +kernel
theorem dX5_room_96 : decode cX5_room 96 = .ok (.iconst 5, 1) := by decide +kernel
theorem dX5_room_97 : decode cX5_room 97 = .ok (.iadd, 1) := by decide +kernel
theorem dX5_room_98 : decode cX5_room 98 = .ok (.ireturn, 1) := by decide +kernel
theorem dX5_room_99 : decode cX5_room 99 = .ok (.iload_n 2, 1) := by decide +kernel
theorem dX5_room_100 : decode cX5_room 100 = .ok (.ireturn, 1) := by decide +kernel
theorem dX5_forgets_0 : decode cX5_forgets 0 = .ok (.aload_n 0, 1) := by decide +kernel
theorem dX5_forgets_1 : decode cX5_forgets 1 = .ok (.iload_n 1, 1) := by decide +kernel
theorem dX5_forgets_2 : decode cX5_forgets 2 = .ok (.iconst 0, 1) := by decide +kernel
theorem dX5_forgets_3 : decode cX5_forgets 3 = .ok (.invokevirtual 73, 3) := by decide +kernel
theorem dX5_forgets_6 : decode cX5_forgets 6 = .ok (.tableswitch 37 1 4 #[30, 32, 32, 34], 30) := by decide +kernel
theorem dX5_forgets_36 : decode cX5_forgets 36 = .ok (.iconst 0, 1) := by decide +kernel
theorem dX5_forgets_37 : decode cX5_forgets 37 = .ok (.ireturn, 1) := by decide +kernel
theorem dX5_forgets_38 : decode cX5_forgets 38 = .ok (.iconst 3, 1) := by decide +kernel
theorem dX5_forgets_39 : decode cX5_forgets 39 = .ok (.ireturn, 1) := by decide +kernel
theorem dX5_forgets_40 : decode cX5_forgets 40 = .ok (.bipush 6, 2) := by decide +kernel
theorem dX5_forgets_42 : decode cX5_forgets 42 = .ok (.ireturn, 1) := by decide +kernel
theorem dX5_forgets_43 : decode cX5_forgets 43 = .ok (.iconst 1, 1) := by decide +kernel
theorem dX5_forgets_44 : decode cX5_forgets 44 = .ok (.ireturn, 1) := by decide +kernel
theorem dX5_of_0 : decode cX5_of 0 = .ok (.aload_n 0, 1) := by decide +kernel
theorem dX5_of_1 : decode cX5_of 1 = .ok (.iload_n 1, 1) := by decide +kernel
theorem dX5_of_2 : decode cX5_of 2 = .ok (.invokevirtual 85, 3) := by decide +kernel
theorem dX5_of_5 : decode cX5_of 5 = .ok (.ifCond .eq 15, 3) := by decide +kernel
theorem dX5_of_8 : decode cX5_of 8 = .ok (.iload_n 2, 1) := by decide +kernel
theorem dX5_of_9 : decode cX5_of 9 = .ok (.i2l, 1) := by decide +kernel
theorem dX5_of_10 : decode cX5_of 10 = .ok (.lconst 0, 1) := by decide +kernel
theorem dX5_of_11 : decode cX5_of 11 = .ok (.ldc2_w 53, 3) := by decide +kernel
theorem dX5_of_14 : decode cX5_of 14 = .ok (.invokestatic 45, 3) := by decide +kernel
theorem dX5_of_17 : decode cX5_of 17 = .ok (.ifCond .ne 10, 3) := by decide +kernel
theorem dX5_of_20 : decode cX5_of 20 = .ok (.aload_n 0, 1) := by decide +kernel
theorem dX5_of_21 : decode cX5_of 21 = .ok (.ldc 37, 2) := by decide +kernel
theorem dX5_of_23 : decode cX5_of 23 = .ok (.invokevirtual 39, 3) := by decide +kernel
theorem dX5_of_26 : decode cX5_of 26 = .ok (.ireturn, 1) := by decide +kernel
theorem dX5_of_27 : decode cX5_of 27 = .ok (.iload_n 2, 1) := by decide +kernel
theorem dX5_of_28 : decode cX5_of 28 = .ok (.tableswitch 46 5 7 #[28, 34, 40], 28) := by decide +kernel
theorem dX5_of_56 : decode cX5_of 56 = .ok (.aload_n 0, 1) := by decide +kernel
theorem dX5_of_57 : decode cX5_of 57 = .ok (.iload_n 1, 1) := by decide +kernel
theorem dX5_of_58 : decode cX5_of 58 = .ok (.invokevirtual 88, 3) := by decide +kernel
theorem dX5_of_61 : decode cX5_of 61 = .ok (.ireturn, 1) := by decide +kernel
theorem dX5_of_62 : decode cX5_of 62 = .ok (.aload_n 0, 1) := by decide +kernel
theorem dX5_of_63 : decode cX5_of 63 = .ok (.iload_n 1, 1) := by decide +kernel
theorem dX5_of_64 : decode cX5_of 64 = .ok (.invokevirtual 91, 3) := by decide +kernel
theorem dX5_of_67 : decode cX5_of 67 = .ok (.ireturn, 1) := by decide +kernel
theorem dX5_of_68 : decode cX5_of 68 = .ok (.aload_n 0, 1) := by decide +kernel
theorem dX5_of_69 : decode cX5_of 69 = .ok (.iload_n 1, 1) := by decide +kernel
theorem dX5_of_70 : decode cX5_of 70 = .ok (.invokevirtual 94, 3) := by decide +kernel
theorem dX5_of_73 : decode cX5_of 73 = .ok (.ireturn, 1) := by decide +kernel
theorem dX5_of_74 : decode cX5_of 74 = .ok (.aload_n 0, 1) := by decide +kernel
theorem dX5_of_75 : decode cX5_of 75 = .ok (.iload_n 1, 1) := by decide +kernel
theorem dX5_of_76 : decode cX5_of 76 = .ok (.iload_n 2, 1) := by decide +kernel
theorem dX5_of_77 : decode cX5_of 77 = .ok (.invokevirtual 73, 3) := by decide +kernel
theorem dX5_of_80 : decode cX5_of 80 = .ok (.ireturn, 1) := by decide +kernel
theorem dX5_greatestOf_0 : decode cX5_greatestOf 0 = .ok (.iload_n 0, 1) := by decide +kernel
theorem dX5_greatestOf_1 : decode cX5_greatestOf 1 = .ok (.ifCond .ne 8, 3) := by decide +kernel
theorem dX5_greatestOf_4 : decode cX5_greatestOf 4 = .ok (.bipush 6, 2) := by decide +kernel
theorem dX5_greatestOf_6 : decode cX5_greatestOf 6 = .ok (.goto 16, 3) := by decide +kernel
theorem dX5_greatestOf_9 : decode cX5_greatestOf 9 = .ok (.iload_n 0, 1) := by decide +kernel
theorem dX5_greatestOf_10 : decode cX5_greatestOf 10 = .ok (.iconst 2, 1) := by decide +kernel
theorem dX5_greatestOf_11 : decode cX5_greatestOf 11 = .ok (.if_icmp .ne 8, 3) := by decide +kernel
theorem dX5_greatestOf_14 : decode cX5_greatestOf 14 = .ok (.bipush 99, 2) := by decide +kernel
theorem dX5_greatestOf_16 : decode cX5_greatestOf 16 = .ok (.goto 6, 3) := by decide +kernel
theorem dX5_greatestOf_19 : decode cX5_greatestOf 19 = .ok (.sipush 9999, 3) := by decide +kernel
theorem dX5_greatestOf_22 : decode cX5_greatestOf 22 = .ok (.ireturn, 1) := by decide +kernel
theorem dX5_change_0 : decode cX5_change 0 = .ok (.aload_n 0, 1) := by decide +kernel
theorem dX5_change_1 : decode cX5_change 1 = .ok (.iload_n 1, 1) := by decide +kernel
theorem dX5_change_2 : decode cX5_change 2 = .ok (.invokevirtual 85, 3) := by decide +kernel
theorem dX5_change_5 : decode cX5_change 5 = .ok (.ifCond .eq 33, 3) := by decide +kernel
theorem dX5_change_8 : decode cX5_change 8 = .ok (.iload_n 2, 1) := by decide +kernel
theorem dX5_change_9 : decode cX5_change 9 = .ok (.i2l, 1) := by decide +kernel
theorem dX5_change_10 : decode cX5_change 10 = .ok (.lconst 0, 1) := by decide +kernel
theorem dX5_change_11 : decode cX5_change 11 = .ok (.ldc2_w 97, 3) := by decide +kernel
theorem dX5_change_14 : decode cX5_change 14 = .ok (.invokestatic 45, 3) := by decide +kernel
theorem dX5_change_17 : decode cX5_change 17 = .ok (.ifCond .eq 21, 3) := by decide +kernel
theorem dX5_change_20 : decode cX5_change 20 = .ok (.iload_n 3, 1) := by decide +kernel
theorem dX5_change_21 : decode cX5_change 21 = .ok (.i2l, 1) := by decide +kernel
theorem dX5_change_22 : decode cX5_change 22 = .ok (.lconst 0, 1) := by decide +kernel
theorem dX5_change_23 : decode cX5_change 23 = .ok (.iload_n 2, 1) := by decide +kernel
theorem dX5_change_24 : decode cX5_change 24 = .ok (.invokestatic 99, 3) := by decide +kernel
theorem dX5_change_27 : decode cX5_change 27 = .ok (.i2l, 1) := by decide +kernel
theorem dX5_change_28 : decode cX5_change 28 = .ok (.invokestatic 45, 3) := by decide +kernel
theorem dX5_change_31 : decode cX5_change 31 = .ok (.ifCond .eq 7, 3) := by decide +kernel
theorem dX5_change_34 : decode cX5_change 34 = .ok (.iconst 1, 1) := by decide +kernel
theorem dX5_change_35 : decode cX5_change 35 = .ok (.goto 4, 3) := by decide +kernel
theorem dX5_change_38 : decode cX5_change 38 = .ok (.iconst 0, 1) := by decide +kernel
theorem dX5_change_39 : decode cX5_change 39 = .ok (.istore 4, 2) := by decide +kernel
theorem dX5_change_41 : decode cX5_change 41 = .ok (.iload 4, 2) := by decide +kernel
theorem dX5_change_43 : decode cX5_change 43 = .ok (.ifCond .eq 16, 3) := by decide +kernel
theorem dX5_change_46 : decode cX5_change 46 = .ok (.aload_n 0, 1) := by decide +kernel
theorem dX5_change_47 : decode cX5_change 47 = .ok (.iload_n 1, 1) := by decide +kernel
theorem dX5_change_48 : decode cX5_change 48 = .ok (.iload_n 2, 1) := by decide +kernel
theorem dX5_change_49 : decode cX5_change 49 = .ok (.invokestatic 61, 3) := by decide +kernel
theorem dX5_change_52 : decode cX5_change 52 = .ok (.iload_n 3, 1) := by decide +kernel
theorem dX5_change_53 : decode cX5_change 53 = .ok (.invokevirtual 57, 3) := by decide +kernel
theorem dX5_change_56 : decode cX5_change 56 = .ok (.goto 9, 3) := by decide +kernel
theorem dX5_change_59 : decode cX5_change 59 = .ok (.aload_n 0, 1) := by decide +kernel
theorem dX5_change_60 : decode cX5_change 60 = .ok (.ldc 37, 2) := by decide +kernel
theorem dX5_change_62 : decode cX5_change 62 = .ok (.invokevirtual 39, 3) := by decide +kernel
theorem dX5_change_65 : decode cX5_change 65 = .ok (.ireturn, 1) := by decide +kernel
theorem dX5_feels_0 : decode cX5_feels 0 = .ok (.aload_n 0, 1) := by decide +kernel
theorem dX5_feels_1 : decode cX5_feels 1 = .ok (.iload_n 1, 1) := by decide +kernel
theorem dX5_feels_2 : decode cX5_feels 2 = .ok (.invokevirtual 85, 3) := by decide +kernel
theorem dX5_feels_5 : decode cX5_feels 5 = .ok (.ifCond .eq 24, 3) := by decide +kernel
theorem dX5_feels_8 : decode cX5_feels 8 = .ok (.iload_n 2, 1) := by decide +kernel
theorem dX5_feels_9 : decode cX5_feels 9 = .ok (.i2l, 1) := by decide +kernel
theorem dX5_feels_10 : decode cX5_feels 10 = .ok (.lconst 0, 1) := by decide +kernel
theorem dX5_feels_11 : decode cX5_feels 11 = .ok (.ldc2_w 55, 3) := by decide +kernel
theorem dX5_feels_14 : decode cX5_feels 14 = .ok (.invokestatic 45, 3) := by decide +kernel
theorem dX5_feels_17 : decode cX5_feels 17 = .ok (.ifCond .eq 12, 3) := by decide +kernel
theorem dX5_feels_20 : decode cX5_feels 20 = .ok (.aload_n 0, 1) := by decide +kernel
theorem dX5_feels_21 : decode cX5_feels 21 = .ok (.iload_n 1, 1) := by decide +kernel
theorem dX5_feels_22 : decode cX5_feels 22 = .ok (.iload_n 2, 1) := by decide +kernel
theorem dX5_feels_23 : decode cX5_feels 23 = .ok (.invokevirtual 102, 3) := by decide +kernel
theorem dX5_feels_26 : decode cX5_feels 26 = .ok (.goto 9, 3) := by decide +kernel
theorem dX5_feels_29 : decode cX5_feels 29 = .ok (.aload_n 0, 1) := by decide +kernel
theorem dX5_feels_30 : decode cX5_feels 30 = .ok (.ldc 37, 2) := by decide +kernel
theorem dX5_feels_32 : decode cX5_feels 32 = .ok (.invokevirtual 39, 3) := by decide +kernel
theorem dX5_feels_35 : decode cX5_feels 35 = .ok (.ireturn, 1) := by decide +kernel
theorem dX5_roomiestBut_0 : decode cX5_roomiestBut 0 = .ok (.iconst (-1), 1) := by decide +kernel
theorem dX5_roomiestBut_1 : decode cX5_roomiestBut 1 = .ok (.istore_n 2, 1) := by decide +kernel
theorem dX5_roomiestBut_2 : decode cX5_roomiestBut 2 = .ok (.iconst 0, 1) := by decide +kernel
theorem dX5_roomiestBut_3 : decode cX5_roomiestBut 3 = .ok (.istore_n 3, 1) := by decide +kernel
theorem dX5_roomiestBut_4 : decode cX5_roomiestBut 4 = .ok (.iload_n 3, 1) := by decide +kernel
theorem dX5_roomiestBut_5 : decode cX5_roomiestBut 5 = .ok (.aload_n 0, 1) := by decide +kernel
theorem dX5_roomiestBut_6 : decode cX5_roomiestBut 6 = .ok (.getfield 7, 3) := by decide +kernel
theorem dX5_roomiestBut_9 : decode cX5_roomiestBut 9 = .ok (.iconst 0, 1) := by decide +kernel
theorem dX5_roomiestBut_10 : decode cX5_roomiestBut 10 = .ok (.iaload, 1) := by decide +kernel
theorem dX5_roomiestBut_11 : decode cX5_roomiestBut 11 = .ok (.if_icmp .ge 37, 3) := by decide +kernel
theorem dX5_roomiestBut_14 : decode cX5_roomiestBut 14 = .ok (.iload_n 3, 1) := by decide +kernel
theorem dX5_roomiestBut_15 : decode cX5_roomiestBut 15 = .ok (.iload_n 1, 1) := by decide +kernel
theorem dX5_roomiestBut_16 : decode cX5_roomiestBut 16 = .ok (.if_icmp .eq 24, 3) := by decide +kernel
theorem dX5_roomiestBut_19 : decode cX5_roomiestBut 19 = .ok (.iload_n 2, 1) := by decide +kernel
theorem dX5_roomiestBut_20 : decode cX5_roomiestBut 20 = .ok (.ifCond .lt 16, 3) := by decide +kernel
theorem dX5_roomiestBut_23 : decode cX5_roomiestBut 23 = .ok (.aload_n 0, 1) := by decide +kernel
theorem dX5_roomiestBut_24 : decode cX5_roomiestBut 24 = .ok (.iload_n 3, 1) := by decide +kernel
theorem dX5_roomiestBut_25 : decode cX5_roomiestBut 25 = .ok (.invokevirtual 91, 3) := by decide +kernel
theorem dX5_roomiestBut_28 : decode cX5_roomiestBut 28 = .ok (.aload_n 0, 1) := by decide +kernel
theorem dX5_roomiestBut_29 : decode cX5_roomiestBut 29 = .ok (.iload_n 2, 1) := by decide +kernel
theorem dX5_roomiestBut_30 : decode cX5_roomiestBut 30 = .ok (.invokevirtual 91, 3) := by decide +kernel
theorem dX5_roomiestBut_33 : decode cX5_roomiestBut 33 = .ok (.if_icmp .le 7, 3) := by decide +kernel
theorem dX5_roomiestBut_36 : decode cX5_roomiestBut 36 = .ok (.iload_n 3, 1) := by decide +kernel
theorem dX5_roomiestBut_37 : decode cX5_roomiestBut 37 = .ok (.goto 4, 3) := by decide +kernel
theorem dX5_roomiestBut_40 : decode cX5_roomiestBut 40 = .ok (.iload_n 2, 1) := by decide +kernel
theorem dX5_roomiestBut_41 : decode cX5_roomiestBut 41 = .ok (.istore_n 2, 1) := by decide +kernel
theorem dX5_roomiestBut_42 : decode cX5_roomiestBut 42 = .ok (.iinc 3 1, 3) := by decide +kernel
theorem dX5_roomiestBut_45 : decode cX5_roomiestBut 45 = .ok (.goto (-41), 3) := by decide +kernel
theorem dX5_roomiestBut_48 : decode cX5_roomiestBut 48 = .ok (.iload_n 2, 1) := by decide +kernel
theorem dX5_roomiestBut_49 : decode cX5_roomiestBut 49 = .ok (.ireturn, 1) := by decide +kernel
theorem dX5_bearerOf_0 : decode cX5_bearerOf 0 = .ok (.aload_n 0, 1) := by decide +kernel
theorem dX5_bearerOf_1 : decode cX5_bearerOf 1 = .ok (.iload_n 1, 1) := by decide +kernel
theorem dX5_bearerOf_2 : decode cX5_bearerOf 2 = .ok (.invokevirtual 105, 3) := by decide +kernel
theorem dX5_bearerOf_5 : decode cX5_bearerOf 5 = .ok (.istore_n 3, 1) := by decide +kernel
theorem dX5_bearerOf_6 : decode cX5_bearerOf 6 = .ok (.iload_n 3, 1) := by decide +kernel
theorem dX5_bearerOf_7 : decode cX5_bearerOf 7 = .ok (.ifCond .lt 16, 3) := by decide +kernel
theorem dX5_bearerOf_10 : decode cX5_bearerOf 10 = .ok (.aload_n 0, 1) := by decide +kernel
theorem dX5_bearerOf_11 : decode cX5_bearerOf 11 = .ok (.iload_n 3, 1) := by decide +kernel
theorem dX5_bearerOf_12 : decode cX5_bearerOf 12 = .ok (.invokevirtual 91, 3) := by decide +kernel
theorem dX5_bearerOf_15 : decode cX5_bearerOf 15 = .ok (.iload_n 2, 1) := by decide +kernel
theorem dX5_bearerOf_16 : decode cX5_bearerOf 16 = .ok (.if_icmp .lt 7, 3) := by decide +kernel
theorem dX5_bearerOf_19 : decode cX5_bearerOf 19 = .ok (.iload_n 3, 1) := by decide +kernel
theorem dX5_bearerOf_20 : decode cX5_bearerOf 20 = .ok (.goto 4, 3) := by decide +kernel
theorem dX5_bearerOf_23 : decode cX5_bearerOf 23 = .ok (.iconst (-1), 1) := by decide +kernel
theorem dX5_bearerOf_24 : decode cX5_bearerOf 24 = .ok (.ireturn, 1) := by decide +kernel
theorem dX5_bearer_0 : decode cX5_bearer 0 = .ok (.aload_n 0, 1) := by decide +kernel
theorem dX5_bearer_1 : decode cX5_bearer 1 = .ok (.iload_n 1, 1) := by decide +kernel
theorem dX5_bearer_2 : decode cX5_bearer 2 = .ok (.invokevirtual 85, 3) := by decide +kernel
theorem dX5_bearer_5 : decode cX5_bearer 5 = .ok (.ifCond .eq 28, 3) := by decide +kernel
theorem dX5_bearer_8 : decode cX5_bearer 8 = .ok (.iload_n 2, 1) := by decide +kernel
theorem dX5_bearer_9 : decode cX5_bearer 9 = .ok (.i2l, 1) := by decide +kernel
theorem dX5_bearer_10 : decode cX5_bearer 10 = .ok (.lconst 1, 1) := by decide +kernel
theorem dX5_bearer_11 : decode cX5_bearer 11 = .ok (.ldc2_w 55, 3) := by decide +kernel
theorem dX5_bearer_14 : decode cX5_bearer 14 = .ok (.invokestatic 45, 3) := by decide +kernel
theorem dX5_bearer_17 : decode cX5_bearer 17 = .ok (.ifCond .eq 16, 3) := by decide +kernel
theorem dX5_bearer_20 : decode cX5_bearer 20 = .ok (.aload_n 0, 1) := by decide +kernel
theorem dX5_bearer_21 : decode cX5_bearer 21 = .ok (.aload_n 0, 1) := by decide +kernel
theorem dX5_bearer_22 : decode cX5_bearer 22 = .ok (.iload_n 1, 1) := by decide +kernel
theorem dX5_bearer_23 : decode cX5_bearer 23 = .ok (.iload_n 2, 1) := by decide +kernel
theorem dX5_bearer_24 : decode cX5_bearer 24 = .ok (.invokevirtual 108, 3) := by decide +kernel
theorem dX5_bearer_27 : decode cX5_bearer 27 = .ok (.invokevirtual 111, 3) := by decide +kernel
theorem dX5_bearer_30 : decode cX5_bearer 30 = .ok (.goto 9, 3) := by decide +kernel
theorem dX5_bearer_33 : decode cX5_bearer 33 = .ok (.aload_n 0, 1) := by decide +kernel
theorem dX5_bearer_34 : decode cX5_bearer 34 = .ok (.ldc 37, 2) := by decide +kernel
theorem dX5_bearer_36 : decode cX5_bearer 36 = .ok (.invokevirtual 39, 3) := by decide +kernel
theorem dX5_bearer_39 : decode cX5_bearer 39 = .ok (.ireturn, 1) := by decide +kernel
theorem dX5_bears_0 : decode cX5_bears 0 = .ok (.aload_n 0, 1) := by decide +kernel
theorem dX5_bears_1 : decode cX5_bears 1 = .ok (.getfield 7, 3) := by decide +kernel
theorem dX5_bears_4 : decode cX5_bears 4 = .ok (.iload_n 1, 1) := by decide +kernel
theorem dX5_bears_5 : decode cX5_bears 5 = .ok (.iconst 1, 1) := by decide +kernel
theorem dX5_bears_6 : decode cX5_bears 6 = .ok (.invokestatic 61, 3) := by decide +kernel
theorem dX5_bears_9 : decode cX5_bears 9 = .ok (.sipush 9999, 3) := by decide +kernel
theorem dX5_bears_12 : decode cX5_bears 12 = .ok (.aload_n 0, 1) := by decide +kernel
theorem dX5_bears_13 : decode cX5_bears 13 = .ok (.iload_n 1, 1) := by decide +kernel
theorem dX5_bears_14 : decode cX5_bears 14 = .ok (.iconst 1, 1) := by decide +kernel
theorem dX5_bears_15 : decode cX5_bears 15 = .ok (.invokevirtual 73, 3) := by decide +kernel
theorem dX5_bears_18 : decode cX5_bears 18 = .ok (.iload_n 3, 1) := by decide +kernel
theorem dX5_bears_19 : decode cX5_bears 19 = .ok (.iadd, 1) := by decide +kernel
theorem dX5_bears_20 : decode cX5_bears 20 = .ok (.invokestatic 82, 3) := by decide +kernel
theorem dX5_bears_23 : decode cX5_bears 23 = .ok (.iastore, 1) := by decide +kernel
theorem dX5_bears_24 : decode cX5_bears 24 = .ok (.aload_n 0, 1) := by decide +kernel
theorem dX5_bears_25 : decode cX5_bears 25 = .ok (.getfield 7, 3) := by decide +kernel
theorem dX5_bears_28 : decode cX5_bears 28 = .ok (.iload_n 1, 1) := by decide +kernel
theorem dX5_bears_29 : decode cX5_bears 29 = .ok (.iconst 3, 1) := by decide +kernel
theorem dX5_bears_30 : decode cX5_bears 30 = .ok (.invokestatic 61, 3) := by decide +kernel
theorem dX5_bears_33 : decode cX5_bears 33 = .ok (.sipush 9999, 3) := by decide +kernel
theorem dX5_bears_36 : decode cX5_bears 36 = .ok (.aload_n 0, 1) := by decide +kernel
theorem dX5_bears_37 : decode cX5_bears 37 = .ok (.iload_n 1, 1) := by decide +kernel
theorem dX5_bears_38 : decode cX5_bears 38 = .ok (.iconst 3, 1) := by decide +kernel
theorem dX5_bears_39 : decode cX5_bears 39 = .ok (.invokevirtual 73, 3) := by decide +kernel
theorem dX5_bears_42 : decode cX5_bears 42 = .ok (.iload_n 2, 1) := by decide +kernel
theorem dX5_bears_43 : decode cX5_bears 43 = .ok (.iadd, 1) := by decide +kernel
theorem dX5_bears_44 : decode cX5_bears 44 = .ok (.invokestatic 82, 3) := by decide +kernel
theorem dX5_bears_47 : decode cX5_bears 47 = .ok (.iastore, 1) := by decide +kernel
theorem dX5_bears_48 : decode cX5_bears 48 = .ok (.return_, 1) := by decide +kernel
theorem dX5_asksNow_0 : decode cX5_asksNow 0 = .ok (.aload_n 0, 1) := by decide +kernel
theorem dX5_asksNow_1 : decode cX5_asksNow 1 = .ok (.iload_n 1, 1) := by decide +kernel
theorem dX5_asksNow_2 : decode cX5_asksNow 2 = .ok (.invokevirtual 88, 3) := by decide +kernel
theorem dX5_asksNow_5 : decode cX5_asksNow 5 = .ok (.istore_n 2, 1) := by decide +kernel
theorem dX5_asksNow_6 : decode cX5_asksNow 6 = .ok (.aload_n 0, 1) := by decide +kernel
theorem dX5_asksNow_7 : decode cX5_asksNow 7 = .ok (.iload_n 1, 1) := by decide +kernel
theorem dX5_asksNow_8 : decode cX5_asksNow 8 = .ok (.iload_n 2, 1) := by decide +kernel
theorem dX5_asksNow_9 : decode cX5_asksNow 9 = .ok (.invokevirtual 108, 3) := by decide +kernel
theorem dX5_asksNow_12 : decode cX5_asksNow 12 = .ok (.istore_n 3, 1) := by decide +kernel
theorem dX5_asksNow_13 : decode cX5_asksNow 13 = .ok (.iload_n 2, 1) := by decide +kernel
theorem dX5_asksNow_14 : decode cX5_asksNow 14 = .ok (.ifCond .le 62, 3) := by decide +kernel
theorem dX5_asksNow_17 : decode cX5_asksNow 17 = .ok (.iload_n 3, 1) := by decide +kernel
theorem dX5_asksNow_18 : decode cX5_asksNow 18 = .ok (.ifCond .lt 58, 3) := by decide +kernel
theorem dX5_asksNow_21 : decode cX5_asksNow 21 = .ok (.aload_n 0, 1) := by decide +kernel
theorem dX5_asksNow_22 : decode cX5_asksNow 22 = .ok (.getfield 7, 3) := by decide +kernel
theorem dX5_asksNow_25 : decode cX5_asksNow 25 = .ok (.iload_n 1, 1) := by decide +kernel
theorem dX5_asksNow_26 : decode cX5_asksNow 26 = .ok (.iconst 1, 1) := by decide +kernel
theorem dX5_asksNow_27 : decode cX5_asksNow 27 = .ok (.invokestatic 61, 3) := by decide +kernel
theorem dX5_asksNow_30 : decode cX5_asksNow 30 = .ok (.dup2, 1) := by decide +kernel
theorem dX5_asksNow_31 : decode cX5_asksNow 31 = .ok (.iaload, 1) := by decide +kernel
theorem dX5_asksNow_32 : decode cX5_asksNow 32 = .ok (.iload_n 2, 1) := by decide +kernel
theorem dX5_asksNow_33 : decode cX5_asksNow 33 = .ok (.isub, 1) := by decide +kernel
theorem dX5_asksNow_34 : decode cX5_asksNow 34 = .ok (.iastore, 1) := by decide +kernel
theorem dX5_asksNow_35 : decode cX5_asksNow 35 = .ok (.aload_n 0, 1) := by decide +kernel
theorem dX5_asksNow_36 : decode cX5_asksNow 36 = .ok (.getfield 7, 3) := by decide +kernel
theorem dX5_asksNow_39 : decode cX5_asksNow 39 = .ok (.iload_n 1, 1) := by decide +kernel
theorem dX5_asksNow_40 : decode cX5_asksNow 40 = .ok (.iconst 4, 1) := by decide +kernel
theorem dX5_asksNow_41 : decode cX5_asksNow 41 = .ok (.invokestatic 61, 3) := by decide +kernel
theorem dX5_asksNow_44 : decode cX5_asksNow 44 = .ok (.sipush 9999, 3) := by decide +kernel
theorem dX5_asksNow_47 : decode cX5_asksNow 47 = .ok (.aload_n 0, 1) := by decide +kernel
theorem dX5_asksNow_48 : decode cX5_asksNow 48 = .ok (.iload_n 1, 1) := by decide +kernel
theorem dX5_asksNow_49 : decode cX5_asksNow 49 = .ok (.iconst 4, 1) := by decide +kernel
theorem dX5_asksNow_50 : decode cX5_asksNow 50 = .ok (.invokevirtual 73, 3) := by decide +kernel
theorem dX5_asksNow_53 : decode cX5_asksNow 53 = .ok (.iconst 1, 1) := by decide +kernel
theorem dX5_asksNow_54 : decode cX5_asksNow 54 = .ok (.iadd, 1) := by decide +kernel
theorem dX5_asksNow_55 : decode cX5_asksNow 55 = .ok (.invokestatic 82, 3) := by decide +kernel
theorem dX5_asksNow_58 : decode cX5_asksNow 58 = .ok (.iastore, 1) := by decide +kernel
theorem dX5_asksNow_59 : decode cX5_asksNow 59 = .ok (.aload_n 0, 1) := by decide +kernel
theorem dX5_asksNow_60 : decode cX5_asksNow 60 = .ok (.iload_n 3, 1) := by decide +kernel
theorem dX5_asksNow_61 : decode cX5_asksNow 61 = .ok (.iload_n 2, 1) := by decide +kernel
theorem dX5_asksNow_62 : decode cX5_asksNow 62 = .ok (.aload_n 0, 1) := by decide +kernel
theorem dX5_asksNow_63 : decode cX5_asksNow 63 = .ok (.iload_n 3, 1) := by decide +kernel
theorem dX5_asksNow_64 : decode cX5_asksNow 64 = .ok (.iload_n 2, 1) := by decide +kernel
theorem dX5_asksNow_65 : decode cX5_asksNow 65 = .ok (.invokevirtual 102, 3) := by decide +kernel
theorem dX5_asksNow_68 : decode cX5_asksNow 68 = .ok (.iconst 2, 1) := by decide +kernel
theorem dX5_asksNow_69 : decode cX5_asksNow 69 = .ok (.idiv, 1) := by decide +kernel
theorem dX5_asksNow_70 : decode cX5_asksNow 70 = .ok (.invokevirtual 114, 3) := by decide +kernel
theorem dX5_asksNow_73 : decode cX5_asksNow 73 = .ok (.goto 40, 3) := by decide +kernel
theorem dX5_asksNow_76 : decode cX5_asksNow 76 = .ok (.iload_n 2, 1) := by decide +kernel
theorem dX5_asksNow_77 : decode cX5_asksNow 77 = .ok (.ifCond .le 36, 3) := by decide +kernel
theorem dX5_asksNow_80 : decode cX5_asksNow 80 = .ok (.aload_n 0, 1) := by decide +kernel
theorem dX5_asksNow_81 : decode cX5_asksNow 81 = .ok (.getfield 7, 3) := by decide +kernel
theorem dX5_asksNow_84 : decode cX5_asksNow 84 = .ok (.iload_n 1, 1) := by decide +kernel
theorem dX5_asksNow_85 : decode cX5_asksNow 85 = .ok (.iconst 1, 1) := by decide +kernel
theorem dX5_asksNow_86 : decode cX5_asksNow 86 = .ok (.invokestatic 61, 3) := by decide +kernel
theorem dX5_asksNow_89 : decode cX5_asksNow 89 = .ok (.dup2, 1) := by decide +kernel
theorem dX5_asksNow_90 : decode cX5_asksNow 90 = .ok (.iaload, 1) := by decide +kernel
theorem dX5_asksNow_91 : decode cX5_asksNow 91 = .ok (.iconst 1, 1) := by decide +kernel
theorem dX5_asksNow_92 : decode cX5_asksNow 92 = .ok (.isub, 1) := by decide +kernel
theorem dX5_asksNow_93 : decode cX5_asksNow 93 = .ok (.iastore, 1) := by decide +kernel
theorem dX5_asksNow_94 : decode cX5_asksNow 94 = .ok (.aload_n 0, 1) := by decide +kernel
theorem dX5_asksNow_95 : decode cX5_asksNow 95 = .ok (.getfield 7, 3) := by decide +kernel
theorem dX5_asksNow_98 : decode cX5_asksNow 98 = .ok (.iconst 3, 1) := by decide +kernel
theorem dX5_asksNow_99 : decode cX5_asksNow 99 = .ok (.ldc 118, 2) := by decide +kernel
theorem dX5_asksNow_101 : decode cX5_asksNow 101 = .ok (.aload_n 0, 1) := by decide +kernel
theorem dX5_asksNow_102 : decode cX5_asksNow 102 = .ok (.getfield 7, 3) := by decide +kernel
theorem dX5_asksNow_105 : decode cX5_asksNow 105 = .ok (.iconst 3, 1) := by decide +kernel
theorem dX5_asksNow_106 : decode cX5_asksNow 106 = .ok (.iaload, 1) := by decide +kernel
theorem dX5_asksNow_107 : decode cX5_asksNow 107 = .ok (.iconst 1, 1) := by decide +kernel
theorem dX5_asksNow_108 : decode cX5_asksNow 108 = .ok (.iadd, 1) := by decide +kernel
theorem dX5_asksNow_109 : decode cX5_asksNow 109 = .ok (.invokestatic 82, 3) := by decide +kernel
theorem dX5_asksNow_112 : decode cX5_asksNow 112 = .ok (.iastore, 1) := by decide +kernel
theorem dX5_asksNow_113 : decode cX5_asksNow 113 = .ok (.return_, 1) := by decide +kernel
theorem dX5_dayBut_0 : decode cX5_dayBut 0 = .ok (.aload_n 0, 1) := by decide +kernel
theorem dX5_dayBut_1 : decode cX5_dayBut 1 = .ok (.getfield 7, 3) := by decide +kernel
theorem dX5_dayBut_4 : decode cX5_dayBut 4 = .ok (.iconst 4, 1) := by decide +kernel
theorem dX5_dayBut_5 : decode cX5_dayBut 5 = .ok (.aload_n 0, 1) := by decide +kernel
theorem dX5_dayBut_6 : decode cX5_dayBut 6 = .ok (.getfield 7, 3) := by decide +kernel
theorem dX5_dayBut_9 : decode cX5_dayBut 9 = .ok (.iconst 1, 1) := by decide +kernel
theorem dX5_dayBut_10 : decode cX5_dayBut 10 = .ok (.iaload, 1) := by decide +kernel
theorem dX5_dayBut_11 : decode cX5_dayBut 11 = .ok (.bipush 6, 2) := by decide +kernel
theorem dX5_dayBut_13 : decode cX5_dayBut 13 = .ok (.irem, 1) := by decide +kernel
theorem dX5_dayBut_14 : decode cX5_dayBut 14 = .ok (.iadd, 1) := by decide +kernel
theorem dX5_dayBut_15 : decode cX5_dayBut 15 = .ok (.iaload, 1) := by decide +kernel
theorem dX5_dayBut_16 : decode cX5_dayBut 16 = .ok (.istore_n 2, 1) := by decide +kernel
theorem dX5_dayBut_17 : decode cX5_dayBut 17 = .ok (.iload_n 2, 1) := by decide +kernel
theorem dX5_dayBut_18 : decode cX5_dayBut 18 = .ok (.bipush 100, 2) := by decide +kernel
theorem dX5_dayBut_20 : decode cX5_dayBut 20 = .ok (.idiv, 1) := by decide +kernel
theorem dX5_dayBut_21 : decode cX5_dayBut 21 = .ok (.istore_n 3, 1) := by decide +kernel
theorem dX5_dayBut_22 : decode cX5_dayBut 22 = .ok (.iload_n 2, 1) := by decide +kernel
theorem dX5_dayBut_23 : decode cX5_dayBut 23 = .ok (.bipush 100, 2) := by decide +kernel
theorem dX5_dayBut_25 : decode cX5_dayBut 25 = .ok (.irem, 1) := by decide +kernel
theorem dX5_dayBut_26 : decode cX5_dayBut 26 = .ok (.istore 4, 2) := by decide +kernel
theorem dX5_dayBut_28 : decode cX5_dayBut 28 = .ok (.iload_n 3, 1) := by decide +kernel
theorem dX5_dayBut_29 : decode cX5_dayBut 29 = .ok (.aload_n 0, 1) := by decide +kernel
theorem dX5_dayBut_30 : decode cX5_dayBut 30 = .ok (.getfield 7, 3) := by decide +kernel
theorem dX5_dayBut_33 : decode cX5_dayBut 33 = .ok (.iconst 0, 1) := by decide +kernel
theorem dX5_dayBut_34 : decode cX5_dayBut 34 = .ok (.iaload, 1) := by decide +kernel
theorem dX5_dayBut_35 : decode cX5_dayBut 35 = .ok (.if_icmp .ge 22, 3) := by decide +kernel
theorem dX5_dayBut_38 : decode cX5_dayBut 38 = .ok (.iload 4, 2) := by decide +kernel
theorem dX5_dayBut_40 : decode cX5_dayBut 40 = .ok (.ifCond .le 17, 3) := by decide +kernel
theorem dX5_dayBut_43 : decode cX5_dayBut 43 = .ok (.aload_n 0, 1) := by decide +kernel
theorem dX5_dayBut_44 : decode cX5_dayBut 44 = .ok (.iload_n 3, 1) := by decide +kernel
theorem dX5_dayBut_45 : decode cX5_dayBut 45 = .ok (.iload 4, 2) := by decide +kernel
theorem dX5_dayBut_47 : decode cX5_dayBut 47 = .ok (.aload_n 0, 1) := by decide +kernel
theorem dX5_dayBut_48 : decode cX5_dayBut 48 = .ok (.iload_n 3, 1) := by decide +kernel
theorem dX5_dayBut_49 : decode cX5_dayBut 49 = .ok (.iload 4, 2) := by decide +kernel
theorem dX5_dayBut_51 : decode cX5_dayBut 51 = .ok (.invokevirtual 102, 3) := by decide +kernel
theorem dX5_dayBut_54 : decode cX5_dayBut 54 = .ok (.invokevirtual 114, 3) := by decide +kernel
theorem dX5_dayBut_57 : decode cX5_dayBut 57 = .ok (.iconst 0, 1) := by decide +kernel
theorem dX5_dayBut_58 : decode cX5_dayBut 58 = .ok (.istore 5, 2) := by decide +kernel
theorem dX5_dayBut_60 : decode cX5_dayBut 60 = .ok (.iload 5, 2) := by decide +kernel
theorem dX5_dayBut_62 : decode cX5_dayBut 62 = .ok (.aload_n 0, 1) := by decide +kernel
theorem dX5_dayBut_63 : decode cX5_dayBut 63 = .ok (.getfield 7, 3) := by decide +kernel
theorem dX5_dayBut_66 : decode cX5_dayBut 66 = .ok (.iconst 0, 1) := by decide +kernel
theorem dX5_dayBut_67 : decode cX5_dayBut 67 = .ok (.iaload, 1) := by decide +kernel
theorem dX5_dayBut_68 : decode cX5_dayBut 68 = .ok (.if_icmp .ge 24, 3) := by decide +kernel
theorem dX5_dayBut_71 : decode cX5_dayBut 71 = .ok (.iload_n 1, 1) := by decide +kernel
theorem dX5_dayBut_72 : decode cX5_dayBut 72 = .ok (.iload 5, 2) := by decide +kernel
theorem dX5_dayBut_74 : decode cX5_dayBut 74 = .ok (.ishr, 1) := by decide +kernel
theorem dX5_dayBut_75 : decode cX5_dayBut 75 = .ok (.iconst 1, 1) := by decide +kernel
theorem dX5_dayBut_76 : decode cX5_dayBut 76 = .ok (.iand, 1) := by decide +kernel
theorem dX5_dayBut_77 : decode cX5_dayBut 77 = .ok (.ifCond .ne 9, 3) := by decide +kernel
theorem dX5_dayBut_80 : decode cX5_dayBut 80 = .ok (.aload_n 0, 1) := by decide +kernel
theorem dX5_dayBut_81 : decode cX5_dayBut 81 = .ok (.iload 5, 2) := by decide +kernel
theorem dX5_dayBut_83 : decode cX5_dayBut 83 = .ok (.invokevirtual 119, 3) := by decide +kernel
theorem dX5_dayBut_86 : decode cX5_dayBut 86 = .ok (.iinc 5 1, 3) := by decide +kernel
theorem dX5_dayBut_89 : decode cX5_dayBut 89 = .ok (.goto (-29), 3) := by decide +kernel
theorem dX5_dayBut_92 : decode cX5_dayBut 92 = .ok (.iconst 0, 1) := by decide +kernel
theorem dX5_dayBut_93 : decode cX5_dayBut 93 = .ok (.istore 5, 2) := by decide +kernel
theorem dX5_dayBut_95 : decode cX5_dayBut 95 = .ok (.iload 5, 2) := by decide +kernel
theorem dX5_dayBut_97 : decode cX5_dayBut 97 = .ok (.aload_n 0, 1) := by decide +kernel
theorem dX5_dayBut_98 : decode cX5_dayBut 98 = .ok (.getfield 7, 3) := by decide +kernel
theorem dX5_dayBut_101 : decode cX5_dayBut 101 = .ok (.iconst 0, 1) := by decide +kernel
theorem dX5_dayBut_102 : decode cX5_dayBut 102 = .ok (.iaload, 1) := by decide +kernel
theorem dX5_dayBut_103 : decode cX5_dayBut 103 = .ok (.if_icmp .ge 38, 3) := by decide +kernel
theorem dX5_dayBut_106 : decode cX5_dayBut 106 = .ok (.aload_n 0, 1) := by decide +kernel
theorem dX5_dayBut_107 : decode cX5_dayBut 107 = .ok (.getfield 7, 3) := by decide +kernel
theorem dX5_dayBut_110 : decode cX5_dayBut 110 = .ok (.iload 5, 2) := by decide +kernel
theorem dX5_dayBut_112 : decode cX5_dayBut 112 = .ok (.iconst 3, 1) := by decide +kernel
theorem dX5_dayBut_113 : decode cX5_dayBut 113 = .ok (.invokestatic 61, 3) := by decide +kernel
theorem dX5_dayBut_116 : decode cX5_dayBut 116 = .ok (.iconst 0, 1) := by decide +kernel
theorem dX5_dayBut_117 : decode cX5_dayBut 117 = .ok (.aload_n 0, 1) := by decide +kernel
theorem dX5_dayBut_118 : decode cX5_dayBut 118 = .ok (.iload 5, 2) := by decide +kernel
theorem dX5_dayBut_120 : decode cX5_dayBut 120 = .ok (.iconst 3, 1) := by decide +kernel
theorem dX5_dayBut_121 : decode cX5_dayBut 121 = .ok (.invokevirtual 73, 3) := by decide +kernel
theorem dX5_dayBut_124 : decode cX5_dayBut 124 = .ok (.aload_n 0, 1) := by decide +kernel
theorem dX5_dayBut_125 : decode cX5_dayBut 125 = .ok (.iload 5, 2) := by decide +kernel
theorem dX5_dayBut_127 : decode cX5_dayBut 127 = .ok (.invokevirtual 94, 3) := by decide +kernel
theorem dX5_dayBut_130 : decode cX5_dayBut 130 = .ok (.isub, 1) := by decide +kernel
theorem dX5_dayBut_131 : decode cX5_dayBut 131 = .ok (.invokestatic 76, 3) := by decide +kernel
theorem dX5_dayBut_134 : decode cX5_dayBut 134 = .ok (.iastore, 1) := by decide +kernel
theorem dX5_dayBut_135 : decode cX5_dayBut 135 = .ok (.iinc 5 1, 3) := by decide +kernel
theorem dX5_dayBut_138 : decode cX5_dayBut 138 = .ok (.goto (-43), 3) := by decide +kernel
theorem dX5_dayBut_141 : decode cX5_dayBut 141 = .ok (.aload_n 0, 1) := by decide +kernel
theorem dX5_dayBut_142 : decode cX5_dayBut 142 = .ok (.getfield 7, 3) := by decide +kernel
theorem dX5_dayBut_145 : decode cX5_dayBut 145 = .ok (.iconst 1, 1) := by decide +kernel
theorem dX5_dayBut_146 : decode cX5_dayBut 146 = .ok (.dup2, 1) := by decide +kernel
theorem dX5_dayBut_147 : decode cX5_dayBut 147 = .ok (.iaload, 1) := by decide +kernel
theorem dX5_dayBut_148 : decode cX5_dayBut 148 = .ok (.iconst 1, 1) := by decide +kernel
theorem dX5_dayBut_149 : decode cX5_dayBut 149 = .ok (.iadd, 1) := by decide +kernel
theorem dX5_dayBut_150 : decode cX5_dayBut 150 = .ok (.iastore, 1) := by decide +kernel
theorem dX5_dayBut_151 : decode cX5_dayBut 151 = .ok (.return_, 1) := by decide +kernel
theorem dX5_goes_0 : decode cX5_goes 0 = .ok (.iconst 0, 1) := by decide +kernel
theorem dX5_goes_1 : decode cX5_goes 1 = .ok (.istore_n 2, 1) := by decide +kernel
theorem dX5_goes_2 : decode cX5_goes 2 = .ok (.iload_n 2, 1) := by decide +kernel
theorem dX5_goes_3 : decode cX5_goes 3 = .ok (.iload_n 1, 1) := by decide +kernel
theorem dX5_goes_4 : decode cX5_goes 4 = .ok (.if_icmp .ge 14, 3) := by decide +kernel
theorem dX5_goes_7 : decode cX5_goes 7 = .ok (.aload_n 0, 1) := by decide +kernel
theorem dX5_goes_8 : decode cX5_goes 8 = .ok (.iconst 0, 1) := by decide +kernel
theorem dX5_goes_9 : decode cX5_goes 9 = .ok (.invokevirtual 123, 3) := by decide +kernel
theorem dX5_goes_12 : decode cX5_goes 12 = .ok (.iinc 2 1, 3) := by decide +kernel
theorem dX5_goes_15 : decode cX5_goes 15 = .ok (.goto (-13), 3) := by decide +kernel
theorem dX5_goes_18 : decode cX5_goes 18 = .ok (.return_, 1) := by decide +kernel
theorem dX5_sumOf_0 : decode cX5_sumOf 0 = .ok (.iconst 0, 1) := by decide +kernel
theorem dX5_sumOf_1 : decode cX5_sumOf 1 = .ok (.istore_n 2, 1) := by decide +kernel
theorem dX5_sumOf_2 : decode cX5_sumOf 2 = .ok (.iconst 0, 1) := by decide +kernel
theorem dX5_sumOf_3 : decode cX5_sumOf 3 = .ok (.istore_n 3, 1) := by decide +kernel
theorem dX5_sumOf_4 : decode cX5_sumOf 4 = .ok (.iload_n 3, 1) := by decide +kernel
theorem dX5_sumOf_5 : decode cX5_sumOf 5 = .ok (.aload_n 0, 1) := by decide +kernel
theorem dX5_sumOf_6 : decode cX5_sumOf 6 = .ok (.getfield 7, 3) := by decide +kernel
theorem dX5_sumOf_9 : decode cX5_sumOf 9 = .ok (.iconst 0, 1) := by decide +kernel
theorem dX5_sumOf_10 : decode cX5_sumOf 10 = .ok (.iaload, 1) := by decide +kernel
theorem dX5_sumOf_11 : decode cX5_sumOf 11 = .ok (.if_icmp .ge 18, 3) := by decide +kernel
theorem dX5_sumOf_14 : decode cX5_sumOf 14 = .ok (.iload_n 2, 1) := by decide +kernel
theorem dX5_sumOf_15 : decode cX5_sumOf 15 = .ok (.aload_n 0, 1) := by decide +kernel
theorem dX5_sumOf_16 : decode cX5_sumOf 16 = .ok (.iload_n 3, 1) := by decide +kernel
theorem dX5_sumOf_17 : decode cX5_sumOf 17 = .ok (.iload_n 1, 1) := by decide +kernel
theorem dX5_sumOf_18 : decode cX5_sumOf 18 = .ok (.invokevirtual 73, 3) := by decide +kernel
theorem dX5_sumOf_21 : decode cX5_sumOf 21 = .ok (.iadd, 1) := by decide +kernel
theorem dX5_sumOf_22 : decode cX5_sumOf 22 = .ok (.istore_n 2, 1) := by decide +kernel
theorem dX5_sumOf_23 : decode cX5_sumOf 23 = .ok (.iinc 3 1, 3) := by decide +kernel
theorem dX5_sumOf_26 : decode cX5_sumOf 26 = .ok (.goto (-22), 3) := by decide +kernel
theorem dX5_sumOf_29 : decode cX5_sumOf 29 = .ok (.iload_n 2, 1) := by decide +kernel
theorem dX5_sumOf_30 : decode cX5_sumOf 30 = .ok (.ireturn, 1) := by decide +kernel
theorem dX5_go_0 : decode cX5_go 0 = .ok (.iload_n 1, 1) := by decide +kernel
theorem dX5_go_1 : decode cX5_go 1 = .ok (.i2l, 1) := by decide +kernel
theorem dX5_go_2 : decode cX5_go 2 = .ok (.lconst 1, 1) := by decide +kernel
theorem dX5_go_3 : decode cX5_go 3 = .ok (.ldc2_w 126, 3) := by decide +kernel
theorem dX5_go_6 : decode cX5_go 6 = .ok (.invokestatic 45, 3) := by decide +kernel
theorem dX5_go_9 : decode cX5_go 9 = .ok (.ifCond .ne 10, 3) := by decide +kernel
theorem dX5_go_12 : decode cX5_go 12 = .ok (.aload_n 0, 1) := by decide +kernel
theorem dX5_go_13 : decode cX5_go 13 = .ok (.ldc 37, 2) := by decide +kernel
theorem dX5_go_15 : decode cX5_go 15 = .ok (.invokevirtual 39, 3) := by decide +kernel
theorem dX5_go_18 : decode cX5_go 18 = .ok (.ireturn, 1) := by decide +kernel
theorem dX5_go_19 : decode cX5_go 19 = .ok (.aload_n 0, 1) := by decide +kernel
theorem dX5_go_20 : decode cX5_go 20 = .ok (.getfield 7, 3) := by decide +kernel
theorem dX5_go_23 : decode cX5_go 23 = .ok (.iconst 1, 1) := by decide +kernel
theorem dX5_go_24 : decode cX5_go 24 = .ok (.iaload, 1) := by decide +kernel
theorem dX5_go_25 : decode cX5_go 25 = .ok (.iload_n 1, 1) := by decide +kernel
theorem dX5_go_26 : decode cX5_go 26 = .ok (.iadd, 1) := by decide +kernel
theorem dX5_go_27 : decode cX5_go 27 = .ok (.ldc 118, 2) := by decide +kernel
theorem dX5_go_29 : decode cX5_go 29 = .ok (.if_icmp .le 10, 3) := by decide +kernel
theorem dX5_go_32 : decode cX5_go 32 = .ok (.aload_n 0, 1) := by decide +kernel
theorem dX5_go_33 : decode cX5_go 33 = .ok (.ldc 128, 2) := by decide +kernel
theorem dX5_go_35 : decode cX5_go 35 = .ok (.invokevirtual 39, 3) := by decide +kernel
theorem dX5_go_38 : decode cX5_go 38 = .ok (.ireturn, 1) := by decide +kernel
theorem dX5_go_39 : decode cX5_go 39 = .ok (.aload_n 0, 1) := by decide +kernel
theorem dX5_go_40 : decode cX5_go 40 = .ok (.iload_n 1, 1) := by decide +kernel
theorem dX5_go_41 : decode cX5_go 41 = .ok (.invokevirtual 129, 3) := by decide +kernel
theorem dX5_go_44 : decode cX5_go 44 = .ok (.aload_n 0, 1) := by decide +kernel
theorem dX5_go_45 : decode cX5_go 45 = .ok (.iconst 1, 1) := by decide +kernel
theorem dX5_go_46 : decode cX5_go 46 = .ok (.invokevirtual 132, 3) := by decide +kernel
theorem dX5_go_49 : decode cX5_go 49 = .ok (.ireturn, 1) := by decide +kernel
theorem dX5_owedOnes_0 : decode cX5_owedOnes 0 = .ok (.iconst 0, 1) := by decide +kernel
theorem dX5_owedOnes_1 : decode cX5_owedOnes 1 = .ok (.istore_n 1, 1) := by decide +kernel
theorem dX5_owedOnes_2 : decode cX5_owedOnes 2 = .ok (.iconst 0, 1) := by decide +kernel
theorem dX5_owedOnes_3 : decode cX5_owedOnes 3 = .ok (.istore_n 2, 1) := by decide +kernel
theorem dX5_owedOnes_4 : decode cX5_owedOnes 4 = .ok (.iload_n 2, 1) := by decide +kernel
theorem dX5_owedOnes_5 : decode cX5_owedOnes 5 = .ok (.aload_n 0, 1) := by decide +kernel
theorem dX5_owedOnes_6 : decode cX5_owedOnes 6 = .ok (.getfield 7, 3) := by decide +kernel
theorem dX5_owedOnes_9 : decode cX5_owedOnes 9 = .ok (.iconst 0, 1) := by decide +kernel
theorem dX5_owedOnes_10 : decode cX5_owedOnes 10 = .ok (.iaload, 1) := by decide +kernel
theorem dX5_owedOnes_11 : decode cX5_owedOnes 11 = .ok (.if_icmp .ge 28, 3) := by decide +kernel
theorem dX5_owedOnes_14 : decode cX5_owedOnes 14 = .ok (.iload_n 1, 1) := by decide +kernel
theorem dX5_owedOnes_15 : decode cX5_owedOnes 15 = .ok (.aload_n 0, 1) := by decide +kernel
theorem dX5_owedOnes_16 : decode cX5_owedOnes 16 = .ok (.iload_n 2, 1) := by decide +kernel
theorem dX5_owedOnes_17 : decode cX5_owedOnes 17 = .ok (.iconst 1, 1) := by decide +kernel
theorem dX5_owedOnes_18 : decode cX5_owedOnes 18 = .ok (.invokevirtual 73, 3) := by decide +kernel
theorem dX5_owedOnes_21 : decode cX5_owedOnes 21 = .ok (.ifCond .le 9, 3) := by decide +kernel
theorem dX5_owedOnes_24 : decode cX5_owedOnes 24 = .ok (.iconst 1, 1) := by decide +kernel
theorem dX5_owedOnes_25 : decode cX5_owedOnes 25 = .ok (.iload_n 2, 1) := by decide +kernel
theorem dX5_owedOnes_26 : decode cX5_owedOnes 26 = .ok (.ishl, 1) := by decide +kernel
theorem dX5_owedOnes_27 : decode cX5_owedOnes 27 = .ok (.goto 4, 3) := by decide +kernel
theorem dX5_owedOnes_30 : decode cX5_owedOnes 30 = .ok (.iconst 0, 1) := by decide +kernel
theorem dX5_owedOnes_31 : decode cX5_owedOnes 31 = .ok (.ior, 1) := by decide +kernel
theorem dX5_owedOnes_32 : decode cX5_owedOnes 32 = .ok (.istore_n 1, 1) := by decide +kernel
theorem dX5_owedOnes_33 : decode cX5_owedOnes 33 = .ok (.iinc 2 1, 3) := by decide +kernel
theorem dX5_owedOnes_36 : decode cX5_owedOnes 36 = .ok (.goto (-32), 3) := by decide +kernel
theorem dX5_owedOnes_39 : decode cX5_owedOnes 39 = .ok (.iload_n 1, 1) := by decide +kernel
theorem dX5_owedOnes_40 : decode cX5_owedOnes 40 = .ok (.ireturn, 1) := by decide +kernel
theorem dX5_now_0 : decode cX5_now 0 = .ok (.iload_n 1, 1) := by decide +kernel
theorem dX5_now_1 : decode cX5_now 1 = .ok (.tableswitch 103 0 7 #[47, 54, 60, 66, 73, 78, 84, 90], 47) := by decide +kernel
theorem dX5_now_48 : decode cX5_now 48 = .ok (.aload_n 0, 1) := by decide +kernel
theorem dX5_now_49 : decode cX5_now 49 = .ok (.getfield 7, 3) := by decide +kernel
theorem dX5_now_52 : decode cX5_now 52 = .ok (.iconst 1, 1) := by decide +kernel
theorem dX5_now_53 : decode cX5_now 53 = .ok (.iaload, 1) := by decide +kernel
theorem dX5_now_54 : decode cX5_now 54 = .ok (.ireturn, 1) := by decide +kernel
theorem dX5_now_55 : decode cX5_now 55 = .ok (.aload_n 0, 1) := by decide +kernel
theorem dX5_now_56 : decode cX5_now 56 = .ok (.iconst 1, 1) := by decide +kernel
theorem dX5_now_57 : decode cX5_now 57 = .ok (.invokevirtual 132, 3) := by decide +kernel
theorem dX5_now_60 : decode cX5_now 60 = .ok (.ireturn, 1) := by decide +kernel
theorem dX5_now_61 : decode cX5_now 61 = .ok (.aload_n 0, 1) := by decide +kernel
theorem dX5_now_62 : decode cX5_now 62 = .ok (.iconst 3, 1) := by decide +kernel
theorem dX5_now_63 : decode cX5_now 63 = .ok (.invokevirtual 132, 3) := by decide +kernel
theorem dX5_now_66 : decode cX5_now 66 = .ok (.ireturn, 1) := by decide +kernel
theorem dX5_now_67 : decode cX5_now 67 = .ok (.aload_n 0, 1) := by decide +kernel
theorem dX5_now_68 : decode cX5_now 68 = .ok (.getfield 7, 3) := by decide +kernel
theorem dX5_now_71 : decode cX5_now 71 = .ok (.iconst 3, 1) := by decide +kernel
theorem dX5_now_72 : decode cX5_now 72 = .ok (.iaload, 1) := by decide +kernel
theorem dX5_now_73 : decode cX5_now 73 = .ok (.ireturn, 1) := by decide +kernel
theorem dX5_now_74 : decode cX5_now 74 = .ok (.aload_n 0, 1) := by decide +kernel
theorem dX5_now_75 : decode cX5_now 75 = .ok (.invokevirtual 135, 3) := by decide +kernel
theorem dX5_now_78 : decode cX5_now 78 = .ok (.ireturn, 1) := by decide +kernel
theorem dX5_now_79 : decode cX5_now 79 = .ok (.aload_n 0, 1) := by decide +kernel
theorem dX5_now_80 : decode cX5_now 80 = .ok (.iconst (-1), 1) := by decide +kernel
theorem dX5_now_81 : decode cX5_now 81 = .ok (.invokevirtual 105, 3) := by decide +kernel
theorem dX5_now_84 : decode cX5_now 84 = .ok (.ireturn, 1) := by decide +kernel
theorem dX5_now_85 : decode cX5_now 85 = .ok (.aload_n 0, 1) := by decide +kernel
theorem dX5_now_86 : decode cX5_now 86 = .ok (.iconst 4, 1) := by decide +kernel
theorem dX5_now_87 : decode cX5_now 87 = .ok (.invokevirtual 132, 3) := by decide +kernel
theorem dX5_now_90 : decode cX5_now 90 = .ok (.ireturn, 1) := by decide +kernel
theorem dX5_now_91 : decode cX5_now 91 = .ok (.aload_n 0, 1) := by decide +kernel
theorem dX5_now_92 : decode cX5_now 92 = .ok (.invokevirtual 135, 3) := by decide +kernel
theorem dX5_now_95 : decode cX5_now 95 = .ok (.ifCond .ne 7, 3) := by decide +kernel
theorem dX5_now_98 : decode cX5_now 98 = .ok (.iconst 1, 1) := by decide +kernel
theorem dX5_now_99 : decode cX5_now 99 = .ok (.goto 4, 3) := by decide +kernel
theorem dX5_now_102 : decode cX5_now 102 = .ok (.iconst 0, 1) := by decide +kernel
theorem dX5_now_103 : decode cX5_now 103 = .ok (.ireturn, 1) := by decide +kernel
theorem dX5_now_104 : decode cX5_now 104 = .ok (.aload_n 0, 1) := by decide +kernel
theorem dX5_now_105 : decode cX5_now 105 = .ok (.ldc 37, 2) := by decide +kernel
theorem dX5_now_107 : decode cX5_now 107 = .ok (.invokevirtual 39, 3) := by decide +kernel
theorem dX5_now_110 : decode cX5_now 110 = .ok (.ireturn, 1) := by decide +kernel
theorem dX5_thenAt_0 : decode cX5_thenAt 0 = .ok (.aload_n 0, 1) := by decide +kernel
theorem dX5_thenAt_1 : decode cX5_thenAt 1 = .ok (.getfield 7, 3) := by decide +kernel
theorem dX5_thenAt_4 : decode cX5_thenAt 4 = .ok (.aload_n 0, 1) := by decide +kernel
theorem dX5_thenAt_5 : decode cX5_thenAt 5 = .ok (.getfield 19, 3) := by decide +kernel
theorem dX5_thenAt_8 : decode cX5_thenAt 8 = .ok (.invokestatic 139, 3) := by decide +kernel
theorem dX5_thenAt_11 : decode cX5_thenAt 11 = .ok (.aload_n 0, 1) := by decide +kernel
theorem dX5_thenAt_12 : decode cX5_thenAt 12 = .ok (.iload_n 2, 1) := by decide +kernel
theorem dX5_thenAt_13 : decode cX5_thenAt 13 = .ok (.invokevirtual 129, 3) := by decide +kernel
theorem dX5_thenAt_16 : decode cX5_thenAt 16 = .ok (.aload_n 0, 1) := by decide +kernel
theorem dX5_thenAt_17 : decode cX5_thenAt 17 = .ok (.getfield 7, 3) := by decide +kernel
theorem dX5_thenAt_20 : decode cX5_thenAt 20 = .ok (.iload_n 1, 1) := by decide +kernel
theorem dX5_thenAt_21 : decode cX5_thenAt 21 = .ok (.iaload, 1) := by decide +kernel
theorem dX5_thenAt_22 : decode cX5_thenAt 22 = .ok (.istore_n 3, 1) := by decide +kernel
theorem dX5_thenAt_23 : decode cX5_thenAt 23 = .ok (.aload_n 0, 1) := by decide +kernel
theorem dX5_thenAt_24 : decode cX5_thenAt 24 = .ok (.getfield 19, 3) := by decide +kernel
theorem dX5_thenAt_27 : decode cX5_thenAt 27 = .ok (.aload_n 0, 1) := by decide +kernel
theorem dX5_thenAt_28 : decode cX5_thenAt 28 = .ok (.getfield 7, 3) := by decide +kernel
theorem dX5_thenAt_31 : decode cX5_thenAt 31 = .ok (.invokestatic 139, 3) := by decide +kernel
theorem dX5_thenAt_34 : decode cX5_thenAt 34 = .ok (.iload_n 3, 1) := by decide +kernel
theorem dX5_thenAt_35 : decode cX5_thenAt 35 = .ok (.ireturn, 1) := by decide +kernel
theorem dX5_ahead_0 : decode cX5_ahead 0 = .ok (.aload_n 0, 1) := by decide +kernel
theorem dX5_ahead_1 : decode cX5_ahead 1 = .ok (.iload_n 1, 1) := by decide +kernel
theorem dX5_ahead_2 : decode cX5_ahead 2 = .ok (.invokevirtual 85, 3) := by decide +kernel
theorem dX5_ahead_5 : decode cX5_ahead 5 = .ok (.ifCond .eq 34, 3) := by decide +kernel
theorem dX5_ahead_8 : decode cX5_ahead 8 = .ok (.iload_n 2, 1) := by decide +kernel
theorem dX5_ahead_9 : decode cX5_ahead 9 = .ok (.iconst 1, 1) := by decide +kernel
theorem dX5_ahead_10 : decode cX5_ahead 10 = .ok (.if_icmp .eq 13, 3) := by decide +kernel
theorem dX5_ahead_13 : decode cX5_ahead 13 = .ok (.iload_n 2, 1) := by decide +kernel
theorem dX5_ahead_14 : decode cX5_ahead 14 = .ok (.iconst 3, 1) := by decide +kernel
theorem dX5_ahead_15 : decode cX5_ahead 15 = .ok (.if_icmp .eq 8, 3) := by decide +kernel
theorem dX5_ahead_18 : decode cX5_ahead 18 = .ok (.iload_n 2, 1) := by decide +kernel
theorem dX5_ahead_19 : decode cX5_ahead 19 = .ok (.iconst 4, 1) := by decide +kernel
theorem dX5_ahead_20 : decode cX5_ahead 20 = .ok (.if_icmp .ne 19, 3) := by decide +kernel
theorem dX5_ahead_23 : decode cX5_ahead 23 = .ok (.iload_n 3, 1) := by decide +kernel
theorem dX5_ahead_24 : decode cX5_ahead 24 = .ok (.i2l, 1) := by decide +kernel
theorem dX5_ahead_25 : decode cX5_ahead 25 = .ok (.lconst 0, 1) := by decide +kernel
theorem dX5_ahead_26 : decode cX5_ahead 26 = .ok (.ldc2_w 143, 3) := by decide +kernel
theorem dX5_ahead_29 : decode cX5_ahead 29 = .ok (.invokestatic 45, 3) := by decide +kernel
theorem dX5_ahead_32 : decode cX5_ahead 32 = .ok (.ifCond .eq 7, 3) := by decide +kernel
theorem dX5_ahead_35 : decode cX5_ahead 35 = .ok (.iconst 1, 1) := by decide +kernel
theorem dX5_ahead_36 : decode cX5_ahead 36 = .ok (.goto 4, 3) := by decide +kernel
theorem dX5_ahead_39 : decode cX5_ahead 39 = .ok (.iconst 0, 1) := by decide +kernel
theorem dX5_ahead_40 : decode cX5_ahead 40 = .ok (.istore 4, 2) := by decide +kernel
theorem dX5_ahead_42 : decode cX5_ahead 42 = .ok (.iload 4, 2) := by decide +kernel
theorem dX5_ahead_44 : decode cX5_ahead 44 = .ok (.ifCond .eq 16, 3) := by decide +kernel
theorem dX5_ahead_47 : decode cX5_ahead 47 = .ok (.aload_n 0, 1) := by decide +kernel
theorem dX5_ahead_48 : decode cX5_ahead 48 = .ok (.iload_n 1, 1) := by decide +kernel
theorem dX5_ahead_49 : decode cX5_ahead 49 = .ok (.iload_n 2, 1) := by decide +kernel
theorem dX5_ahead_50 : decode cX5_ahead 50 = .ok (.invokestatic 61, 3) := by decide +kernel
theorem dX5_ahead_53 : decode cX5_ahead 53 = .ok (.iload_n 3, 1) := by decide +kernel
theorem dX5_ahead_54 : decode cX5_ahead 54 = .ok (.invokevirtual 145, 3) := by decide +kernel
theorem dX5_ahead_57 : decode cX5_ahead 57 = .ok (.goto 9, 3) := by decide +kernel
theorem dX5_ahead_60 : decode cX5_ahead 60 = .ok (.aload_n 0, 1) := by decide +kernel
theorem dX5_ahead_61 : decode cX5_ahead 61 = .ok (.ldc 37, 2) := by decide +kernel
theorem dX5_ahead_63 : decode cX5_ahead 63 = .ok (.invokevirtual 39, 3) := by decide +kernel
theorem dX5_ahead_66 : decode cX5_ahead 66 = .ok (.ireturn, 1) := by decide +kernel
theorem dX5_hints_0 : decode cX5_hints 0 = .ok (.iload_n 1, 1) := by decide +kernel
theorem dX5_hints_1 : decode cX5_hints 1 = .ok (.i2l, 1) := by decide +kernel
theorem dX5_hints_2 : decode cX5_hints 2 = .ok (.lconst 0, 1) := by decide +kernel
theorem dX5_hints_3 : decode cX5_hints 3 = .ok (.ldc2_w 143, 3) := by decide +kernel
theorem dX5_hints_6 : decode cX5_hints 6 = .ok (.invokestatic 45, 3) := by decide +kernel
theorem dX5_hints_9 : decode cX5_hints 9 = .ok (.ifCond .eq 12, 3) := by decide +kernel
theorem dX5_hints_12 : decode cX5_hints 12 = .ok (.aload_n 0, 1) := by decide +kernel
theorem dX5_hints_13 : decode cX5_hints 13 = .ok (.iconst 3, 1) := by decide +kernel
theorem dX5_hints_14 : decode cX5_hints 14 = .ok (.iload_n 1, 1) := by decide +kernel
theorem dX5_hints_15 : decode cX5_hints 15 = .ok (.invokevirtual 145, 3) := by decide +kernel
theorem dX5_hints_18 : decode cX5_hints 18 = .ok (.goto 9, 3) := by decide +kernel
theorem dX5_hints_21 : decode cX5_hints 21 = .ok (.aload_n 0, 1) := by decide +kernel
theorem dX5_hints_22 : decode cX5_hints 22 = .ok (.ldc 37, 2) := by decide +kernel
theorem dX5_hints_24 : decode cX5_hints 24 = .ok (.invokevirtual 39, 3) := by decide +kernel
theorem dX5_hints_27 : decode cX5_hints 27 = .ok (.ireturn, 1) := by decide +kernel
theorem dX5_even_0 : decode cX5_even 0 = .ok (.aload_n 0, 1) := by decide +kernel
theorem dX5_even_1 : decode cX5_even 1 = .ok (.getfield 7, 3) := by decide +kernel
theorem dX5_even_4 : decode cX5_even 4 = .ok (.aload_n 0, 1) := by decide +kernel
theorem dX5_even_5 : decode cX5_even 5 = .ok (.getfield 19, 3) := by decide +kernel
theorem dX5_even_8 : decode cX5_even 8 = .ok (.invokestatic 139, 3) := by decide +kernel
theorem dX5_even_11 : decode cX5_even 11 = .ok (.iconst 0, 1) := by decide +kernel
theorem dX5_even_12 : decode cX5_even 12 = .ok (.istore_n 1, 1) := by decide +kernel
theorem dX5_even_13 : decode cX5_even 13 = .ok (.iload_n 1, 1) := by decide +kernel
theorem dX5_even_14 : decode cX5_even 14 = .ok (.sipush 200, 3) := by decide +kernel
theorem dX5_even_17 : decode cX5_even 17 = .ok (.if_icmp .gt 21, 3) := by decide +kernel
theorem dX5_even_20 : decode cX5_even 20 = .ok (.aload_n 0, 1) := by decide +kernel
theorem dX5_even_21 : decode cX5_even 21 = .ok (.invokevirtual 135, 3) := by decide +kernel
theorem dX5_even_24 : decode cX5_even 24 = .ok (.ifCond .eq 14, 3) := by decide +kernel
theorem dX5_even_27 : decode cX5_even 27 = .ok (.aload_n 0, 1) := by decide +kernel
theorem dX5_even_28 : decode cX5_even 28 = .ok (.iconst 0, 1) := by decide +kernel
theorem dX5_even_29 : decode cX5_even 29 = .ok (.invokevirtual 123, 3) := by decide +kernel
theorem dX5_even_32 : decode cX5_even 32 = .ok (.iinc 1 1, 3) := by decide +kernel
theorem dX5_even_35 : decode cX5_even 35 = .ok (.goto (-22), 3) := by decide +kernel
theorem dX5_even_38 : decode cX5_even 38 = .ok (.aload_n 0, 1) := by decide +kernel
theorem dX5_even_39 : decode cX5_even 39 = .ok (.getfield 19, 3) := by decide +kernel
theorem dX5_even_42 : decode cX5_even 42 = .ok (.aload_n 0, 1) := by decide +kernel
theorem dX5_even_43 : decode cX5_even 43 = .ok (.getfield 7, 3) := by decide +kernel
theorem dX5_even_46 : decode cX5_even 46 = .ok (.invokestatic 139, 3) := by decide +kernel
theorem dX5_even_49 : decode cX5_even 49 = .ok (.iload_n 1, 1) := by decide +kernel
theorem dX5_even_50 : decode cX5_even 50 = .ok (.sipush 200, 3) := by decide +kernel
theorem dX5_even_53 : decode cX5_even 53 = .ok (.if_icmp .gt 7, 3) := by decide +kernel
theorem dX5_even_56 : decode cX5_even 56 = .ok (.iload_n 1, 1) := by decide +kernel
theorem dX5_even_57 : decode cX5_even 57 = .ok (.goto 9, 3) := by decide +kernel
theorem dX5_even_60 : decode cX5_even 60 = .ok (.aload_n 0, 1) := by decide +kernel
theorem dX5_even_61 : decode cX5_even 61 = .ok (.ldc 38, 2) := by decide +kernel
theorem dX5_even_63 : decode cX5_even 63 = .ok (.invokevirtual 39, 3) := by decide +kernel
theorem dX5_even_66 : decode cX5_even 66 = .ok (.ireturn, 1) := by decide +kernel
theorem dX5_when_0 : decode cX5_when 0 = .ok (.aload_n 0, 1) := by decide +kernel
theorem dX5_when_1 : decode cX5_when 1 = .ok (.iload_n 1, 1) := by decide +kernel
theorem dX5_when_2 : decode cX5_when 2 = .ok (.invokevirtual 85, 3) := by decide +kernel
theorem dX5_when_5 : decode cX5_when 5 = .ok (.ifCond .eq 15, 3) := by decide +kernel
theorem dX5_when_8 : decode cX5_when 8 = .ok (.iload_n 2, 1) := by decide +kernel
theorem dX5_when_9 : decode cX5_when 9 = .ok (.i2l, 1) := by decide +kernel
theorem dX5_when_10 : decode cX5_when 10 = .ok (.lconst 0, 1) := by decide +kernel
theorem dX5_when_11 : decode cX5_when 11 = .ok (.ldc2_w 148, 3) := by decide +kernel
theorem dX5_when_14 : decode cX5_when 14 = .ok (.invokestatic 45, 3) := by decide +kernel
theorem dX5_when_17 : decode cX5_when 17 = .ok (.ifCond .ne 10, 3) := by decide +kernel
theorem dX5_when_20 : decode cX5_when 20 = .ok (.aload_n 0, 1) := by decide +kernel
theorem dX5_when_21 : decode cX5_when 21 = .ok (.ldc 37, 2) := by decide +kernel
theorem dX5_when_23 : decode cX5_when 23 = .ok (.invokevirtual 39, 3) := by decide +kernel
theorem dX5_when_26 : decode cX5_when 26 = .ok (.ireturn, 1) := by decide +kernel
theorem dX5_when_27 : decode cX5_when 27 = .ok (.aload_n 0, 1) := by decide +kernel
theorem dX5_when_28 : decode cX5_when 28 = .ok (.getfield 7, 3) := by decide +kernel
theorem dX5_when_31 : decode cX5_when 31 = .ok (.aload_n 0, 1) := by decide +kernel
theorem dX5_when_32 : decode cX5_when 32 = .ok (.getfield 19, 3) := by decide +kernel
theorem dX5_when_35 : decode cX5_when 35 = .ok (.invokestatic 139, 3) := by decide +kernel
theorem dX5_when_38 : decode cX5_when 38 = .ok (.iconst 0, 1) := by decide +kernel
theorem dX5_when_39 : decode cX5_when 39 = .ok (.istore_n 3, 1) := by decide +kernel
theorem dX5_when_40 : decode cX5_when 40 = .ok (.iload_n 3, 1) := by decide +kernel
theorem dX5_when_41 : decode cX5_when 41 = .ok (.sipush 200, 3) := by decide +kernel
theorem dX5_when_44 : decode cX5_when 44 = .ok (.if_icmp .gt 24, 3) := by decide +kernel
theorem dX5_when_47 : decode cX5_when 47 = .ok (.aload_n 0, 1) := by decide +kernel
theorem dX5_when_48 : decode cX5_when 48 = .ok (.iload_n 1, 1) := by decide +kernel
theorem dX5_when_49 : decode cX5_when 49 = .ok (.iconst 3, 1) := by decide +kernel
theorem dX5_when_50 : decode cX5_when 50 = .ok (.invokevirtual 73, 3) := by decide +kernel
theorem dX5_when_53 : decode cX5_when 53 = .ok (.iload_n 2, 1) := by decide +kernel
theorem dX5_when_54 : decode cX5_when 54 = .ok (.if_icmp .ge 14, 3) := by decide +kernel
theorem dX5_when_57 : decode cX5_when 57 = .ok (.aload_n 0, 1) := by decide +kernel
theorem dX5_when_58 : decode cX5_when 58 = .ok (.iconst 0, 1) := by decide +kernel
theorem dX5_when_59 : decode cX5_when 59 = .ok (.invokevirtual 123, 3) := by decide +kernel
theorem dX5_when_62 : decode cX5_when 62 = .ok (.iinc 3 1, 3) := by decide +kernel
theorem dX5_when_65 : decode cX5_when 65 = .ok (.goto (-25), 3) := by decide +kernel
theorem dX5_when_68 : decode cX5_when 68 = .ok (.aload_n 0, 1) := by decide +kernel
theorem dX5_when_69 : decode cX5_when 69 = .ok (.getfield 19, 3) := by decide +kernel
theorem dX5_when_72 : decode cX5_when 72 = .ok (.aload_n 0, 1) := by decide +kernel
theorem dX5_when_73 : decode cX5_when 73 = .ok (.getfield 7, 3) := by decide +kernel
theorem dX5_when_76 : decode cX5_when 76 = .ok (.invokestatic 139, 3) := by decide +kernel
theorem dX5_when_79 : decode cX5_when 79 = .ok (.iload_n 3, 1) := by decide +kernel
theorem dX5_when_80 : decode cX5_when 80 = .ok (.sipush 200, 3) := by decide +kernel
theorem dX5_when_83 : decode cX5_when 83 = .ok (.if_icmp .gt 7, 3) := by decide +kernel
theorem dX5_when_86 : decode cX5_when 86 = .ok (.iload_n 3, 1) := by decide +kernel
theorem dX5_when_87 : decode cX5_when 87 = .ok (.goto 9, 3) := by decide +kernel
theorem dX5_when_90 : decode cX5_when 90 = .ok (.aload_n 0, 1) := by decide +kernel
theorem dX5_when_91 : decode cX5_when 91 = .ok (.ldc 38, 2) := by decide +kernel
theorem dX5_when_93 : decode cX5_when 93 = .ok (.invokevirtual 39, 3) := by decide +kernel
theorem dX5_when_96 : decode cX5_when 96 = .ok (.ireturn, 1) := by decide +kernel
theorem dX5_clean_0 : decode cX5_clean 0 = .ok (.aload_n 0, 1) := by decide +kernel
theorem dX5_clean_1 : decode cX5_clean 1 = .ok (.iload_n 1, 1) := by decide +kernel
theorem dX5_clean_2 : decode cX5_clean 2 = .ok (.invokevirtual 85, 3) := by decide +kernel
theorem dX5_clean_5 : decode cX5_clean 5 = .ok (.ifCond .ne 10, 3) := by decide +kernel
theorem dX5_clean_8 : decode cX5_clean 8 = .ok (.aload_n 0, 1) := by decide +kernel
theorem dX5_clean_9 : decode cX5_clean 9 = .ok (.ldc 37, 2) := by decide +kernel
theorem dX5_clean_11 : decode cX5_clean 11 = .ok (.invokevirtual 39, 3) := by decide +kernel
theorem dX5_clean_14 : decode cX5_clean 14 = .ok (.ireturn, 1) := by decide +kernel
theorem dX5_clean_15 : decode cX5_clean 15 = .ok (.aload_n 0, 1) := by decide +kernel
theorem dX5_clean_16 : decode cX5_clean 16 = .ok (.getfield 7, 3) := by decide +kernel
theorem dX5_clean_19 : decode cX5_clean 19 = .ok (.aload_n 0, 1) := by decide +kernel
theorem dX5_clean_20 : decode cX5_clean 20 = .ok (.getfield 19, 3) := by decide +kernel
theorem dX5_clean_23 : decode cX5_clean 23 = .ok (.invokestatic 139, 3) := by decide +kernel
theorem dX5_clean_26 : decode cX5_clean 26 = .ok (.iconst 0, 1) := by decide +kernel
theorem dX5_clean_27 : decode cX5_clean 27 = .ok (.istore_n 2, 1) := by decide +kernel
theorem dX5_clean_28 : decode cX5_clean 28 = .ok (.iload_n 2, 1) := by decide +kernel
theorem dX5_clean_29 : decode cX5_clean 29 = .ok (.sipush 200, 3) := by decide +kernel
theorem dX5_clean_32 : decode cX5_clean 32 = .ok (.if_icmp .gt 23, 3) := by decide +kernel
theorem dX5_clean_35 : decode cX5_clean 35 = .ok (.aload_n 0, 1) := by decide +kernel
theorem dX5_clean_36 : decode cX5_clean 36 = .ok (.iload_n 1, 1) := by decide +kernel
theorem dX5_clean_37 : decode cX5_clean 37 = .ok (.iconst 3, 1) := by decide +kernel
theorem dX5_clean_38 : decode cX5_clean 38 = .ok (.invokevirtual 73, 3) := by decide +kernel
theorem dX5_clean_41 : decode cX5_clean 41 = .ok (.ifCond .le 14, 3) := by decide +kernel
theorem dX5_clean_44 : decode cX5_clean 44 = .ok (.aload_n 0, 1) := by decide +kernel
theorem dX5_clean_45 : decode cX5_clean 45 = .ok (.iconst 0, 1) := by decide +kernel
theorem dX5_clean_46 : decode cX5_clean 46 = .ok (.invokevirtual 123, 3) := by decide +kernel
theorem dX5_clean_49 : decode cX5_clean 49 = .ok (.iinc 2 1, 3) := by decide +kernel
theorem dX5_clean_52 : decode cX5_clean 52 = .ok (.goto (-24), 3) := by decide +kernel
theorem dX5_clean_55 : decode cX5_clean 55 = .ok (.aload_n 0, 1) := by decide +kernel
theorem dX5_clean_56 : decode cX5_clean 56 = .ok (.getfield 19, 3) := by decide +kernel
theorem dX5_clean_59 : decode cX5_clean 59 = .ok (.aload_n 0, 1) := by decide +kernel
theorem dX5_clean_60 : decode cX5_clean 60 = .ok (.getfield 7, 3) := by decide +kernel
theorem dX5_clean_63 : decode cX5_clean 63 = .ok (.invokestatic 139, 3) := by decide +kernel
theorem dX5_clean_66 : decode cX5_clean 66 = .ok (.iload_n 2, 1) := by decide +kernel
theorem dX5_clean_67 : decode cX5_clean 67 = .ok (.sipush 200, 3) := by decide +kernel
theorem dX5_clean_70 : decode cX5_clean 70 = .ok (.if_icmp .gt 7, 3) := by decide +kernel
theorem dX5_clean_73 : decode cX5_clean 73 = .ok (.iload_n 2, 1) := by decide +kernel
theorem dX5_clean_74 : decode cX5_clean 74 = .ok (.goto 9, 3) := by decide +kernel
theorem dX5_clean_77 : decode cX5_clean 77 = .ok (.aload_n 0, 1) := by decide +kernel
theorem dX5_clean_78 : decode cX5_clean 78 = .ok (.ldc 38, 2) := by decide +kernel
theorem dX5_clean_80 : decode cX5_clean 80 = .ok (.invokevirtual 39, 3) := by decide +kernel
theorem dX5_clean_83 : decode cX5_clean 83 = .ok (.ireturn, 1) := by decide +kernel
theorem dX5_nextPlace_0 : decode cX5_nextPlace 0 = .ok (.iconst 4, 1) := by decide +kernel
theorem dX5_nextPlace_1 : decode cX5_nextPlace 1 = .ok (.aload_n 0, 1) := by decide +kernel
theorem dX5_nextPlace_2 : decode cX5_nextPlace 2 = .ok (.getfield 7, 3) := by decide +kernel
theorem dX5_nextPlace_5 : decode cX5_nextPlace 5 = .ok (.iconst 1, 1) := by decide +kernel
theorem dX5_nextPlace_6 : decode cX5_nextPlace 6 = .ok (.iaload, 1) := by decide +kernel
theorem dX5_nextPlace_7 : decode cX5_nextPlace 7 = .ok (.bipush 6, 2) := by decide +kernel
theorem dX5_nextPlace_9 : decode cX5_nextPlace 9 = .ok (.irem, 1) := by decide +kernel
theorem dX5_nextPlace_10 : decode cX5_nextPlace 10 = .ok (.iadd, 1) := by decide +kernel
theorem dX5_nextPlace_11 : decode cX5_nextPlace 11 = .ok (.ireturn, 1) := by decide +kernel
theorem dX5_whom_0 : decode cX5_whom 0 = .ok (.iload_n 1, 1) := by decide +kernel
theorem dX5_whom_1 : decode cX5_whom 1 = .ok (.i2l, 1) := by decide +kernel
theorem dX5_whom_2 : decode cX5_whom 2 = .ok (.lconst 0, 1) := by decide +kernel
theorem dX5_whom_3 : decode cX5_whom 3 = .ok (.ldc2_w 150, 3) := by decide +kernel
theorem dX5_whom_6 : decode cX5_whom 6 = .ok (.invokestatic 45, 3) := by decide +kernel
theorem dX5_whom_9 : decode cX5_whom 9 = .ok (.ifCond .ne 10, 3) := by decide +kernel
theorem dX5_whom_12 : decode cX5_whom 12 = .ok (.aload_n 0, 1) := by decide +kernel
theorem dX5_whom_13 : decode cX5_whom 13 = .ok (.ldc 37, 2) := by decide +kernel
theorem dX5_whom_15 : decode cX5_whom 15 = .ok (.invokevirtual 39, 3) := by decide +kernel
theorem dX5_whom_18 : decode cX5_whom 18 = .ok (.ireturn, 1) := by decide +kernel
theorem dX5_whom_19 : decode cX5_whom 19 = .ok (.aload_n 0, 1) := by decide +kernel
theorem dX5_whom_20 : decode cX5_whom 20 = .ok (.invokevirtual 152, 3) := by decide +kernel
theorem dX5_whom_23 : decode cX5_whom 23 = .ok (.istore_n 2, 1) := by decide +kernel
theorem dX5_whom_24 : decode cX5_whom 24 = .ok (.iconst (-1), 1) := by decide +kernel
theorem dX5_whom_25 : decode cX5_whom 25 = .ok (.istore_n 3, 1) := by decide +kernel
theorem dX5_whom_26 : decode cX5_whom 26 = .ok (.iconst 0, 1) := by decide +kernel
theorem dX5_whom_27 : decode cX5_whom 27 = .ok (.istore 4, 2) := by decide +kernel
theorem dX5_whom_29 : decode cX5_whom 29 = .ok (.aload_n 0, 1) := by decide +kernel
theorem dX5_whom_30 : decode cX5_whom 30 = .ok (.getfield 7, 3) := by decide +kernel
theorem dX5_whom_33 : decode cX5_whom 33 = .ok (.aload_n 0, 1) := by decide +kernel
theorem dX5_whom_34 : decode cX5_whom 34 = .ok (.getfield 19, 3) := by decide +kernel
theorem dX5_whom_37 : decode cX5_whom 37 = .ok (.invokestatic 139, 3) := by decide +kernel
theorem dX5_whom_40 : decode cX5_whom 40 = .ok (.iconst 0, 1) := by decide +kernel
theorem dX5_whom_41 : decode cX5_whom 41 = .ok (.istore 5, 2) := by decide +kernel
theorem dX5_whom_43 : decode cX5_whom 43 = .ok (.iload 5, 2) := by decide +kernel
theorem dX5_whom_45 : decode cX5_whom 45 = .ok (.aload_n 0, 1) := by decide +kernel
theorem dX5_whom_46 : decode cX5_whom 46 = .ok (.getfield 7, 3) := by decide +kernel
theorem dX5_whom_49 : decode cX5_whom 49 = .ok (.iconst 0, 1) := by decide +kernel
theorem dX5_whom_50 : decode cX5_whom 50 = .ok (.iaload, 1) := by decide +kernel
theorem dX5_whom_51 : decode cX5_whom 51 = .ok (.if_icmp .ge 97, 3) := by decide +kernel
theorem dX5_whom_54 : decode cX5_whom 54 = .ok (.aload_n 0, 1) := by decide +kernel
theorem dX5_whom_55 : decode cX5_whom 55 = .ok (.getfield 7, 3) := by decide +kernel
theorem dX5_whom_58 : decode cX5_whom 58 = .ok (.iload_n 2, 1) := by decide +kernel
theorem dX5_whom_59 : decode cX5_whom 59 = .ok (.bipush 100, 2) := by decide +kernel
theorem dX5_whom_61 : decode cX5_whom 61 = .ok (.iload 5, 2) := by decide +kernel
theorem dX5_whom_63 : decode cX5_whom 63 = .ok (.imul, 1) := by decide +kernel
theorem dX5_whom_64 : decode cX5_whom 64 = .ok (.aload_n 0, 1) := by decide +kernel
theorem dX5_whom_65 : decode cX5_whom 65 = .ok (.getfield 7, 3) := by decide +kernel
theorem dX5_whom_68 : decode cX5_whom 68 = .ok (.iload_n 2, 1) := by decide +kernel
theorem dX5_whom_69 : decode cX5_whom 69 = .ok (.iaload, 1) := by decide +kernel
theorem dX5_whom_70 : decode cX5_whom 70 = .ok (.bipush 100, 2) := by decide +kernel
theorem dX5_whom_72 : decode cX5_whom 72 = .ok (.irem, 1) := by decide +kernel
theorem dX5_whom_73 : decode cX5_whom 73 = .ok (.iadd, 1) := by decide +kernel
theorem dX5_whom_74 : decode cX5_whom 74 = .ok (.iastore, 1) := by decide +kernel
theorem dX5_whom_75 : decode cX5_whom 75 = .ok (.aload_n 0, 1) := by decide +kernel
theorem dX5_whom_76 : decode cX5_whom 76 = .ok (.iload_n 1, 1) := by decide +kernel
theorem dX5_whom_77 : decode cX5_whom 77 = .ok (.invokevirtual 129, 3) := by decide +kernel
theorem dX5_whom_80 : decode cX5_whom 80 = .ok (.aload_n 0, 1) := by decide +kernel
theorem dX5_whom_81 : decode cX5_whom 81 = .ok (.iconst 1, 1) := by decide +kernel
theorem dX5_whom_82 : decode cX5_whom 82 = .ok (.invokevirtual 132, 3) := by decide +kernel
theorem dX5_whom_85 : decode cX5_whom 85 = .ok (.istore 6, 2) := by decide +kernel
theorem dX5_whom_87 : decode cX5_whom 87 = .ok (.aload_n 0, 1) := by decide +kernel
theorem dX5_whom_88 : decode cX5_whom 88 = .ok (.getfield 19, 3) := by decide +kernel
theorem dX5_whom_91 : decode cX5_whom 91 = .ok (.aload_n 0, 1) := by decide +kernel
theorem dX5_whom_92 : decode cX5_whom 92 = .ok (.getfield 7, 3) := by decide +kernel
theorem dX5_whom_95 : decode cX5_whom 95 = .ok (.invokestatic 139, 3) := by decide +kernel
theorem dX5_whom_98 : decode cX5_whom 98 = .ok (.iload_n 3, 1) := by decide +kernel
theorem dX5_whom_99 : decode cX5_whom 99 = .ok (.ifCond .lt 10, 3) := by decide +kernel
theorem dX5_whom_102 : decode cX5_whom 102 = .ok (.iload 6, 2) := by decide +kernel
theorem dX5_whom_104 : decode cX5_whom 104 = .ok (.iload 4, 2) := by decide +kernel
theorem dX5_whom_106 : decode cX5_whom 106 = .ok (.if_icmp .ge 7, 3) := by decide +kernel
theorem dX5_whom_109 : decode cX5_whom 109 = .ok (.iconst 1, 1) := by decide +kernel
theorem dX5_whom_110 : decode cX5_whom 110 = .ok (.goto 4, 3) := by decide +kernel
theorem dX5_whom_113 : decode cX5_whom 113 = .ok (.iconst 0, 1) := by decide +kernel
theorem dX5_whom_114 : decode cX5_whom 114 = .ok (.istore 7, 2) := by decide +kernel
theorem dX5_whom_116 : decode cX5_whom 116 = .ok (.iload 7, 2) := by decide +kernel
theorem dX5_whom_118 : decode cX5_whom 118 = .ok (.ifCond .eq 8, 3) := by decide +kernel
theorem dX5_whom_121 : decode cX5_whom 121 = .ok (.iload 5, 2) := by decide +kernel
theorem dX5_whom_123 : decode cX5_whom 123 = .ok (.goto 4, 3) := by decide +kernel
theorem dX5_whom_126 : decode cX5_whom 126 = .ok (.iload_n 3, 1) := by decide +kernel
theorem dX5_whom_127 : decode cX5_whom 127 = .ok (.istore_n 3, 1) := by decide +kernel
theorem dX5_whom_128 : decode cX5_whom 128 = .ok (.iload 7, 2) := by decide +kernel
theorem dX5_whom_130 : decode cX5_whom 130 = .ok (.ifCond .eq 8, 3) := by decide +kernel
theorem dX5_whom_133 : decode cX5_whom 133 = .ok (.iload 6, 2) := by decide +kernel
theorem dX5_whom_135 : decode cX5_whom 135 = .ok (.goto 5, 3) := by decide +kernel
theorem dX5_whom_138 : decode cX5_whom 138 = .ok (.iload 4, 2) := by decide +kernel
theorem dX5_whom_140 : decode cX5_whom 140 = .ok (.istore 4, 2) := by decide +kernel
theorem dX5_whom_142 : decode cX5_whom 142 = .ok (.iinc 5 1, 3) := by decide +kernel
theorem dX5_whom_145 : decode cX5_whom 145 = .ok (.goto (-102), 3) := by decide +kernel
theorem dX5_whom_148 : decode cX5_whom 148 = .ok (.aload_n 0, 1) := by decide +kernel
theorem dX5_whom_149 : decode cX5_whom 149 = .ok (.iload_n 3, 1) := by decide +kernel
theorem dX5_whom_150 : decode cX5_whom 150 = .ok (.invokevirtual 111, 3) := by decide +kernel
theorem dX5_whom_153 : decode cX5_whom 153 = .ok (.ireturn, 1) := by decide +kernel
theorem dX5_isEvenOnce_0 : decode cX5_isEvenOnce 0 = .ok (.iconst 0, 1) := by decide +kernel
theorem dX5_isEvenOnce_1 : decode cX5_isEvenOnce 1 = .ok (.istore_n 2, 1) := by decide +kernel
theorem dX5_isEvenOnce_2 : decode cX5_isEvenOnce 2 = .ok (.iconst 0, 1) := by decide +kernel
theorem dX5_isEvenOnce_3 : decode cX5_isEvenOnce 3 = .ok (.istore_n 3, 1) := by decide +kernel
theorem dX5_isEvenOnce_4 : decode cX5_isEvenOnce 4 = .ok (.iload_n 3, 1) := by decide +kernel
theorem dX5_isEvenOnce_5 : decode cX5_isEvenOnce 5 = .ok (.iload_n 1, 1) := by decide +kernel
theorem dX5_isEvenOnce_6 : decode cX5_isEvenOnce 6 = .ok (.if_icmp .ge 31, 3) := by decide +kernel
theorem dX5_isEvenOnce_9 : decode cX5_isEvenOnce 9 = .ok (.iload_n 2, 1) := by decide +kernel
theorem dX5_isEvenOnce_10 : decode cX5_isEvenOnce 10 = .ok (.ifCond .ne 27, 3) := by decide +kernel
theorem dX5_isEvenOnce_13 : decode cX5_isEvenOnce 13 = .ok (.aload_n 0, 1) := by decide +kernel
theorem dX5_isEvenOnce_14 : decode cX5_isEvenOnce 14 = .ok (.iconst 0, 1) := by decide +kernel
theorem dX5_isEvenOnce_15 : decode cX5_isEvenOnce 15 = .ok (.invokevirtual 123, 3) := by decide +kernel
theorem dX5_isEvenOnce_18 : decode cX5_isEvenOnce 18 = .ok (.aload_n 0, 1) := by decide +kernel
theorem dX5_isEvenOnce_19 : decode cX5_isEvenOnce 19 = .ok (.invokevirtual 135, 3) := by decide +kernel
theorem dX5_isEvenOnce_22 : decode cX5_isEvenOnce 22 = .ok (.ifCond .ne 7, 3) := by decide +kernel
theorem dX5_isEvenOnce_25 : decode cX5_isEvenOnce 25 = .ok (.iconst 1, 1) := by decide +kernel
theorem dX5_isEvenOnce_26 : decode cX5_isEvenOnce 26 = .ok (.goto 4, 3) := by decide +kernel
theorem dX5_isEvenOnce_29 : decode cX5_isEvenOnce 29 = .ok (.iconst 0, 1) := by decide +kernel
theorem dX5_isEvenOnce_30 : decode cX5_isEvenOnce 30 = .ok (.istore_n 2, 1) := by decide +kernel
theorem dX5_isEvenOnce_31 : decode cX5_isEvenOnce 31 = .ok (.iinc 3 1, 3) := by decide +kernel
theorem dX5_isEvenOnce_34 : decode cX5_isEvenOnce 34 = .ok (.goto (-30), 3) := by decide +kernel
theorem dX5_isEvenOnce_37 : decode cX5_isEvenOnce 37 = .ok (.iload_n 2, 1) := by decide +kernel
theorem dX5_isEvenOnce_38 : decode cX5_isEvenOnce 38 = .ok (.ireturn, 1) := by decide +kernel
theorem dX5_weightFor_0 : decode cX5_weightFor 0 = .ok (.iload_n 1, 1) := by decide +kernel
theorem dX5_weightFor_1 : decode cX5_weightFor 1 = .ok (.i2l, 1) := by decide +kernel
theorem dX5_weightFor_2 : decode cX5_weightFor 2 = .ok (.lconst 1, 1) := by decide +kernel
theorem dX5_weightFor_3 : decode cX5_weightFor 3 = .ok (.ldc2_w 150, 3) := by decide +kernel
theorem dX5_weightFor_6 : decode cX5_weightFor 6 = .ok (.invokestatic 45, 3) := by decide +kernel
theorem dX5_weightFor_9 : decode cX5_weightFor 9 = .ok (.ifCond .ne 10, 3) := by decide +kernel
theorem dX5_weightFor_12 : decode cX5_weightFor 12 = .ok (.aload_n 0, 1) := by decide +kernel
theorem dX5_weightFor_13 : decode cX5_weightFor 13 = .ok (.ldc 37, 2) := by decide +kernel
theorem dX5_weightFor_15 : decode cX5_weightFor 15 = .ok (.invokevirtual 39, 3) := by decide +kernel
theorem dX5_weightFor_18 : decode cX5_weightFor 18 = .ok (.ireturn, 1) := by decide +kernel
theorem dX5_weightFor_19 : decode cX5_weightFor 19 = .ok (.aload_n 0, 1) := by decide +kernel
theorem dX5_weightFor_20 : decode cX5_weightFor 20 = .ok (.invokevirtual 152, 3) := by decide +kernel
theorem dX5_weightFor_23 : decode cX5_weightFor 23 = .ok (.istore_n 2, 1) := by decide +kernel
theorem dX5_weightFor_24 : decode cX5_weightFor 24 = .ok (.iconst (-1), 1) := by decide +kernel
theorem dX5_weightFor_25 : decode cX5_weightFor 25 = .ok (.istore_n 3, 1) := by decide +kernel
theorem dX5_weightFor_26 : decode cX5_weightFor 26 = .ok (.aload_n 0, 1) := by decide +kernel
theorem dX5_weightFor_27 : decode cX5_weightFor 27 = .ok (.getfield 7, 3) := by decide +kernel
theorem dX5_weightFor_30 : decode cX5_weightFor 30 = .ok (.aload_n 0, 1) := by decide +kernel
theorem dX5_weightFor_31 : decode cX5_weightFor 31 = .ok (.getfield 19, 3) := by decide +kernel
theorem dX5_weightFor_34 : decode cX5_weightFor 34 = .ok (.invokestatic 139, 3) := by decide +kernel
theorem dX5_weightFor_37 : decode cX5_weightFor 37 = .ok (.bipush 20, 2) := by decide +kernel
theorem dX5_weightFor_39 : decode cX5_weightFor 39 = .ok (.istore 4, 2) := by decide +kernel
theorem dX5_weightFor_41 : decode cX5_weightFor 41 = .ok (.iload 4, 2) := by decide +kernel
theorem dX5_weightFor_43 : decode cX5_weightFor 43 = .ok (.ifCond .lt 60, 3) := by decide +kernel
theorem dX5_weightFor_46 : decode cX5_weightFor 46 = .ok (.iload_n 3, 1) := by decide +kernel
theorem dX5_weightFor_47 : decode cX5_weightFor 47 = .ok (.ifCond .ge 56, 3) := by decide +kernel
theorem dX5_weightFor_50 : decode cX5_weightFor 50 = .ok (.aload_n 0, 1) := by decide +kernel
theorem dX5_weightFor_51 : decode cX5_weightFor 51 = .ok (.getfield 7, 3) := by decide +kernel
theorem dX5_weightFor_54 : decode cX5_weightFor 54 = .ok (.iload_n 2, 1) := by decide +kernel
theorem dX5_weightFor_55 : decode cX5_weightFor 55 = .ok (.aload_n 0, 1) := by decide +kernel
theorem dX5_weightFor_56 : decode cX5_weightFor 56 = .ok (.getfield 7, 3) := by decide +kernel
theorem dX5_weightFor_59 : decode cX5_weightFor 59 = .ok (.iload_n 2, 1) := by decide +kernel
theorem dX5_weightFor_60 : decode cX5_weightFor 60 = .ok (.iaload, 1) := by decide +kernel
theorem dX5_weightFor_61 : decode cX5_weightFor 61 = .ok (.bipush 100, 2) := by decide +kernel
theorem dX5_weightFor_63 : decode cX5_weightFor 63 = .ok (.idiv, 1) := by decide +kernel
theorem dX5_weightFor_64 : decode cX5_weightFor 64 = .ok (.bipush 100, 2) := by decide +kernel
theorem dX5_weightFor_66 : decode cX5_weightFor 66 = .ok (.imul, 1) := by decide +kernel
theorem dX5_weightFor_67 : decode cX5_weightFor 67 = .ok (.iload 4, 2) := by decide +kernel
theorem dX5_weightFor_69 : decode cX5_weightFor 69 = .ok (.iadd, 1) := by decide +kernel
theorem dX5_weightFor_70 : decode cX5_weightFor 70 = .ok (.iastore, 1) := by decide +kernel
theorem dX5_weightFor_71 : decode cX5_weightFor 71 = .ok (.aload_n 0, 1) := by decide +kernel
theorem dX5_weightFor_72 : decode cX5_weightFor 72 = .ok (.iload_n 1, 1) := by decide +kernel
theorem dX5_weightFor_73 : decode cX5_weightFor 73 = .ok (.invokevirtual 155, 3) := by decide +kernel
theorem dX5_weightFor_76 : decode cX5_weightFor 76 = .ok (.ifCond .eq 8, 3) := by decide +kernel
theorem dX5_weightFor_79 : decode cX5_weightFor 79 = .ok (.iload 4, 2) := by decide +kernel
theorem dX5_weightFor_81 : decode cX5_weightFor 81 = .ok (.goto 4, 3) := by decide +kernel
theorem dX5_weightFor_84 : decode cX5_weightFor 84 = .ok (.iconst (-1), 1) := by decide +kernel
theorem dX5_weightFor_85 : decode cX5_weightFor 85 = .ok (.istore_n 3, 1) := by decide +kernel
theorem dX5_weightFor_86 : decode cX5_weightFor 86 = .ok (.aload_n 0, 1) := by decide +kernel
theorem dX5_weightFor_87 : decode cX5_weightFor 87 = .ok (.getfield 19, 3) := by decide +kernel
theorem dX5_weightFor_90 : decode cX5_weightFor 90 = .ok (.aload_n 0, 1) := by decide +kernel
theorem dX5_weightFor_91 : decode cX5_weightFor 91 = .ok (.getfield 7, 3) := by decide +kernel
theorem dX5_weightFor_94 : decode cX5_weightFor 94 = .ok (.invokestatic 139, 3) := by decide +kernel
theorem dX5_weightFor_97 : decode cX5_weightFor 97 = .ok (.iinc 4 (-1), 3) := by decide +kernel
theorem dX5_weightFor_100 : decode cX5_weightFor 100 = .ok (.goto (-59), 3) := by decide +kernel
theorem dX5_weightFor_103 : decode cX5_weightFor 103 = .ok (.aload_n 0, 1) := by decide +kernel
theorem dX5_weightFor_104 : decode cX5_weightFor 104 = .ok (.iload_n 3, 1) := by decide +kernel
theorem dX5_weightFor_105 : decode cX5_weightFor 105 = .ok (.invokevirtual 111, 3) := by decide +kernel
theorem dX5_weightFor_108 : decode cX5_weightFor 108 = .ok (.ireturn, 1) := by decide +kernel
theorem dX5_isAsked_0 : decode cX5_isAsked 0 = .ok (.aload_n 0, 1) := by decide +kernel
theorem dX5_isAsked_1 : decode cX5_isAsked 1 = .ok (.iload_n 1, 1) := by decide +kernel
theorem dX5_isAsked_2 : decode cX5_isAsked 2 = .ok (.invokevirtual 85, 3) := by decide +kernel
theorem dX5_isAsked_5 : decode cX5_isAsked 5 = .ok (.ifCond .eq 19, 3) := by decide +kernel
theorem dX5_isAsked_8 : decode cX5_isAsked 8 = .ok (.iload_n 2, 1) := by decide +kernel
theorem dX5_isAsked_9 : decode cX5_isAsked 9 = .ok (.i2l, 1) := by decide +kernel
theorem dX5_isAsked_10 : decode cX5_isAsked 10 = .ok (.lconst 0, 1) := by decide +kernel
theorem dX5_isAsked_11 : decode cX5_isAsked 11 = .ok (.ldc2_w 150, 3) := by decide +kernel
theorem dX5_isAsked_14 : decode cX5_isAsked 14 = .ok (.invokestatic 45, 3) := by decide +kernel
theorem dX5_isAsked_17 : decode cX5_isAsked 17 = .ok (.ifCond .eq 7, 3) := by decide +kernel
theorem dX5_isAsked_20 : decode cX5_isAsked 20 = .ok (.iconst 1, 1) := by decide +kernel
theorem dX5_isAsked_21 : decode cX5_isAsked 21 = .ok (.goto 4, 3) := by decide +kernel
theorem dX5_isAsked_24 : decode cX5_isAsked 24 = .ok (.iconst 0, 1) := by decide +kernel
theorem dX5_isAsked_25 : decode cX5_isAsked 25 = .ok (.ireturn, 1) := by decide +kernel
theorem dX5_buildFor_0 : decode cX5_buildFor 0 = .ok (.aload_n 0, 1) := by decide +kernel
theorem dX5_buildFor_1 : decode cX5_buildFor 1 = .ok (.iload_n 1, 1) := by decide +kernel
theorem dX5_buildFor_2 : decode cX5_buildFor 2 = .ok (.iload_n 2, 1) := by decide +kernel
theorem dX5_buildFor_3 : decode cX5_buildFor 3 = .ok (.invokevirtual 158, 3) := by decide +kernel
theorem dX5_buildFor_6 : decode cX5_buildFor 6 = .ok (.ifCond .ne 10, 3) := by decide +kernel
theorem dX5_buildFor_9 : decode cX5_buildFor 9 = .ok (.aload_n 0, 1) := by decide +kernel
theorem dX5_buildFor_10 : decode cX5_buildFor 10 = .ok (.ldc 37, 2) := by decide +kernel
theorem dX5_buildFor_12 : decode cX5_buildFor 12 = .ok (.invokevirtual 39, 3) := by decide +kernel
theorem dX5_buildFor_15 : decode cX5_buildFor 15 = .ok (.ireturn, 1) := by decide +kernel
theorem dX5_buildFor_16 : decode cX5_buildFor 16 = .ok (.aload_n 0, 1) := by decide +kernel
theorem dX5_buildFor_17 : decode cX5_buildFor 17 = .ok (.iload_n 1, 1) := by decide +kernel
theorem dX5_buildFor_18 : decode cX5_buildFor 18 = .ok (.iconst 2, 1) := by decide +kernel
theorem dX5_buildFor_19 : decode cX5_buildFor 19 = .ok (.invokevirtual 73, 3) := by decide +kernel
theorem dX5_buildFor_22 : decode cX5_buildFor 22 = .ok (.istore_n 3, 1) := by decide +kernel
theorem dX5_buildFor_23 : decode cX5_buildFor 23 = .ok (.iconst (-1), 1) := by decide +kernel
theorem dX5_buildFor_24 : decode cX5_buildFor 24 = .ok (.istore 4, 2) := by decide +kernel
theorem dX5_buildFor_26 : decode cX5_buildFor 26 = .ok (.iconst 0, 1) := by decide +kernel
theorem dX5_buildFor_27 : decode cX5_buildFor 27 = .ok (.istore 5, 2) := by decide +kernel
theorem dX5_buildFor_29 : decode cX5_buildFor 29 = .ok (.iload 5, 2) := by decide +kernel
theorem dX5_buildFor_31 : decode cX5_buildFor 31 = .ok (.bipush 99, 2) := by decide +kernel
theorem dX5_buildFor_33 : decode cX5_buildFor 33 = .ok (.if_icmp .gt 49, 3) := by decide +kernel
theorem dX5_buildFor_36 : decode cX5_buildFor 36 = .ok (.iload 4, 2) := by decide +kernel
theorem dX5_buildFor_38 : decode cX5_buildFor 38 = .ok (.ifCond .ge 44, 3) := by decide +kernel
theorem dX5_buildFor_41 : decode cX5_buildFor 41 = .ok (.aload_n 0, 1) := by decide +kernel
theorem dX5_buildFor_42 : decode cX5_buildFor 42 = .ok (.getfield 7, 3) := by decide +kernel
theorem dX5_buildFor_45 : decode cX5_buildFor 45 = .ok (.iload_n 1, 1) := by decide +kernel
theorem dX5_buildFor_46 : decode cX5_buildFor 46 = .ok (.iconst 2, 1) := by decide +kernel
theorem dX5_buildFor_47 : decode cX5_buildFor 47 = .ok (.invokestatic 61, 3) := by decide +kernel
theorem dX5_buildFor_50 : decode cX5_buildFor 50 = .ok (.iload 5, 2) := by decide +kernel
theorem dX5_buildFor_52 : decode cX5_buildFor 52 = .ok (.iastore, 1) := by decide +kernel
theorem dX5_buildFor_53 : decode cX5_buildFor 53 = .ok (.aload_n 0, 1) := by decide +kernel
theorem dX5_buildFor_54 : decode cX5_buildFor 54 = .ok (.iconst 3, 1) := by decide +kernel
theorem dX5_buildFor_55 : decode cX5_buildFor 55 = .ok (.iload_n 2, 1) := by decide +kernel
theorem dX5_buildFor_56 : decode cX5_buildFor 56 = .ok (.invokevirtual 145, 3) := by decide +kernel
theorem dX5_buildFor_59 : decode cX5_buildFor 59 = .ok (.aload_n 0, 1) := by decide +kernel
theorem dX5_buildFor_60 : decode cX5_buildFor 60 = .ok (.getfield 7, 3) := by decide +kernel
theorem dX5_buildFor_63 : decode cX5_buildFor 63 = .ok (.iconst 3, 1) := by decide +kernel
theorem dX5_buildFor_64 : decode cX5_buildFor 64 = .ok (.iaload, 1) := by decide +kernel
theorem dX5_buildFor_65 : decode cX5_buildFor 65 = .ok (.if_icmp .ne 8, 3) := by decide +kernel
theorem dX5_buildFor_68 : decode cX5_buildFor 68 = .ok (.iload 5, 2) := by decide +kernel
theorem dX5_buildFor_70 : decode cX5_buildFor 70 = .ok (.goto 4, 3) := by decide +kernel
theorem dX5_buildFor_73 : decode cX5_buildFor 73 = .ok (.iconst (-1), 1) := by decide +kernel
theorem dX5_buildFor_74 : decode cX5_buildFor 74 = .ok (.istore 4, 2) := by decide +kernel
theorem dX5_buildFor_76 : decode cX5_buildFor 76 = .ok (.iinc 5 1, 3) := by decide +kernel
theorem dX5_buildFor_79 : decode cX5_buildFor 79 = .ok (.goto (-50), 3) := by decide +kernel
theorem dX5_buildFor_82 : decode cX5_buildFor 82 = .ok (.aload_n 0, 1) := by decide +kernel
theorem dX5_buildFor_83 : decode cX5_buildFor 83 = .ok (.getfield 7, 3) := by decide +kernel
theorem dX5_buildFor_86 : decode cX5_buildFor 86 = .ok (.iload_n 1, 1) := by decide +kernel
theorem dX5_buildFor_87 : decode cX5_buildFor 87 = .ok (.iconst 2, 1) := by decide +kernel
theorem dX5_buildFor_88 : decode cX5_buildFor 88 = .ok (.invokestatic 61, 3) := by decide +kernel
theorem dX5_buildFor_91 : decode cX5_buildFor 91 = .ok (.iload_n 3, 1) := by decide +kernel
theorem dX5_buildFor_92 : decode cX5_buildFor 92 = .ok (.iastore, 1) := by decide +kernel
theorem dX5_buildFor_93 : decode cX5_buildFor 93 = .ok (.aload_n 0, 1) := by decide +kernel
theorem dX5_buildFor_94 : decode cX5_buildFor 94 = .ok (.iload 4, 2) := by decide +kernel
theorem dX5_buildFor_96 : decode cX5_buildFor 96 = .ok (.invokevirtual 111, 3) := by decide +kernel
theorem dX5_buildFor_99 : decode cX5_buildFor 99 = .ok (.ireturn, 1) := by decide +kernel
theorem dX5_kindFor_0 : decode cX5_kindFor 0 = .ok (.aload_n 0, 1) := by decide +kernel
theorem dX5_kindFor_1 : decode cX5_kindFor 1 = .ok (.iload_n 1, 1) := by decide +kernel
theorem dX5_kindFor_2 : decode cX5_kindFor 2 = .ok (.iload_n 2, 1) := by decide +kernel
theorem dX5_kindFor_3 : decode cX5_kindFor 3 = .ok (.invokevirtual 158, 3) := by decide +kernel
theorem dX5_kindFor_6 : decode cX5_kindFor 6 = .ok (.ifCond .ne 10, 3) := by decide +kernel
theorem dX5_kindFor_9 : decode cX5_kindFor 9 = .ok (.aload_n 0, 1) := by decide +kernel
theorem dX5_kindFor_10 : decode cX5_kindFor 10 = .ok (.ldc 37, 2) := by decide +kernel
theorem dX5_kindFor_12 : decode cX5_kindFor 12 = .ok (.invokevirtual 39, 3) := by decide +kernel
theorem dX5_kindFor_15 : decode cX5_kindFor 15 = .ok (.ireturn, 1) := by decide +kernel
theorem dX5_kindFor_16 : decode cX5_kindFor 16 = .ok (.aload_n 0, 1) := by decide +kernel
theorem dX5_kindFor_17 : decode cX5_kindFor 17 = .ok (.iload_n 1, 1) := by decide +kernel
theorem dX5_kindFor_18 : decode cX5_kindFor 18 = .ok (.iconst 0, 1) := by decide +kernel
theorem dX5_kindFor_19 : decode cX5_kindFor 19 = .ok (.invokevirtual 73, 3) := by decide +kernel
theorem dX5_kindFor_22 : decode cX5_kindFor 22 = .ok (.istore_n 3, 1) := by decide +kernel
theorem dX5_kindFor_23 : decode cX5_kindFor 23 = .ok (.iconst 0, 1) := by decide +kernel
theorem dX5_kindFor_24 : decode cX5_kindFor 24 = .ok (.istore 4, 2) := by decide +kernel
theorem dX5_kindFor_26 : decode cX5_kindFor 26 = .ok (.sipush 10000, 3) := by decide +kernel
theorem dX5_kindFor_29 : decode cX5_kindFor 29 = .ok (.istore 5, 2) := by decide +kernel
theorem dX5_kindFor_31 : decode cX5_kindFor 31 = .ok (.iconst 0, 1) := by decide +kernel
theorem dX5_kindFor_32 : decode cX5_kindFor 32 = .ok (.istore 6, 2) := by decide +kernel
theorem dX5_kindFor_34 : decode cX5_kindFor 34 = .ok (.iload 6, 2) := by decide +kernel
theorem dX5_kindFor_36 : decode cX5_kindFor 36 = .ok (.bipush 6, 2) := by decide +kernel
theorem dX5_kindFor_38 : decode cX5_kindFor 38 = .ok (.if_icmp .gt 58, 3) := by decide +kernel
theorem dX5_kindFor_41 : decode cX5_kindFor 41 = .ok (.aload_n 0, 1) := by decide +kernel
theorem dX5_kindFor_42 : decode cX5_kindFor 42 = .ok (.getfield 7, 3) := by decide +kernel
theorem dX5_kindFor_45 : decode cX5_kindFor 45 = .ok (.iload_n 1, 1) := by decide +kernel
theorem dX5_kindFor_46 : decode cX5_kindFor 46 = .ok (.iconst 0, 1) := by decide +kernel
theorem dX5_kindFor_47 : decode cX5_kindFor 47 = .ok (.invokestatic 61, 3) := by decide +kernel
theorem dX5_kindFor_50 : decode cX5_kindFor 50 = .ok (.iload 6, 2) := by decide +kernel
theorem dX5_kindFor_52 : decode cX5_kindFor 52 = .ok (.iastore, 1) := by decide +kernel
theorem dX5_kindFor_53 : decode cX5_kindFor 53 = .ok (.aload_n 0, 1) := by decide +kernel
theorem dX5_kindFor_54 : decode cX5_kindFor 54 = .ok (.iload_n 1, 1) := by decide +kernel
theorem dX5_kindFor_55 : decode cX5_kindFor 55 = .ok (.iconst 3, 1) := by decide +kernel
theorem dX5_kindFor_56 : decode cX5_kindFor 56 = .ok (.invokestatic 61, 3) := by decide +kernel
theorem dX5_kindFor_59 : decode cX5_kindFor 59 = .ok (.iload_n 2, 1) := by decide +kernel
theorem dX5_kindFor_60 : decode cX5_kindFor 60 = .ok (.invokevirtual 145, 3) := by decide +kernel
theorem dX5_kindFor_63 : decode cX5_kindFor 63 = .ok (.istore 7, 2) := by decide +kernel
theorem dX5_kindFor_65 : decode cX5_kindFor 65 = .ok (.iload 7, 2) := by decide +kernel
theorem dX5_kindFor_67 : decode cX5_kindFor 67 = .ok (.iload 5, 2) := by decide +kernel
theorem dX5_kindFor_69 : decode cX5_kindFor 69 = .ok (.if_icmp .ge 8, 3) := by decide +kernel
theorem dX5_kindFor_72 : decode cX5_kindFor 72 = .ok (.iload 6, 2) := by decide +kernel
theorem dX5_kindFor_74 : decode cX5_kindFor 74 = .ok (.goto 5, 3) := by decide +kernel
theorem dX5_kindFor_77 : decode cX5_kindFor 77 = .ok (.iload 4, 2) := by decide +kernel
theorem dX5_kindFor_79 : decode cX5_kindFor 79 = .ok (.istore 4, 2) := by decide +kernel
theorem dX5_kindFor_81 : decode cX5_kindFor 81 = .ok (.iload 5, 2) := by decide +kernel
theorem dX5_kindFor_83 : decode cX5_kindFor 83 = .ok (.iload 7, 2) := by decide +kernel
theorem dX5_kindFor_85 : decode cX5_kindFor 85 = .ok (.invokestatic 82, 3) := by decide +kernel
theorem dX5_kindFor_88 : decode cX5_kindFor 88 = .ok (.istore 5, 2) := by decide +kernel
theorem dX5_kindFor_90 : decode cX5_kindFor 90 = .ok (.iinc 6 1, 3) := by decide +kernel
theorem dX5_kindFor_93 : decode cX5_kindFor 93 = .ok (.goto (-59), 3) := by decide +kernel
theorem dX5_kindFor_96 : decode cX5_kindFor 96 = .ok (.aload_n 0, 1) := by decide +kernel
theorem dX5_kindFor_97 : decode cX5_kindFor 97 = .ok (.getfield 7, 3) := by decide +kernel
theorem dX5_kindFor_100 : decode cX5_kindFor 100 = .ok (.iload_n 1, 1) := by decide +kernel
theorem dX5_kindFor_101 : decode cX5_kindFor 101 = .ok (.iconst 0, 1) := by decide +kernel
theorem dX5_kindFor_102 : decode cX5_kindFor 102 = .ok (.invokestatic 61, 3) := by decide +kernel
theorem dX5_kindFor_105 : decode cX5_kindFor 105 = .ok (.iload_n 3, 1) := by decide +kernel
theorem dX5_kindFor_106 : decode cX5_kindFor 106 = .ok (.iastore, 1) := by decide +kernel
theorem dX5_kindFor_107 : decode cX5_kindFor 107 = .ok (.iload 4, 2) := by decide +kernel
theorem dX5_kindFor_109 : decode cX5_kindFor 109 = .ok (.ireturn, 1) := by decide +kernel
theorem dX5_refuse_0 : decode cX5_refuse 0 = .ok (.aload_n 0, 1) := by decide +kernel
theorem dX5_refuse_1 : decode cX5_refuse 1 = .ok (.iload_n 1, 1) := by decide +kernel
theorem dX5_refuse_2 : decode cX5_refuse 2 = .ok (.invokevirtual 85, 3) := by decide +kernel
theorem dX5_refuse_5 : decode cX5_refuse 5 = .ok (.ifCond .eq 27, 3) := by decide +kernel
theorem dX5_refuse_8 : decode cX5_refuse 8 = .ok (.iload_n 2, 1) := by decide +kernel
theorem dX5_refuse_9 : decode cX5_refuse 9 = .ok (.i2l, 1) := by decide +kernel
theorem dX5_refuse_10 : decode cX5_refuse 10 = .ok (.lconst 0, 1) := by decide +kernel
theorem dX5_refuse_11 : decode cX5_refuse 11 = .ok (.ldc2_w 148, 3) := by decide +kernel
theorem dX5_refuse_14 : decode cX5_refuse 14 = .ok (.invokestatic 45, 3) := by decide +kernel
theorem dX5_refuse_17 : decode cX5_refuse 17 = .ok (.ifCond .eq 15, 3) := by decide +kernel
theorem dX5_refuse_20 : decode cX5_refuse 20 = .ok (.iload_n 3, 1) := by decide +kernel
theorem dX5_refuse_21 : decode cX5_refuse 21 = .ok (.i2l, 1) := by decide +kernel
theorem dX5_refuse_22 : decode cX5_refuse 22 = .ok (.lconst 0, 1) := by decide +kernel
theorem dX5_refuse_23 : decode cX5_refuse 23 = .ok (.ldc2_w 55, 3) := by decide +kernel
theorem dX5_refuse_26 : decode cX5_refuse 26 = .ok (.invokestatic 45, 3) := by decide +kernel
theorem dX5_refuse_29 : decode cX5_refuse 29 = .ok (.ifCond .ne 10, 3) := by decide +kernel
theorem dX5_refuse_32 : decode cX5_refuse 32 = .ok (.aload_n 0, 1) := by decide +kernel
theorem dX5_refuse_33 : decode cX5_refuse 33 = .ok (.ldc 37, 2) := by decide +kernel
theorem dX5_refuse_35 : decode cX5_refuse 35 = .ok (.invokevirtual 39, 3) := by decide +kernel
theorem dX5_refuse_38 : decode cX5_refuse 38 = .ok (.ireturn, 1) := by decide +kernel
theorem dX5_refuse_39 : decode cX5_refuse 39 = .ok (.iconst (-1), 1) := by decide +kernel
theorem dX5_refuse_40 : decode cX5_refuse 40 = .ok (.istore 4, 2) := by decide +kernel
theorem dX5_refuse_42 : decode cX5_refuse 42 = .ok (.aload_n 0, 1) := by decide +kernel
theorem dX5_refuse_43 : decode cX5_refuse 43 = .ok (.getfield 7, 3) := by decide +kernel
theorem dX5_refuse_46 : decode cX5_refuse 46 = .ok (.aload_n 0, 1) := by decide +kernel
theorem dX5_refuse_47 : decode cX5_refuse 47 = .ok (.getfield 19, 3) := by decide +kernel
theorem dX5_refuse_50 : decode cX5_refuse 50 = .ok (.invokestatic 139, 3) := by decide +kernel
theorem dX5_refuse_53 : decode cX5_refuse 53 = .ok (.iconst 0, 1) := by decide +kernel
theorem dX5_refuse_54 : decode cX5_refuse 54 = .ok (.istore 5, 2) := by decide +kernel
theorem dX5_refuse_56 : decode cX5_refuse 56 = .ok (.iload 5, 2) := by decide +kernel
theorem dX5_refuse_58 : decode cX5_refuse 58 = .ok (.iconst 1, 1) := by decide +kernel
theorem dX5_refuse_59 : decode cX5_refuse 59 = .ok (.aload_n 0, 1) := by decide +kernel
theorem dX5_refuse_60 : decode cX5_refuse 60 = .ok (.getfield 7, 3) := by decide +kernel
theorem dX5_refuse_63 : decode cX5_refuse 63 = .ok (.iconst 0, 1) := by decide +kernel
theorem dX5_refuse_64 : decode cX5_refuse 64 = .ok (.iaload, 1) := by decide +kernel
theorem dX5_refuse_65 : decode cX5_refuse 65 = .ok (.ishl, 1) := by decide +kernel
theorem dX5_refuse_66 : decode cX5_refuse 66 = .ok (.if_icmp .ge 87, 3) := by decide +kernel
theorem dX5_refuse_69 : decode cX5_refuse 69 = .ok (.iload 5, 2) := by decide +kernel
theorem dX5_refuse_71 : decode cX5_refuse 71 = .ok (.iload_n 1, 1) := by decide +kernel
theorem dX5_refuse_72 : decode cX5_refuse 72 = .ok (.ishr, 1) := by decide +kernel
theorem dX5_refuse_73 : decode cX5_refuse 73 = .ok (.iconst 1, 1) := by decide +kernel
theorem dX5_refuse_74 : decode cX5_refuse 74 = .ok (.iand, 1) := by decide +kernel
theorem dX5_refuse_75 : decode cX5_refuse 75 = .ok (.ifCond .ne 72, 3) := by decide +kernel
theorem dX5_refuse_78 : decode cX5_refuse 78 = .ok (.iload 4, 2) := by decide +kernel
theorem dX5_refuse_80 : decode cX5_refuse 80 = .ok (.ifCond .lt 16, 3) := by decide +kernel
theorem dX5_refuse_83 : decode cX5_refuse 83 = .ok (.iload 5, 2) := by decide +kernel
theorem dX5_refuse_85 : decode cX5_refuse 85 = .ok (.invokestatic 162, 3) := by decide +kernel
theorem dX5_refuse_88 : decode cX5_refuse 88 = .ok (.iload 4, 2) := by decide +kernel
theorem dX5_refuse_90 : decode cX5_refuse 90 = .ok (.invokestatic 162, 3) := by decide +kernel
theorem dX5_refuse_93 : decode cX5_refuse 93 = .ok (.if_icmp .ge 54, 3) := by decide +kernel
theorem dX5_refuse_96 : decode cX5_refuse 96 = .ok (.iconst 0, 1) := by decide +kernel
theorem dX5_refuse_97 : decode cX5_refuse 97 = .ok (.istore 6, 2) := by decide +kernel
theorem dX5_refuse_99 : decode cX5_refuse 99 = .ok (.iload 6, 2) := by decide +kernel
theorem dX5_refuse_101 : decode cX5_refuse 101 = .ok (.iload_n 3, 1) := by decide +kernel
theorem dX5_refuse_102 : decode cX5_refuse 102 = .ok (.if_icmp .ge 15, 3) := by decide +kernel
theorem dX5_refuse_105 : decode cX5_refuse 105 = .ok (.aload_n 0, 1) := by decide +kernel
theorem dX5_refuse_106 : decode cX5_refuse 106 = .ok (.iload 5, 2) := by decide +kernel
theorem dX5_refuse_108 : decode cX5_refuse 108 = .ok (.invokevirtual 123, 3) := by decide +kernel
theorem dX5_refuse_111 : decode cX5_refuse 111 = .ok (.iinc 6 1, 3) := by decide +kernel
theorem dX5_refuse_114 : decode cX5_refuse 114 = .ok (.goto (-15), 3) := by decide +kernel
theorem dX5_refuse_117 : decode cX5_refuse 117 = .ok (.aload_n 0, 1) := by decide +kernel
theorem dX5_refuse_118 : decode cX5_refuse 118 = .ok (.iload_n 1, 1) := by decide +kernel
theorem dX5_refuse_119 : decode cX5_refuse 119 = .ok (.iconst 3, 1) := by decide +kernel
theorem dX5_refuse_120 : decode cX5_refuse 120 = .ok (.invokevirtual 73, 3) := by decide +kernel
theorem dX5_refuse_123 : decode cX5_refuse 123 = .ok (.iload_n 2, 1) := by decide +kernel
theorem dX5_refuse_124 : decode cX5_refuse 124 = .ok (.if_icmp .gt 8, 3) := by decide +kernel
theorem dX5_refuse_127 : decode cX5_refuse 127 = .ok (.iload 5, 2) := by decide +kernel
theorem dX5_refuse_129 : decode cX5_refuse 129 = .ok (.goto 5, 3) := by decide +kernel
theorem dX5_refuse_132 : decode cX5_refuse 132 = .ok (.iload 4, 2) := by decide +kernel
theorem dX5_refuse_134 : decode cX5_refuse 134 = .ok (.istore 4, 2) := by decide +kernel
theorem dX5_refuse_136 : decode cX5_refuse 136 = .ok (.aload_n 0, 1) := by decide +kernel
theorem dX5_refuse_137 : decode cX5_refuse 137 = .ok (.getfield 19, 3) := by decide +kernel
theorem dX5_refuse_140 : decode cX5_refuse 140 = .ok (.aload_n 0, 1) := by decide +kernel
theorem dX5_refuse_141 : decode cX5_refuse 141 = .ok (.getfield 7, 3) := by decide +kernel
theorem dX5_refuse_144 : decode cX5_refuse 144 = .ok (.invokestatic 139, 3) := by decide +kernel
theorem dX5_refuse_147 : decode cX5_refuse 147 = .ok (.iinc 5 1, 3) := by decide +kernel
theorem dX5_refuse_150 : decode cX5_refuse 150 = .ok (.goto (-94), 3) := by decide +kernel
theorem dX5_refuse_153 : decode cX5_refuse 153 = .ok (.aload_n 0, 1) := by decide +kernel
theorem dX5_refuse_154 : decode cX5_refuse 154 = .ok (.iload 4, 2) := by decide +kernel
theorem dX5_refuse_156 : decode cX5_refuse 156 = .ok (.invokevirtual 111, 3) := by decide +kernel
theorem dX5_refuse_159 : decode cX5_refuse 159 = .ok (.ireturn, 1) := by decide +kernel
theorem dX5_swapFor_0 : decode cX5_swapFor 0 = .ok (.iload_n 1, 1) := by decide +kernel
theorem dX5_swapFor_1 : decode cX5_swapFor 1 = .ok (.i2l, 1) := by decide +kernel
theorem dX5_swapFor_2 : decode cX5_swapFor 2 = .ok (.lconst 0, 1) := by decide +kernel
theorem dX5_swapFor_3 : decode cX5_swapFor 3 = .ok (.ldc2_w 150, 3) := by decide +kernel
theorem dX5_swapFor_6 : decode cX5_swapFor 6 = .ok (.invokestatic 45, 3) := by decide +kernel
theorem dX5_swapFor_9 : decode cX5_swapFor 9 = .ok (.ifCond .ne 10, 3) := by decide +kernel
theorem dX5_swapFor_12 : decode cX5_swapFor 12 = .ok (.aload_n 0, 1) := by decide +kernel
theorem dX5_swapFor_13 : decode cX5_swapFor 13 = .ok (.ldc 37, 2) := by decide +kernel
theorem dX5_swapFor_15 : decode cX5_swapFor 15 = .ok (.invokevirtual 39, 3) := by decide +kernel
theorem dX5_swapFor_18 : decode cX5_swapFor 18 = .ok (.ireturn, 1) := by decide +kernel
theorem dX5_swapFor_19 : decode cX5_swapFor 19 = .ok (.iconst (-1), 1) := by decide +kernel
theorem dX5_swapFor_20 : decode cX5_swapFor 20 = .ok (.istore_n 2, 1) := by decide +kernel
theorem dX5_swapFor_21 : decode cX5_swapFor 21 = .ok (.iconst 0, 1) := by decide +kernel
theorem dX5_swapFor_22 : decode cX5_swapFor 22 = .ok (.istore_n 3, 1) := by decide +kernel
theorem dX5_swapFor_23 : decode cX5_swapFor 23 = .ok (.iconst 0, 1) := by decide +kernel
theorem dX5_swapFor_24 : decode cX5_swapFor 24 = .ok (.istore 4, 2) := by decide +kernel
theorem dX5_swapFor_26 : decode cX5_swapFor 26 = .ok (.iload 4, 2) := by decide +kernel
theorem dX5_swapFor_28 : decode cX5_swapFor 28 = .ok (.aload_n 0, 1) := by decide +kernel
theorem dX5_swapFor_29 : decode cX5_swapFor 29 = .ok (.getfield 7, 3) := by decide +kernel
theorem dX5_swapFor_32 : decode cX5_swapFor 32 = .ok (.iconst 0, 1) := by decide +kernel
theorem dX5_swapFor_33 : decode cX5_swapFor 33 = .ok (.iaload, 1) := by decide +kernel
theorem dX5_swapFor_34 : decode cX5_swapFor 34 = .ok (.if_icmp .ge 157, 3) := by decide +kernel
theorem dX5_swapFor_37 : decode cX5_swapFor 37 = .ok (.iload 4, 2) := by decide +kernel
theorem dX5_swapFor_39 : decode cX5_swapFor 39 = .ok (.iconst 1, 1) := by decide +kernel
theorem dX5_swapFor_40 : decode cX5_swapFor 40 = .ok (.iadd, 1) := by decide +kernel
theorem dX5_swapFor_41 : decode cX5_swapFor 41 = .ok (.istore 5, 2) := by decide +kernel
theorem dX5_swapFor_43 : decode cX5_swapFor 43 = .ok (.iload 5, 2) := by decide +kernel
theorem dX5_swapFor_45 : decode cX5_swapFor 45 = .ok (.aload_n 0, 1) := by decide +kernel
theorem dX5_swapFor_46 : decode cX5_swapFor 46 = .ok (.getfield 7, 3) := by decide +kernel
theorem dX5_swapFor_49 : decode cX5_swapFor 49 = .ok (.iconst 0, 1) := by decide +kernel
theorem dX5_swapFor_50 : decode cX5_swapFor 50 = .ok (.iaload, 1) := by decide +kernel
theorem dX5_swapFor_51 : decode cX5_swapFor 51 = .ok (.if_icmp .ge 134, 3) := by decide +kernel
theorem dX5_swapFor_54 : decode cX5_swapFor 54 = .ok (.aload_n 0, 1) := by decide +kernel
theorem dX5_swapFor_55 : decode cX5_swapFor 55 = .ok (.iload 4, 2) := by decide +kernel
theorem dX5_swapFor_57 : decode cX5_swapFor 57 = .ok (.iconst 2, 1) := by decide +kernel
theorem dX5_swapFor_58 : decode cX5_swapFor 58 = .ok (.invokevirtual 73, 3) := by decide +kernel
theorem dX5_swapFor_61 : decode cX5_swapFor 61 = .ok (.istore 6, 2) := by decide +kernel
theorem dX5_swapFor_63 : decode cX5_swapFor 63 = .ok (.aload_n 0, 1) := by decide +kernel
theorem dX5_swapFor_64 : decode cX5_swapFor 64 = .ok (.iload 5, 2) := by decide +kernel
theorem dX5_swapFor_66 : decode cX5_swapFor 66 = .ok (.iconst 2, 1) := by decide +kernel
theorem dX5_swapFor_67 : decode cX5_swapFor 67 = .ok (.invokevirtual 73, 3) := by decide +kernel
theorem dX5_swapFor_70 : decode cX5_swapFor 70 = .ok (.istore 7, 2) := by decide +kernel
theorem dX5_swapFor_72 : decode cX5_swapFor 72 = .ok (.aload_n 0, 1) := by decide +kernel
theorem dX5_swapFor_73 : decode cX5_swapFor 73 = .ok (.getfield 7, 3) := by decide +kernel
theorem dX5_swapFor_76 : decode cX5_swapFor 76 = .ok (.iload 4, 2) := by decide +kernel
theorem dX5_swapFor_78 : decode cX5_swapFor 78 = .ok (.iconst 2, 1) := by decide +kernel
theorem dX5_swapFor_79 : decode cX5_swapFor 79 = .ok (.invokestatic 61, 3) := by decide +kernel
theorem dX5_swapFor_82 : decode cX5_swapFor 82 = .ok (.iload 7, 2) := by decide +kernel
theorem dX5_swapFor_84 : decode cX5_swapFor 84 = .ok (.iastore, 1) := by decide +kernel
theorem dX5_swapFor_85 : decode cX5_swapFor 85 = .ok (.aload_n 0, 1) := by decide +kernel
theorem dX5_swapFor_86 : decode cX5_swapFor 86 = .ok (.getfield 7, 3) := by decide +kernel
theorem dX5_swapFor_89 : decode cX5_swapFor 89 = .ok (.iload 5, 2) := by decide +kernel
theorem dX5_swapFor_91 : decode cX5_swapFor 91 = .ok (.iconst 2, 1) := by decide +kernel
theorem dX5_swapFor_92 : decode cX5_swapFor 92 = .ok (.invokestatic 61, 3) := by decide +kernel
theorem dX5_swapFor_95 : decode cX5_swapFor 95 = .ok (.iload 6, 2) := by decide +kernel
theorem dX5_swapFor_97 : decode cX5_swapFor 97 = .ok (.iastore, 1) := by decide +kernel
theorem dX5_swapFor_98 : decode cX5_swapFor 98 = .ok (.aload_n 0, 1) := by decide +kernel
theorem dX5_swapFor_99 : decode cX5_swapFor 99 = .ok (.iconst 3, 1) := by decide +kernel
theorem dX5_swapFor_100 : decode cX5_swapFor 100 = .ok (.iload_n 1, 1) := by decide +kernel
theorem dX5_swapFor_101 : decode cX5_swapFor 101 = .ok (.invokevirtual 145, 3) := by decide +kernel
theorem dX5_swapFor_104 : decode cX5_swapFor 104 = .ok (.istore 8, 2) := by decide +kernel
theorem dX5_swapFor_106 : decode cX5_swapFor 106 = .ok (.aload_n 0, 1) := by decide +kernel
theorem dX5_swapFor_107 : decode cX5_swapFor 107 = .ok (.getfield 7, 3) := by decide +kernel
theorem dX5_swapFor_110 : decode cX5_swapFor 110 = .ok (.iload 4, 2) := by decide +kernel
theorem dX5_swapFor_112 : decode cX5_swapFor 112 = .ok (.iconst 2, 1) := by decide +kernel
theorem dX5_swapFor_113 : decode cX5_swapFor 113 = .ok (.invokestatic 61, 3) := by decide +kernel
theorem dX5_swapFor_116 : decode cX5_swapFor 116 = .ok (.iload 6, 2) := by decide +kernel
theorem dX5_swapFor_118 : decode cX5_swapFor 118 = .ok (.iastore, 1) := by decide +kernel
theorem dX5_swapFor_119 : decode cX5_swapFor 119 = .ok (.aload_n 0, 1) := by decide +kernel
theorem dX5_swapFor_120 : decode cX5_swapFor 120 = .ok (.getfield 7, 3) := by decide +kernel
theorem dX5_swapFor_123 : decode cX5_swapFor 123 = .ok (.iload 5, 2) := by decide +kernel
theorem dX5_swapFor_125 : decode cX5_swapFor 125 = .ok (.iconst 2, 1) := by decide +kernel
theorem dX5_swapFor_126 : decode cX5_swapFor 126 = .ok (.invokestatic 61, 3) := by decide +kernel
theorem dX5_swapFor_129 : decode cX5_swapFor 129 = .ok (.iload 7, 2) := by decide +kernel
theorem dX5_swapFor_131 : decode cX5_swapFor 131 = .ok (.iastore, 1) := by decide +kernel
theorem dX5_swapFor_132 : decode cX5_swapFor 132 = .ok (.iload_n 2, 1) := by decide +kernel
theorem dX5_swapFor_133 : decode cX5_swapFor 133 = .ok (.ifCond .lt 9, 3) := by decide +kernel
theorem dX5_swapFor_136 : decode cX5_swapFor 136 = .ok (.iload 8, 2) := by decide +kernel
theorem dX5_swapFor_138 : decode cX5_swapFor 138 = .ok (.iload_n 3, 1) := by decide +kernel
theorem dX5_swapFor_139 : decode cX5_swapFor 139 = .ok (.if_icmp .ge 7, 3) := by decide +kernel
theorem dX5_swapFor_142 : decode cX5_swapFor 142 = .ok (.iconst 1, 1) := by decide +kernel
theorem dX5_swapFor_143 : decode cX5_swapFor 143 = .ok (.goto 4, 3) := by decide +kernel
theorem dX5_swapFor_146 : decode cX5_swapFor 146 = .ok (.iconst 0, 1) := by decide +kernel
theorem dX5_swapFor_147 : decode cX5_swapFor 147 = .ok (.istore 9, 2) := by decide +kernel
theorem dX5_swapFor_149 : decode cX5_swapFor 149 = .ok (.iload 9, 2) := by decide +kernel
theorem dX5_swapFor_151 : decode cX5_swapFor 151 = .ok (.ifCond .eq 14, 3) := by decide +kernel
theorem dX5_swapFor_154 : decode cX5_swapFor 154 = .ok (.bipush 8, 2) := by decide +kernel
theorem dX5_swapFor_156 : decode cX5_swapFor 156 = .ok (.iload 4, 2) := by decide +kernel
theorem dX5_swapFor_158 : decode cX5_swapFor 158 = .ok (.imul, 1) := by decide +kernel
theorem dX5_swapFor_159 : decode cX5_swapFor 159 = .ok (.iload 5, 2) := by decide +kernel
theorem dX5_swapFor_161 : decode cX5_swapFor 161 = .ok (.iadd, 1) := by decide +kernel
theorem dX5_swapFor_162 : decode cX5_swapFor 162 = .ok (.goto 4, 3) := by decide +kernel
theorem dX5_swapFor_165 : decode cX5_swapFor 165 = .ok (.iload_n 2, 1) := by decide +kernel
theorem dX5_swapFor_166 : decode cX5_swapFor 166 = .ok (.istore_n 2, 1) := by decide +kernel
theorem dX5_swapFor_167 : decode cX5_swapFor 167 = .ok (.iload 9, 2) := by decide +kernel
theorem dX5_swapFor_169 : decode cX5_swapFor 169 = .ok (.ifCond .eq 8, 3) := by decide +kernel
theorem dX5_swapFor_172 : decode cX5_swapFor 172 = .ok (.iload 8, 2) := by decide +kernel
theorem dX5_swapFor_174 : decode cX5_swapFor 174 = .ok (.goto 4, 3) := by decide +kernel
theorem dX5_swapFor_177 : decode cX5_swapFor 177 = .ok (.iload_n 3, 1) := by decide +kernel
theorem dX5_swapFor_178 : decode cX5_swapFor 178 = .ok (.istore_n 3, 1) := by decide +kernel
theorem dX5_swapFor_179 : decode cX5_swapFor 179 = .ok (.iinc 5 1, 3) := by decide +kernel
theorem dX5_swapFor_182 : decode cX5_swapFor 182 = .ok (.goto (-139), 3) := by decide +kernel
theorem dX5_swapFor_185 : decode cX5_swapFor 185 = .ok (.iinc 4 1, 3) := by decide +kernel
theorem dX5_swapFor_188 : decode cX5_swapFor 188 = .ok (.goto (-162), 3) := by decide +kernel
theorem dX5_swapFor_191 : decode cX5_swapFor 191 = .ok (.aload_n 0, 1) := by decide +kernel
theorem dX5_swapFor_192 : decode cX5_swapFor 192 = .ok (.iload_n 2, 1) := by decide +kernel
theorem dX5_swapFor_193 : decode cX5_swapFor 193 = .ok (.invokevirtual 111, 3) := by decide +kernel
theorem dX5_swapFor_196 : decode cX5_swapFor 196 = .ok (.ireturn, 1) := by decide +kernel
theorem dX5_isTold_0 : decode cX5_isTold 0 = .ok (.aload_n 0, 1) := by decide +kernel
theorem dX5_isTold_1 : decode cX5_isTold 1 = .ok (.getfield 7, 3) := by decide +kernel
theorem dX5_isTold_4 : decode cX5_isTold 4 = .ok (.aload_n 0, 1) := by decide +kernel
theorem dX5_isTold_5 : decode cX5_isTold 5 = .ok (.getfield 19, 3) := by decide +kernel
theorem dX5_isTold_8 : decode cX5_isTold 8 = .ok (.invokestatic 139, 3) := by decide +kernel
theorem dX5_isTold_11 : decode cX5_isTold 11 = .ok (.iconst 1, 1) := by decide +kernel
theorem dX5_isTold_12 : decode cX5_isTold 12 = .ok (.istore_n 3, 1) := by decide +kernel
theorem dX5_isTold_13 : decode cX5_isTold 13 = .ok (.iconst 0, 1) := by decide +kernel
theorem dX5_isTold_14 : decode cX5_isTold 14 = .ok (.istore 4, 2) := by decide +kernel
theorem dX5_isTold_16 : decode cX5_isTold 16 = .ok (.iload 4, 2) := by decide +kernel
theorem dX5_isTold_18 : decode cX5_isTold 18 = .ok (.aload_n 0, 1) := by decide +kernel
theorem dX5_isTold_19 : decode cX5_isTold 19 = .ok (.getfield 31, 3) := by decide +kernel
theorem dX5_isTold_22 : decode cX5_isTold 22 = .ok (.iload_n 1, 1) := by decide +kernel
theorem dX5_isTold_23 : decode cX5_isTold 23 = .ok (.iaload, 1) := by decide +kernel
theorem dX5_isTold_24 : decode cX5_isTold 24 = .ok (.if_icmp .ge 55, 3) := by decide +kernel
theorem dX5_isTold_27 : decode cX5_isTold 27 = .ok (.iload_n 3, 1) := by decide +kernel
theorem dX5_isTold_28 : decode cX5_isTold 28 = .ok (.ifCond .eq 51, 3) := by decide +kernel
theorem dX5_isTold_31 : decode cX5_isTold 31 = .ok (.aload_n 0, 1) := by decide +kernel
theorem dX5_isTold_32 : decode cX5_isTold 32 = .ok (.getfield 34, 3) := by decide +kernel
theorem dX5_isTold_35 : decode cX5_isTold 35 = .ok (.bipush 40, 2) := by decide +kernel
theorem dX5_isTold_37 : decode cX5_isTold 37 = .ok (.iload_n 1, 1) := by decide +kernel
theorem dX5_isTold_38 : decode cX5_isTold 38 = .ok (.imul, 1) := by decide +kernel
theorem dX5_isTold_39 : decode cX5_isTold 39 = .ok (.iload 4, 2) := by decide +kernel
theorem dX5_isTold_41 : decode cX5_isTold 41 = .ok (.iadd, 1) := by decide +kernel
theorem dX5_isTold_42 : decode cX5_isTold 42 = .ok (.iaload, 1) := by decide +kernel
theorem dX5_isTold_43 : decode cX5_isTold 43 = .ok (.istore 5, 2) := by decide +kernel
theorem dX5_isTold_45 : decode cX5_isTold 45 = .ok (.iload 5, 2) := by decide +kernel
theorem dX5_isTold_47 : decode cX5_isTold 47 = .ok (.iconst (-1), 1) := by decide +kernel
theorem dX5_isTold_48 : decode cX5_isTold 48 = .ok (.if_icmp .eq 14, 3) := by decide +kernel
theorem dX5_isTold_51 : decode cX5_isTold 51 = .ok (.iload 5, 2) := by decide +kernel
theorem dX5_isTold_53 : decode cX5_isTold 53 = .ok (.aload_n 0, 1) := by decide +kernel
theorem dX5_isTold_54 : decode cX5_isTold 54 = .ok (.getfield 7, 3) := by decide +kernel
theorem dX5_isTold_57 : decode cX5_isTold 57 = .ok (.iload_n 2, 1) := by decide +kernel
theorem dX5_isTold_58 : decode cX5_isTold 58 = .ok (.iaload, 1) := by decide +kernel
theorem dX5_isTold_59 : decode cX5_isTold 59 = .ok (.if_icmp .ne 7, 3) := by decide +kernel
theorem dX5_isTold_62 : decode cX5_isTold 62 = .ok (.iconst 1, 1) := by decide +kernel
theorem dX5_isTold_63 : decode cX5_isTold 63 = .ok (.goto 4, 3) := by decide +kernel
theorem dX5_isTold_66 : decode cX5_isTold 66 = .ok (.iconst 0, 1) := by decide +kernel
theorem dX5_isTold_67 : decode cX5_isTold 67 = .ok (.istore_n 3, 1) := by decide +kernel
theorem dX5_isTold_68 : decode cX5_isTold 68 = .ok (.aload_n 0, 1) := by decide +kernel
theorem dX5_isTold_69 : decode cX5_isTold 69 = .ok (.iconst 0, 1) := by decide +kernel
theorem dX5_isTold_70 : decode cX5_isTold 70 = .ok (.invokevirtual 123, 3) := by decide +kernel
theorem dX5_isTold_73 : decode cX5_isTold 73 = .ok (.iinc 4 1, 3) := by decide +kernel
theorem dX5_isTold_76 : decode cX5_isTold 76 = .ok (.goto (-60), 3) := by decide +kernel
theorem dX5_isTold_79 : decode cX5_isTold 79 = .ok (.aload_n 0, 1) := by decide +kernel
theorem dX5_isTold_80 : decode cX5_isTold 80 = .ok (.getfield 19, 3) := by decide +kernel
theorem dX5_isTold_83 : decode cX5_isTold 83 = .ok (.aload_n 0, 1) := by decide +kernel
theorem dX5_isTold_84 : decode cX5_isTold 84 = .ok (.getfield 7, 3) := by decide +kernel
theorem dX5_isTold_87 : decode cX5_isTold 87 = .ok (.invokestatic 139, 3) := by decide +kernel
theorem dX5_isTold_90 : decode cX5_isTold 90 = .ok (.iload_n 3, 1) := by decide +kernel
theorem dX5_isTold_91 : decode cX5_isTold 91 = .ok (.ireturn, 1) := by decide +kernel
theorem dX5_findsFits_0 : decode cX5_findsFits 0 = .ok (.aload_n 0, 1) := by decide +kernel
theorem dX5_findsFits_1 : decode cX5_findsFits 1 = .ok (.invokevirtual 152, 3) := by decide +kernel
theorem dX5_findsFits_4 : decode cX5_findsFits 4 = .ok (.istore_n 3, 1) := by decide +kernel
theorem dX5_findsFits_5 : decode cX5_findsFits 5 = .ok (.aload_n 0, 1) := by decide +kernel
theorem dX5_findsFits_6 : decode cX5_findsFits 6 = .ok (.getfield 7, 3) := by decide +kernel
theorem dX5_findsFits_9 : decode cX5_findsFits 9 = .ok (.iload_n 3, 1) := by decide +kernel
theorem dX5_findsFits_10 : decode cX5_findsFits 10 = .ok (.iaload, 1) := by decide +kernel
theorem dX5_findsFits_11 : decode cX5_findsFits 11 = .ok (.istore 4, 2) := by decide +kernel
theorem dX5_findsFits_13 : decode cX5_findsFits 13 = .ok (.aload_n 0, 1) := by decide +kernel
theorem dX5_findsFits_14 : decode cX5_findsFits 14 = .ok (.iconst 0, 1) := by decide +kernel
theorem dX5_findsFits_15 : decode cX5_findsFits 15 = .ok (.putfield 165, 3) := by decide +kernel
theorem dX5_findsFits_18 : decode cX5_findsFits 18 = .ok (.bipush 20, 2) := by decide +kernel
theorem dX5_findsFits_20 : decode cX5_findsFits 20 = .ok (.istore 5, 2) := by decide +kernel
theorem dX5_findsFits_22 : decode cX5_findsFits 22 = .ok (.iload 5, 2) := by decide +kernel
theorem dX5_findsFits_24 : decode cX5_findsFits 24 = .ok (.ifCond .lt 55, 3) := by decide +kernel
theorem dX5_findsFits_27 : decode cX5_findsFits 27 = .ok (.aload_n 0, 1) := by decide +kernel
theorem dX5_findsFits_28 : decode cX5_findsFits 28 = .ok (.getfield 7, 3) := by decide +kernel
theorem dX5_findsFits_31 : decode cX5_findsFits 31 = .ok (.iload_n 3, 1) := by decide +kernel
theorem dX5_findsFits_32 : decode cX5_findsFits 32 = .ok (.iload 4, 2) := by decide +kernel
theorem dX5_findsFits_34 : decode cX5_findsFits 34 = .ok (.bipush 100, 2) := by decide +kernel
theorem dX5_findsFits_36 : decode cX5_findsFits 36 = .ok (.idiv, 1) := by decide +kernel
theorem dX5_findsFits_37 : decode cX5_findsFits 37 = .ok (.bipush 100, 2) := by decide +kernel
theorem dX5_findsFits_39 : decode cX5_findsFits 39 = .ok (.imul, 1) := by decide +kernel
theorem dX5_findsFits_40 : decode cX5_findsFits 40 = .ok (.iload 5, 2) := by decide +kernel
theorem dX5_findsFits_42 : decode cX5_findsFits 42 = .ok (.iadd, 1) := by decide +kernel
theorem dX5_findsFits_43 : decode cX5_findsFits 43 = .ok (.iastore, 1) := by decide +kernel
theorem dX5_findsFits_44 : decode cX5_findsFits 44 = .ok (.aload_n 0, 1) := by decide +kernel
theorem dX5_findsFits_45 : decode cX5_findsFits 45 = .ok (.iload_n 1, 1) := by decide +kernel
theorem dX5_findsFits_46 : decode cX5_findsFits 46 = .ok (.iload_n 2, 1) := by decide +kernel
theorem dX5_findsFits_47 : decode cX5_findsFits 47 = .ok (.iconst 3, 1) := by decide +kernel
theorem dX5_findsFits_48 : decode cX5_findsFits 48 = .ok (.invokestatic 61, 3) := by decide +kernel
theorem dX5_findsFits_51 : decode cX5_findsFits 51 = .ok (.invokevirtual 169, 3) := by decide +kernel
theorem dX5_findsFits_54 : decode cX5_findsFits 54 = .ok (.ifCond .eq 19, 3) := by decide +kernel
theorem dX5_findsFits_57 : decode cX5_findsFits 57 = .ok (.aload_n 0, 1) := by decide +kernel
theorem dX5_findsFits_58 : decode cX5_findsFits 58 = .ok (.dup, 1) := by decide +kernel
theorem dX5_findsFits_59 : decode cX5_findsFits 59 = .ok (.getfield 165, 3) := by decide +kernel
theorem dX5_findsFits_62 : decode cX5_findsFits 62 = .ok (.iconst 1, 1) := by decide +kernel
theorem dX5_findsFits_63 : decode cX5_findsFits 63 = .ok (.iadd, 1) := by decide +kernel
theorem dX5_findsFits_64 : decode cX5_findsFits 64 = .ok (.putfield 165, 3) := by decide +kernel
theorem dX5_findsFits_67 : decode cX5_findsFits 67 = .ok (.aload_n 0, 1) := by decide +kernel
theorem dX5_findsFits_68 : decode cX5_findsFits 68 = .ok (.iload 5, 2) := by decide +kernel
theorem dX5_findsFits_70 : decode cX5_findsFits 70 = .ok (.putfield 172, 3) := by decide +kernel
theorem dX5_findsFits_73 : decode cX5_findsFits 73 = .ok (.iinc 5 (-1), 3) := by decide +kernel
theorem dX5_findsFits_76 : decode cX5_findsFits 76 = .ok (.goto (-54), 3) := by decide +kernel
theorem dX5_findsFits_79 : decode cX5_findsFits 79 = .ok (.aload_n 0, 1) := by decide +kernel
theorem dX5_findsFits_80 : decode cX5_findsFits 80 = .ok (.getfield 7, 3) := by decide +kernel
theorem dX5_findsFits_83 : decode cX5_findsFits 83 = .ok (.iload_n 3, 1) := by decide +kernel
theorem dX5_findsFits_84 : decode cX5_findsFits 84 = .ok (.iload 4, 2) := by decide +kernel
theorem dX5_findsFits_86 : decode cX5_findsFits 86 = .ok (.iastore, 1) := by decide +kernel
theorem dX5_findsFits_87 : decode cX5_findsFits 87 = .ok (.return_, 1) := by decide +kernel
theorem dX5_wantsFor_0 : decode cX5_wantsFor 0 = .ok (.aload_n 0, 1) := by decide +kernel
theorem dX5_wantsFor_1 : decode cX5_wantsFor 1 = .ok (.iload_n 1, 1) := by decide +kernel
theorem dX5_wantsFor_2 : decode cX5_wantsFor 2 = .ok (.invokevirtual 175, 3) := by decide +kernel
theorem dX5_wantsFor_5 : decode cX5_wantsFor 5 = .ok (.ifCond .eq 11, 3) := by decide +kernel
theorem dX5_wantsFor_8 : decode cX5_wantsFor 8 = .ok (.aload_n 0, 1) := by decide +kernel
theorem dX5_wantsFor_9 : decode cX5_wantsFor 9 = .ok (.iload_n 1, 1) := by decide +kernel
theorem dX5_wantsFor_10 : decode cX5_wantsFor 10 = .ok (.invokevirtual 175, 3) := by decide +kernel
theorem dX5_wantsFor_13 : decode cX5_wantsFor 13 = .ok (.goto 17, 3) := by decide +kernel
theorem dX5_wantsFor_16 : decode cX5_wantsFor 16 = .ok (.aload_n 0, 1) := by decide +kernel
theorem dX5_wantsFor_17 : decode cX5_wantsFor 17 = .ok (.iload_n 2, 1) := by decide +kernel
theorem dX5_wantsFor_18 : decode cX5_wantsFor 18 = .ok (.invokevirtual 85, 3) := by decide +kernel
theorem dX5_wantsFor_21 : decode cX5_wantsFor 21 = .ok (.ifCond .eq 7, 3) := by decide +kernel
theorem dX5_wantsFor_24 : decode cX5_wantsFor 24 = .ok (.iconst 0, 1) := by decide +kernel
theorem dX5_wantsFor_25 : decode cX5_wantsFor 25 = .ok (.goto 5, 3) := by decide +kernel
theorem dX5_wantsFor_28 : decode cX5_wantsFor 28 = .ok (.ldc 37, 2) := by decide +kernel
theorem dX5_wantsFor_30 : decode cX5_wantsFor 30 = .ok (.ireturn, 1) := by decide +kernel
theorem dX5_fits_0 : decode cX5_fits 0 = .ok (.aload_n 0, 1) := by decide +kernel
theorem dX5_fits_1 : decode cX5_fits 1 = .ok (.iload_n 1, 1) := by decide +kernel
theorem dX5_fits_2 : decode cX5_fits 2 = .ok (.iload_n 2, 1) := by decide +kernel
theorem dX5_fits_3 : decode cX5_fits 3 = .ok (.invokevirtual 178, 3) := by decide +kernel
theorem dX5_fits_6 : decode cX5_fits 6 = .ok (.istore_n 3, 1) := by decide +kernel
theorem dX5_fits_7 : decode cX5_fits 7 = .ok (.iload_n 3, 1) := by decide +kernel
theorem dX5_fits_8 : decode cX5_fits 8 = .ok (.ifCond .eq 9, 3) := by decide +kernel
theorem dX5_fits_11 : decode cX5_fits 11 = .ok (.aload_n 0, 1) := by decide +kernel
theorem dX5_fits_12 : decode cX5_fits 12 = .ok (.iload_n 3, 1) := by decide +kernel
theorem dX5_fits_13 : decode cX5_fits 13 = .ok (.invokevirtual 39, 3) := by decide +kernel
theorem dX5_fits_16 : decode cX5_fits 16 = .ok (.ireturn, 1) := by decide +kernel
theorem dX5_fits_17 : decode cX5_fits 17 = .ok (.aload_n 0, 1) := by decide +kernel
theorem dX5_fits_18 : decode cX5_fits 18 = .ok (.iload_n 1, 1) := by decide +kernel
theorem dX5_fits_19 : decode cX5_fits 19 = .ok (.iload_n 2, 1) := by decide +kernel
theorem dX5_fits_20 : decode cX5_fits 20 = .ok (.invokevirtual 181, 3) := by decide +kernel
theorem dX5_fits_23 : decode cX5_fits 23 = .ok (.aload_n 0, 1) := by decide +kernel
theorem dX5_fits_24 : decode cX5_fits 24 = .ok (.getfield 165, 3) := by decide +kernel
theorem dX5_fits_27 : decode cX5_fits 27 = .ok (.ireturn, 1) := by decide +kernel
theorem dX5_weighed_0 : decode cX5_weighed 0 = .ok (.aload_n 0, 1) := by decide +kernel
theorem dX5_weighed_1 : decode cX5_weighed 1 = .ok (.iload_n 1, 1) := by decide +kernel
theorem dX5_weighed_2 : decode cX5_weighed 2 = .ok (.iload_n 2, 1) := by decide +kernel
theorem dX5_weighed_3 : decode cX5_weighed 3 = .ok (.invokevirtual 178, 3) := by decide +kernel
theorem dX5_weighed_6 : decode cX5_weighed 6 = .ok (.istore_n 3, 1) := by decide +kernel
theorem dX5_weighed_7 : decode cX5_weighed 7 = .ok (.iload_n 3, 1) := by decide +kernel
theorem dX5_weighed_8 : decode cX5_weighed 8 = .ok (.ifCond .eq 9, 3) := by decide +kernel
theorem dX5_weighed_11 : decode cX5_weighed 11 = .ok (.aload_n 0, 1) := by decide +kernel
theorem dX5_weighed_12 : decode cX5_weighed 12 = .ok (.iload_n 3, 1) := by decide +kernel
theorem dX5_weighed_13 : decode cX5_weighed 13 = .ok (.invokevirtual 39, 3) := by decide +kernel
theorem dX5_weighed_16 : decode cX5_weighed 16 = .ok (.ireturn, 1) := by decide +kernel
theorem dX5_weighed_17 : decode cX5_weighed 17 = .ok (.aload_n 0, 1) := by decide +kernel
theorem dX5_weighed_18 : decode cX5_weighed 18 = .ok (.iload_n 1, 1) := by decide +kernel
theorem dX5_weighed_19 : decode cX5_weighed 19 = .ok (.iload_n 2, 1) := by decide +kernel
theorem dX5_weighed_20 : decode cX5_weighed 20 = .ok (.invokevirtual 181, 3) := by decide +kernel
theorem dX5_weighed_23 : decode cX5_weighed 23 = .ok (.aload_n 0, 1) := by decide +kernel
theorem dX5_weighed_24 : decode cX5_weighed 24 = .ok (.getfield 165, 3) := by decide +kernel
theorem dX5_weighed_27 : decode cX5_weighed 27 = .ok (.ifCond .le 10, 3) := by decide +kernel
theorem dX5_weighed_30 : decode cX5_weighed 30 = .ok (.aload_n 0, 1) := by decide +kernel
theorem dX5_weighed_31 : decode cX5_weighed 31 = .ok (.getfield 172, 3) := by decide +kernel
theorem dX5_weighed_34 : decode cX5_weighed 34 = .ok (.goto 9, 3) := by decide +kernel
theorem dX5_weighed_37 : decode cX5_weighed 37 = .ok (.aload_n 0, 1) := by decide +kernel
theorem dX5_weighed_38 : decode cX5_weighed 38 = .ok (.ldc 38, 2) := by decide +kernel
theorem dX5_weighed_40 : decode cX5_weighed 40 = .ok (.invokevirtual 39, 3) := by decide +kernel
theorem dX5_weighed_43 : decode cX5_weighed 43 = .ok (.ireturn, 1) := by decide +kernel
theorem dX5_kinds_0 : decode cX5_kinds 0 = .ok (.aload_n 0, 1) := by decide +kernel
theorem dX5_kinds_1 : decode cX5_kinds 1 = .ok (.iload_n 1, 1) := by decide +kernel
theorem dX5_kinds_2 : decode cX5_kinds 2 = .ok (.iload_n 2, 1) := by decide +kernel
theorem dX5_kinds_3 : decode cX5_kinds 3 = .ok (.invokevirtual 178, 3) := by decide +kernel
theorem dX5_kinds_6 : decode cX5_kinds 6 = .ok (.istore_n 3, 1) := by decide +kernel
theorem dX5_kinds_7 : decode cX5_kinds 7 = .ok (.iload_n 3, 1) := by decide +kernel
theorem dX5_kinds_8 : decode cX5_kinds 8 = .ok (.ifCond .eq 9, 3) := by decide +kernel
theorem dX5_kinds_11 : decode cX5_kinds 11 = .ok (.aload_n 0, 1) := by decide +kernel
theorem dX5_kinds_12 : decode cX5_kinds 12 = .ok (.iload_n 3, 1) := by decide +kernel
theorem dX5_kinds_13 : decode cX5_kinds 13 = .ok (.invokevirtual 39, 3) := by decide +kernel
theorem dX5_kinds_16 : decode cX5_kinds 16 = .ok (.ireturn, 1) := by decide +kernel
theorem dX5_kinds_17 : decode cX5_kinds 17 = .ok (.aload_n 0, 1) := by decide +kernel
theorem dX5_kinds_18 : decode cX5_kinds 18 = .ok (.iload_n 2, 1) := by decide +kernel
theorem dX5_kinds_19 : decode cX5_kinds 19 = .ok (.iconst 0, 1) := by decide +kernel
theorem dX5_kinds_20 : decode cX5_kinds 20 = .ok (.invokevirtual 73, 3) := by decide +kernel
theorem dX5_kinds_23 : decode cX5_kinds 23 = .ok (.istore 4, 2) := by decide +kernel
theorem dX5_kinds_25 : decode cX5_kinds 25 = .ok (.iconst 0, 1) := by decide +kernel
theorem dX5_kinds_26 : decode cX5_kinds 26 = .ok (.istore 5, 2) := by decide +kernel
theorem dX5_kinds_28 : decode cX5_kinds 28 = .ok (.iconst 0, 1) := by decide +kernel
theorem dX5_kinds_29 : decode cX5_kinds 29 = .ok (.istore 6, 2) := by decide +kernel
theorem dX5_kinds_31 : decode cX5_kinds 31 = .ok (.iload 6, 2) := by decide +kernel
theorem dX5_kinds_33 : decode cX5_kinds 33 = .ok (.bipush 6, 2) := by decide +kernel
theorem dX5_kinds_35 : decode cX5_kinds 35 = .ok (.if_icmp .gt 47, 3) := by decide +kernel
theorem dX5_kinds_38 : decode cX5_kinds 38 = .ok (.aload_n 0, 1) := by decide +kernel
theorem dX5_kinds_39 : decode cX5_kinds 39 = .ok (.getfield 7, 3) := by decide +kernel
theorem dX5_kinds_42 : decode cX5_kinds 42 = .ok (.iload_n 2, 1) := by decide +kernel
theorem dX5_kinds_43 : decode cX5_kinds 43 = .ok (.iconst 0, 1) := by decide +kernel
theorem dX5_kinds_44 : decode cX5_kinds 44 = .ok (.invokestatic 61, 3) := by decide +kernel
theorem dX5_kinds_47 : decode cX5_kinds 47 = .ok (.iload 6, 2) := by decide +kernel
theorem dX5_kinds_49 : decode cX5_kinds 49 = .ok (.iastore, 1) := by decide +kernel
theorem dX5_kinds_50 : decode cX5_kinds 50 = .ok (.iload 5, 2) := by decide +kernel
theorem dX5_kinds_52 : decode cX5_kinds 52 = .ok (.aload_n 0, 1) := by decide +kernel
theorem dX5_kinds_53 : decode cX5_kinds 53 = .ok (.iload_n 1, 1) := by decide +kernel
theorem dX5_kinds_54 : decode cX5_kinds 54 = .ok (.iload_n 2, 1) := by decide +kernel
theorem dX5_kinds_55 : decode cX5_kinds 55 = .ok (.iconst 1, 1) := by decide +kernel
theorem dX5_kinds_56 : decode cX5_kinds 56 = .ok (.invokestatic 61, 3) := by decide +kernel
theorem dX5_kinds_59 : decode cX5_kinds 59 = .ok (.invokevirtual 169, 3) := by decide +kernel
theorem dX5_kinds_62 : decode cX5_kinds 62 = .ok (.ifCond .eq 10, 3) := by decide +kernel
theorem dX5_kinds_65 : decode cX5_kinds 65 = .ok (.iconst 1, 1) := by decide +kernel
theorem dX5_kinds_66 : decode cX5_kinds 66 = .ok (.iload 6, 2) := by decide +kernel
theorem dX5_kinds_68 : decode cX5_kinds 68 = .ok (.ishl, 1) := by decide +kernel
theorem dX5_kinds_69 : decode cX5_kinds 69 = .ok (.goto 4, 3) := by decide +kernel
theorem dX5_kinds_72 : decode cX5_kinds 72 = .ok (.iconst 0, 1) := by decide +kernel
theorem dX5_kinds_73 : decode cX5_kinds 73 = .ok (.ior, 1) := by decide +kernel
theorem dX5_kinds_74 : decode cX5_kinds 74 = .ok (.istore 5, 2) := by decide +kernel
theorem dX5_kinds_76 : decode cX5_kinds 76 = .ok (.iinc 6 1, 3) := by decide +kernel
theorem dX5_kinds_79 : decode cX5_kinds 79 = .ok (.goto (-48), 3) := by decide +kernel
theorem dX5_kinds_82 : decode cX5_kinds 82 = .ok (.aload_n 0, 1) := by decide +kernel
theorem dX5_kinds_83 : decode cX5_kinds 83 = .ok (.getfield 7, 3) := by decide +kernel
theorem dX5_kinds_86 : decode cX5_kinds 86 = .ok (.iload_n 2, 1) := by decide +kernel
theorem dX5_kinds_87 : decode cX5_kinds 87 = .ok (.iconst 0, 1) := by decide +kernel
theorem dX5_kinds_88 : decode cX5_kinds 88 = .ok (.invokestatic 61, 3) := by decide +kernel
theorem dX5_kinds_91 : decode cX5_kinds 91 = .ok (.iload 4, 2) := by decide +kernel
theorem dX5_kinds_93 : decode cX5_kinds 93 = .ok (.iastore, 1) := by decide +kernel
theorem dX5_kinds_94 : decode cX5_kinds 94 = .ok (.iload 5, 2) := by decide +kernel
theorem dX5_kinds_96 : decode cX5_kinds 96 = .ok (.ireturn, 1) := by decide +kernel
theorem dX5_draw_0 : decode cX5_draw 0 = .ok (.aload_n 0, 1) := by decide +kernel
theorem dX5_draw_1 : decode cX5_draw 1 = .ok (.getfield 7, 3) := by decide +kernel
theorem dX5_draw_4 : decode cX5_draw 4 = .ok (.iconst 2, 1) := by decide +kernel
theorem dX5_draw_5 : decode cX5_draw 5 = .ok (.aload_n 0, 1) := by decide +kernel
theorem dX5_draw_6 : decode cX5_draw 6 = .ok (.getfield 7, 3) := by decide +kernel
theorem dX5_draw_9 : decode cX5_draw 9 = .ok (.iconst 2, 1) := by decide +kernel
theorem dX5_draw_10 : decode cX5_draw 10 = .ok (.iaload, 1) := by decide +kernel
theorem dX5_draw_11 : decode cX5_draw 11 = .ok (.ldc 184, 2) := by decide +kernel
theorem dX5_draw_13 : decode cX5_draw 13 = .ok (.imul, 1) := by decide +kernel
theorem dX5_draw_14 : decode cX5_draw 14 = .ok (.sipush 12345, 3) := by decide +kernel
theorem dX5_draw_17 : decode cX5_draw 17 = .ok (.iadd, 1) := by decide +kernel
theorem dX5_draw_18 : decode cX5_draw 18 = .ok (.iastore, 1) := by decide +kernel
theorem dX5_draw_19 : decode cX5_draw 19 = .ok (.aload_n 0, 1) := by decide +kernel
theorem dX5_draw_20 : decode cX5_draw 20 = .ok (.getfield 7, 3) := by decide +kernel
theorem dX5_draw_23 : decode cX5_draw 23 = .ok (.iconst 2, 1) := by decide +kernel
theorem dX5_draw_24 : decode cX5_draw 24 = .ok (.iaload, 1) := by decide +kernel
theorem dX5_draw_25 : decode cX5_draw 25 = .ok (.bipush 8, 2) := by decide +kernel
theorem dX5_draw_27 : decode cX5_draw 27 = .ok (.iushr, 1) := by decide +kernel
theorem dX5_draw_28 : decode cX5_draw 28 = .ok (.ireturn, 1) := by decide +kernel
theorem dX5_gossip_0 : decode cX5_gossip 0 = .ok (.iload_n 1, 1) := by decide +kernel
theorem dX5_gossip_1 : decode cX5_gossip 1 = .ok (.i2l, 1) := by decide +kernel
theorem dX5_gossip_2 : decode cX5_gossip 2 = .ok (.lconst 1, 1) := by decide +kernel
theorem dX5_gossip_3 : decode cX5_gossip 3 = .ok (.ldc2_w 55, 3) := by decide +kernel
theorem dX5_gossip_6 : decode cX5_gossip 6 = .ok (.invokestatic 45, 3) := by decide +kernel
theorem dX5_gossip_9 : decode cX5_gossip 9 = .ok (.ifCond .ne 10, 3) := by decide +kernel
theorem dX5_gossip_12 : decode cX5_gossip 12 = .ok (.aload_n 0, 1) := by decide +kernel
theorem dX5_gossip_13 : decode cX5_gossip 13 = .ok (.ldc 37, 2) := by decide +kernel
theorem dX5_gossip_15 : decode cX5_gossip 15 = .ok (.invokevirtual 39, 3) := by decide +kernel
theorem dX5_gossip_18 : decode cX5_gossip 18 = .ok (.ireturn, 1) := by decide +kernel
theorem dX5_gossip_19 : decode cX5_gossip 19 = .ok (.aload_n 0, 1) := by decide +kernel
theorem dX5_gossip_20 : decode cX5_gossip 20 = .ok (.getfield 7, 3) := by decide +kernel
theorem dX5_gossip_23 : decode cX5_gossip 23 = .ok (.iconst 1, 1) := by decide +kernel
theorem dX5_gossip_24 : decode cX5_gossip 24 = .ok (.iaload, 1) := by decide +kernel
theorem dX5_gossip_25 : decode cX5_gossip 25 = .ok (.iload_n 1, 1) := by decide +kernel
theorem dX5_gossip_26 : decode cX5_gossip 26 = .ok (.iadd, 1) := by decide +kernel
theorem dX5_gossip_27 : decode cX5_gossip 27 = .ok (.ldc 118, 2) := by decide +kernel
theorem dX5_gossip_29 : decode cX5_gossip 29 = .ok (.if_icmp .le 10, 3) := by decide +kernel
theorem dX5_gossip_32 : decode cX5_gossip 32 = .ok (.aload_n 0, 1) := by decide +kernel
theorem dX5_gossip_33 : decode cX5_gossip 33 = .ok (.ldc 128, 2) := by decide +kernel
theorem dX5_gossip_35 : decode cX5_gossip 35 = .ok (.invokevirtual 39, 3) := by decide +kernel
theorem dX5_gossip_38 : decode cX5_gossip 38 = .ok (.ireturn, 1) := by decide +kernel
theorem dX5_gossip_39 : decode cX5_gossip 39 = .ok (.iconst 0, 1) := by decide +kernel
theorem dX5_gossip_40 : decode cX5_gossip 40 = .ok (.istore_n 2, 1) := by decide +kernel
theorem dX5_gossip_41 : decode cX5_gossip 41 = .ok (.iload_n 2, 1) := by decide +kernel
theorem dX5_gossip_42 : decode cX5_gossip 42 = .ok (.iload_n 1, 1) := by decide +kernel
theorem dX5_gossip_43 : decode cX5_gossip 43 = .ok (.if_icmp .ge 43, 3) := by decide +kernel
theorem dX5_gossip_46 : decode cX5_gossip 46 = .ok (.aload_n 0, 1) := by decide +kernel
theorem dX5_gossip_47 : decode cX5_gossip 47 = .ok (.invokevirtual 185, 3) := by decide +kernel
theorem dX5_gossip_50 : decode cX5_gossip 50 = .ok (.bipush 8, 2) := by decide +kernel
theorem dX5_gossip_52 : decode cX5_gossip 52 = .ok (.irem, 1) := by decide +kernel
theorem dX5_gossip_53 : decode cX5_gossip 53 = .ok (.istore_n 3, 1) := by decide +kernel
theorem dX5_gossip_54 : decode cX5_gossip 54 = .ok (.aload_n 0, 1) := by decide +kernel
theorem dX5_gossip_55 : decode cX5_gossip 55 = .ok (.getfield 7, 3) := by decide +kernel
theorem dX5_gossip_58 : decode cX5_gossip 58 = .ok (.aload_n 0, 1) := by decide +kernel
theorem dX5_gossip_59 : decode cX5_gossip 59 = .ok (.invokevirtual 152, 3) := by decide +kernel
theorem dX5_gossip_62 : decode cX5_gossip 62 = .ok (.bipush 100, 2) := by decide +kernel
theorem dX5_gossip_64 : decode cX5_gossip 64 = .ok (.iload_n 3, 1) := by decide +kernel
theorem dX5_gossip_65 : decode cX5_gossip 65 = .ok (.imul, 1) := by decide +kernel
theorem dX5_gossip_66 : decode cX5_gossip 66 = .ok (.aload_n 0, 1) := by decide +kernel
theorem dX5_gossip_67 : decode cX5_gossip 67 = .ok (.invokevirtual 185, 3) := by decide +kernel
theorem dX5_gossip_70 : decode cX5_gossip 70 = .ok (.bipush 21, 2) := by decide +kernel
theorem dX5_gossip_72 : decode cX5_gossip 72 = .ok (.irem, 1) := by decide +kernel
theorem dX5_gossip_73 : decode cX5_gossip 73 = .ok (.iadd, 1) := by decide +kernel
theorem dX5_gossip_74 : decode cX5_gossip 74 = .ok (.iastore, 1) := by decide +kernel
theorem dX5_gossip_75 : decode cX5_gossip 75 = .ok (.aload_n 0, 1) := by decide +kernel
theorem dX5_gossip_76 : decode cX5_gossip 76 = .ok (.iconst 0, 1) := by decide +kernel
theorem dX5_gossip_77 : decode cX5_gossip 77 = .ok (.invokevirtual 123, 3) := by decide +kernel
theorem dX5_gossip_80 : decode cX5_gossip 80 = .ok (.iinc 2 1, 3) := by decide +kernel
theorem dX5_gossip_83 : decode cX5_gossip 83 = .ok (.goto (-42), 3) := by decide +kernel
theorem dX5_gossip_86 : decode cX5_gossip 86 = .ok (.aload_n 0, 1) := by decide +kernel
theorem dX5_gossip_87 : decode cX5_gossip 87 = .ok (.iconst 1, 1) := by decide +kernel
theorem dX5_gossip_88 : decode cX5_gossip 88 = .ok (.invokevirtual 132, 3) := by decide +kernel
theorem dX5_gossip_91 : decode cX5_gossip 91 = .ok (.ireturn, 1) := by decide +kernel
theorem dX5_odds_0 : decode cX5_odds 0 = .ok (.iload_n 1, 1) := by decide +kernel
theorem dX5_odds_1 : decode cX5_odds 1 = .ok (.i2l, 1) := by decide +kernel
theorem dX5_odds_2 : decode cX5_odds 2 = .ok (.lconst 0, 1) := by decide +kernel
theorem dX5_odds_3 : decode cX5_odds 3 = .ok (.ldc2_w 55, 3) := by decide +kernel
theorem dX5_odds_6 : decode cX5_odds 6 = .ok (.invokestatic 45, 3) := by decide +kernel
theorem dX5_odds_9 : decode cX5_odds 9 = .ok (.ifCond .eq 13, 3) := by decide +kernel
theorem dX5_odds_12 : decode cX5_odds 12 = .ok (.iload_n 2, 1) := by decide +kernel
theorem dX5_odds_13 : decode cX5_odds 13 = .ok (.i2l, 1) := by decide +kernel
theorem dX5_odds_14 : decode cX5_odds 14 = .ok (.lconst 0, 1) := by decide +kernel
theorem dX5_odds_15 : decode cX5_odds 15 = .ok (.lconst 1, 1) := by decide +kernel
theorem dX5_odds_16 : decode cX5_odds 16 = .ok (.invokestatic 45, 3) := by decide +kernel
theorem dX5_odds_19 : decode cX5_odds 19 = .ok (.ifCond .ne 11, 3) := by decide +kernel
theorem dX5_odds_22 : decode cX5_odds 22 = .ok (.aload_n 0, 1) := by decide +kernel
theorem dX5_odds_23 : decode cX5_odds 23 = .ok (.ldc 37, 2) := by decide +kernel
theorem dX5_odds_25 : decode cX5_odds 25 = .ok (.invokevirtual 39, 3) := by decide +kernel
theorem dX5_odds_28 : decode cX5_odds 28 = .ok (.i2l, 1) := by decide +kernel
theorem dX5_odds_29 : decode cX5_odds 29 = .ok (.lreturn, 1) := by decide +kernel
theorem dX5_odds_30 : decode cX5_odds 30 = .ok (.lconst 1, 1) := by decide +kernel
theorem dX5_odds_31 : decode cX5_odds 31 = .ok (.lstore_n 3, 1) := by decide +kernel
theorem dX5_odds_32 : decode cX5_odds 32 = .ok (.lconst 1, 1) := by decide +kernel
theorem dX5_odds_33 : decode cX5_odds 33 = .ok (.lstore 5, 2) := by decide +kernel
theorem dX5_odds_35 : decode cX5_odds 35 = .ok (.iconst 0, 1) := by decide +kernel
theorem dX5_odds_36 : decode cX5_odds 36 = .ok (.istore 7, 2) := by decide +kernel
theorem dX5_odds_38 : decode cX5_odds 38 = .ok (.iconst 0, 1) := by decide +kernel
theorem dX5_odds_39 : decode cX5_odds 39 = .ok (.istore 8, 2) := by decide +kernel
theorem dX5_odds_41 : decode cX5_odds 41 = .ok (.iload 8, 2) := by decide +kernel
theorem dX5_odds_43 : decode cX5_odds 43 = .ok (.aload_n 0, 1) := by decide +kernel
theorem dX5_odds_44 : decode cX5_odds 44 = .ok (.getfield 7, 3) := by decide +kernel
theorem dX5_odds_47 : decode cX5_odds 47 = .ok (.iconst 0, 1) := by decide +kernel
theorem dX5_odds_48 : decode cX5_odds 48 = .ok (.iaload, 1) := by decide +kernel
theorem dX5_odds_49 : decode cX5_odds 49 = .ok (.if_icmp .ge 28, 3) := by decide +kernel
theorem dX5_odds_52 : decode cX5_odds 52 = .ok (.iload 7, 2) := by decide +kernel
theorem dX5_odds_54 : decode cX5_odds 54 = .ok (.aload_n 0, 1) := by decide +kernel
theorem dX5_odds_55 : decode cX5_odds 55 = .ok (.iload 8, 2) := by decide +kernel
theorem dX5_odds_57 : decode cX5_odds 57 = .ok (.invokevirtual 91, 3) := by decide +kernel
theorem dX5_odds_60 : decode cX5_odds 60 = .ok (.ifCond .le 7, 3) := by decide +kernel
theorem dX5_odds_63 : decode cX5_odds 63 = .ok (.iconst 1, 1) := by decide +kernel
theorem dX5_odds_64 : decode cX5_odds 64 = .ok (.goto 4, 3) := by decide +kernel
theorem dX5_odds_67 : decode cX5_odds 67 = .ok (.iconst 0, 1) := by decide +kernel
theorem dX5_odds_68 : decode cX5_odds 68 = .ok (.iadd, 1) := by decide +kernel
theorem dX5_odds_69 : decode cX5_odds 69 = .ok (.istore 7, 2) := by decide +kernel
theorem dX5_odds_71 : decode cX5_odds 71 = .ok (.iinc 8 1, 3) := by decide +kernel
theorem dX5_odds_74 : decode cX5_odds 74 = .ok (.goto (-33), 3) := by decide +kernel
theorem dX5_odds_77 : decode cX5_odds 77 = .ok (.iconst 0, 1) := by decide +kernel
theorem dX5_odds_78 : decode cX5_odds 78 = .ok (.istore 8, 2) := by decide +kernel
theorem dX5_odds_80 : decode cX5_odds 80 = .ok (.iload 8, 2) := by decide +kernel
theorem dX5_odds_82 : decode cX5_odds 82 = .ok (.iload_n 1, 1) := by decide +kernel
theorem dX5_odds_83 : decode cX5_odds 83 = .ok (.if_icmp .ge 23, 3) := by decide +kernel
theorem dX5_odds_86 : decode cX5_odds 86 = .ok (.lload_n 3, 1) := by decide +kernel
theorem dX5_odds_87 : decode cX5_odds 87 = .ok (.iload 7, 2) := by decide +kernel
theorem dX5_odds_89 : decode cX5_odds 89 = .ok (.i2l, 1) := by decide +kernel
theorem dX5_odds_90 : decode cX5_odds 90 = .ok (.lmul, 1) := by decide +kernel
theorem dX5_odds_91 : decode cX5_odds 91 = .ok (.lstore_n 3, 1) := by decide +kernel
theorem dX5_odds_92 : decode cX5_odds 92 = .ok (.lload 5, 2) := by decide +kernel
theorem dX5_odds_94 : decode cX5_odds 94 = .ok (.ldc2_w 188, 3) := by decide +kernel
theorem dX5_odds_97 : decode cX5_odds 97 = .ok (.lmul, 1) := by decide +kernel
theorem dX5_odds_98 : decode cX5_odds 98 = .ok (.lstore 5, 2) := by decide +kernel
theorem dX5_odds_100 : decode cX5_odds 100 = .ok (.iinc 8 1, 3) := by decide +kernel
theorem dX5_odds_103 : decode cX5_odds 103 = .ok (.goto (-23), 3) := by decide +kernel
theorem dX5_odds_106 : decode cX5_odds 106 = .ok (.lload_n 3, 1) := by decide +kernel
theorem dX5_odds_107 : decode cX5_odds 107 = .ok (.lconst 0, 1) := by decide +kernel
theorem dX5_odds_108 : decode cX5_odds 108 = .ok (.lcmp, 1) := by decide +kernel
theorem dX5_odds_109 : decode cX5_odds 109 = .ok (.ifCond .ne 7, 3) := by decide +kernel
theorem dX5_odds_112 : decode cX5_odds 112 = .ok (.lconst 1, 1) := by decide +kernel
theorem dX5_odds_113 : decode cX5_odds 113 = .ok (.goto 5, 3) := by decide +kernel
theorem dX5_odds_116 : decode cX5_odds 116 = .ok (.lload 5, 2) := by decide +kernel
theorem dX5_odds_118 : decode cX5_odds 118 = .ok (.lstore 5, 2) := by decide +kernel
theorem dX5_odds_120 : decode cX5_odds 120 = .ok (.lload_n 3, 1) := by decide +kernel
theorem dX5_odds_121 : decode cX5_odds 121 = .ok (.ldc2_w 190, 3) := by decide +kernel
theorem dX5_odds_124 : decode cX5_odds 124 = .ok (.lrem, 1) := by decide +kernel
theorem dX5_odds_125 : decode cX5_odds 125 = .ok (.lconst 0, 1) := by decide +kernel
theorem dX5_odds_126 : decode cX5_odds 126 = .ok (.lcmp, 1) := by decide +kernel
theorem dX5_odds_127 : decode cX5_odds 127 = .ok (.ifCond .ne 31, 3) := by decide +kernel
theorem dX5_odds_130 : decode cX5_odds 130 = .ok (.lload 5, 2) := by decide +kernel
theorem dX5_odds_132 : decode cX5_odds 132 = .ok (.ldc2_w 190, 3) := by decide +kernel
theorem dX5_odds_135 : decode cX5_odds 135 = .ok (.lrem, 1) := by decide +kernel
theorem dX5_odds_136 : decode cX5_odds 136 = .ok (.lconst 0, 1) := by decide +kernel
theorem dX5_odds_137 : decode cX5_odds 137 = .ok (.lcmp, 1) := by decide +kernel
theorem dX5_odds_138 : decode cX5_odds 138 = .ok (.ifCond .ne 20, 3) := by decide +kernel
theorem dX5_odds_141 : decode cX5_odds 141 = .ok (.lload_n 3, 1) := by decide +kernel
theorem dX5_odds_142 : decode cX5_odds 142 = .ok (.ldc2_w 190, 3) := by decide +kernel
theorem dX5_odds_145 : decode cX5_odds 145 = .ok (.ldiv, 1) := by decide +kernel
theorem dX5_odds_146 : decode cX5_odds 146 = .ok (.lstore_n 3, 1) := by decide +kernel
theorem dX5_odds_147 : decode cX5_odds 147 = .ok (.lload 5, 2) := by decide +kernel
theorem dX5_odds_149 : decode cX5_odds 149 = .ok (.ldc2_w 190, 3) := by decide +kernel
theorem dX5_odds_152 : decode cX5_odds 152 = .ok (.ldiv, 1) := by decide +kernel
theorem dX5_odds_153 : decode cX5_odds 153 = .ok (.lstore 5, 2) := by decide +kernel
theorem dX5_odds_155 : decode cX5_odds 155 = .ok (.goto (-35), 3) := by decide +kernel
theorem dX5_odds_158 : decode cX5_odds 158 = .ok (.iload_n 2, 1) := by decide +kernel
theorem dX5_odds_159 : decode cX5_odds 159 = .ok (.ifCond .ne 7, 3) := by decide +kernel
theorem dX5_odds_162 : decode cX5_odds 162 = .ok (.lload_n 3, 1) := by decide +kernel
theorem dX5_odds_163 : decode cX5_odds 163 = .ok (.goto 5, 3) := by decide +kernel
theorem dX5_odds_166 : decode cX5_odds 166 = .ok (.lload 5, 2) := by decide +kernel
theorem dX5_odds_168 : decode cX5_odds 168 = .ok (.lreturn, 1) := by decide +kernel
theorem dX5_seed_0 : decode cX5_seed 0 = .ok (.aload_n 0, 1) := by decide +kernel
theorem dX5_seed_1 : decode cX5_seed 1 = .ok (.iconst 2, 1) := by decide +kernel
theorem dX5_seed_2 : decode cX5_seed 2 = .ok (.iload_n 1, 1) := by decide +kernel
theorem dX5_seed_3 : decode cX5_seed 3 = .ok (.invokevirtual 57, 3) := by decide +kernel
theorem dX5_seed_6 : decode cX5_seed 6 = .ok (.ireturn, 1) := by decide +kernel
theorem dX5_feed_0 : decode cX5_feed 0 = .ok (.iload_n 2, 1) := by decide +kernel
theorem dX5_feed_1 : decode cX5_feed 1 = .ok (.i2l, 1) := by decide +kernel
theorem dX5_feed_2 : decode cX5_feed 2 = .ok (.lconst 1, 1) := by decide +kernel
theorem dX5_feed_3 : decode cX5_feed 3 = .ok (.ldc2_w 97, 3) := by decide +kernel
theorem dX5_feed_6 : decode cX5_feed 6 = .ok (.invokestatic 45, 3) := by decide +kernel
theorem dX5_feed_9 : decode cX5_feed 9 = .ok (.ifCond .ne 10, 3) := by decide +kernel
theorem dX5_feed_12 : decode cX5_feed 12 = .ok (.aload_n 0, 1) := by decide +kernel
theorem dX5_feed_13 : decode cX5_feed 13 = .ok (.ldc 37, 2) := by decide +kernel
theorem dX5_feed_15 : decode cX5_feed 15 = .ok (.invokevirtual 39, 3) := by decide +kernel
theorem dX5_feed_18 : decode cX5_feed 18 = .ok (.ireturn, 1) := by decide +kernel
theorem dX5_feed_19 : decode cX5_feed 19 = .ok (.aload_n 0, 1) := by decide +kernel
theorem dX5_feed_20 : decode cX5_feed 20 = .ok (.getfield 192, 3) := by decide +kernel
theorem dX5_feed_23 : decode cX5_feed 23 = .ok (.iload_n 2, 1) := by decide +kernel
theorem dX5_feed_24 : decode cX5_feed 24 = .ok (.iadd, 1) := by decide +kernel
theorem dX5_feed_25 : decode cX5_feed 25 = .ok (.bipush 120, 2) := by decide +kernel
theorem dX5_feed_27 : decode cX5_feed 27 = .ok (.if_icmp .le 10, 3) := by decide +kernel
theorem dX5_feed_30 : decode cX5_feed 30 = .ok (.aload_n 0, 1) := by decide +kernel
theorem dX5_feed_31 : decode cX5_feed 31 = .ok (.ldc 68, 2) := by decide +kernel
theorem dX5_feed_33 : decode cX5_feed 33 = .ok (.invokevirtual 39, 3) := by decide +kernel
theorem dX5_feed_36 : decode cX5_feed 36 = .ok (.ireturn, 1) := by decide +kernel
theorem dX5_feed_37 : decode cX5_feed 37 = .ok (.iload_n 2, 1) := by decide +kernel
theorem dX5_feed_38 : decode cX5_feed 38 = .ok (.iconst 1, 1) := by decide +kernel
theorem dX5_feed_39 : decode cX5_feed 39 = .ok (.isub, 1) := by decide +kernel
theorem dX5_feed_40 : decode cX5_feed 40 = .ok (.istore_n 3, 1) := by decide +kernel
theorem dX5_feed_41 : decode cX5_feed 41 = .ok (.iload_n 3, 1) := by decide +kernel
theorem dX5_feed_42 : decode cX5_feed 42 = .ok (.ifCond .lt 38, 3) := by decide +kernel
theorem dX5_feed_45 : decode cX5_feed 45 = .ok (.aload_n 0, 1) := by decide +kernel
theorem dX5_feed_46 : decode cX5_feed 46 = .ok (.getfield 25, 3) := by decide +kernel
theorem dX5_feed_49 : decode cX5_feed 49 = .ok (.aload_n 0, 1) := by decide +kernel
theorem dX5_feed_50 : decode cX5_feed 50 = .ok (.getfield 192, 3) := by decide +kernel
theorem dX5_feed_53 : decode cX5_feed 53 = .ok (.iload_n 1, 1) := by decide +kernel
theorem dX5_feed_54 : decode cX5_feed 54 = .ok (.bipush 8, 2) := by decide +kernel
theorem dX5_feed_56 : decode cX5_feed 56 = .ok (.iload_n 3, 1) := by decide +kernel
theorem dX5_feed_57 : decode cX5_feed 57 = .ok (.imul, 1) := by decide +kernel
theorem dX5_feed_58 : decode cX5_feed 58 = .ok (.ishr, 1) := by decide +kernel
theorem dX5_feed_59 : decode cX5_feed 59 = .ok (.sipush 255, 3) := by decide +kernel
theorem dX5_feed_62 : decode cX5_feed 62 = .ok (.iand, 1) := by decide +kernel
theorem dX5_feed_63 : decode cX5_feed 63 = .ok (.iastore, 1) := by decide +kernel
theorem dX5_feed_64 : decode cX5_feed 64 = .ok (.aload_n 0, 1) := by decide +kernel
theorem dX5_feed_65 : decode cX5_feed 65 = .ok (.dup, 1) := by decide +kernel
theorem dX5_feed_66 : decode cX5_feed 66 = .ok (.getfield 192, 3) := by decide +kernel
theorem dX5_feed_69 : decode cX5_feed 69 = .ok (.iconst 1, 1) := by decide +kernel
theorem dX5_feed_70 : decode cX5_feed 70 = .ok (.iadd, 1) := by decide +kernel
theorem dX5_feed_71 : decode cX5_feed 71 = .ok (.putfield 192, 3) := by decide +kernel
theorem dX5_feed_74 : decode cX5_feed 74 = .ok (.iinc 3 (-1), 3) := by decide +kernel
theorem dX5_feed_77 : decode cX5_feed 77 = .ok (.goto (-36), 3) := by decide +kernel
theorem dX5_feed_80 : decode cX5_feed 80 = .ok (.aload_n 0, 1) := by decide +kernel
theorem dX5_feed_81 : decode cX5_feed 81 = .ok (.getfield 192, 3) := by decide +kernel
theorem dX5_feed_84 : decode cX5_feed 84 = .ok (.ireturn, 1) := by decide +kernel
theorem dX5_wipe_0 : decode cX5_wipe 0 = .ok (.aload_n 0, 1) := by decide +kernel
theorem dX5_wipe_1 : decode cX5_wipe 1 = .ok (.getfield 192, 3) := by decide +kernel
theorem dX5_wipe_4 : decode cX5_wipe 4 = .ok (.istore_n 1, 1) := by decide +kernel
theorem dX5_wipe_5 : decode cX5_wipe 5 = .ok (.aload_n 0, 1) := by decide +kernel
theorem dX5_wipe_6 : decode cX5_wipe 6 = .ok (.iconst 0, 1) := by decide +kernel
theorem dX5_wipe_7 : decode cX5_wipe 7 = .ok (.putfield 192, 3) := by decide +kernel
theorem dX5_wipe_10 : decode cX5_wipe 10 = .ok (.iload_n 1, 1) := by decide +kernel
theorem dX5_wipe_11 : decode cX5_wipe 11 = .ok (.ireturn, 1) := by decide +kernel
theorem dX5_isLetter_0 : decode cX5_isLetter 0 = .ok (.iload_n 0, 1) := by decide +kernel
theorem dX5_isLetter_1 : decode cX5_isLetter 1 = .ok (.bipush 97, 2) := by decide +kernel
theorem dX5_isLetter_3 : decode cX5_isLetter 3 = .ok (.if_icmp .lt 13, 3) := by decide +kernel
theorem dX5_isLetter_6 : decode cX5_isLetter 6 = .ok (.iload_n 0, 1) := by decide +kernel
theorem dX5_isLetter_7 : decode cX5_isLetter 7 = .ok (.bipush 122, 2) := by decide +kernel
theorem dX5_isLetter_9 : decode cX5_isLetter 9 = .ok (.if_icmp .gt 7, 3) := by decide +kernel
theorem dX5_isLetter_12 : decode cX5_isLetter 12 = .ok (.iconst 1, 1) := by decide +kernel
theorem dX5_isLetter_13 : decode cX5_isLetter 13 = .ok (.goto 4, 3) := by decide +kernel
theorem dX5_isLetter_16 : decode cX5_isLetter 16 = .ok (.iconst 0, 1) := by decide +kernel
theorem dX5_isLetter_17 : decode cX5_isLetter 17 = .ok (.ireturn, 1) := by decide +kernel
theorem dX5_isDigit_0 : decode cX5_isDigit 0 = .ok (.iload_n 0, 1) := by decide +kernel
theorem dX5_isDigit_1 : decode cX5_isDigit 1 = .ok (.bipush 48, 2) := by decide +kernel
theorem dX5_isDigit_3 : decode cX5_isDigit 3 = .ok (.if_icmp .lt 13, 3) := by decide +kernel
theorem dX5_isDigit_6 : decode cX5_isDigit 6 = .ok (.iload_n 0, 1) := by decide +kernel
theorem dX5_isDigit_7 : decode cX5_isDigit 7 = .ok (.bipush 57, 2) := by decide +kernel
theorem dX5_isDigit_9 : decode cX5_isDigit 9 = .ok (.if_icmp .gt 7, 3) := by decide +kernel
theorem dX5_isDigit_12 : decode cX5_isDigit 12 = .ok (.iconst 1, 1) := by decide +kernel
theorem dX5_isDigit_13 : decode cX5_isDigit 13 = .ok (.goto 4, 3) := by decide +kernel
theorem dX5_isDigit_16 : decode cX5_isDigit 16 = .ok (.iconst 0, 1) := by decide +kernel
theorem dX5_isDigit_17 : decode cX5_isDigit 17 = .ok (.ireturn, 1) := by decide +kernel
theorem dX5_byteAt_0 : decode cX5_byteAt 0 = .ok (.iload_n 1, 1) := by decide +kernel
theorem dX5_byteAt_1 : decode cX5_byteAt 1 = .ok (.aload_n 0, 1) := by decide +kernel
theorem dX5_byteAt_2 : decode cX5_byteAt 2 = .ok (.getfield 192, 3) := by decide +kernel
theorem dX5_byteAt_5 : decode cX5_byteAt 5 = .ok (.if_icmp .ge 12, 3) := by decide +kernel
theorem dX5_byteAt_8 : decode cX5_byteAt 8 = .ok (.aload_n 0, 1) := by decide +kernel
theorem dX5_byteAt_9 : decode cX5_byteAt 9 = .ok (.getfield 25, 3) := by decide +kernel
theorem dX5_byteAt_12 : decode cX5_byteAt 12 = .ok (.iload_n 1, 1) := by decide +kernel
theorem dX5_byteAt_13 : decode cX5_byteAt 13 = .ok (.iaload, 1) := by decide +kernel
theorem dX5_byteAt_14 : decode cX5_byteAt 14 = .ok (.goto 4, 3) := by decide +kernel
theorem dX5_byteAt_17 : decode cX5_byteAt 17 = .ok (.iconst (-1), 1) := by decide +kernel
theorem dX5_byteAt_18 : decode cX5_byteAt 18 = .ok (.ireturn, 1) := by decide +kernel
theorem dX5_nextToken_0 : decode cX5_nextToken 0 = .ok (.aload_n 0, 1) := by decide +kernel
theorem dX5_nextToken_1 : decode cX5_nextToken 1 = .ok (.aload_n 0, 1) := by decide +kernel
theorem dX5_nextToken_2 : decode cX5_nextToken 2 = .ok (.getfield 195, 3) := by decide +kernel
theorem dX5_nextToken_5 : decode cX5_nextToken 5 = .ok (.putfield 198, 3) := by decide +kernel
theorem dX5_nextToken_8 : decode cX5_nextToken 8 = .ok (.aload_n 0, 1) := by decide +kernel
theorem dX5_nextToken_9 : decode cX5_nextToken 9 = .ok (.aload_n 0, 1) := by decide +kernel
theorem dX5_nextToken_10 : decode cX5_nextToken 10 = .ok (.getfield 198, 3) := by decide +kernel
theorem dX5_nextToken_13 : decode cX5_nextToken 13 = .ok (.invokevirtual 201, 3) := by decide +kernel
theorem dX5_nextToken_16 : decode cX5_nextToken 16 = .ok (.bipush 32, 2) := by decide +kernel
theorem dX5_nextToken_18 : decode cX5_nextToken 18 = .ok (.if_icmp .ne 16, 3) := by decide +kernel
theorem dX5_nextToken_21 : decode cX5_nextToken 21 = .ok (.aload_n 0, 1) := by decide +kernel
theorem dX5_nextToken_22 : decode cX5_nextToken 22 = .ok (.dup, 1) := by decide +kernel
theorem dX5_nextToken_23 : decode cX5_nextToken 23 = .ok (.getfield 198, 3) := by decide +kernel
theorem dX5_nextToken_26 : decode cX5_nextToken 26 = .ok (.iconst 1, 1) := by decide +kernel
theorem dX5_nextToken_27 : decode cX5_nextToken 27 = .ok (.iadd, 1) := by decide +kernel
theorem dX5_nextToken_28 : decode cX5_nextToken 28 = .ok (.putfield 198, 3) := by decide +kernel
theorem dX5_nextToken_31 : decode cX5_nextToken 31 = .ok (.goto (-23), 3) := by decide +kernel
theorem dX5_nextToken_34 : decode cX5_nextToken 34 = .ok (.aload_n 0, 1) := by decide +kernel
theorem dX5_nextToken_35 : decode cX5_nextToken 35 = .ok (.aload_n 0, 1) := by decide +kernel
theorem dX5_nextToken_36 : decode cX5_nextToken 36 = .ok (.getfield 198, 3) := by decide +kernel
theorem dX5_nextToken_39 : decode cX5_nextToken 39 = .ok (.putfield 195, 3) := by decide +kernel
theorem dX5_nextToken_42 : decode cX5_nextToken 42 = .ok (.aload_n 0, 1) := by decide +kernel
theorem dX5_nextToken_43 : decode cX5_nextToken 43 = .ok (.aload_n 0, 1) := by decide +kernel
theorem dX5_nextToken_44 : decode cX5_nextToken 44 = .ok (.getfield 198, 3) := by decide +kernel
theorem dX5_nextToken_47 : decode cX5_nextToken 47 = .ok (.invokevirtual 201, 3) := by decide +kernel
theorem dX5_nextToken_50 : decode cX5_nextToken 50 = .ok (.istore_n 1, 1) := by decide +kernel
theorem dX5_nextToken_51 : decode cX5_nextToken 51 = .ok (.aload_n 0, 1) := by decide +kernel
theorem dX5_nextToken_52 : decode cX5_nextToken 52 = .ok (.iload_n 1, 1) := by decide +kernel
theorem dX5_nextToken_53 : decode cX5_nextToken 53 = .ok (.ifCond .ge 7, 3) := by decide +kernel
theorem dX5_nextToken_56 : decode cX5_nextToken 56 = .ok (.iconst 0, 1) := by decide +kernel
theorem dX5_nextToken_57 : decode cX5_nextToken 57 = .ok (.goto 36, 3) := by decide +kernel
theorem dX5_nextToken_60 : decode cX5_nextToken 60 = .ok (.iload_n 1, 1) := by decide +kernel
theorem dX5_nextToken_61 : decode cX5_nextToken 61 = .ok (.invokestatic 204, 3) := by decide +kernel
theorem dX5_nextToken_64 : decode cX5_nextToken 64 = .ok (.ifCond .eq 7, 3) := by decide +kernel
theorem dX5_nextToken_67 : decode cX5_nextToken 67 = .ok (.iconst 1, 1) := by decide +kernel
theorem dX5_nextToken_68 : decode cX5_nextToken 68 = .ok (.goto 25, 3) := by decide +kernel
theorem dX5_nextToken_71 : decode cX5_nextToken 71 = .ok (.iload_n 1, 1) := by decide +kernel
theorem dX5_nextToken_72 : decode cX5_nextToken 72 = .ok (.invokestatic 207, 3) := by decide +kernel
theorem dX5_nextToken_75 : decode cX5_nextToken 75 = .ok (.ifCond .eq 7, 3) := by decide +kernel
theorem dX5_nextToken_78 : decode cX5_nextToken 78 = .ok (.iconst 2, 1) := by decide +kernel
theorem dX5_nextToken_79 : decode cX5_nextToken 79 = .ok (.goto 14, 3) := by decide +kernel
theorem dX5_nextToken_82 : decode cX5_nextToken 82 = .ok (.iload_n 1, 1) := by decide +kernel
theorem dX5_nextToken_83 : decode cX5_nextToken 83 = .ok (.bipush 59, 2) := by decide +kernel
theorem dX5_nextToken_85 : decode cX5_nextToken 85 = .ok (.if_icmp .ne 7, 3) := by decide +kernel
theorem dX5_nextToken_88 : decode cX5_nextToken 88 = .ok (.iconst 3, 1) := by decide +kernel
theorem dX5_nextToken_89 : decode cX5_nextToken 89 = .ok (.goto 4, 3) := by decide +kernel
theorem dX5_nextToken_92 : decode cX5_nextToken 92 = .ok (.iconst 4, 1) := by decide +kernel
theorem dX5_nextToken_93 : decode cX5_nextToken 93 = .ok (.putfield 210, 3) := by decide +kernel
theorem dX5_nextToken_96 : decode cX5_nextToken 96 = .ok (.aload_n 0, 1) := by decide +kernel
theorem dX5_nextToken_97 : decode cX5_nextToken 97 = .ok (.iconst 0, 1) := by decide +kernel
theorem dX5_nextToken_98 : decode cX5_nextToken 98 = .ok (.putfield 213, 3) := by decide +kernel
theorem dX5_nextToken_101 : decode cX5_nextToken 101 = .ok (.aload_n 0, 1) := by decide +kernel
theorem dX5_nextToken_102 : decode cX5_nextToken 102 = .ok (.getfield 210, 3) := by decide +kernel
theorem dX5_nextToken_105 : decode cX5_nextToken 105 = .ok (.iconst 1, 1) := by decide +kernel
theorem dX5_nextToken_106 : decode cX5_nextToken 106 = .ok (.if_icmp .ne 30, 3) := by decide +kernel
theorem dX5_nextToken_109 : decode cX5_nextToken 109 = .ok (.aload_n 0, 1) := by decide +kernel
theorem dX5_nextToken_110 : decode cX5_nextToken 110 = .ok (.aload_n 0, 1) := by decide +kernel
theorem dX5_nextToken_111 : decode cX5_nextToken 111 = .ok (.getfield 195, 3) := by decide +kernel
theorem dX5_nextToken_114 : decode cX5_nextToken 114 = .ok (.invokevirtual 201, 3) := by decide +kernel
theorem dX5_nextToken_117 : decode cX5_nextToken 117 = .ok (.invokestatic 204, 3) := by decide +kernel
theorem dX5_nextToken_120 : decode cX5_nextToken 120 = .ok (.ifCond .eq 16, 3) := by decide +kernel
theorem dX5_nextToken_123 : decode cX5_nextToken 123 = .ok (.aload_n 0, 1) := by decide +kernel
theorem dX5_nextToken_124 : decode cX5_nextToken 124 = .ok (.dup, 1) := by decide +kernel
theorem dX5_nextToken_125 : decode cX5_nextToken 125 = .ok (.getfield 195, 3) := by decide +kernel
theorem dX5_nextToken_128 : decode cX5_nextToken 128 = .ok (.iconst 1, 1) := by decide +kernel
theorem dX5_nextToken_129 : decode cX5_nextToken 129 = .ok (.iadd, 1) := by decide +kernel
theorem dX5_nextToken_130 : decode cX5_nextToken 130 = .ok (.putfield 195, 3) := by decide +kernel
theorem dX5_nextToken_133 : decode cX5_nextToken 133 = .ok (.goto (-32), 3) := by decide +kernel
theorem dX5_nextToken_136 : decode cX5_nextToken 136 = .ok (.aload_n 0, 1) := by decide +kernel
theorem dX5_nextToken_137 : decode cX5_nextToken 137 = .ok (.getfield 210, 3) := by decide +kernel
theorem dX5_nextToken_140 : decode cX5_nextToken 140 = .ok (.iconst 2, 1) := by decide +kernel
theorem dX5_nextToken_141 : decode cX5_nextToken 141 = .ok (.if_icmp .ne 70, 3) := by decide +kernel
theorem dX5_nextToken_144 : decode cX5_nextToken 144 = .ok (.aload_n 0, 1) := by decide +kernel
theorem dX5_nextToken_145 : decode cX5_nextToken 145 = .ok (.aload_n 0, 1) := by decide +kernel
theorem dX5_nextToken_146 : decode cX5_nextToken 146 = .ok (.getfield 195, 3) := by decide +kernel
theorem dX5_nextToken_149 : decode cX5_nextToken 149 = .ok (.invokevirtual 201, 3) := by decide +kernel
theorem dX5_nextToken_152 : decode cX5_nextToken 152 = .ok (.invokestatic 207, 3) := by decide +kernel
theorem dX5_nextToken_155 : decode cX5_nextToken 155 = .ok (.ifCond .eq 56, 3) := by decide +kernel
theorem dX5_nextToken_158 : decode cX5_nextToken 158 = .ok (.aload_n 0, 1) := by decide +kernel
theorem dX5_nextToken_159 : decode cX5_nextToken 159 = .ok (.aload_n 0, 1) := by decide +kernel
theorem dX5_nextToken_160 : decode cX5_nextToken 160 = .ok (.getfield 213, 3) := by decide +kernel
theorem dX5_nextToken_163 : decode cX5_nextToken 163 = .ok (.sipush 9999, 3) := by decide +kernel
theorem dX5_nextToken_166 : decode cX5_nextToken 166 = .ok (.if_icmp .le 10, 3) := by decide +kernel
theorem dX5_nextToken_169 : decode cX5_nextToken 169 = .ok (.aload_n 0, 1) := by decide +kernel
theorem dX5_nextToken_170 : decode cX5_nextToken 170 = .ok (.getfield 213, 3) := by decide +kernel
theorem dX5_nextToken_173 : decode cX5_nextToken 173 = .ok (.goto 22, 3) := by decide +kernel
theorem dX5_nextToken_176 : decode cX5_nextToken 176 = .ok (.bipush 10, 2) := by decide +kernel
theorem dX5_nextToken_178 : decode cX5_nextToken 178 = .ok (.aload_n 0, 1) := by decide +kernel
theorem dX5_nextToken_179 : decode cX5_nextToken 179 = .ok (.getfield 213, 3) := by decide +kernel
theorem dX5_nextToken_182 : decode cX5_nextToken 182 = .ok (.imul, 1) := by decide +kernel
theorem dX5_nextToken_183 : decode cX5_nextToken 183 = .ok (.aload_n 0, 1) := by decide +kernel
theorem dX5_nextToken_184 : decode cX5_nextToken 184 = .ok (.aload_n 0, 1) := by decide +kernel
theorem dX5_nextToken_185 : decode cX5_nextToken 185 = .ok (.getfield 195, 3) := by decide +kernel
theorem dX5_nextToken_188 : decode cX5_nextToken 188 = .ok (.invokevirtual 201, 3) := by decide +kernel
theorem dX5_nextToken_191 : decode cX5_nextToken 191 = .ok (.iadd, 1) := by decide +kernel
theorem dX5_nextToken_192 : decode cX5_nextToken 192 = .ok (.bipush 48, 2) := by decide +kernel
theorem dX5_nextToken_194 : decode cX5_nextToken 194 = .ok (.isub, 1) := by decide +kernel
theorem dX5_nextToken_195 : decode cX5_nextToken 195 = .ok (.putfield 213, 3) := by decide +kernel
theorem dX5_nextToken_198 : decode cX5_nextToken 198 = .ok (.aload_n 0, 1) := by decide +kernel
theorem dX5_nextToken_199 : decode cX5_nextToken 199 = .ok (.dup, 1) := by decide +kernel
theorem dX5_nextToken_200 : decode cX5_nextToken 200 = .ok (.getfield 195, 3) := by decide +kernel
theorem dX5_nextToken_203 : decode cX5_nextToken 203 = .ok (.iconst 1, 1) := by decide +kernel
theorem dX5_nextToken_204 : decode cX5_nextToken 204 = .ok (.iadd, 1) := by decide +kernel
theorem dX5_nextToken_205 : decode cX5_nextToken 205 = .ok (.putfield 195, 3) := by decide +kernel
theorem dX5_nextToken_208 : decode cX5_nextToken 208 = .ok (.goto (-72), 3) := by decide +kernel
theorem dX5_nextToken_211 : decode cX5_nextToken 211 = .ok (.aload_n 0, 1) := by decide +kernel
theorem dX5_nextToken_212 : decode cX5_nextToken 212 = .ok (.dup, 1) := by decide +kernel
theorem dX5_nextToken_213 : decode cX5_nextToken 213 = .ok (.getfield 195, 3) := by decide +kernel
theorem dX5_nextToken_216 : decode cX5_nextToken 216 = .ok (.aload_n 0, 1) := by decide +kernel
theorem dX5_nextToken_217 : decode cX5_nextToken 217 = .ok (.getfield 210, 3) := by decide +kernel
theorem dX5_nextToken_220 : decode cX5_nextToken 220 = .ok (.iconst 2, 1) := by decide +kernel
theorem dX5_nextToken_221 : decode cX5_nextToken 221 = .ok (.if_icmp .le 7, 3) := by decide +kernel
theorem dX5_nextToken_224 : decode cX5_nextToken 224 = .ok (.iconst 1, 1) := by decide +kernel
theorem dX5_nextToken_225 : decode cX5_nextToken 225 = .ok (.goto 4, 3) := by decide +kernel
theorem dX5_nextToken_228 : decode cX5_nextToken 228 = .ok (.iconst 0, 1) := by decide +kernel
theorem dX5_nextToken_229 : decode cX5_nextToken 229 = .ok (.iadd, 1) := by decide +kernel
theorem dX5_nextToken_230 : decode cX5_nextToken 230 = .ok (.putfield 195, 3) := by decide +kernel
theorem dX5_nextToken_233 : decode cX5_nextToken 233 = .ok (.return_, 1) := by decide +kernel
theorem dX5_has3_0 : decode cX5_has3 0 = .ok (.aload_n 0, 1) := by decide +kernel
theorem dX5_has3_1 : decode cX5_has3 1 = .ok (.aload_n 0, 1) := by decide +kernel
theorem dX5_has3_2 : decode cX5_has3 2 = .ok (.getfield 198, 3) := by decide +kernel
theorem dX5_has3_5 : decode cX5_has3 5 = .ok (.iload_n 1, 1) := by decide +kernel
theorem dX5_has3_6 : decode cX5_has3 6 = .ok (.iadd, 1) := by decide +kernel
theorem dX5_has3_7 : decode cX5_has3 7 = .ok (.invokevirtual 201, 3) := by decide +kernel
theorem dX5_has3_10 : decode cX5_has3 10 = .ok (.iload_n 2, 1) := by decide +kernel
theorem dX5_has3_11 : decode cX5_has3 11 = .ok (.if_icmp .ne 40, 3) := by decide +kernel
theorem dX5_has3_14 : decode cX5_has3 14 = .ok (.aload_n 0, 1) := by decide +kernel
theorem dX5_has3_15 : decode cX5_has3 15 = .ok (.aload_n 0, 1) := by decide +kernel
theorem dX5_has3_16 : decode cX5_has3 16 = .ok (.getfield 198, 3) := by decide +kernel
theorem dX5_has3_19 : decode cX5_has3 19 = .ok (.iload_n 1, 1) := by decide +kernel
theorem dX5_has3_20 : decode cX5_has3 20 = .ok (.iadd, 1) := by decide +kernel
theorem dX5_has3_21 : decode cX5_has3 21 = .ok (.iconst 1, 1) := by decide +kernel
theorem dX5_has3_22 : decode cX5_has3 22 = .ok (.iadd, 1) := by decide +kernel
theorem dX5_has3_23 : decode cX5_has3 23 = .ok (.invokevirtual 201, 3) := by decide +kernel
theorem dX5_has3_26 : decode cX5_has3 26 = .ok (.iload_n 3, 1) := by decide +kernel
theorem dX5_has3_27 : decode cX5_has3 27 = .ok (.if_icmp .ne 24, 3) := by decide +kernel
theorem dX5_has3_30 : decode cX5_has3 30 = .ok (.aload_n 0, 1) := by decide +kernel
theorem dX5_has3_31 : decode cX5_has3 31 = .ok (.aload_n 0, 1) := by decide +kernel
theorem dX5_has3_32 : decode cX5_has3 32 = .ok (.getfield 198, 3) := by decide +kernel
theorem dX5_has3_35 : decode cX5_has3 35 = .ok (.iload_n 1, 1) := by decide +kernel
theorem dX5_has3_36 : decode cX5_has3 36 = .ok (.iadd, 1) := by decide +kernel
theorem dX5_has3_37 : decode cX5_has3 37 = .ok (.iconst 2, 1) := by decide +kernel
theorem dX5_has3_38 : decode cX5_has3 38 = .ok (.iadd, 1) := by decide +kernel
theorem dX5_has3_39 : decode cX5_has3 39 = .ok (.invokevirtual 201, 3) := by decide +kernel
theorem dX5_has3_42 : decode cX5_has3 42 = .ok (.iload 4, 2) := by decide +kernel
theorem dX5_has3_44 : decode cX5_has3 44 = .ok (.if_icmp .ne 7, 3) := by decide +kernel
theorem dX5_has3_47 : decode cX5_has3 47 = .ok (.iconst 1, 1) := by decide +kernel
theorem dX5_has3_48 : decode cX5_has3 48 = .ok (.goto 4, 3) := by decide +kernel
theorem dX5_has3_51 : decode cX5_has3 51 = .ok (.iconst 0, 1) := by decide +kernel
theorem dX5_has3_52 : decode cX5_has3 52 = .ok (.ireturn, 1) := by decide +kernel
theorem dX5_isWord_0 : decode cX5_isWord 0 = .ok (.aload_n 0, 1) := by decide +kernel
theorem dX5_isWord_1 : decode cX5_isWord 1 = .ok (.getfield 210, 3) := by decide +kernel
theorem dX5_isWord_4 : decode cX5_isWord 4 = .ok (.iconst 1, 1) := by decide +kernel
theorem dX5_isWord_5 : decode cX5_isWord 5 = .ok (.if_icmp .ne 20, 3) := by decide +kernel
theorem dX5_isWord_8 : decode cX5_isWord 8 = .ok (.aload_n 0, 1) := by decide +kernel
theorem dX5_isWord_9 : decode cX5_isWord 9 = .ok (.getfield 195, 3) := by decide +kernel
theorem dX5_isWord_12 : decode cX5_isWord 12 = .ok (.aload_n 0, 1) := by decide +kernel
theorem dX5_isWord_13 : decode cX5_isWord 13 = .ok (.getfield 198, 3) := by decide +kernel
theorem dX5_isWord_16 : decode cX5_isWord 16 = .ok (.isub, 1) := by decide +kernel
theorem dX5_isWord_17 : decode cX5_isWord 17 = .ok (.iload_n 1, 1) := by decide +kernel
theorem dX5_isWord_18 : decode cX5_isWord 18 = .ok (.if_icmp .ne 7, 3) := by decide +kernel
theorem dX5_isWord_21 : decode cX5_isWord 21 = .ok (.iconst 1, 1) := by decide +kernel
theorem dX5_isWord_22 : decode cX5_isWord 22 = .ok (.goto 4, 3) := by decide +kernel
theorem dX5_isWord_25 : decode cX5_isWord 25 = .ok (.iconst 0, 1) := by decide +kernel
theorem dX5_isWord_26 : decode cX5_isWord 26 = .ok (.ireturn, 1) := by decide +kernel
theorem dX5_fails_0 : decode cX5_fails 0 = .ok (.aload_n 0, 1) := by decide +kernel
theorem dX5_fails_1 : decode cX5_fails 1 = .ok (.aload_n 0, 1) := by decide +kernel
theorem dX5_fails_2 : decode cX5_fails 2 = .ok (.getfield 198, 3) := by decide +kernel
theorem dX5_fails_5 : decode cX5_fails 5 = .ok (.putfield 216, 3) := by decide +kernel
theorem dX5_fails_8 : decode cX5_fails 8 = .ok (.iconst 0, 1) := by decide +kernel
theorem dX5_fails_9 : decode cX5_fails 9 = .ok (.ireturn, 1) := by decide +kernel
theorem dX5_isFour_0 : decode cX5_isFour 0 = .ok (.aload_n 0, 1) := by decide +kernel
theorem dX5_isFour_1 : decode cX5_isFour 1 = .ok (.iconst 4, 1) := by decide +kernel
theorem dX5_isFour_2 : decode cX5_isFour 2 = .ok (.invokevirtual 219, 3) := by decide +kernel
theorem dX5_isFour_5 : decode cX5_isFour 5 = .ok (.ifCond .eq 30, 3) := by decide +kernel
theorem dX5_isFour_8 : decode cX5_isFour 8 = .ok (.aload_n 0, 1) := by decide +kernel
theorem dX5_isFour_9 : decode cX5_isFour 9 = .ok (.iconst 0, 1) := by decide +kernel
theorem dX5_isFour_10 : decode cX5_isFour 10 = .ok (.iload_n 1, 1) := by decide +kernel
theorem dX5_isFour_11 : decode cX5_isFour 11 = .ok (.iload_n 2, 1) := by decide +kernel
theorem dX5_isFour_12 : decode cX5_isFour 12 = .ok (.iload_n 3, 1) := by decide +kernel
theorem dX5_isFour_13 : decode cX5_isFour 13 = .ok (.invokevirtual 222, 3) := by decide +kernel
theorem dX5_isFour_16 : decode cX5_isFour 16 = .ok (.ifCond .eq 19, 3) := by decide +kernel
theorem dX5_isFour_19 : decode cX5_isFour 19 = .ok (.aload_n 0, 1) := by decide +kernel
theorem dX5_isFour_20 : decode cX5_isFour 20 = .ok (.iconst 1, 1) := by decide +kernel
theorem dX5_isFour_21 : decode cX5_isFour 21 = .ok (.iload_n 2, 1) := by decide +kernel
theorem dX5_isFour_22 : decode cX5_isFour 22 = .ok (.iload_n 3, 1) := by decide +kernel
theorem dX5_isFour_23 : decode cX5_isFour 23 = .ok (.iload 4, 2) := by decide +kernel
theorem dX5_isFour_25 : decode cX5_isFour 25 = .ok (.invokevirtual 222, 3) := by decide +kernel
theorem dX5_isFour_28 : decode cX5_isFour 28 = .ok (.ifCond .eq 7, 3) := by decide +kernel
theorem dX5_isFour_31 : decode cX5_isFour 31 = .ok (.iconst 1, 1) := by decide +kernel
theorem dX5_isFour_32 : decode cX5_isFour 32 = .ok (.goto 4, 3) := by decide +kernel
theorem dX5_isFour_35 : decode cX5_isFour 35 = .ok (.iconst 0, 1) := by decide +kernel
theorem dX5_isFour_36 : decode cX5_isFour 36 = .ok (.ireturn, 1) := by decide +kernel
theorem dX5_isFive_0 : decode cX5_isFive 0 = .ok (.aload_n 0, 1) := by decide +kernel
theorem dX5_isFive_1 : decode cX5_isFive 1 = .ok (.iconst 5, 1) := by decide +kernel
theorem dX5_isFive_2 : decode cX5_isFive 2 = .ok (.invokevirtual 219, 3) := by decide +kernel
theorem dX5_isFive_5 : decode cX5_isFive 5 = .ok (.ifCond .eq 31, 3) := by decide +kernel
theorem dX5_isFive_8 : decode cX5_isFive 8 = .ok (.aload_n 0, 1) := by decide +kernel
theorem dX5_isFive_9 : decode cX5_isFive 9 = .ok (.iconst 0, 1) := by decide +kernel
theorem dX5_isFive_10 : decode cX5_isFive 10 = .ok (.iload_n 1, 1) := by decide +kernel
theorem dX5_isFive_11 : decode cX5_isFive 11 = .ok (.iload_n 2, 1) := by decide +kernel
theorem dX5_isFive_12 : decode cX5_isFive 12 = .ok (.iload_n 3, 1) := by decide +kernel
theorem dX5_isFive_13 : decode cX5_isFive 13 = .ok (.invokevirtual 222, 3) := by decide +kernel
theorem dX5_isFive_16 : decode cX5_isFive 16 = .ok (.ifCond .eq 20, 3) := by decide +kernel
theorem dX5_isFive_19 : decode cX5_isFive 19 = .ok (.aload_n 0, 1) := by decide +kernel
theorem dX5_isFive_20 : decode cX5_isFive 20 = .ok (.iconst 2, 1) := by decide +kernel
theorem dX5_isFive_21 : decode cX5_isFive 21 = .ok (.iload_n 3, 1) := by decide +kernel
theorem dX5_isFive_22 : decode cX5_isFive 22 = .ok (.iload 4, 2) := by decide +kernel
theorem dX5_isFive_24 : decode cX5_isFive 24 = .ok (.iload 5, 2) := by decide +kernel
theorem dX5_isFive_26 : decode cX5_isFive 26 = .ok (.invokevirtual 222, 3) := by decide +kernel
theorem dX5_isFive_29 : decode cX5_isFive 29 = .ok (.ifCond .eq 7, 3) := by decide +kernel
theorem dX5_isFive_32 : decode cX5_isFive 32 = .ok (.iconst 1, 1) := by decide +kernel
theorem dX5_isFive_33 : decode cX5_isFive 33 = .ok (.goto 4, 3) := by decide +kernel
theorem dX5_isFive_36 : decode cX5_isFive 36 = .ok (.iconst 0, 1) := by decide +kernel
theorem dX5_isFive_37 : decode cX5_isFive 37 = .ok (.ireturn, 1) := by decide +kernel
theorem dX5_isSix_0 : decode cX5_isSix 0 = .ok (.aload_n 0, 1) := by decide +kernel
theorem dX5_isSix_1 : decode cX5_isSix 1 = .ok (.bipush 6, 2) := by decide +kernel
theorem dX5_isSix_3 : decode cX5_isSix 3 = .ok (.invokevirtual 219, 3) := by decide +kernel
theorem dX5_isSix_6 : decode cX5_isSix 6 = .ok (.ifCond .eq 32, 3) := by decide +kernel
theorem dX5_isSix_9 : decode cX5_isSix 9 = .ok (.aload_n 0, 1) := by decide +kernel
theorem dX5_isSix_10 : decode cX5_isSix 10 = .ok (.iconst 0, 1) := by decide +kernel
theorem dX5_isSix_11 : decode cX5_isSix 11 = .ok (.iload_n 1, 1) := by decide +kernel
theorem dX5_isSix_12 : decode cX5_isSix 12 = .ok (.iload_n 2, 1) := by decide +kernel
theorem dX5_isSix_13 : decode cX5_isSix 13 = .ok (.iload_n 3, 1) := by decide +kernel
theorem dX5_isSix_14 : decode cX5_isSix 14 = .ok (.invokevirtual 222, 3) := by decide +kernel
theorem dX5_isSix_17 : decode cX5_isSix 17 = .ok (.ifCond .eq 21, 3) := by decide +kernel
theorem dX5_isSix_20 : decode cX5_isSix 20 = .ok (.aload_n 0, 1) := by decide +kernel
theorem dX5_isSix_21 : decode cX5_isSix 21 = .ok (.iconst 3, 1) := by decide +kernel
theorem dX5_isSix_22 : decode cX5_isSix 22 = .ok (.iload 4, 2) := by decide +kernel
theorem dX5_isSix_24 : decode cX5_isSix 24 = .ok (.iload 5, 2) := by decide +kernel
theorem dX5_isSix_26 : decode cX5_isSix 26 = .ok (.iload 6, 2) := by decide +kernel
theorem dX5_isSix_28 : decode cX5_isSix 28 = .ok (.invokevirtual 222, 3) := by decide +kernel
theorem dX5_isSix_31 : decode cX5_isSix 31 = .ok (.ifCond .eq 7, 3) := by decide +kernel
theorem dX5_isSix_34 : decode cX5_isSix 34 = .ok (.iconst 1, 1) := by decide +kernel
theorem dX5_isSix_35 : decode cX5_isSix 35 = .ok (.goto 4, 3) := by decide +kernel
theorem dX5_isSix_38 : decode cX5_isSix 38 = .ok (.iconst 0, 1) := by decide +kernel
theorem dX5_isSix_39 : decode cX5_isSix 39 = .ok (.ireturn, 1) := by decide +kernel
theorem dX5_isNumber_0 : decode cX5_isNumber 0 = .ok (.aload_n 0, 1) := by decide +kernel
theorem dX5_isNumber_1 : decode cX5_isNumber 1 = .ok (.getfield 210, 3) := by decide +kernel
theorem dX5_isNumber_4 : decode cX5_isNumber 4 = .ok (.iconst 2, 1) := by decide +kernel
theorem dX5_isNumber_5 : decode cX5_isNumber 5 = .ok (.if_icmp .ne 18, 3) := by decide +kernel
theorem dX5_isNumber_8 : decode cX5_isNumber 8 = .ok (.aload_n 0, 1) := by decide +kernel
theorem dX5_isNumber_9 : decode cX5_isNumber 9 = .ok (.getfield 213, 3) := by decide +kernel
theorem dX5_isNumber_12 : decode cX5_isNumber 12 = .ok (.i2l, 1) := by decide +kernel
theorem dX5_isNumber_13 : decode cX5_isNumber 13 = .ok (.iload_n 1, 1) := by decide +kernel
theorem dX5_isNumber_14 : decode cX5_isNumber 14 = .ok (.i2l, 1) := by decide +kernel
theorem dX5_isNumber_15 : decode cX5_isNumber 15 = .ok (.iload_n 2, 1) := by decide +kernel
theorem dX5_isNumber_16 : decode cX5_isNumber 16 = .ok (.i2l, 1) := by decide +kernel
theorem dX5_isNumber_17 : decode cX5_isNumber 17 = .ok (.invokestatic 45, 3) := by decide +kernel
theorem dX5_isNumber_20 : decode cX5_isNumber 20 = .ok (.ifCond .ne 10, 3) := by decide +kernel
theorem dX5_isNumber_23 : decode cX5_isNumber 23 = .ok (.aload_n 0, 1) := by decide +kernel
theorem dX5_isNumber_24 : decode cX5_isNumber 24 = .ok (.invokevirtual 226, 3) := by decide +kernel
theorem dX5_isNumber_27 : decode cX5_isNumber 27 = .ok (.ifCond .eq 7, 3) := by decide +kernel
theorem dX5_isNumber_30 : decode cX5_isNumber 30 = .ok (.iconst 1, 1) := by decide +kernel
theorem dX5_isNumber_31 : decode cX5_isNumber 31 = .ok (.goto 4, 3) := by decide +kernel
theorem dX5_isNumber_34 : decode cX5_isNumber 34 = .ok (.iconst 0, 1) := by decide +kernel
theorem dX5_isNumber_35 : decode cX5_isNumber 35 = .ok (.ireturn, 1) := by decide +kernel
theorem dX5_kindHere_0 : decode cX5_kindHere 0 = .ok (.aload_n 0, 1) := by decide +kernel
theorem dX5_kindHere_1 : decode cX5_kindHere 1 = .ok (.bipush 112, 2) := by decide +kernel
theorem dX5_kindHere_3 : decode cX5_kindHere 3 = .ok (.bipush 101, 2) := by decide +kernel
theorem dX5_kindHere_5 : decode cX5_kindHere 5 = .ok (.bipush 114, 2) := by decide +kernel
theorem dX5_kindHere_7 : decode cX5_kindHere 7 = .ok (.bipush 115, 2) := by decide +kernel
theorem dX5_kindHere_9 : decode cX5_kindHere 9 = .ok (.bipush 111, 2) := by decide +kernel
theorem dX5_kindHere_11 : decode cX5_kindHere 11 = .ok (.bipush 110, 2) := by decide +kernel
theorem dX5_kindHere_13 : decode cX5_kindHere 13 = .ok (.invokevirtual 230, 3) := by decide +kernel
theorem dX5_kindHere_16 : decode cX5_kindHere 16 = .ok (.ifCond .eq 5, 3) := by decide +kernel
theorem dX5_kindHere_19 : decode cX5_kindHere 19 = .ok (.iconst 0, 1) := by decide +kernel
theorem dX5_kindHere_20 : decode cX5_kindHere 20 = .ok (.ireturn, 1) := by decide +kernel
theorem dX5_kindHere_21 : decode cX5_kindHere 21 = .ok (.aload_n 0, 1) := by decide +kernel
theorem dX5_kindHere_22 : decode cX5_kindHere 22 = .ok (.bipush 108, 2) := by decide +kernel
theorem dX5_kindHere_24 : decode cX5_kindHere 24 = .ok (.bipush 97, 2) := by decide +kernel
theorem dX5_kindHere_26 : decode cX5_kindHere 26 = .ok (.bipush 100, 2) := by decide +kernel
theorem dX5_kindHere_28 : decode cX5_kindHere 28 = .ok (.bipush 121, 2) := by decide +kernel
theorem dX5_kindHere_30 : decode cX5_kindHere 30 = .ok (.invokevirtual 234, 3) := by decide +kernel
theorem dX5_kindHere_33 : decode cX5_kindHere 33 = .ok (.ifCond .eq 5, 3) := by decide +kernel
theorem dX5_kindHere_36 : decode cX5_kindHere 36 = .ok (.iconst 1, 1) := by decide +kernel
theorem dX5_kindHere_37 : decode cX5_kindHere 37 = .ok (.ireturn, 1) := by decide +kernel
theorem dX5_kindHere_38 : decode cX5_kindHere 38 = .ok (.aload_n 0, 1) := by decide +kernel
theorem dX5_kindHere_39 : decode cX5_kindHere 39 = .ok (.bipush 100, 2) := by decide +kernel
theorem dX5_kindHere_41 : decode cX5_kindHere 41 = .ok (.bipush 117, 2) := by decide +kernel
theorem dX5_kindHere_43 : decode cX5_kindHere 43 = .ok (.bipush 107, 2) := by decide +kernel
theorem dX5_kindHere_45 : decode cX5_kindHere 45 = .ok (.bipush 101, 2) := by decide +kernel
theorem dX5_kindHere_47 : decode cX5_kindHere 47 = .ok (.invokevirtual 234, 3) := by decide +kernel
theorem dX5_kindHere_50 : decode cX5_kindHere 50 = .ok (.ifCond .eq 5, 3) := by decide +kernel
theorem dX5_kindHere_53 : decode cX5_kindHere 53 = .ok (.iconst 2, 1) := by decide +kernel
theorem dX5_kindHere_54 : decode cX5_kindHere 54 = .ok (.ireturn, 1) := by decide +kernel
theorem dX5_kindHere_55 : decode cX5_kindHere 55 = .ok (.aload_n 0, 1) := by decide +kernel
theorem dX5_kindHere_56 : decode cX5_kindHere 56 = .ok (.bipush 99, 2) := by decide +kernel
theorem dX5_kindHere_58 : decode cX5_kindHere 58 = .ok (.bipush 108, 2) := by decide +kernel
theorem dX5_kindHere_60 : decode cX5_kindHere 60 = .ok (.bipush 101, 2) := by decide +kernel
theorem dX5_kindHere_62 : decode cX5_kindHere 62 = .ok (.bipush 114, 2) := by decide +kernel
theorem dX5_kindHere_64 : decode cX5_kindHere 64 = .ok (.bipush 103, 2) := by decide +kernel
theorem dX5_kindHere_66 : decode cX5_kindHere 66 = .ok (.bipush 121, 2) := by decide +kernel
theorem dX5_kindHere_68 : decode cX5_kindHere 68 = .ok (.invokevirtual 230, 3) := by decide +kernel
theorem dX5_kindHere_71 : decode cX5_kindHere 71 = .ok (.ifCond .eq 5, 3) := by decide +kernel
theorem dX5_kindHere_74 : decode cX5_kindHere 74 = .ok (.iconst 3, 1) := by decide +kernel
theorem dX5_kindHere_75 : decode cX5_kindHere 75 = .ok (.ireturn, 1) := by decide +kernel
theorem dX5_kindHere_76 : decode cX5_kindHere 76 = .ok (.aload_n 0, 1) := by decide +kernel
theorem dX5_kindHere_77 : decode cX5_kindHere 77 = .ok (.bipush 98, 2) := by decide +kernel
theorem dX5_kindHere_79 : decode cX5_kindHere 79 = .ok (.bipush 105, 2) := by decide +kernel
theorem dX5_kindHere_81 : decode cX5_kindHere 81 = .ok (.bipush 115, 2) := by decide +kernel
theorem dX5_kindHere_83 : decode cX5_kindHere 83 = .ok (.bipush 104, 2) := by decide +kernel
theorem dX5_kindHere_85 : decode cX5_kindHere 85 = .ok (.bipush 111, 2) := by decide +kernel
theorem dX5_kindHere_87 : decode cX5_kindHere 87 = .ok (.bipush 112, 2) := by decide +kernel
theorem dX5_kindHere_89 : decode cX5_kindHere 89 = .ok (.invokevirtual 230, 3) := by decide +kernel
theorem dX5_kindHere_92 : decode cX5_kindHere 92 = .ok (.ifCond .eq 5, 3) := by decide +kernel
theorem dX5_kindHere_95 : decode cX5_kindHere 95 = .ok (.iconst 4, 1) := by decide +kernel
theorem dX5_kindHere_96 : decode cX5_kindHere 96 = .ok (.ireturn, 1) := by decide +kernel
theorem dX5_kindHere_97 : decode cX5_kindHere 97 = .ok (.aload_n 0, 1) := by decide +kernel
theorem dX5_kindHere_98 : decode cX5_kindHere 98 = .ok (.bipush 99, 2) := by decide +kernel
theorem dX5_kindHere_100 : decode cX5_kindHere 100 = .ok (.bipush 111, 2) := by decide +kernel
theorem dX5_kindHere_102 : decode cX5_kindHere 102 = .ok (.bipush 119, 2) := by decide +kernel
theorem dX5_kindHere_104 : decode cX5_kindHere 104 = .ok (.bipush 109, 2) := by decide +kernel
theorem dX5_kindHere_106 : decode cX5_kindHere 106 = .ok (.bipush 97, 2) := by decide +kernel
theorem dX5_kindHere_108 : decode cX5_kindHere 108 = .ok (.bipush 110, 2) := by decide +kernel
theorem dX5_kindHere_110 : decode cX5_kindHere 110 = .ok (.invokevirtual 230, 3) := by decide +kernel
theorem dX5_kindHere_113 : decode cX5_kindHere 113 = .ok (.ifCond .eq 5, 3) := by decide +kernel
theorem dX5_kindHere_116 : decode cX5_kindHere 116 = .ok (.iconst 5, 1) := by decide +kernel
theorem dX5_kindHere_117 : decode cX5_kindHere 117 = .ok (.ireturn, 1) := by decide +kernel
theorem dX5_kindHere_118 : decode cX5_kindHere 118 = .ok (.aload_n 0, 1) := by decide +kernel
theorem dX5_kindHere_119 : decode cX5_kindHere 119 = .ok (.bipush 121, 2) := by decide +kernel
theorem dX5_kindHere_121 : decode cX5_kindHere 121 = .ok (.bipush 111, 2) := by decide +kernel
theorem dX5_kindHere_123 : decode cX5_kindHere 123 = .ok (.bipush 117, 2) := by decide +kernel
theorem dX5_kindHere_125 : decode cX5_kindHere 125 = .ok (.bipush 110, 2) := by decide +kernel
theorem dX5_kindHere_127 : decode cX5_kindHere 127 = .ok (.bipush 103, 2) := by decide +kernel
theorem dX5_kindHere_129 : decode cX5_kindHere 129 = .ok (.invokevirtual 237, 3) := by decide +kernel
theorem dX5_kindHere_132 : decode cX5_kindHere 132 = .ok (.ifCond .eq 8, 3) := by decide +kernel
theorem dX5_kindHere_135 : decode cX5_kindHere 135 = .ok (.bipush 6, 2) := by decide +kernel
theorem dX5_kindHere_137 : decode cX5_kindHere 137 = .ok (.goto 4, 3) := by decide +kernel
theorem dX5_kindHere_140 : decode cX5_kindHere 140 = .ok (.iconst (-1), 1) := by decide +kernel
theorem dX5_kindHere_141 : decode cX5_kindHere 141 = .ok (.ireturn, 1) := by decide +kernel
theorem dX5_perhaps_0 : decode cX5_perhaps 0 = .ok (.iload_n 1, 1) := by decide +kernel
theorem dX5_perhaps_1 : decode cX5_perhaps 1 = .ok (.ifCond .ne 5, 3) := by decide +kernel
theorem dX5_perhaps_4 : decode cX5_perhaps 4 = .ok (.iconst 1, 1) := by decide +kernel
theorem dX5_perhaps_5 : decode cX5_perhaps 5 = .ok (.ireturn, 1) := by decide +kernel
theorem dX5_perhaps_6 : decode cX5_perhaps 6 = .ok (.aload_n 0, 1) := by decide +kernel
theorem dX5_perhaps_7 : decode cX5_perhaps 7 = .ok (.invokevirtual 241, 3) := by decide +kernel
theorem dX5_perhaps_10 : decode cX5_perhaps 10 = .ok (.aload_n 0, 1) := by decide +kernel
theorem dX5_perhaps_11 : decode cX5_perhaps 11 = .ok (.iconst 0, 1) := by decide +kernel
theorem dX5_perhaps_12 : decode cX5_perhaps 12 = .ok (.iload_n 3, 1) := by decide +kernel
theorem dX5_perhaps_13 : decode cX5_perhaps 13 = .ok (.invokevirtual 244, 3) := by decide +kernel
theorem dX5_perhaps_16 : decode cX5_perhaps 16 = .ok (.ifCond .ne 5, 3) := by decide +kernel
theorem dX5_perhaps_19 : decode cX5_perhaps 19 = .ok (.iconst 0, 1) := by decide +kernel
theorem dX5_perhaps_20 : decode cX5_perhaps 20 = .ok (.ireturn, 1) := by decide +kernel
theorem dX5_perhaps_21 : decode cX5_perhaps 21 = .ok (.aload_n 0, 1) := by decide +kernel
theorem dX5_perhaps_22 : decode cX5_perhaps 22 = .ok (.getfield 7, 3) := by decide +kernel
theorem dX5_perhaps_25 : decode cX5_perhaps 25 = .ok (.iload_n 2, 1) := by decide +kernel
theorem dX5_perhaps_26 : decode cX5_perhaps 26 = .ok (.aload_n 0, 1) := by decide +kernel
theorem dX5_perhaps_27 : decode cX5_perhaps 27 = .ok (.getfield 213, 3) := by decide +kernel
theorem dX5_perhaps_30 : decode cX5_perhaps 30 = .ok (.iastore, 1) := by decide +kernel
theorem dX5_perhaps_31 : decode cX5_perhaps 31 = .ok (.aload_n 0, 1) := by decide +kernel
theorem dX5_perhaps_32 : decode cX5_perhaps 32 = .ok (.invokevirtual 241, 3) := by decide +kernel
theorem dX5_perhaps_35 : decode cX5_perhaps 35 = .ok (.iconst 1, 1) := by decide +kernel
theorem dX5_perhaps_36 : decode cX5_perhaps 36 = .ok (.ireturn, 1) := by decide +kernel
theorem dX5_personHere_0 : decode cX5_personHere 0 = .ok (.aload_n 0, 1) := by decide +kernel
theorem dX5_personHere_1 : decode cX5_personHere 1 = .ok (.getfield 7, 3) := by decide +kernel
theorem dX5_personHere_4 : decode cX5_personHere 4 = .ok (.iconst 0, 1) := by decide +kernel
theorem dX5_personHere_5 : decode cX5_personHere 5 = .ok (.iaload, 1) := by decide +kernel
theorem dX5_personHere_6 : decode cX5_personHere 6 = .ok (.bipush 8, 2) := by decide +kernel
theorem dX5_personHere_8 : decode cX5_personHere 8 = .ok (.if_icmp .ne 8, 3) := by decide +kernel
theorem dX5_personHere_11 : decode cX5_personHere 11 = .ok (.aload_n 0, 1) := by decide +kernel
theorem dX5_personHere_12 : decode cX5_personHere 12 = .ok (.invokevirtual 226, 3) := by decide +kernel
theorem dX5_personHere_15 : decode cX5_personHere 15 = .ok (.ireturn, 1) := by decide +kernel
theorem dX5_personHere_16 : decode cX5_personHere 16 = .ok (.aload_n 0, 1) := by decide +kernel
theorem dX5_personHere_17 : decode cX5_personHere 17 = .ok (.iload_n 1, 1) := by decide +kernel
theorem dX5_personHere_18 : decode cX5_personHere 18 = .ok (.bipush 20, 2) := by decide +kernel
theorem dX5_personHere_20 : decode cX5_personHere 20 = .ok (.invokevirtual 69, 3) := by decide +kernel
theorem dX5_personHere_23 : decode cX5_personHere 23 = .ok (.aload_n 0, 1) := by decide +kernel
theorem dX5_personHere_24 : decode cX5_personHere 24 = .ok (.getfield 7, 3) := by decide +kernel
theorem dX5_personHere_27 : decode cX5_personHere 27 = .ok (.iconst 0, 1) := by decide +kernel
theorem dX5_personHere_28 : decode cX5_personHere 28 = .ok (.iaload, 1) := by decide +kernel
theorem dX5_personHere_29 : decode cX5_personHere 29 = .ok (.iconst 1, 1) := by decide +kernel
theorem dX5_personHere_30 : decode cX5_personHere 30 = .ok (.isub, 1) := by decide +kernel
theorem dX5_personHere_31 : decode cX5_personHere 31 = .ok (.istore_n 2, 1) := by decide +kernel
theorem dX5_personHere_32 : decode cX5_personHere 32 = .ok (.aload_n 0, 1) := by decide +kernel
theorem dX5_personHere_33 : decode cX5_personHere 33 = .ok (.invokevirtual 241, 3) := by decide +kernel
theorem dX5_personHere_36 : decode cX5_personHere 36 = .ok (.aload_n 0, 1) := by decide +kernel
theorem dX5_personHere_37 : decode cX5_personHere 37 = .ok (.aload_n 0, 1) := by decide +kernel
theorem dX5_personHere_38 : decode cX5_personHere 38 = .ok (.bipush 98, 2) := by decide +kernel
theorem dX5_personHere_40 : decode cX5_personHere 40 = .ok (.bipush 117, 2) := by decide +kernel
theorem dX5_personHere_42 : decode cX5_personHere 42 = .ok (.bipush 105, 2) := by decide +kernel
theorem dX5_personHere_44 : decode cX5_personHere 44 = .ok (.bipush 108, 2) := by decide +kernel
theorem dX5_personHere_46 : decode cX5_personHere 46 = .ok (.bipush 100, 2) := by decide +kernel
theorem dX5_personHere_48 : decode cX5_personHere 48 = .ok (.invokevirtual 237, 3) := by decide +kernel
theorem dX5_personHere_51 : decode cX5_personHere 51 = .ok (.iload_n 2, 1) := by decide +kernel
theorem dX5_personHere_52 : decode cX5_personHere 52 = .ok (.iconst 2, 1) := by decide +kernel
theorem dX5_personHere_53 : decode cX5_personHere 53 = .ok (.invokestatic 61, 3) := by decide +kernel
theorem dX5_personHere_56 : decode cX5_personHere 56 = .ok (.bipush 99, 2) := by decide +kernel
theorem dX5_personHere_58 : decode cX5_personHere 58 = .ok (.invokevirtual 247, 3) := by decide +kernel
theorem dX5_personHere_61 : decode cX5_personHere 61 = .ok (.ifCond .eq 61, 3) := by decide +kernel
theorem dX5_personHere_64 : decode cX5_personHere 64 = .ok (.aload_n 0, 1) := by decide +kernel
theorem dX5_personHere_65 : decode cX5_personHere 65 = .ok (.aload_n 0, 1) := by decide +kernel
theorem dX5_personHere_66 : decode cX5_personHere 66 = .ok (.bipush 111, 2) := by decide +kernel
theorem dX5_personHere_68 : decode cX5_personHere 68 = .ok (.bipush 119, 2) := by decide +kernel
theorem dX5_personHere_70 : decode cX5_personHere 70 = .ok (.bipush 101, 2) := by decide +kernel
theorem dX5_personHere_72 : decode cX5_personHere 72 = .ok (.bipush 100, 2) := by decide +kernel
theorem dX5_personHere_74 : decode cX5_personHere 74 = .ok (.invokevirtual 234, 3) := by decide +kernel
theorem dX5_personHere_77 : decode cX5_personHere 77 = .ok (.iload_n 2, 1) := by decide +kernel
theorem dX5_personHere_78 : decode cX5_personHere 78 = .ok (.iconst 1, 1) := by decide +kernel
theorem dX5_personHere_79 : decode cX5_personHere 79 = .ok (.invokestatic 61, 3) := by decide +kernel
theorem dX5_personHere_82 : decode cX5_personHere 82 = .ok (.sipush 9999, 3) := by decide +kernel
theorem dX5_personHere_85 : decode cX5_personHere 85 = .ok (.invokevirtual 247, 3) := by decide +kernel
theorem dX5_personHere_88 : decode cX5_personHere 88 = .ok (.ifCond .eq 34, 3) := by decide +kernel
theorem dX5_personHere_91 : decode cX5_personHere 91 = .ok (.aload_n 0, 1) := by decide +kernel
theorem dX5_personHere_92 : decode cX5_personHere 92 = .ok (.aload_n 0, 1) := by decide +kernel
theorem dX5_personHere_93 : decode cX5_personHere 93 = .ok (.bipush 98, 2) := by decide +kernel
theorem dX5_personHere_95 : decode cX5_personHere 95 = .ok (.bipush 111, 2) := by decide +kernel
theorem dX5_personHere_97 : decode cX5_personHere 97 = .ok (.bipush 114, 2) := by decide +kernel
theorem dX5_personHere_99 : decode cX5_personHere 99 = .ok (.bipush 101, 2) := by decide +kernel
theorem dX5_personHere_101 : decode cX5_personHere 101 = .ok (.invokevirtual 234, 3) := by decide +kernel
theorem dX5_personHere_104 : decode cX5_personHere 104 = .ok (.iload_n 2, 1) := by decide +kernel
theorem dX5_personHere_105 : decode cX5_personHere 105 = .ok (.iconst 3, 1) := by decide +kernel
theorem dX5_personHere_106 : decode cX5_personHere 106 = .ok (.invokestatic 61, 3) := by decide +kernel
theorem dX5_personHere_109 : decode cX5_personHere 109 = .ok (.sipush 9999, 3) := by decide +kernel
theorem dX5_personHere_112 : decode cX5_personHere 112 = .ok (.invokevirtual 247, 3) := by decide +kernel
theorem dX5_personHere_115 : decode cX5_personHere 115 = .ok (.ifCond .eq 7, 3) := by decide +kernel
theorem dX5_personHere_118 : decode cX5_personHere 118 = .ok (.iconst 1, 1) := by decide +kernel
theorem dX5_personHere_119 : decode cX5_personHere 119 = .ok (.goto 4, 3) := by decide +kernel
theorem dX5_personHere_122 : decode cX5_personHere 122 = .ok (.iconst 0, 1) := by decide +kernel
theorem dX5_personHere_123 : decode cX5_personHere 123 = .ok (.ireturn, 1) := by decide +kernel
theorem dX5_saidHere_0 : decode cX5_saidHere 0 = .ok (.aload_n 0, 1) := by decide +kernel
theorem dX5_saidHere_1 : decode cX5_saidHere 1 = .ok (.invokevirtual 241, 3) := by decide +kernel
theorem dX5_saidHere_4 : decode cX5_saidHere 4 = .ok (.aload_n 0, 1) := by decide +kernel
theorem dX5_saidHere_5 : decode cX5_saidHere 5 = .ok (.iconst 0, 1) := by decide +kernel
theorem dX5_saidHere_6 : decode cX5_saidHere 6 = .ok (.iconst 5, 1) := by decide +kernel
theorem dX5_saidHere_7 : decode cX5_saidHere 7 = .ok (.invokevirtual 244, 3) := by decide +kernel
theorem dX5_saidHere_10 : decode cX5_saidHere 10 = .ok (.ifCond .ne 5, 3) := by decide +kernel
theorem dX5_saidHere_13 : decode cX5_saidHere 13 = .ok (.iconst 0, 1) := by decide +kernel
theorem dX5_saidHere_14 : decode cX5_saidHere 14 = .ok (.ireturn, 1) := by decide +kernel
theorem dX5_saidHere_15 : decode cX5_saidHere 15 = .ok (.aload_n 0, 1) := by decide +kernel
theorem dX5_saidHere_16 : decode cX5_saidHere 16 = .ok (.getfield 213, 3) := by decide +kernel
theorem dX5_saidHere_19 : decode cX5_saidHere 19 = .ok (.istore_n 1, 1) := by decide +kernel
theorem dX5_saidHere_20 : decode cX5_saidHere 20 = .ok (.aload_n 0, 1) := by decide +kernel
theorem dX5_saidHere_21 : decode cX5_saidHere 21 = .ok (.invokevirtual 241, 3) := by decide +kernel
theorem dX5_saidHere_24 : decode cX5_saidHere 24 = .ok (.aload_n 0, 1) := by decide +kernel
theorem dX5_saidHere_25 : decode cX5_saidHere 25 = .ok (.iconst 0, 1) := by decide +kernel
theorem dX5_saidHere_26 : decode cX5_saidHere 26 = .ok (.bipush 7, 2) := by decide +kernel
theorem dX5_saidHere_28 : decode cX5_saidHere 28 = .ok (.invokevirtual 244, 3) := by decide +kernel
theorem dX5_saidHere_31 : decode cX5_saidHere 31 = .ok (.ifCond .ne 5, 3) := by decide +kernel
theorem dX5_saidHere_34 : decode cX5_saidHere 34 = .ok (.iconst 0, 1) := by decide +kernel
theorem dX5_saidHere_35 : decode cX5_saidHere 35 = .ok (.ireturn, 1) := by decide +kernel
theorem dX5_saidHere_36 : decode cX5_saidHere 36 = .ok (.aload_n 0, 1) := by decide +kernel
theorem dX5_saidHere_37 : decode cX5_saidHere 37 = .ok (.getfield 213, 3) := by decide +kernel
theorem dX5_saidHere_40 : decode cX5_saidHere 40 = .ok (.istore_n 2, 1) := by decide +kernel
theorem dX5_saidHere_41 : decode cX5_saidHere 41 = .ok (.aload_n 0, 1) := by decide +kernel
theorem dX5_saidHere_42 : decode cX5_saidHere 42 = .ok (.invokevirtual 241, 3) := by decide +kernel
theorem dX5_saidHere_45 : decode cX5_saidHere 45 = .ok (.aload_n 0, 1) := by decide +kernel
theorem dX5_saidHere_46 : decode cX5_saidHere 46 = .ok (.iconst 0, 1) := by decide +kernel
theorem dX5_saidHere_47 : decode cX5_saidHere 47 = .ok (.bipush 20, 2) := by decide +kernel
theorem dX5_saidHere_49 : decode cX5_saidHere 49 = .ok (.invokevirtual 244, 3) := by decide +kernel
theorem dX5_saidHere_52 : decode cX5_saidHere 52 = .ok (.ifCond .ne 5, 3) := by decide +kernel
theorem dX5_saidHere_55 : decode cX5_saidHere 55 = .ok (.iconst 0, 1) := by decide +kernel
theorem dX5_saidHere_56 : decode cX5_saidHere 56 = .ok (.ireturn, 1) := by decide +kernel
theorem dX5_saidHere_57 : decode cX5_saidHere 57 = .ok (.aload_n 0, 1) := by decide +kernel
theorem dX5_saidHere_58 : decode cX5_saidHere 58 = .ok (.getfield 7, 3) := by decide +kernel
theorem dX5_saidHere_61 : decode cX5_saidHere 61 = .ok (.iconst 4, 1) := by decide +kernel
theorem dX5_saidHere_62 : decode cX5_saidHere 62 = .ok (.iload_n 1, 1) := by decide +kernel
theorem dX5_saidHere_63 : decode cX5_saidHere 63 = .ok (.iadd, 1) := by decide +kernel
theorem dX5_saidHere_64 : decode cX5_saidHere 64 = .ok (.bipush 100, 2) := by decide +kernel
theorem dX5_saidHere_66 : decode cX5_saidHere 66 = .ok (.iload_n 2, 1) := by decide +kernel
theorem dX5_saidHere_67 : decode cX5_saidHere 67 = .ok (.imul, 1) := by decide +kernel
theorem dX5_saidHere_68 : decode cX5_saidHere 68 = .ok (.aload_n 0, 1) := by decide +kernel
theorem dX5_saidHere_69 : decode cX5_saidHere 69 = .ok (.getfield 213, 3) := by decide +kernel
theorem dX5_saidHere_72 : decode cX5_saidHere 72 = .ok (.iadd, 1) := by decide +kernel
theorem dX5_saidHere_73 : decode cX5_saidHere 73 = .ok (.iastore, 1) := by decide +kernel
theorem dX5_saidHere_74 : decode cX5_saidHere 74 = .ok (.aload_n 0, 1) := by decide +kernel
theorem dX5_saidHere_75 : decode cX5_saidHere 75 = .ok (.invokevirtual 241, 3) := by decide +kernel
theorem dX5_saidHere_78 : decode cX5_saidHere 78 = .ok (.iconst 1, 1) := by decide +kernel
theorem dX5_saidHere_79 : decode cX5_saidHere 79 = .ok (.ireturn, 1) := by decide +kernel
theorem dX5_itemHere_0 : decode cX5_itemHere 0 = .ok (.aload_n 0, 1) := by decide +kernel
theorem dX5_itemHere_1 : decode cX5_itemHere 1 = .ok (.invokevirtual 251, 3) := by decide +kernel
theorem dX5_itemHere_4 : decode cX5_itemHere 4 = .ok (.istore_n 1, 1) := by decide +kernel
theorem dX5_itemHere_5 : decode cX5_itemHere 5 = .ok (.iload_n 1, 1) := by decide +kernel
theorem dX5_itemHere_6 : decode cX5_itemHere 6 = .ok (.ifCond .lt 9, 3) := by decide +kernel
theorem dX5_itemHere_9 : decode cX5_itemHere 9 = .ok (.aload_n 0, 1) := by decide +kernel
theorem dX5_itemHere_10 : decode cX5_itemHere 10 = .ok (.iload_n 1, 1) := by decide +kernel
theorem dX5_itemHere_11 : decode cX5_itemHere 11 = .ok (.invokevirtual 254, 3) := by decide +kernel
theorem dX5_itemHere_14 : decode cX5_itemHere 14 = .ok (.ireturn, 1) := by decide +kernel
theorem dX5_itemHere_15 : decode cX5_itemHere 15 = .ok (.aload_n 0, 1) := by decide +kernel
theorem dX5_itemHere_16 : decode cX5_itemHere 16 = .ok (.bipush 115, 2) := by decide +kernel
theorem dX5_itemHere_18 : decode cX5_itemHere 18 = .ok (.bipush 97, 2) := by decide +kernel
theorem dX5_itemHere_20 : decode cX5_itemHere 20 = .ok (.bipush 105, 2) := by decide +kernel
theorem dX5_itemHere_22 : decode cX5_itemHere 22 = .ok (.bipush 100, 2) := by decide +kernel
theorem dX5_itemHere_24 : decode cX5_itemHere 24 = .ok (.invokevirtual 234, 3) := by decide +kernel
theorem dX5_itemHere_27 : decode cX5_itemHere 27 = .ok (.ifCond .eq 8, 3) := by decide +kernel
theorem dX5_itemHere_30 : decode cX5_itemHere 30 = .ok (.aload_n 0, 1) := by decide +kernel
theorem dX5_itemHere_31 : decode cX5_itemHere 31 = .ok (.invokevirtual 257, 3) := by decide +kernel
theorem dX5_itemHere_34 : decode cX5_itemHere 34 = .ok (.ireturn, 1) := by decide +kernel
theorem dX5_itemHere_35 : decode cX5_itemHere 35 = .ok (.aload_n 0, 1) := by decide +kernel
theorem dX5_itemHere_36 : decode cX5_itemHere 36 = .ok (.bipush 104, 2) := by decide +kernel
theorem dX5_itemHere_38 : decode cX5_itemHere 38 = .ok (.bipush 105, 2) := by decide +kernel
theorem dX5_itemHere_40 : decode cX5_itemHere 40 = .ok (.bipush 110, 2) := by decide +kernel
theorem dX5_itemHere_42 : decode cX5_itemHere 42 = .ok (.bipush 116, 2) := by decide +kernel
theorem dX5_itemHere_44 : decode cX5_itemHere 44 = .ok (.bipush 115, 2) := by decide +kernel
theorem dX5_itemHere_46 : decode cX5_itemHere 46 = .ok (.invokevirtual 237, 3) := by decide +kernel
theorem dX5_itemHere_49 : decode cX5_itemHere 49 = .ok (.ifCond .eq 15, 3) := by decide +kernel
theorem dX5_itemHere_52 : decode cX5_itemHere 52 = .ok (.aload_n 0, 1) := by decide +kernel
theorem dX5_itemHere_53 : decode cX5_itemHere 53 = .ok (.iconst 1, 1) := by decide +kernel
theorem dX5_itemHere_54 : decode cX5_itemHere 54 = .ok (.iconst 3, 1) := by decide +kernel
theorem dX5_itemHere_55 : decode cX5_itemHere 55 = .ok (.sipush 9999, 3) := by decide +kernel
theorem dX5_itemHere_58 : decode cX5_itemHere 58 = .ok (.invokevirtual 247, 3) := by decide +kernel
theorem dX5_itemHere_61 : decode cX5_itemHere 61 = .ok (.goto 7, 3) := by decide +kernel
theorem dX5_itemHere_64 : decode cX5_itemHere 64 = .ok (.aload_n 0, 1) := by decide +kernel
theorem dX5_itemHere_65 : decode cX5_itemHere 65 = .ok (.invokevirtual 226, 3) := by decide +kernel
theorem dX5_itemHere_68 : decode cX5_itemHere 68 = .ok (.ireturn, 1) := by decide +kernel
theorem dX5_text_0 : decode cX5_text 0 = .ok (.aload_n 0, 1) := by decide +kernel
theorem dX5_text_1 : decode cX5_text 1 = .ok (.getfield 7, 3) := by decide +kernel
theorem dX5_text_4 : decode cX5_text 4 = .ok (.aload_n 0, 1) := by decide +kernel
theorem dX5_text_5 : decode cX5_text 5 = .ok (.getfield 16, 3) := by decide +kernel
theorem dX5_text_8 : decode cX5_text 8 = .ok (.invokestatic 139, 3) := by decide +kernel
theorem dX5_text_11 : decode cX5_text 11 = .ok (.aload_n 0, 1) := by decide +kernel
theorem dX5_text_12 : decode cX5_text 12 = .ok (.iconst 0, 1) := by decide +kernel
theorem dX5_text_13 : decode cX5_text 13 = .ok (.putfield 195, 3) := by decide +kernel
theorem dX5_text_16 : decode cX5_text 16 = .ok (.aload_n 0, 1) := by decide +kernel
theorem dX5_text_17 : decode cX5_text 17 = .ok (.invokevirtual 241, 3) := by decide +kernel
theorem dX5_text_20 : decode cX5_text 20 = .ok (.iconst 1, 1) := by decide +kernel
theorem dX5_text_21 : decode cX5_text 21 = .ok (.istore_n 1, 1) := by decide +kernel
theorem dX5_text_22 : decode cX5_text 22 = .ok (.aload_n 0, 1) := by decide +kernel
theorem dX5_text_23 : decode cX5_text 23 = .ok (.invokevirtual 260, 3) := by decide +kernel
theorem dX5_text_26 : decode cX5_text 26 = .ok (.istore_n 2, 1) := by decide +kernel
theorem dX5_text_27 : decode cX5_text 27 = .ok (.iload_n 2, 1) := by decide +kernel
theorem dX5_text_28 : decode cX5_text 28 = .ok (.ifCond .eq 26, 3) := by decide +kernel
theorem dX5_text_31 : decode cX5_text 31 = .ok (.aload_n 0, 1) := by decide +kernel
theorem dX5_text_32 : decode cX5_text 32 = .ok (.getfield 210, 3) := by decide +kernel
theorem dX5_text_35 : decode cX5_text 35 = .ok (.iconst 3, 1) := by decide +kernel
theorem dX5_text_36 : decode cX5_text 36 = .ok (.if_icmp .ne 18, 3) := by decide +kernel
theorem dX5_text_39 : decode cX5_text 39 = .ok (.aload_n 0, 1) := by decide +kernel
theorem dX5_text_40 : decode cX5_text 40 = .ok (.invokevirtual 241, 3) := by decide +kernel
theorem dX5_text_43 : decode cX5_text 43 = .ok (.aload_n 0, 1) := by decide +kernel
theorem dX5_text_44 : decode cX5_text 44 = .ok (.invokevirtual 260, 3) := by decide +kernel
theorem dX5_text_47 : decode cX5_text 47 = .ok (.istore_n 2, 1) := by decide +kernel
theorem dX5_text_48 : decode cX5_text 48 = .ok (.iinc 1 1, 3) := by decide +kernel
theorem dX5_text_51 : decode cX5_text 51 = .ok (.goto (-24), 3) := by decide +kernel
theorem dX5_text_54 : decode cX5_text 54 = .ok (.iload_n 2, 1) := by decide +kernel
theorem dX5_text_55 : decode cX5_text 55 = .ok (.ifCond .eq 21, 3) := by decide +kernel
theorem dX5_text_58 : decode cX5_text 58 = .ok (.aload_n 0, 1) := by decide +kernel
theorem dX5_text_59 : decode cX5_text 59 = .ok (.getfield 210, 3) := by decide +kernel
theorem dX5_text_62 : decode cX5_text 62 = .ok (.ifCond .eq 10, 3) := by decide +kernel
theorem dX5_text_65 : decode cX5_text 65 = .ok (.aload_n 0, 1) := by decide +kernel
theorem dX5_text_66 : decode cX5_text 66 = .ok (.invokevirtual 226, 3) := by decide +kernel
theorem dX5_text_69 : decode cX5_text 69 = .ok (.ifCond .eq 7, 3) := by decide +kernel
theorem dX5_text_72 : decode cX5_text 72 = .ok (.iconst 1, 1) := by decide +kernel
theorem dX5_text_73 : decode cX5_text 73 = .ok (.goto 4, 3) := by decide +kernel
theorem dX5_text_76 : decode cX5_text 76 = .ok (.iconst 0, 1) := by decide +kernel
theorem dX5_text_77 : decode cX5_text 77 = .ok (.istore_n 2, 1) := by decide +kernel
theorem dX5_text_78 : decode cX5_text 78 = .ok (.aload_n 0, 1) := by decide +kernel
theorem dX5_text_79 : decode cX5_text 79 = .ok (.iconst 0, 1) := by decide +kernel
theorem dX5_text_80 : decode cX5_text 80 = .ok (.putfield 192, 3) := by decide +kernel
theorem dX5_text_83 : decode cX5_text 83 = .ok (.iload_n 2, 1) := by decide +kernel
theorem dX5_text_84 : decode cX5_text 84 = .ok (.ifCond .ne 14, 3) := by decide +kernel
theorem dX5_text_87 : decode cX5_text 87 = .ok (.aload_n 0, 1) := by decide +kernel
theorem dX5_text_88 : decode cX5_text 88 = .ok (.getfield 16, 3) := by decide +kernel
theorem dX5_text_91 : decode cX5_text 91 = .ok (.aload_n 0, 1) := by decide +kernel
theorem dX5_text_92 : decode cX5_text 92 = .ok (.getfield 7, 3) := by decide +kernel
theorem dX5_text_95 : decode cX5_text 95 = .ok (.invokestatic 139, 3) := by decide +kernel
theorem dX5_text_98 : decode cX5_text 98 = .ok (.iload_n 2, 1) := by decide +kernel
theorem dX5_text_99 : decode cX5_text 99 = .ok (.ifCond .eq 7, 3) := by decide +kernel
theorem dX5_text_102 : decode cX5_text 102 = .ok (.iload_n 1, 1) := by decide +kernel
theorem dX5_text_103 : decode cX5_text 103 = .ok (.goto 9, 3) := by decide +kernel
theorem dX5_text_106 : decode cX5_text 106 = .ok (.iconst (-1), 1) := by decide +kernel
theorem dX5_text_107 : decode cX5_text 107 = .ok (.aload_n 0, 1) := by decide +kernel
theorem dX5_text_108 : decode cX5_text 108 = .ok (.getfield 216, 3) := by decide +kernel
theorem dX5_text_111 : decode cX5_text 111 = .ok (.isub, 1) := by decide +kernel
theorem dX5_text_112 : decode cX5_text 112 = .ok (.ireturn, 1) := by decide +kernel
theorem dX5_hold_0 : decode cX5_hold 0 = .ok (.iload_n 1, 1) := by decide +kernel
theorem dX5_hold_1 : decode cX5_hold 1 = .ok (.i2l, 1) := by decide +kernel
theorem dX5_hold_2 : decode cX5_hold 2 = .ok (.lconst 0, 1) := by decide +kernel
theorem dX5_hold_3 : decode cX5_hold 3 = .ok (.ldc2_w 263, 3) := by decide +kernel
theorem dX5_hold_6 : decode cX5_hold 6 = .ok (.invokestatic 45, 3) := by decide +kernel
theorem dX5_hold_9 : decode cX5_hold 9 = .ok (.ifCond .eq 16, 3) := by decide +kernel
theorem dX5_hold_12 : decode cX5_hold 12 = .ok (.iload_n 2, 1) := by decide +kernel
theorem dX5_hold_13 : decode cX5_hold 13 = .ok (.iconst (-1), 1) := by decide +kernel
theorem dX5_hold_14 : decode cX5_hold 14 = .ok (.if_icmp .eq 18, 3) := by decide +kernel
theorem dX5_hold_17 : decode cX5_hold 17 = .ok (.aload_n 0, 1) := by decide +kernel
theorem dX5_hold_18 : decode cX5_hold 18 = .ok (.iload_n 2, 1) := by decide +kernel
theorem dX5_hold_19 : decode cX5_hold 19 = .ok (.invokevirtual 85, 3) := by decide +kernel
theorem dX5_hold_22 : decode cX5_hold 22 = .ok (.ifCond .ne 10, 3) := by decide +kernel
theorem dX5_hold_25 : decode cX5_hold 25 = .ok (.aload_n 0, 1) := by decide +kernel
theorem dX5_hold_26 : decode cX5_hold 26 = .ok (.ldc 37, 2) := by decide +kernel
theorem dX5_hold_28 : decode cX5_hold 28 = .ok (.invokevirtual 39, 3) := by decide +kernel
theorem dX5_hold_31 : decode cX5_hold 31 = .ok (.ireturn, 1) := by decide +kernel
theorem dX5_hold_32 : decode cX5_hold 32 = .ok (.aload_n 0, 1) := by decide +kernel
theorem dX5_hold_33 : decode cX5_hold 33 = .ok (.getfield 7, 3) := by decide +kernel
theorem dX5_hold_36 : decode cX5_hold 36 = .ok (.bipush 50, 2) := by decide +kernel
theorem dX5_hold_38 : decode cX5_hold 38 = .ok (.iload_n 1, 1) := by decide +kernel
theorem dX5_hold_39 : decode cX5_hold 39 = .ok (.iadd, 1) := by decide +kernel
theorem dX5_hold_40 : decode cX5_hold 40 = .ok (.iload_n 2, 1) := by decide +kernel
theorem dX5_hold_41 : decode cX5_hold 41 = .ok (.iastore, 1) := by decide +kernel
theorem dX5_hold_42 : decode cX5_hold 42 = .ok (.iconst 1, 1) := by decide +kernel
theorem dX5_hold_43 : decode cX5_hold 43 = .ok (.ireturn, 1) := by decide +kernel
theorem dX5_isUnder_0 : decode cX5_isUnder 0 = .ok (.iload_n 1, 1) := by decide +kernel
theorem dX5_isUnder_1 : decode cX5_isUnder 1 = .ok (.ifCond .eq 44, 3) := by decide +kernel
theorem dX5_isUnder_4 : decode cX5_isUnder 4 = .ok (.iload_n 0, 1) := by decide +kernel
theorem dX5_isUnder_5 : decode cX5_isUnder 5 = .ok (.iload_n 1, 1) := by decide +kernel
theorem dX5_isUnder_6 : decode cX5_isUnder 6 = .ok (.if_icmp .eq 39, 3) := by decide +kernel
theorem dX5_isUnder_9 : decode cX5_isUnder 9 = .ok (.iload_n 1, 1) := by decide +kernel
theorem dX5_isUnder_10 : decode cX5_isUnder 10 = .ok (.iconst 2, 1) := by decide +kernel
theorem dX5_isUnder_11 : decode cX5_isUnder 11 = .ok (.if_icmp .ne 13, 3) := by decide +kernel
theorem dX5_isUnder_14 : decode cX5_isUnder 14 = .ok (.iload_n 0, 1) := by decide +kernel
theorem dX5_isUnder_15 : decode cX5_isUnder 15 = .ok (.iconst 3, 1) := by decide +kernel
theorem dX5_isUnder_16 : decode cX5_isUnder 16 = .ok (.if_icmp .eq 29, 3) := by decide +kernel
theorem dX5_isUnder_19 : decode cX5_isUnder 19 = .ok (.iload_n 0, 1) := by decide +kernel
theorem dX5_isUnder_20 : decode cX5_isUnder 20 = .ok (.iconst 4, 1) := by decide +kernel
theorem dX5_isUnder_21 : decode cX5_isUnder 21 = .ok (.if_icmp .eq 24, 3) := by decide +kernel
theorem dX5_isUnder_24 : decode cX5_isUnder 24 = .ok (.iload_n 1, 1) := by decide +kernel
theorem dX5_isUnder_25 : decode cX5_isUnder 25 = .ok (.iconst 3, 1) := by decide +kernel
theorem dX5_isUnder_26 : decode cX5_isUnder 26 = .ok (.if_icmp .ne 8, 3) := by decide +kernel
theorem dX5_isUnder_29 : decode cX5_isUnder 29 = .ok (.iload_n 0, 1) := by decide +kernel
theorem dX5_isUnder_30 : decode cX5_isUnder 30 = .ok (.iconst 4, 1) := by decide +kernel
theorem dX5_isUnder_31 : decode cX5_isUnder 31 = .ok (.if_icmp .eq 14, 3) := by decide +kernel
theorem dX5_isUnder_34 : decode cX5_isUnder 34 = .ok (.iload_n 1, 1) := by decide +kernel
theorem dX5_isUnder_35 : decode cX5_isUnder 35 = .ok (.iconst 1, 1) := by decide +kernel
theorem dX5_isUnder_36 : decode cX5_isUnder 36 = .ok (.if_icmp .ne 13, 3) := by decide +kernel
theorem dX5_isUnder_39 : decode cX5_isUnder 39 = .ok (.iload_n 0, 1) := by decide +kernel
theorem dX5_isUnder_40 : decode cX5_isUnder 40 = .ok (.bipush 6, 2) := by decide +kernel
theorem dX5_isUnder_42 : decode cX5_isUnder 42 = .ok (.if_icmp .ne 7, 3) := by decide +kernel
theorem dX5_isUnder_45 : decode cX5_isUnder 45 = .ok (.iconst 1, 1) := by decide +kernel
theorem dX5_isUnder_46 : decode cX5_isUnder 46 = .ok (.goto 4, 3) := by decide +kernel
theorem dX5_isUnder_49 : decode cX5_isUnder 49 = .ok (.iconst 0, 1) := by decide +kernel
theorem dX5_isUnder_50 : decode cX5_isUnder 50 = .ok (.ireturn, 1) := by decide +kernel
theorem dX5_as_0 : decode cX5_as 0 = .ok (.iload_n 1, 1) := by decide +kernel
theorem dX5_as_1 : decode cX5_as 1 = .ok (.i2l, 1) := by decide +kernel
theorem dX5_as_2 : decode cX5_as 2 = .ok (.lconst 0, 1) := by decide +kernel
theorem dX5_as_3 : decode cX5_as 3 = .ok (.ldc2_w 263, 3) := by decide +kernel
theorem dX5_as_6 : decode cX5_as 6 = .ok (.invokestatic 45, 3) := by decide +kernel
theorem dX5_as_9 : decode cX5_as 9 = .ok (.ifCond .eq 15, 3) := by decide +kernel
theorem dX5_as_12 : decode cX5_as 12 = .ok (.iload_n 2, 1) := by decide +kernel
theorem dX5_as_13 : decode cX5_as 13 = .ok (.i2l, 1) := by decide +kernel
theorem dX5_as_14 : decode cX5_as 14 = .ok (.lconst 0, 1) := by decide +kernel
theorem dX5_as_15 : decode cX5_as 15 = .ok (.ldc2_w 64, 3) := by decide +kernel
theorem dX5_as_18 : decode cX5_as 18 = .ok (.invokestatic 45, 3) := by decide +kernel
theorem dX5_as_21 : decode cX5_as 21 = .ok (.ifCond .ne 10, 3) := by decide +kernel
theorem dX5_as_24 : decode cX5_as 24 = .ok (.aload_n 0, 1) := by decide +kernel
theorem dX5_as_25 : decode cX5_as 25 = .ok (.ldc 37, 2) := by decide +kernel
theorem dX5_as_27 : decode cX5_as 27 = .ok (.invokevirtual 39, 3) := by decide +kernel
theorem dX5_as_30 : decode cX5_as 30 = .ok (.ireturn, 1) := by decide +kernel
theorem dX5_as_31 : decode cX5_as 31 = .ok (.aload_n 0, 1) := by decide +kernel
theorem dX5_as_32 : decode cX5_as 32 = .ok (.getfield 7, 3) := by decide +kernel
theorem dX5_as_35 : decode cX5_as 35 = .ok (.bipush 50, 2) := by decide +kernel
theorem dX5_as_37 : decode cX5_as 37 = .ok (.iload_n 1, 1) := by decide +kernel
theorem dX5_as_38 : decode cX5_as 38 = .ok (.iadd, 1) := by decide +kernel
theorem dX5_as_39 : decode cX5_as 39 = .ok (.iaload, 1) := by decide +kernel
theorem dX5_as_40 : decode cX5_as 40 = .ok (.istore_n 3, 1) := by decide +kernel
theorem dX5_as_41 : decode cX5_as 41 = .ok (.iload_n 3, 1) := by decide +kernel
theorem dX5_as_42 : decode cX5_as 42 = .ok (.ifCond .ge 11, 3) := by decide +kernel
theorem dX5_as_45 : decode cX5_as 45 = .ok (.aload_n 0, 1) := by decide +kernel
theorem dX5_as_46 : decode cX5_as 46 = .ok (.ldc_w 265, 3) := by decide +kernel
theorem dX5_as_49 : decode cX5_as 49 = .ok (.invokevirtual 39, 3) := by decide +kernel
theorem dX5_as_52 : decode cX5_as 52 = .ok (.ireturn, 1) := by decide +kernel
theorem dX5_as_53 : decode cX5_as 53 = .ok (.aload_n 0, 1) := by decide +kernel
theorem dX5_as_54 : decode cX5_as 54 = .ok (.iload_n 3, 1) := by decide +kernel
theorem dX5_as_55 : decode cX5_as 55 = .ok (.iconst 0, 1) := by decide +kernel
theorem dX5_as_56 : decode cX5_as 56 = .ok (.invokevirtual 73, 3) := by decide +kernel
theorem dX5_as_59 : decode cX5_as 59 = .ok (.iload_n 2, 1) := by decide +kernel
theorem dX5_as_60 : decode cX5_as 60 = .ok (.invokestatic 266, 3) := by decide +kernel
theorem dX5_as_63 : decode cX5_as 63 = .ok (.ifCond .eq 7, 3) := by decide +kernel
theorem dX5_as_66 : decode cX5_as 66 = .ok (.iload_n 3, 1) := by decide +kernel
theorem dX5_as_67 : decode cX5_as 67 = .ok (.goto 10, 3) := by decide +kernel
theorem dX5_as_70 : decode cX5_as 70 = .ok (.aload_n 0, 1) := by decide +kernel
theorem dX5_as_71 : decode cX5_as 71 = .ok (.ldc_w 269, 3) := by decide +kernel
theorem dX5_as_74 : decode cX5_as 74 = .ok (.invokevirtual 39, 3) := by decide +kernel
theorem dX5_as_77 : decode cX5_as 77 = .ok (.ireturn, 1) := by decide +kernel
theorem dX5_isSheet_0 : decode cX5_isSheet 0 = .ok (.iload_n 0, 1) := by decide +kernel
theorem dX5_isSheet_1 : decode cX5_isSheet 1 = .ok (.ifCond .lt 12, 3) := by decide +kernel
theorem dX5_isSheet_4 : decode cX5_isSheet 4 = .ok (.iload_n 0, 1) := by decide +kernel
theorem dX5_isSheet_5 : decode cX5_isSheet 5 = .ok (.iconst 4, 1) := by decide +kernel
theorem dX5_isSheet_6 : decode cX5_isSheet 6 = .ok (.if_icmp .ge 7, 3) := by decide +kernel
theorem dX5_isSheet_9 : decode cX5_isSheet 9 = .ok (.iconst 1, 1) := by decide +kernel
theorem dX5_isSheet_10 : decode cX5_isSheet 10 = .ok (.goto 4, 3) := by decide +kernel
theorem dX5_isSheet_13 : decode cX5_isSheet 13 = .ok (.iconst 0, 1) := by decide +kernel
theorem dX5_isSheet_14 : decode cX5_isSheet 14 = .ok (.ireturn, 1) := by decide +kernel
theorem dX5_sheet_0 : decode cX5_sheet 0 = .ok (.iload_n 1, 1) := by decide +kernel
theorem dX5_sheet_1 : decode cX5_sheet 1 = .ok (.invokestatic 270, 3) := by decide +kernel
theorem dX5_sheet_4 : decode cX5_sheet 4 = .ok (.ifCond .eq 25, 3) := by decide +kernel
theorem dX5_sheet_7 : decode cX5_sheet 7 = .ok (.iload_n 2, 1) := by decide +kernel
theorem dX5_sheet_8 : decode cX5_sheet 8 = .ok (.ifCond .eq 28, 3) := by decide +kernel
theorem dX5_sheet_11 : decode cX5_sheet 11 = .ok (.iload_n 2, 1) := by decide +kernel
theorem dX5_sheet_12 : decode cX5_sheet 12 = .ok (.bipush 8, 2) := by decide +kernel
theorem dX5_sheet_14 : decode cX5_sheet 14 = .ok (.if_icmp .eq 22, 3) := by decide +kernel
theorem dX5_sheet_17 : decode cX5_sheet 17 = .ok (.iload_n 2, 1) := by decide +kernel
theorem dX5_sheet_18 : decode cX5_sheet 18 = .ok (.bipush 16, 2) := by decide +kernel
theorem dX5_sheet_20 : decode cX5_sheet 20 = .ok (.if_icmp .eq 16, 3) := by decide +kernel
theorem dX5_sheet_23 : decode cX5_sheet 23 = .ok (.iload_n 2, 1) := by decide +kernel
theorem dX5_sheet_24 : decode cX5_sheet 24 = .ok (.bipush 32, 2) := by decide +kernel
theorem dX5_sheet_26 : decode cX5_sheet 26 = .ok (.if_icmp .eq 10, 3) := by decide +kernel
theorem dX5_sheet_29 : decode cX5_sheet 29 = .ok (.aload_n 0, 1) := by decide +kernel
theorem dX5_sheet_30 : decode cX5_sheet 30 = .ok (.ldc 37, 2) := by decide +kernel
theorem dX5_sheet_32 : decode cX5_sheet 32 = .ok (.invokevirtual 39, 3) := by decide +kernel
theorem dX5_sheet_35 : decode cX5_sheet 35 = .ok (.ireturn, 1) := by decide +kernel
theorem dX5_sheet_36 : decode cX5_sheet 36 = .ok (.iload_n 3, 1) := by decide +kernel
theorem dX5_sheet_37 : decode cX5_sheet 37 = .ok (.ifCond .ge 11, 3) := by decide +kernel
theorem dX5_sheet_40 : decode cX5_sheet 40 = .ok (.aload_n 0, 1) := by decide +kernel
theorem dX5_sheet_41 : decode cX5_sheet 41 = .ok (.ldc_w 273, 3) := by decide +kernel
theorem dX5_sheet_44 : decode cX5_sheet 44 = .ok (.invokevirtual 39, 3) := by decide +kernel
theorem dX5_sheet_47 : decode cX5_sheet 47 = .ok (.ireturn, 1) := by decide +kernel
theorem dX5_sheet_48 : decode cX5_sheet 48 = .ok (.iload_n 3, 1) := by decide +kernel
theorem dX5_sheet_49 : decode cX5_sheet 49 = .ok (.bipush 40, 2) := by decide +kernel
theorem dX5_sheet_51 : decode cX5_sheet 51 = .ok (.if_icmp .le 10, 3) := by decide +kernel
theorem dX5_sheet_54 : decode cX5_sheet 54 = .ok (.aload_n 0, 1) := by decide +kernel
theorem dX5_sheet_55 : decode cX5_sheet 55 = .ok (.ldc 37, 2) := by decide +kernel
theorem dX5_sheet_57 : decode cX5_sheet 57 = .ok (.invokevirtual 39, 3) := by decide +kernel
theorem dX5_sheet_60 : decode cX5_sheet 60 = .ok (.ireturn, 1) := by decide +kernel
theorem dX5_sheet_61 : decode cX5_sheet 61 = .ok (.aload_n 0, 1) := by decide +kernel
theorem dX5_sheet_62 : decode cX5_sheet 62 = .ok (.getfield 28, 3) := by decide +kernel
theorem dX5_sheet_65 : decode cX5_sheet 65 = .ok (.iload_n 1, 1) := by decide +kernel
theorem dX5_sheet_66 : decode cX5_sheet 66 = .ok (.iload_n 2, 1) := by decide +kernel
theorem dX5_sheet_67 : decode cX5_sheet 67 = .ok (.ifCond .ne 7, 3) := by decide +kernel
theorem dX5_sheet_70 : decode cX5_sheet 70 = .ok (.iconst (-1), 1) := by decide +kernel
theorem dX5_sheet_71 : decode cX5_sheet 71 = .ok (.goto 4, 3) := by decide +kernel
theorem dX5_sheet_74 : decode cX5_sheet 74 = .ok (.iload_n 2, 1) := by decide +kernel
theorem dX5_sheet_75 : decode cX5_sheet 75 = .ok (.iastore, 1) := by decide +kernel
theorem dX5_sheet_76 : decode cX5_sheet 76 = .ok (.aload_n 0, 1) := by decide +kernel
theorem dX5_sheet_77 : decode cX5_sheet 77 = .ok (.getfield 31, 3) := by decide +kernel
theorem dX5_sheet_80 : decode cX5_sheet 80 = .ok (.iload_n 1, 1) := by decide +kernel
theorem dX5_sheet_81 : decode cX5_sheet 81 = .ok (.iload_n 2, 1) := by decide +kernel
theorem dX5_sheet_82 : decode cX5_sheet 82 = .ok (.ifCond .ne 7, 3) := by decide +kernel
theorem dX5_sheet_85 : decode cX5_sheet 85 = .ok (.iconst 0, 1) := by decide +kernel
theorem dX5_sheet_86 : decode cX5_sheet 86 = .ok (.goto 4, 3) := by decide +kernel
theorem dX5_sheet_89 : decode cX5_sheet 89 = .ok (.iload_n 3, 1) := by decide +kernel
theorem dX5_sheet_90 : decode cX5_sheet 90 = .ok (.iastore, 1) := by decide +kernel
theorem dX5_sheet_91 : decode cX5_sheet 91 = .ok (.iconst 0, 1) := by decide +kernel
theorem dX5_sheet_92 : decode cX5_sheet 92 = .ok (.istore 4, 2) := by decide +kernel
theorem dX5_sheet_94 : decode cX5_sheet 94 = .ok (.iload 4, 2) := by decide +kernel
theorem dX5_sheet_96 : decode cX5_sheet 96 = .ok (.bipush 40, 2) := by decide +kernel
theorem dX5_sheet_98 : decode cX5_sheet 98 = .ok (.if_icmp .ge 22, 3) := by decide +kernel
theorem dX5_sheet_101 : decode cX5_sheet 101 = .ok (.aload_n 0, 1) := by decide +kernel
theorem dX5_sheet_102 : decode cX5_sheet 102 = .ok (.getfield 34, 3) := by decide +kernel
theorem dX5_sheet_105 : decode cX5_sheet 105 = .ok (.bipush 40, 2) := by decide +kernel
theorem dX5_sheet_107 : decode cX5_sheet 107 = .ok (.iload_n 1, 1) := by decide +kernel
theorem dX5_sheet_108 : decode cX5_sheet 108 = .ok (.imul, 1) := by decide +kernel
theorem dX5_sheet_109 : decode cX5_sheet 109 = .ok (.iload 4, 2) := by decide +kernel
theorem dX5_sheet_111 : decode cX5_sheet 111 = .ok (.iadd, 1) := by decide +kernel
theorem dX5_sheet_112 : decode cX5_sheet 112 = .ok (.iconst 0, 1) := by decide +kernel
theorem dX5_sheet_113 : decode cX5_sheet 113 = .ok (.iastore, 1) := by decide +kernel
theorem dX5_sheet_114 : decode cX5_sheet 114 = .ok (.iinc 4 1, 3) := by decide +kernel
theorem dX5_sheet_117 : decode cX5_sheet 117 = .ok (.goto (-23), 3) := by decide +kernel
theorem dX5_sheet_120 : decode cX5_sheet 120 = .ok (.aload_n 0, 1) := by decide +kernel
theorem dX5_sheet_121 : decode cX5_sheet 121 = .ok (.getfield 31, 3) := by decide +kernel
theorem dX5_sheet_124 : decode cX5_sheet 124 = .ok (.iload_n 1, 1) := by decide +kernel
theorem dX5_sheet_125 : decode cX5_sheet 125 = .ok (.iaload, 1) := by decide +kernel
theorem dX5_sheet_126 : decode cX5_sheet 126 = .ok (.ireturn, 1) := by decide +kernel
theorem dX5_write_0 : decode cX5_write 0 = .ok (.iload_n 1, 1) := by decide +kernel
theorem dX5_write_1 : decode cX5_write 1 = .ok (.invokestatic 270, 3) := by decide +kernel
theorem dX5_write_4 : decode cX5_write 4 = .ok (.ifCond .ne 10, 3) := by decide +kernel
theorem dX5_write_7 : decode cX5_write 7 = .ok (.aload_n 0, 1) := by decide +kernel
theorem dX5_write_8 : decode cX5_write 8 = .ok (.ldc 37, 2) := by decide +kernel
theorem dX5_write_10 : decode cX5_write 10 = .ok (.invokevirtual 39, 3) := by decide +kernel
theorem dX5_write_13 : decode cX5_write 13 = .ok (.ireturn, 1) := by decide +kernel
theorem dX5_write_14 : decode cX5_write 14 = .ok (.aload_n 0, 1) := by decide +kernel
theorem dX5_write_15 : decode cX5_write 15 = .ok (.getfield 28, 3) := by decide +kernel
theorem dX5_write_18 : decode cX5_write 18 = .ok (.iload_n 1, 1) := by decide +kernel
theorem dX5_write_19 : decode cX5_write 19 = .ok (.iaload, 1) := by decide +kernel
theorem dX5_write_20 : decode cX5_write 20 = .ok (.ifCond .ge 11, 3) := by decide +kernel
theorem dX5_write_23 : decode cX5_write 23 = .ok (.aload_n 0, 1) := by decide +kernel
theorem dX5_write_24 : decode cX5_write 24 = .ok (.ldc_w 265, 3) := by decide +kernel
theorem dX5_write_27 : decode cX5_write 27 = .ok (.invokevirtual 39, 3) := by decide +kernel
theorem dX5_write_30 : decode cX5_write 30 = .ok (.ireturn, 1) := by decide +kernel
theorem dX5_write_31 : decode cX5_write 31 = .ok (.iload_n 2, 1) := by decide +kernel
theorem dX5_write_32 : decode cX5_write 32 = .ok (.i2l, 1) := by decide +kernel
theorem dX5_write_33 : decode cX5_write 33 = .ok (.lconst 0, 1) := by decide +kernel
theorem dX5_write_34 : decode cX5_write 34 = .ok (.aload_n 0, 1) := by decide +kernel
theorem dX5_write_35 : decode cX5_write 35 = .ok (.getfield 31, 3) := by decide +kernel
theorem dX5_write_38 : decode cX5_write 38 = .ok (.iload_n 1, 1) := by decide +kernel
theorem dX5_write_39 : decode cX5_write 39 = .ok (.iaload, 1) := by decide +kernel
theorem dX5_write_40 : decode cX5_write 40 = .ok (.iconst 1, 1) := by decide +kernel
theorem dX5_write_41 : decode cX5_write 41 = .ok (.isub, 1) := by decide +kernel
theorem dX5_write_42 : decode cX5_write 42 = .ok (.i2l, 1) := by decide +kernel
theorem dX5_write_43 : decode cX5_write 43 = .ok (.invokestatic 45, 3) := by decide +kernel
theorem dX5_write_46 : decode cX5_write 46 = .ok (.ifCond .ne 10, 3) := by decide +kernel
theorem dX5_write_49 : decode cX5_write 49 = .ok (.aload_n 0, 1) := by decide +kernel
theorem dX5_write_50 : decode cX5_write 50 = .ok (.ldc 37, 2) := by decide +kernel
theorem dX5_write_52 : decode cX5_write 52 = .ok (.invokevirtual 39, 3) := by decide +kernel
theorem dX5_write_55 : decode cX5_write 55 = .ok (.ireturn, 1) := by decide +kernel
theorem dX5_write_56 : decode cX5_write 56 = .ok (.aload_n 0, 1) := by decide +kernel
theorem dX5_write_57 : decode cX5_write 57 = .ok (.getfield 34, 3) := by decide +kernel
theorem dX5_write_60 : decode cX5_write 60 = .ok (.bipush 40, 2) := by decide +kernel
theorem dX5_write_62 : decode cX5_write 62 = .ok (.iload_n 1, 1) := by decide +kernel
theorem dX5_write_63 : decode cX5_write 63 = .ok (.imul, 1) := by decide +kernel
theorem dX5_write_64 : decode cX5_write 64 = .ok (.iload_n 2, 1) := by decide +kernel
theorem dX5_write_65 : decode cX5_write 65 = .ok (.iadd, 1) := by decide +kernel
theorem dX5_write_66 : decode cX5_write 66 = .ok (.aload_n 0, 1) := by decide +kernel
theorem dX5_write_67 : decode cX5_write 67 = .ok (.getfield 28, 3) := by decide +kernel
theorem dX5_write_70 : decode cX5_write 70 = .ok (.iload_n 1, 1) := by decide +kernel
theorem dX5_write_71 : decode cX5_write 71 = .ok (.iaload, 1) := by decide +kernel
theorem dX5_write_72 : decode cX5_write 72 = .ok (.bipush 8, 2) := by decide +kernel
theorem dX5_write_74 : decode cX5_write 74 = .ok (.if_icmp .ne 8, 3) := by decide +kernel
theorem dX5_write_77 : decode cX5_write 77 = .ok (.iload_n 3, 1) := by decide +kernel
theorem dX5_write_78 : decode cX5_write 78 = .ok (.i2b, 1) := by decide +kernel
theorem dX5_write_79 : decode cX5_write 79 = .ok (.goto 20, 3) := by decide +kernel
theorem dX5_write_82 : decode cX5_write 82 = .ok (.aload_n 0, 1) := by decide +kernel
theorem dX5_write_83 : decode cX5_write 83 = .ok (.getfield 28, 3) := by decide +kernel
theorem dX5_write_86 : decode cX5_write 86 = .ok (.iload_n 1, 1) := by decide +kernel
theorem dX5_write_87 : decode cX5_write 87 = .ok (.iaload, 1) := by decide +kernel
theorem dX5_write_88 : decode cX5_write 88 = .ok (.bipush 16, 2) := by decide +kernel
theorem dX5_write_90 : decode cX5_write 90 = .ok (.if_icmp .ne 8, 3) := by decide +kernel
theorem dX5_write_93 : decode cX5_write 93 = .ok (.iload_n 3, 1) := by decide +kernel
theorem dX5_write_94 : decode cX5_write 94 = .ok (.i2s, 1) := by decide +kernel
theorem dX5_write_95 : decode cX5_write 95 = .ok (.goto 4, 3) := by decide +kernel
theorem dX5_write_98 : decode cX5_write 98 = .ok (.iload_n 3, 1) := by decide +kernel
theorem dX5_write_99 : decode cX5_write 99 = .ok (.iastore, 1) := by decide +kernel
theorem dX5_write_100 : decode cX5_write 100 = .ok (.iconst 1, 1) := by decide +kernel
theorem dX5_write_101 : decode cX5_write 101 = .ok (.ireturn, 1) := by decide +kernel
theorem dX5_copy_0 : decode cX5_copy 0 = .ok (.iload_n 1, 1) := by decide +kernel
theorem dX5_copy_1 : decode cX5_copy 1 = .ok (.invokestatic 270, 3) := by decide +kernel
theorem dX5_copy_4 : decode cX5_copy 4 = .ok (.ifCond .eq 10, 3) := by decide +kernel
theorem dX5_copy_7 : decode cX5_copy 7 = .ok (.iload_n 3, 1) := by decide +kernel
theorem dX5_copy_8 : decode cX5_copy 8 = .ok (.invokestatic 270, 3) := by decide +kernel
theorem dX5_copy_11 : decode cX5_copy 11 = .ok (.ifCond .ne 10, 3) := by decide +kernel
theorem dX5_copy_14 : decode cX5_copy 14 = .ok (.aload_n 0, 1) := by decide +kernel
theorem dX5_copy_15 : decode cX5_copy 15 = .ok (.ldc 37, 2) := by decide +kernel
theorem dX5_copy_17 : decode cX5_copy 17 = .ok (.invokevirtual 39, 3) := by decide +kernel
theorem dX5_copy_20 : decode cX5_copy 20 = .ok (.ireturn, 1) := by decide +kernel
theorem dX5_copy_21 : decode cX5_copy 21 = .ok (.aload_n 0, 1) := by decide +kernel
theorem dX5_copy_22 : decode cX5_copy 22 = .ok (.getfield 28, 3) := by decide +kernel
theorem dX5_copy_25 : decode cX5_copy 25 = .ok (.iload_n 1, 1) := by decide +kernel
theorem dX5_copy_26 : decode cX5_copy 26 = .ok (.iaload, 1) := by decide +kernel
theorem dX5_copy_27 : decode cX5_copy 27 = .ok (.ifCond .lt 12, 3) := by decide +kernel
theorem dX5_copy_30 : decode cX5_copy 30 = .ok (.aload_n 0, 1) := by decide +kernel
theorem dX5_copy_31 : decode cX5_copy 31 = .ok (.getfield 28, 3) := by decide +kernel
theorem dX5_copy_34 : decode cX5_copy 34 = .ok (.iload_n 3, 1) := by decide +kernel
theorem dX5_copy_35 : decode cX5_copy 35 = .ok (.iaload, 1) := by decide +kernel
theorem dX5_copy_36 : decode cX5_copy 36 = .ok (.ifCond .ge 11, 3) := by decide +kernel
theorem dX5_copy_39 : decode cX5_copy 39 = .ok (.aload_n 0, 1) := by decide +kernel
theorem dX5_copy_40 : decode cX5_copy 40 = .ok (.ldc_w 265, 3) := by decide +kernel
theorem dX5_copy_43 : decode cX5_copy 43 = .ok (.invokevirtual 39, 3) := by decide +kernel
theorem dX5_copy_46 : decode cX5_copy 46 = .ok (.ireturn, 1) := by decide +kernel
theorem dX5_copy_47 : decode cX5_copy 47 = .ok (.aload_n 0, 1) := by decide +kernel
theorem dX5_copy_48 : decode cX5_copy 48 = .ok (.getfield 28, 3) := by decide +kernel
theorem dX5_copy_51 : decode cX5_copy 51 = .ok (.iload_n 1, 1) := by decide +kernel
theorem dX5_copy_52 : decode cX5_copy 52 = .ok (.iaload, 1) := by decide +kernel
theorem dX5_copy_53 : decode cX5_copy 53 = .ok (.aload_n 0, 1) := by decide +kernel
theorem dX5_copy_54 : decode cX5_copy 54 = .ok (.getfield 28, 3) := by decide +kernel
theorem dX5_copy_57 : decode cX5_copy 57 = .ok (.iload_n 3, 1) := by decide +kernel
theorem dX5_copy_58 : decode cX5_copy 58 = .ok (.iaload, 1) := by decide +kernel
theorem dX5_copy_59 : decode cX5_copy 59 = .ok (.if_icmp .eq 11, 3) := by decide +kernel
theorem dX5_copy_62 : decode cX5_copy 62 = .ok (.aload_n 0, 1) := by decide +kernel
theorem dX5_copy_63 : decode cX5_copy 63 = .ok (.ldc_w 269, 3) := by decide +kernel
theorem dX5_copy_66 : decode cX5_copy 66 = .ok (.invokevirtual 39, 3) := by decide +kernel
theorem dX5_copy_69 : decode cX5_copy 69 = .ok (.ireturn, 1) := by decide +kernel
theorem dX5_copy_70 : decode cX5_copy 70 = .ok (.iload_n 2, 1) := by decide +kernel
theorem dX5_copy_71 : decode cX5_copy 71 = .ok (.ifCond .lt 40, 3) := by decide +kernel
theorem dX5_copy_74 : decode cX5_copy 74 = .ok (.iload 4, 2) := by decide +kernel
theorem dX5_copy_76 : decode cX5_copy 76 = .ok (.ifCond .lt 35, 3) := by decide +kernel
theorem dX5_copy_79 : decode cX5_copy 79 = .ok (.iload 5, 2) := by decide +kernel
theorem dX5_copy_81 : decode cX5_copy 81 = .ok (.ifCond .lt 30, 3) := by decide +kernel
theorem dX5_copy_84 : decode cX5_copy 84 = .ok (.iload 5, 2) := by decide +kernel
theorem dX5_copy_86 : decode cX5_copy 86 = .ok (.aload_n 0, 1) := by decide +kernel
theorem dX5_copy_87 : decode cX5_copy 87 = .ok (.getfield 31, 3) := by decide +kernel
theorem dX5_copy_90 : decode cX5_copy 90 = .ok (.iload_n 1, 1) := by decide +kernel
theorem dX5_copy_91 : decode cX5_copy 91 = .ok (.iaload, 1) := by decide +kernel
theorem dX5_copy_92 : decode cX5_copy 92 = .ok (.iload_n 2, 1) := by decide +kernel
theorem dX5_copy_93 : decode cX5_copy 93 = .ok (.isub, 1) := by decide +kernel
theorem dX5_copy_94 : decode cX5_copy 94 = .ok (.if_icmp .gt 17, 3) := by decide +kernel
theorem dX5_copy_97 : decode cX5_copy 97 = .ok (.iload 5, 2) := by decide +kernel
theorem dX5_copy_99 : decode cX5_copy 99 = .ok (.aload_n 0, 1) := by decide +kernel
theorem dX5_copy_100 : decode cX5_copy 100 = .ok (.getfield 31, 3) := by decide +kernel
theorem dX5_copy_103 : decode cX5_copy 103 = .ok (.iload_n 3, 1) := by decide +kernel
theorem dX5_copy_104 : decode cX5_copy 104 = .ok (.iaload, 1) := by decide +kernel
theorem dX5_copy_105 : decode cX5_copy 105 = .ok (.iload 4, 2) := by decide +kernel
theorem dX5_copy_107 : decode cX5_copy 107 = .ok (.isub, 1) := by decide +kernel
theorem dX5_copy_108 : decode cX5_copy 108 = .ok (.if_icmp .le 10, 3) := by decide +kernel
theorem dX5_copy_111 : decode cX5_copy 111 = .ok (.aload_n 0, 1) := by decide +kernel
theorem dX5_copy_112 : decode cX5_copy 112 = .ok (.ldc 37, 2) := by decide +kernel
theorem dX5_copy_114 : decode cX5_copy 114 = .ok (.invokevirtual 39, 3) := by decide +kernel
theorem dX5_copy_117 : decode cX5_copy 117 = .ok (.ireturn, 1) := by decide +kernel
theorem dX5_copy_118 : decode cX5_copy 118 = .ok (.bipush 40, 2) := by decide +kernel
theorem dX5_copy_120 : decode cX5_copy 120 = .ok (.iload_n 1, 1) := by decide +kernel
theorem dX5_copy_121 : decode cX5_copy 121 = .ok (.imul, 1) := by decide +kernel
theorem dX5_copy_122 : decode cX5_copy 122 = .ok (.iload_n 2, 1) := by decide +kernel
theorem dX5_copy_123 : decode cX5_copy 123 = .ok (.iadd, 1) := by decide +kernel
theorem dX5_copy_124 : decode cX5_copy 124 = .ok (.istore 6, 2) := by decide +kernel
theorem dX5_copy_126 : decode cX5_copy 126 = .ok (.bipush 40, 2) := by decide +kernel
theorem dX5_copy_128 : decode cX5_copy 128 = .ok (.iload_n 3, 1) := by decide +kernel
theorem dX5_copy_129 : decode cX5_copy 129 = .ok (.imul, 1) := by decide +kernel
theorem dX5_copy_130 : decode cX5_copy 130 = .ok (.iload 4, 2) := by decide +kernel
theorem dX5_copy_132 : decode cX5_copy 132 = .ok (.iadd, 1) := by decide +kernel
theorem dX5_copy_133 : decode cX5_copy 133 = .ok (.istore 7, 2) := by decide +kernel
theorem dX5_copy_135 : decode cX5_copy 135 = .ok (.iconst 0, 1) := by decide +kernel
theorem dX5_copy_136 : decode cX5_copy 136 = .ok (.istore 8, 2) := by decide +kernel
theorem dX5_copy_138 : decode cX5_copy 138 = .ok (.iload 8, 2) := by decide +kernel
theorem dX5_copy_140 : decode cX5_copy 140 = .ok (.iload 5, 2) := by decide +kernel
theorem dX5_copy_142 : decode cX5_copy 142 = .ok (.if_icmp .ge 50, 3) := by decide +kernel
theorem dX5_copy_145 : decode cX5_copy 145 = .ok (.iload 6, 2) := by decide +kernel
theorem dX5_copy_147 : decode cX5_copy 147 = .ok (.iload 7, 2) := by decide +kernel
theorem dX5_copy_149 : decode cX5_copy 149 = .ok (.if_icmp .ge 13, 3) := by decide +kernel
theorem dX5_copy_152 : decode cX5_copy 152 = .ok (.iload 5, 2) := by decide +kernel
theorem dX5_copy_154 : decode cX5_copy 154 = .ok (.iconst 1, 1) := by decide +kernel
theorem dX5_copy_155 : decode cX5_copy 155 = .ok (.isub, 1) := by decide +kernel
theorem dX5_copy_156 : decode cX5_copy 156 = .ok (.iload 8, 2) := by decide +kernel
theorem dX5_copy_158 : decode cX5_copy 158 = .ok (.isub, 1) := by decide +kernel
theorem dX5_copy_159 : decode cX5_copy 159 = .ok (.goto 5, 3) := by decide +kernel
theorem dX5_copy_162 : decode cX5_copy 162 = .ok (.iload 8, 2) := by decide +kernel
theorem dX5_copy_164 : decode cX5_copy 164 = .ok (.istore 9, 2) := by decide +kernel
theorem dX5_copy_166 : decode cX5_copy 166 = .ok (.aload_n 0, 1) := by decide +kernel
theorem dX5_copy_167 : decode cX5_copy 167 = .ok (.getfield 34, 3) := by decide +kernel
theorem dX5_copy_170 : decode cX5_copy 170 = .ok (.iload 7, 2) := by decide +kernel
theorem dX5_copy_172 : decode cX5_copy 172 = .ok (.iload 9, 2) := by decide +kernel
theorem dX5_copy_174 : decode cX5_copy 174 = .ok (.iadd, 1) := by decide +kernel
theorem dX5_copy_175 : decode cX5_copy 175 = .ok (.aload_n 0, 1) := by decide +kernel
theorem dX5_copy_176 : decode cX5_copy 176 = .ok (.getfield 34, 3) := by decide +kernel
theorem dX5_copy_179 : decode cX5_copy 179 = .ok (.iload 6, 2) := by decide +kernel
theorem dX5_copy_181 : decode cX5_copy 181 = .ok (.iload 9, 2) := by decide +kernel
theorem dX5_copy_183 : decode cX5_copy 183 = .ok (.iadd, 1) := by decide +kernel
theorem dX5_copy_184 : decode cX5_copy 184 = .ok (.iaload, 1) := by decide +kernel
theorem dX5_copy_185 : decode cX5_copy 185 = .ok (.iastore, 1) := by decide +kernel
theorem dX5_copy_186 : decode cX5_copy 186 = .ok (.iinc 8 1, 3) := by decide +kernel
theorem dX5_copy_189 : decode cX5_copy 189 = .ok (.goto (-51), 3) := by decide +kernel
theorem dX5_copy_192 : decode cX5_copy 192 = .ok (.iload 5, 2) := by decide +kernel
theorem dX5_copy_194 : decode cX5_copy 194 = .ok (.ireturn, 1) := by decide +kernel
theorem dX5_wants_0 : decode cX5_wants 0 = .ok (.iload_n 1, 1) := by decide +kernel
theorem dX5_wants_1 : decode cX5_wants 1 = .ok (.invokestatic 270, 3) := by decide +kernel
theorem dX5_wants_4 : decode cX5_wants 4 = .ok (.ifCond .ne 8, 3) := by decide +kernel
theorem dX5_wants_7 : decode cX5_wants 7 = .ok (.ldc 37, 2) := by decide +kernel
theorem dX5_wants_9 : decode cX5_wants 9 = .ok (.goto 19, 3) := by decide +kernel
theorem dX5_wants_12 : decode cX5_wants 12 = .ok (.aload_n 0, 1) := by decide +kernel
theorem dX5_wants_13 : decode cX5_wants 13 = .ok (.getfield 28, 3) := by decide +kernel
theorem dX5_wants_16 : decode cX5_wants 16 = .ok (.iload_n 1, 1) := by decide +kernel
theorem dX5_wants_17 : decode cX5_wants 17 = .ok (.iaload, 1) := by decide +kernel
theorem dX5_wants_18 : decode cX5_wants 18 = .ok (.ifCond .ge 9, 3) := by decide +kernel
theorem dX5_wants_21 : decode cX5_wants 21 = .ok (.ldc_w 265, 3) := by decide +kernel
theorem dX5_wants_24 : decode cX5_wants 24 = .ok (.goto 4, 3) := by decide +kernel
theorem dX5_wants_27 : decode cX5_wants 27 = .ok (.iconst 0, 1) := by decide +kernel
theorem dX5_wants_28 : decode cX5_wants 28 = .ok (.ireturn, 1) := by decide +kernel
theorem dX5_load_0 : decode cX5_load 0 = .ok (.aload_n 0, 1) := by decide +kernel
theorem dX5_load_1 : decode cX5_load 1 = .ok (.iload_n 1, 1) := by decide +kernel
theorem dX5_load_2 : decode cX5_load 2 = .ok (.invokevirtual 175, 3) := by decide +kernel
theorem dX5_load_5 : decode cX5_load 5 = .ok (.ifCond .eq 13, 3) := by decide +kernel
theorem dX5_load_8 : decode cX5_load 8 = .ok (.aload_n 0, 1) := by decide +kernel
theorem dX5_load_9 : decode cX5_load 9 = .ok (.aload_n 0, 1) := by decide +kernel
theorem dX5_load_10 : decode cX5_load 10 = .ok (.iload_n 1, 1) := by decide +kernel
theorem dX5_load_11 : decode cX5_load 11 = .ok (.invokevirtual 175, 3) := by decide +kernel
theorem dX5_load_14 : decode cX5_load 14 = .ok (.invokevirtual 39, 3) := by decide +kernel
theorem dX5_load_17 : decode cX5_load 17 = .ok (.ireturn, 1) := by decide +kernel
theorem dX5_load_18 : decode cX5_load 18 = .ok (.iconst 0, 1) := by decide +kernel
theorem dX5_load_19 : decode cX5_load 19 = .ok (.istore_n 2, 1) := by decide +kernel
theorem dX5_load_20 : decode cX5_load 20 = .ok (.iload_n 2, 1) := by decide +kernel
theorem dX5_load_21 : decode cX5_load 21 = .ok (.aload_n 0, 1) := by decide +kernel
theorem dX5_load_22 : decode cX5_load 22 = .ok (.getfield 31, 3) := by decide +kernel
theorem dX5_load_25 : decode cX5_load 25 = .ok (.iload_n 1, 1) := by decide +kernel
theorem dX5_load_26 : decode cX5_load 26 = .ok (.iaload, 1) := by decide +kernel
theorem dX5_load_27 : decode cX5_load 27 = .ok (.if_icmp .ge 51, 3) := by decide +kernel
theorem dX5_load_30 : decode cX5_load 30 = .ok (.iload_n 2, 1) := by decide +kernel
theorem dX5_load_31 : decode cX5_load 31 = .ok (.bipush 6, 2) := by decide +kernel
theorem dX5_load_33 : decode cX5_load 33 = .ok (.if_icmp .ge 45, 3) := by decide +kernel
theorem dX5_load_36 : decode cX5_load 36 = .ok (.aload_n 0, 1) := by decide +kernel
theorem dX5_load_37 : decode cX5_load 37 = .ok (.getfield 34, 3) := by decide +kernel
theorem dX5_load_40 : decode cX5_load 40 = .ok (.bipush 40, 2) := by decide +kernel
theorem dX5_load_42 : decode cX5_load 42 = .ok (.iload_n 1, 1) := by decide +kernel
theorem dX5_load_43 : decode cX5_load 43 = .ok (.imul, 1) := by decide +kernel
theorem dX5_load_44 : decode cX5_load 44 = .ok (.iload_n 2, 1) := by decide +kernel
theorem dX5_load_45 : decode cX5_load 45 = .ok (.iadd, 1) := by decide +kernel
theorem dX5_load_46 : decode cX5_load 46 = .ok (.iaload, 1) := by decide +kernel
theorem dX5_load_47 : decode cX5_load 47 = .ok (.invokestatic 274, 3) := by decide +kernel
theorem dX5_load_50 : decode cX5_load 50 = .ok (.ifCond .eq 28, 3) := by decide +kernel
theorem dX5_load_53 : decode cX5_load 53 = .ok (.aload_n 0, 1) := by decide +kernel
theorem dX5_load_54 : decode cX5_load 54 = .ok (.getfield 7, 3) := by decide +kernel
theorem dX5_load_57 : decode cX5_load 57 = .ok (.iconst 4, 1) := by decide +kernel
theorem dX5_load_58 : decode cX5_load 58 = .ok (.iload_n 2, 1) := by decide +kernel
theorem dX5_load_59 : decode cX5_load 59 = .ok (.iadd, 1) := by decide +kernel
theorem dX5_load_60 : decode cX5_load 60 = .ok (.aload_n 0, 1) := by decide +kernel
theorem dX5_load_61 : decode cX5_load 61 = .ok (.getfield 34, 3) := by decide +kernel
theorem dX5_load_64 : decode cX5_load 64 = .ok (.bipush 40, 2) := by decide +kernel
theorem dX5_load_66 : decode cX5_load 66 = .ok (.iload_n 1, 1) := by decide +kernel
theorem dX5_load_67 : decode cX5_load 67 = .ok (.imul, 1) := by decide +kernel
theorem dX5_load_68 : decode cX5_load 68 = .ok (.iload_n 2, 1) := by decide +kernel
theorem dX5_load_69 : decode cX5_load 69 = .ok (.iadd, 1) := by decide +kernel
theorem dX5_load_70 : decode cX5_load 70 = .ok (.iaload, 1) := by decide +kernel
theorem dX5_load_71 : decode cX5_load 71 = .ok (.iastore, 1) := by decide +kernel
theorem dX5_load_72 : decode cX5_load 72 = .ok (.iinc 2 1, 3) := by decide +kernel
theorem dX5_load_75 : decode cX5_load 75 = .ok (.goto (-55), 3) := by decide +kernel
theorem dX5_load_78 : decode cX5_load 78 = .ok (.iload_n 2, 1) := by decide +kernel
theorem dX5_load_79 : decode cX5_load 79 = .ok (.ireturn, 1) := by decide +kernel
theorem dX5_judge_0 : decode cX5_judge 0 = .ok (.aload_n 0, 1) := by decide +kernel
theorem dX5_judge_1 : decode cX5_judge 1 = .ok (.iload_n 1, 1) := by decide +kernel
theorem dX5_judge_2 : decode cX5_judge 2 = .ok (.invokevirtual 175, 3) := by decide +kernel
theorem dX5_judge_5 : decode cX5_judge 5 = .ok (.ifCond .eq 13, 3) := by decide +kernel
theorem dX5_judge_8 : decode cX5_judge 8 = .ok (.aload_n 0, 1) := by decide +kernel
theorem dX5_judge_9 : decode cX5_judge 9 = .ok (.aload_n 0, 1) := by decide +kernel
theorem dX5_judge_10 : decode cX5_judge 10 = .ok (.iload_n 1, 1) := by decide +kernel
theorem dX5_judge_11 : decode cX5_judge 11 = .ok (.invokevirtual 175, 3) := by decide +kernel
theorem dX5_judge_14 : decode cX5_judge 14 = .ok (.invokevirtual 39, 3) := by decide +kernel
theorem dX5_judge_17 : decode cX5_judge 17 = .ok (.ireturn, 1) := by decide +kernel
theorem dX5_judge_18 : decode cX5_judge 18 = .ok (.iconst 0, 1) := by decide +kernel
theorem dX5_judge_19 : decode cX5_judge 19 = .ok (.istore_n 2, 1) := by decide +kernel
theorem dX5_judge_20 : decode cX5_judge 20 = .ok (.iload_n 2, 1) := by decide +kernel
theorem dX5_judge_21 : decode cX5_judge 21 = .ok (.aload_n 0, 1) := by decide +kernel
theorem dX5_judge_22 : decode cX5_judge 22 = .ok (.getfield 31, 3) := by decide +kernel
theorem dX5_judge_25 : decode cX5_judge 25 = .ok (.iload_n 1, 1) := by decide +kernel
theorem dX5_judge_26 : decode cX5_judge 26 = .ok (.iaload, 1) := by decide +kernel
theorem dX5_judge_27 : decode cX5_judge 27 = .ok (.if_icmp .ge 37, 3) := by decide +kernel
theorem dX5_judge_30 : decode cX5_judge 30 = .ok (.aload_n 0, 1) := by decide +kernel
theorem dX5_judge_31 : decode cX5_judge 31 = .ok (.iload_n 2, 1) := by decide +kernel
theorem dX5_judge_32 : decode cX5_judge 32 = .ok (.invokevirtual 85, 3) := by decide +kernel
theorem dX5_judge_35 : decode cX5_judge 35 = .ok (.ifCond .eq 29, 3) := by decide +kernel
theorem dX5_judge_38 : decode cX5_judge 38 = .ok (.aload_n 0, 1) := by decide +kernel
theorem dX5_judge_39 : decode cX5_judge 39 = .ok (.getfield 34, 3) := by decide +kernel
theorem dX5_judge_42 : decode cX5_judge 42 = .ok (.bipush 40, 2) := by decide +kernel
theorem dX5_judge_44 : decode cX5_judge 44 = .ok (.iload_n 1, 1) := by decide +kernel
theorem dX5_judge_45 : decode cX5_judge 45 = .ok (.imul, 1) := by decide +kernel
theorem dX5_judge_46 : decode cX5_judge 46 = .ok (.iload_n 2, 1) := by decide +kernel
theorem dX5_judge_47 : decode cX5_judge 47 = .ok (.iadd, 1) := by decide +kernel
theorem dX5_judge_48 : decode cX5_judge 48 = .ok (.iaload, 1) := by decide +kernel
theorem dX5_judge_49 : decode cX5_judge 49 = .ok (.aload_n 0, 1) := by decide +kernel
theorem dX5_judge_50 : decode cX5_judge 50 = .ok (.iload_n 2, 1) := by decide +kernel
theorem dX5_judge_51 : decode cX5_judge 51 = .ok (.iconst 1, 1) := by decide +kernel
theorem dX5_judge_52 : decode cX5_judge 52 = .ok (.invokevirtual 73, 3) := by decide +kernel
theorem dX5_judge_55 : decode cX5_judge 55 = .ok (.if_icmp .ne 9, 3) := by decide +kernel
theorem dX5_judge_58 : decode cX5_judge 58 = .ok (.iinc 2 1, 3) := by decide +kernel
theorem dX5_judge_61 : decode cX5_judge 61 = .ok (.goto (-41), 3) := by decide +kernel
theorem dX5_judge_64 : decode cX5_judge 64 = .ok (.iload_n 2, 1) := by decide +kernel
theorem dX5_judge_65 : decode cX5_judge 65 = .ok (.aload_n 0, 1) := by decide +kernel
theorem dX5_judge_66 : decode cX5_judge 66 = .ok (.getfield 31, 3) := by decide +kernel
theorem dX5_judge_69 : decode cX5_judge 69 = .ok (.iload_n 1, 1) := by decide +kernel
theorem dX5_judge_70 : decode cX5_judge 70 = .ok (.iaload, 1) := by decide +kernel
theorem dX5_judge_71 : decode cX5_judge 71 = .ok (.if_icmp .ge 9, 3) := by decide +kernel
theorem dX5_judge_74 : decode cX5_judge 74 = .ok (.iconst 1, 1) := by decide +kernel
theorem dX5_judge_75 : decode cX5_judge 75 = .ok (.iload_n 2, 1) := by decide +kernel
theorem dX5_judge_76 : decode cX5_judge 76 = .ok (.iadd, 1) := by decide +kernel
theorem dX5_judge_77 : decode cX5_judge 77 = .ok (.goto 4, 3) := by decide +kernel
theorem dX5_judge_80 : decode cX5_judge 80 = .ok (.iconst 0, 1) := by decide +kernel
theorem dX5_judge_81 : decode cX5_judge 81 = .ok (.ireturn, 1) := by decide +kernel
theorem dX5_image_0 : decode cX5_image 0 = .ok (.aload_n 0, 1) := by decide +kernel
theorem dX5_image_1 : decode cX5_image 1 = .ok (.getfield 7, 3) := by decide +kernel
theorem dX5_image_4 : decode cX5_image 4 = .ok (.aload_n 0, 1) := by decide +kernel
theorem dX5_image_5 : decode cX5_image 5 = .ok (.getfield 13, 3) := by decide +kernel
theorem dX5_image_8 : decode cX5_image 8 = .ok (.invokestatic 139, 3) := by decide +kernel
theorem dX5_image_11 : decode cX5_image 11 = .ok (.aload_n 0, 1) := by decide +kernel
theorem dX5_image_12 : decode cX5_image 12 = .ok (.iconst 1, 1) := by decide +kernel
theorem dX5_image_13 : decode cX5_image 13 = .ok (.putfield 277, 3) := by decide +kernel
theorem dX5_image_16 : decode cX5_image 16 = .ok (.iconst 1, 1) := by decide +kernel
theorem dX5_image_17 : decode cX5_image 17 = .ok (.ireturn, 1) := by decide +kernel
theorem dX5_undo_0 : decode cX5_undo 0 = .ok (.aload_n 0, 1) := by decide +kernel
theorem dX5_undo_1 : decode cX5_undo 1 = .ok (.getfield 277, 3) := by decide +kernel
theorem dX5_undo_4 : decode cX5_undo 4 = .ok (.ifCond .ne 10, 3) := by decide +kernel
theorem dX5_undo_7 : decode cX5_undo 7 = .ok (.aload_n 0, 1) := by decide +kernel
theorem dX5_undo_8 : decode cX5_undo 8 = .ok (.ldc 38, 2) := by decide +kernel
theorem dX5_undo_10 : decode cX5_undo 10 = .ok (.invokevirtual 39, 3) := by decide +kernel
theorem dX5_undo_13 : decode cX5_undo 13 = .ok (.ireturn, 1) := by decide +kernel
theorem dX5_undo_14 : decode cX5_undo 14 = .ok (.aload_n 0, 1) := by decide +kernel
theorem dX5_undo_15 : decode cX5_undo 15 = .ok (.getfield 13, 3) := by decide +kernel
theorem dX5_undo_18 : decode cX5_undo 18 = .ok (.aload_n 0, 1) := by decide +kernel
theorem dX5_undo_19 : decode cX5_undo 19 = .ok (.getfield 7, 3) := by decide +kernel
theorem dX5_undo_22 : decode cX5_undo 22 = .ok (.invokestatic 139, 3) := by decide +kernel
theorem dX5_undo_25 : decode cX5_undo 25 = .ok (.aload_n 0, 1) := by decide +kernel
theorem dX5_undo_26 : decode cX5_undo 26 = .ok (.getfield 7, 3) := by decide +kernel
theorem dX5_undo_29 : decode cX5_undo 29 = .ok (.iconst 1, 1) := by decide +kernel
theorem dX5_undo_30 : decode cX5_undo 30 = .ok (.iaload, 1) := by decide +kernel
theorem dX5_undo_31 : decode cX5_undo 31 = .ok (.ireturn, 1) := by decide +kernel
theorem dX5_tear_0 : decode cX5_tear 0 = .ok (.aload_n 0, 1) := by decide +kernel
theorem dX5_tear_1 : decode cX5_tear 1 = .ok (.getfield 277, 3) := by decide +kernel
theorem dX5_tear_4 : decode cX5_tear 4 = .ok (.istore_n 1, 1) := by decide +kernel
theorem dX5_tear_5 : decode cX5_tear 5 = .ok (.aload_n 0, 1) := by decide +kernel
theorem dX5_tear_6 : decode cX5_tear 6 = .ok (.iconst 0, 1) := by decide +kernel
theorem dX5_tear_7 : decode cX5_tear 7 = .ok (.putfield 277, 3) := by decide +kernel
theorem dX5_tear_10 : decode cX5_tear 10 = .ok (.iload_n 1, 1) := by decide +kernel
theorem dX5_tear_11 : decode cX5_tear 11 = .ok (.ifCond .eq 7, 3) := by decide +kernel
theorem dX5_tear_14 : decode cX5_tear 14 = .ok (.iconst 1, 1) := by decide +kernel
theorem dX5_tear_15 : decode cX5_tear 15 = .ok (.goto 4, 3) := by decide +kernel
theorem dX5_tear_18 : decode cX5_tear 18 = .ok (.iconst 0, 1) := by decide +kernel
theorem dX5_tear_19 : decode cX5_tear 19 = .ok (.ireturn, 1) := by decide +kernel
theorem dX5_count_0 : decode cX5_count 0 = .ok (.iconst 0, 1) := by decide +kernel
theorem dX5_count_1 : decode cX5_count 1 = .ok (.istore_n 2, 1) := by decide +kernel
theorem dX5_count_2 : decode cX5_count 2 = .ok (.iload_n 1, 1) := by decide +kernel
theorem dX5_count_3 : decode cX5_count 3 = .ok (.tableswitch 126 0 7 #[45, 52, 59, 65, 71, 78, 83, 90], 45) := by decide +kernel
theorem dX5_count_48 : decode cX5_count 48 = .ok (.aload_n 0, 1) := by decide +kernel
theorem dX5_count_49 : decode cX5_count 49 = .ok (.getfield 7, 3) := by decide +kernel
theorem dX5_count_52 : decode cX5_count 52 = .ok (.iconst 1, 1) := by decide +kernel
theorem dX5_count_53 : decode cX5_count 53 = .ok (.iaload, 1) := by decide +kernel
theorem dX5_count_54 : decode cX5_count 54 = .ok (.ireturn, 1) := by decide +kernel
theorem dX5_count_55 : decode cX5_count 55 = .ok (.aload_n 0, 1) := by decide +kernel
theorem dX5_count_56 : decode cX5_count 56 = .ok (.getfield 7, 3) := by decide +kernel
theorem dX5_count_59 : decode cX5_count 59 = .ok (.iconst 0, 1) := by decide +kernel
theorem dX5_count_60 : decode cX5_count 60 = .ok (.iaload, 1) := by decide +kernel
theorem dX5_count_61 : decode cX5_count 61 = .ok (.ireturn, 1) := by decide +kernel
theorem dX5_count_62 : decode cX5_count 62 = .ok (.aload_n 0, 1) := by decide +kernel
theorem dX5_count_63 : decode cX5_count 63 = .ok (.iconst 1, 1) := by decide +kernel
theorem dX5_count_64 : decode cX5_count 64 = .ok (.invokevirtual 132, 3) := by decide +kernel
theorem dX5_count_67 : decode cX5_count 67 = .ok (.ireturn, 1) := by decide +kernel
theorem dX5_count_68 : decode cX5_count 68 = .ok (.aload_n 0, 1) := by decide +kernel
theorem dX5_count_69 : decode cX5_count 69 = .ok (.iconst 3, 1) := by decide +kernel
theorem dX5_count_70 : decode cX5_count 70 = .ok (.invokevirtual 132, 3) := by decide +kernel
theorem dX5_count_73 : decode cX5_count 73 = .ok (.ireturn, 1) := by decide +kernel
theorem dX5_count_74 : decode cX5_count 74 = .ok (.aload_n 0, 1) := by decide +kernel
theorem dX5_count_75 : decode cX5_count 75 = .ok (.getfield 7, 3) := by decide +kernel
theorem dX5_count_78 : decode cX5_count 78 = .ok (.iconst 3, 1) := by decide +kernel
theorem dX5_count_79 : decode cX5_count 79 = .ok (.iaload, 1) := by decide +kernel
theorem dX5_count_80 : decode cX5_count 80 = .ok (.ireturn, 1) := by decide +kernel
theorem dX5_count_81 : decode cX5_count 81 = .ok (.aload_n 0, 1) := by decide +kernel
theorem dX5_count_82 : decode cX5_count 82 = .ok (.getfield 192, 3) := by decide +kernel
theorem dX5_count_85 : decode cX5_count 85 = .ok (.ireturn, 1) := by decide +kernel
theorem dX5_count_86 : decode cX5_count 86 = .ok (.aload_n 0, 1) := by decide +kernel
theorem dX5_count_87 : decode cX5_count 87 = .ok (.getfield 7, 3) := by decide +kernel
theorem dX5_count_90 : decode cX5_count 90 = .ok (.iconst 2, 1) := by decide +kernel
theorem dX5_count_91 : decode cX5_count 91 = .ok (.iaload, 1) := by decide +kernel
theorem dX5_count_92 : decode cX5_count 92 = .ok (.ireturn, 1) := by decide +kernel
theorem dX5_count_93 : decode cX5_count 93 = .ok (.iconst 0, 1) := by decide +kernel
theorem dX5_count_94 : decode cX5_count 94 = .ok (.istore_n 3, 1) := by decide +kernel
theorem dX5_count_95 : decode cX5_count 95 = .ok (.iload_n 3, 1) := by decide +kernel
theorem dX5_count_96 : decode cX5_count 96 = .ok (.bipush 10, 2) := by decide +kernel
theorem dX5_count_98 : decode cX5_count 98 = .ok (.if_icmp .ge 29, 3) := by decide +kernel
theorem dX5_count_101 : decode cX5_count 101 = .ok (.iload_n 2, 1) := by decide +kernel
theorem dX5_count_102 : decode cX5_count 102 = .ok (.aload_n 0, 1) := by decide +kernel
theorem dX5_count_103 : decode cX5_count 103 = .ok (.getfield 7, 3) := by decide +kernel
theorem dX5_count_106 : decode cX5_count 106 = .ok (.bipush 50, 2) := by decide +kernel
theorem dX5_count_108 : decode cX5_count 108 = .ok (.iload_n 3, 1) := by decide +kernel
theorem dX5_count_109 : decode cX5_count 109 = .ok (.iadd, 1) := by decide +kernel
theorem dX5_count_110 : decode cX5_count 110 = .ok (.iaload, 1) := by decide +kernel
theorem dX5_count_111 : decode cX5_count 111 = .ok (.ifCond .ge 7, 3) := by decide +kernel
theorem dX5_count_114 : decode cX5_count 114 = .ok (.iconst 0, 1) := by decide +kernel
theorem dX5_count_115 : decode cX5_count 115 = .ok (.goto 4, 3) := by decide +kernel
theorem dX5_count_118 : decode cX5_count 118 = .ok (.iconst 1, 1) := by decide +kernel
theorem dX5_count_119 : decode cX5_count 119 = .ok (.iadd, 1) := by decide +kernel
theorem dX5_count_120 : decode cX5_count 120 = .ok (.istore_n 2, 1) := by decide +kernel
theorem dX5_count_121 : decode cX5_count 121 = .ok (.iinc 3 1, 3) := by decide +kernel
theorem dX5_count_124 : decode cX5_count 124 = .ok (.goto (-29), 3) := by decide +kernel
theorem dX5_count_127 : decode cX5_count 127 = .ok (.iload_n 2, 1) := by decide +kernel
theorem dX5_count_128 : decode cX5_count 128 = .ok (.ireturn, 1) := by decide +kernel
theorem dX5_count_129 : decode cX5_count 129 = .ok (.aload_n 0, 1) := by decide +kernel
theorem dX5_count_130 : decode cX5_count 130 = .ok (.ldc 37, 2) := by decide +kernel
theorem dX5_count_132 : decode cX5_count 132 = .ok (.invokevirtual 39, 3) := by decide +kernel
theorem dX5_count_135 : decode cX5_count 135 = .ok (.ireturn, 1) := by decide +kernel
theorem dX5_status_0 : decode cX5_status 0 = .ok (.iload_n 1, 1) := by decide +kernel
theorem dX5_status_1 : decode cX5_status 1 = .ok (.i2l, 1) := by decide +kernel
theorem dX5_status_2 : decode cX5_status 2 = .ok (.ldc2_w 281, 3) := by decide +kernel
theorem dX5_status_5 : decode cX5_status 5 = .ok (.ldc2_w 64, 3) := by decide +kernel
theorem dX5_status_8 : decode cX5_status 8 = .ok (.invokestatic 45, 3) := by decide +kernel
theorem dX5_status_11 : decode cX5_status 11 = .ok (.ifCond .eq 14, 3) := by decide +kernel
theorem dX5_status_14 : decode cX5_status 14 = .ok (.aload_n 0, 1) := by decide +kernel
theorem dX5_status_15 : decode cX5_status 15 = .ok (.getfield 22, 3) := by decide +kernel
theorem dX5_status_18 : decode cX5_status 18 = .ok (.iload_n 1, 1) := by decide +kernel
theorem dX5_status_19 : decode cX5_status 19 = .ok (.iconst 1, 1) := by decide +kernel
theorem dX5_status_20 : decode cX5_status 20 = .ok (.iadd, 1) := by decide +kernel
theorem dX5_status_21 : decode cX5_status 21 = .ok (.iaload, 1) := by decide +kernel
theorem dX5_status_22 : decode cX5_status 22 = .ok (.goto 9, 3) := by decide +kernel
theorem dX5_status_25 : decode cX5_status 25 = .ok (.aload_n 0, 1) := by decide +kernel
theorem dX5_status_26 : decode cX5_status 26 = .ok (.ldc 37, 2) := by decide +kernel
theorem dX5_status_28 : decode cX5_status 28 = .ok (.invokevirtual 39, 3) := by decide +kernel
theorem dX5_status_31 : decode cX5_status 31 = .ok (.ireturn, 1) := by decide +kernel
theorem dJ6_bitCount_0f7a4_0 : decode cJ6_bitCount_0f7a4 0 = .ok (.iload_n 0, 1) := by decide +kernel
theorem dJ6_bitCount_0f7a4_1 : decode cJ6_bitCount_0f7a4 1 = .ok (.iload_n 0, 1) := by decide +kernel
theorem dJ6_bitCount_0f7a4_2 : decode cJ6_bitCount_0f7a4 2 = .ok (.iconst 1, 1) := by decide +kernel
theorem dJ6_bitCount_0f7a4_3 : decode cJ6_bitCount_0f7a4 3 = .ok (.iushr, 1) := by decide +kernel
theorem dJ6_bitCount_0f7a4_4 : decode cJ6_bitCount_0f7a4 4 = .ok (.ldc_w 265, 3) := by decide +kernel
theorem dJ6_bitCount_0f7a4_7 : decode cJ6_bitCount_0f7a4 7 = .ok (.iand, 1) := by decide +kernel
theorem dJ6_bitCount_0f7a4_8 : decode cJ6_bitCount_0f7a4 8 = .ok (.isub, 1) := by decide +kernel
theorem dJ6_bitCount_0f7a4_9 : decode cJ6_bitCount_0f7a4 9 = .ok (.istore_n 0, 1) := by decide +kernel
theorem dJ6_bitCount_0f7a4_10 : decode cJ6_bitCount_0f7a4 10 = .ok (.iload_n 0, 1) := by decide +kernel
theorem dJ6_bitCount_0f7a4_11 : decode cJ6_bitCount_0f7a4 11 = .ok (.ldc_w 266, 3) := by decide +kernel
theorem dJ6_bitCount_0f7a4_14 : decode cJ6_bitCount_0f7a4 14 = .ok (.iand, 1) := by decide +kernel
theorem dJ6_bitCount_0f7a4_15 : decode cJ6_bitCount_0f7a4 15 = .ok (.iload_n 0, 1) := by decide +kernel
theorem dJ6_bitCount_0f7a4_16 : decode cJ6_bitCount_0f7a4 16 = .ok (.iconst 2, 1) := by decide +kernel
theorem dJ6_bitCount_0f7a4_17 : decode cJ6_bitCount_0f7a4 17 = .ok (.iushr, 1) := by decide +kernel
theorem dJ6_bitCount_0f7a4_18 : decode cJ6_bitCount_0f7a4 18 = .ok (.ldc_w 266, 3) := by decide +kernel
theorem dJ6_bitCount_0f7a4_21 : decode cJ6_bitCount_0f7a4 21 = .ok (.iand, 1) := by decide +kernel
theorem dJ6_bitCount_0f7a4_22 : decode cJ6_bitCount_0f7a4 22 = .ok (.iadd, 1) := by decide +kernel
theorem dJ6_bitCount_0f7a4_23 : decode cJ6_bitCount_0f7a4 23 = .ok (.istore_n 0, 1) := by decide +kernel
theorem dJ6_bitCount_0f7a4_24 : decode cJ6_bitCount_0f7a4 24 = .ok (.iload_n 0, 1) := by decide +kernel
theorem dJ6_bitCount_0f7a4_25 : decode cJ6_bitCount_0f7a4 25 = .ok (.iload_n 0, 1) := by decide +kernel
theorem dJ6_bitCount_0f7a4_26 : decode cJ6_bitCount_0f7a4 26 = .ok (.iconst 4, 1) := by decide +kernel
theorem dJ6_bitCount_0f7a4_27 : decode cJ6_bitCount_0f7a4 27 = .ok (.iushr, 1) := by decide +kernel
theorem dJ6_bitCount_0f7a4_28 : decode cJ6_bitCount_0f7a4 28 = .ok (.iadd, 1) := by decide +kernel
theorem dJ6_bitCount_0f7a4_29 : decode cJ6_bitCount_0f7a4 29 = .ok (.ldc_w 267, 3) := by decide +kernel
theorem dJ6_bitCount_0f7a4_32 : decode cJ6_bitCount_0f7a4 32 = .ok (.iand, 1) := by decide +kernel
theorem dJ6_bitCount_0f7a4_33 : decode cJ6_bitCount_0f7a4 33 = .ok (.istore_n 0, 1) := by decide +kernel
theorem dJ6_bitCount_0f7a4_34 : decode cJ6_bitCount_0f7a4 34 = .ok (.iload_n 0, 1) := by decide +kernel
theorem dJ6_bitCount_0f7a4_35 : decode cJ6_bitCount_0f7a4 35 = .ok (.iload_n 0, 1) := by decide +kernel
theorem dJ6_bitCount_0f7a4_36 : decode cJ6_bitCount_0f7a4 36 = .ok (.bipush 8, 2) := by decide +kernel
theorem dJ6_bitCount_0f7a4_38 : decode cJ6_bitCount_0f7a4 38 = .ok (.iushr, 1) := by decide +kernel
theorem dJ6_bitCount_0f7a4_39 : decode cJ6_bitCount_0f7a4 39 = .ok (.iadd, 1) := by decide +kernel
theorem dJ6_bitCount_0f7a4_40 : decode cJ6_bitCount_0f7a4 40 = .ok (.istore_n 0, 1) := by decide +kernel
theorem dJ6_bitCount_0f7a4_41 : decode cJ6_bitCount_0f7a4 41 = .ok (.iload_n 0, 1) := by decide +kernel
theorem dJ6_bitCount_0f7a4_42 : decode cJ6_bitCount_0f7a4 42 = .ok (.iload_n 0, 1) := by decide +kernel
theorem dJ6_bitCount_0f7a4_43 : decode cJ6_bitCount_0f7a4 43 = .ok (.bipush 16, 2) := by decide +kernel
theorem dJ6_bitCount_0f7a4_45 : decode cJ6_bitCount_0f7a4 45 = .ok (.iushr, 1) := by decide +kernel
theorem dJ6_bitCount_0f7a4_46 : decode cJ6_bitCount_0f7a4 46 = .ok (.iadd, 1) := by decide +kernel
theorem dJ6_bitCount_0f7a4_47 : decode cJ6_bitCount_0f7a4 47 = .ok (.istore_n 0, 1) := by decide +kernel
theorem dJ6_bitCount_0f7a4_48 : decode cJ6_bitCount_0f7a4 48 = .ok (.iload_n 0, 1) := by decide +kernel
theorem dJ6_bitCount_0f7a4_49 : decode cJ6_bitCount_0f7a4 49 = .ok (.bipush 63, 2) := by decide +kernel
theorem dJ6_bitCount_0f7a4_51 : decode cJ6_bitCount_0f7a4 51 = .ok (.iand, 1) := by decide +kernel
theorem dJ6_bitCount_0f7a4_52 : decode cJ6_bitCount_0f7a4 52 = .ok (.ireturn, 1) := by decide +kernel
theorem dJ9_max_7cf53_0 : decode cJ9_max_7cf53 0 = .ok (.iload_n 0, 1) := by decide +kernel
theorem dJ9_max_7cf53_1 : decode cJ9_max_7cf53 1 = .ok (.iload_n 1, 1) := by decide +kernel
theorem dJ9_max_7cf53_2 : decode cJ9_max_7cf53 2 = .ok (.if_icmp .lt 7, 3) := by decide +kernel
theorem dJ9_max_7cf53_5 : decode cJ9_max_7cf53 5 = .ok (.iload_n 0, 1) := by decide +kernel
theorem dJ9_max_7cf53_6 : decode cJ9_max_7cf53 6 = .ok (.goto 4, 3) := by decide +kernel
theorem dJ9_max_7cf53_9 : decode cJ9_max_7cf53 9 = .ok (.iload_n 1, 1) := by decide +kernel
theorem dJ9_max_7cf53_10 : decode cJ9_max_7cf53 10 = .ok (.ireturn, 1) := by decide +kernel
theorem dJ9_min_7cf53_0 : decode cJ9_min_7cf53 0 = .ok (.iload_n 0, 1) := by decide +kernel
theorem dJ9_min_7cf53_1 : decode cJ9_min_7cf53 1 = .ok (.iload_n 1, 1) := by decide +kernel
theorem dJ9_min_7cf53_2 : decode cJ9_min_7cf53 2 = .ok (.if_icmp .gt 7, 3) := by decide +kernel
theorem dJ9_min_7cf53_5 : decode cJ9_min_7cf53 5 = .ok (.iload_n 0, 1) := by decide +kernel
theorem dJ9_min_7cf53_6 : decode cJ9_min_7cf53 6 = .ok (.goto 4, 3) := by decide +kernel
theorem dJ9_min_7cf53_9 : decode cJ9_min_7cf53 9 = .ok (.iload_n 1, 1) := by decide +kernel
theorem dJ9_min_7cf53_10 : decode cJ9_min_7cf53 10 = .ok (.ireturn, 1) := by decide +kernel
theorem dJ0_length_8abf5_0 : decode cJ0_length_8abf5 0 = .ok (.aload_n 0, 1) := by decide +kernel
theorem dJ0_length_8abf5_1 : decode cJ0_length_8abf5 1 = .ok (.getfield 9, 3) := by decide +kernel
theorem dJ0_length_8abf5_4 : decode cJ0_length_8abf5 4 = .ok (.arraylength, 1) := by decide +kernel
theorem dJ0_length_8abf5_5 : decode cJ0_length_8abf5 5 = .ok (.aload_n 0, 1) := by decide +kernel
theorem dJ0_length_8abf5_6 : decode cJ0_length_8abf5 6 = .ok (.invokevirtual 335, 3) := by decide +kernel
theorem dJ0_length_8abf5_9 : decode cJ0_length_8abf5 9 = .ok (.ishr, 1) := by decide +kernel
theorem dJ0_length_8abf5_10 : decode cJ0_length_8abf5 10 = .ok (.ireturn, 1) := by decide +kernel
theorem dJ0_charAt_5068e_0 : decode cJ0_charAt_5068e 0 = .ok (.aload_n 0, 1) := by decide +kernel
theorem dJ0_charAt_5068e_1 : decode cJ0_charAt_5068e 1 = .ok (.invokevirtual 492, 3) := by decide +kernel
theorem dJ0_charAt_5068e_4 : decode cJ0_charAt_5068e 4 = .ok (.ifCond .eq 12, 3) := by decide +kernel
theorem dJ0_charAt_5068e_7 : decode cJ0_charAt_5068e 7 = .ok (.aload_n 0, 1) := by decide +kernel
theorem dJ0_charAt_5068e_8 : decode cJ0_charAt_5068e 8 = .ok (.getfield 9, 3) := by decide +kernel
theorem dJ0_charAt_5068e_11 : decode cJ0_charAt_5068e 11 = .ok (.iload_n 1, 1) := by decide +kernel
theorem dJ0_charAt_5068e_12 : decode cJ0_charAt_5068e 12 = .ok (.invokestatic 495, 3) := by decide +kernel
theorem dJ0_charAt_5068e_15 : decode cJ0_charAt_5068e 15 = .ok (.ireturn, 1) := by decide +kernel
theorem dJ0_charAt_5068e_16 : decode cJ0_charAt_5068e 16 = .ok (.aload_n 0, 1) := by decide +kernel
theorem dJ0_charAt_5068e_17 : decode cJ0_charAt_5068e 17 = .ok (.getfield 9, 3) := by decide +kernel
theorem dJ0_charAt_5068e_20 : decode cJ0_charAt_5068e 20 = .ok (.iload_n 1, 1) := by decide +kernel
theorem dJ0_charAt_5068e_21 : decode cJ0_charAt_5068e 21 = .ok (.invokestatic 498, 3) := by decide +kernel
theorem dJ0_charAt_5068e_24 : decode cJ0_charAt_5068e 24 = .ok (.ireturn, 1) := by decide +kernel
theorem dJ0_coder_7d493_0 : decode cJ0_coder_7d493 0 = .ok (.getstatic 38, 3) := by decide +kernel
theorem dJ0_coder_7d493_3 : decode cJ0_coder_7d493 3 = .ok (.ifCond .eq 10, 3) := by decide +kernel
theorem dJ0_coder_7d493_6 : decode cJ0_coder_7d493 6 = .ok (.aload_n 0, 1) := by decide +kernel
theorem dJ0_coder_7d493_7 : decode cJ0_coder_7d493 7 = .ok (.getfield 15, 3) := by decide +kernel
theorem dJ0_coder_7d493_10 : decode cJ0_coder_7d493 10 = .ok (.goto 4, 3) := by decide +kernel
theorem dJ0_coder_7d493_13 : decode cJ0_coder_7d493 13 = .ok (.iconst 1, 1) := by decide +kernel
theorem dJ0_coder_7d493_14 : decode cJ0_coder_7d493 14 = .ok (.ireturn, 1) := by decide +kernel
theorem dJ0_isLatin1_aae02_0 : decode cJ0_isLatin1_aae02 0 = .ok (.getstatic 38, 3) := by decide +kernel
theorem dJ0_isLatin1_aae02_3 : decode cJ0_isLatin1_aae02 3 = .ok (.ifCond .eq 14, 3) := by decide +kernel
theorem dJ0_isLatin1_aae02_6 : decode cJ0_isLatin1_aae02 6 = .ok (.aload_n 0, 1) := by decide +kernel
theorem dJ0_isLatin1_aae02_7 : decode cJ0_isLatin1_aae02 7 = .ok (.getfield 15, 3) := by decide +kernel
theorem dJ0_isLatin1_aae02_10 : decode cJ0_isLatin1_aae02 10 = .ok (.ifCond .ne 7, 3) := by decide +kernel
theorem dJ0_isLatin1_aae02_13 : decode cJ0_isLatin1_aae02 13 = .ok (.iconst 1, 1) := by decide +kernel
theorem dJ0_isLatin1_aae02_14 : decode cJ0_isLatin1_aae02 14 = .ok (.goto 4, 3) := by decide +kernel
theorem dJ0_isLatin1_aae02_17 : decode cJ0_isLatin1_aae02 17 = .ok (.iconst 0, 1) := by decide +kernel
theorem dJ0_isLatin1_aae02_18 : decode cJ0_isLatin1_aae02 18 = .ok (.ireturn, 1) := by decide +kernel
theorem dJ0_checkIndex_df160_0 : decode cJ0_checkIndex_df160 0 = .ok (.iload_n 0, 1) := by decide +kernel
theorem dJ0_checkIndex_df160_1 : decode cJ0_checkIndex_df160 1 = .ok (.iload_n 1, 1) := by decide +kernel
theorem dJ0_checkIndex_df160_2 : decode cJ0_checkIndex_df160 2 = .ok (.getstatic 1053, 3) := by decide +kernel
theorem dJ0_checkIndex_df160_5 : decode cJ0_checkIndex_df160 5 = .ok (.invokestatic 1059, 3) := by decide +kernel
theorem dJ0_checkIndex_df160_8 : decode cJ0_checkIndex_df160 8 = .ok (.pop, 1) := by decide +kernel
theorem dJ0_checkIndex_df160_9 : decode cJ0_checkIndex_df160 9 = .ok (.return_, 1) := by decide +kernel
theorem dJ1_charAt_3b067_0 : decode cJ1_charAt_3b067 0 = .ok (.iload_n 1, 1) := by decide +kernel
theorem dJ1_charAt_3b067_1 : decode cJ1_charAt_3b067 1 = .ok (.aload_n 0, 1) := by decide +kernel
theorem dJ1_charAt_3b067_2 : decode cJ1_charAt_3b067 2 = .ok (.arraylength, 1) := by decide +kernel
theorem dJ1_charAt_3b067_3 : decode cJ1_charAt_3b067 3 = .ok (.invokestatic 9, 3) := by decide +kernel
theorem dJ1_charAt_3b067_6 : decode cJ1_charAt_3b067 6 = .ok (.aload_n 0, 1) := by decide +kernel
theorem dJ1_charAt_3b067_7 : decode cJ1_charAt_3b067 7 = .ok (.iload_n 1, 1) := by decide +kernel
theorem dJ1_charAt_3b067_8 : decode cJ1_charAt_3b067 8 = .ok (.baload, 1) := by decide +kernel
theorem dJ1_charAt_3b067_9 : decode cJ1_charAt_3b067 9 = .ok (.sipush 255, 3) := by decide +kernel
theorem dJ1_charAt_3b067_12 : decode cJ1_charAt_3b067 12 = .ok (.iand, 1) := by decide +kernel
theorem dJ1_charAt_3b067_13 : decode cJ1_charAt_3b067 13 = .ok (.i2c, 1) := by decide +kernel
theorem dJ1_charAt_3b067_14 : decode cJ1_charAt_3b067 14 = .ok (.ireturn, 1) := by decide +kernel
theorem dJ2_getChar_3b067_0 : decode cJ2_getChar_3b067 0 = .ok (.getstatic 44, 3) := by decide +kernel
theorem dJ2_getChar_3b067_3 : decode cJ2_getChar_3b067 3 = .ok (.ifCond .ne 25, 3) := by decide +kernel
theorem dJ2_getChar_3b067_6 : decode cJ2_getChar_3b067 6 = .ok (.iload_n 1, 1) := by decide +kernel
theorem dJ2_getChar_3b067_7 : decode cJ2_getChar_3b067 7 = .ok (.ifCond .lt 11, 3) := by decide +kernel
theorem dJ2_getChar_3b067_10 : decode cJ2_getChar_3b067 10 = .ok (.iload_n 1, 1) := by decide +kernel
theorem dJ2_getChar_3b067_11 : decode cJ2_getChar_3b067 11 = .ok (.aload_n 0, 1) := by decide +kernel
theorem dJ2_getChar_3b067_12 : decode cJ2_getChar_3b067 12 = .ok (.invokestatic 48, 3) := by decide +kernel
theorem dJ2_getChar_3b067_15 : decode cJ2_getChar_3b067 15 = .ok (.if_icmp .lt 13, 3) := by decide +kernel
theorem dJ2_getChar_3b067_18 : decode cJ2_getChar_3b067 18 = .ok (.new 52, 3) := by decide +kernel
theorem dJ2_getChar_3b067_21 : decode cJ2_getChar_3b067 21 = .ok (.dup, 1) := by decide +kernel
theorem dJ2_getChar_3b067_22 : decode cJ2_getChar_3b067 22 = .ok (.ldc 54, 2) := by decide +kernel
theorem dJ2_getChar_3b067_24 : decode cJ2_getChar_3b067 24 = .ok (.invokespecial 56, 3) := by decide +kernel
theorem dJ2_getChar_3b067_27 : decode cJ2_getChar_3b067 27 = .ok (.athrow, 1) := by decide +kernel
theorem dJ2_getChar_3b067_28 : decode cJ2_getChar_3b067 28 = .ok (.iload_n 1, 1) := by decide +kernel
theorem dJ2_getChar_3b067_29 : decode cJ2_getChar_3b067 29 = .ok (.iconst 1, 1) := by decide +kernel
theorem dJ2_getChar_3b067_30 : decode cJ2_getChar_3b067 30 = .ok (.ishl, 1) := by decide +kernel
theorem dJ2_getChar_3b067_31 : decode cJ2_getChar_3b067 31 = .ok (.istore_n 1, 1) := by decide +kernel
theorem dJ2_getChar_3b067_32 : decode cJ2_getChar_3b067 32 = .ok (.aload_n 0, 1) := by decide +kernel
theorem dJ2_getChar_3b067_33 : decode cJ2_getChar_3b067 33 = .ok (.iload_n 1, 1) := by decide +kernel
theorem dJ2_getChar_3b067_34 : decode cJ2_getChar_3b067 34 = .ok (.iinc 1 1, 3) := by decide +kernel
theorem dJ2_getChar_3b067_37 : decode cJ2_getChar_3b067 37 = .ok (.baload, 1) := by decide +kernel
theorem dJ2_getChar_3b067_38 : decode cJ2_getChar_3b067 38 = .ok (.sipush 255, 3) := by decide +kernel
theorem dJ2_getChar_3b067_41 : decode cJ2_getChar_3b067 41 = .ok (.iand, 1) := by decide +kernel
theorem dJ2_getChar_3b067_42 : decode cJ2_getChar_3b067 42 = .ok (.getstatic 59, 3) := by decide +kernel
theorem dJ2_getChar_3b067_45 : decode cJ2_getChar_3b067 45 = .ok (.ishl, 1) := by decide +kernel
theorem dJ2_getChar_3b067_46 : decode cJ2_getChar_3b067 46 = .ok (.aload_n 0, 1) := by decide +kernel
theorem dJ2_getChar_3b067_47 : decode cJ2_getChar_3b067 47 = .ok (.iload_n 1, 1) := by decide +kernel
theorem dJ2_getChar_3b067_48 : decode cJ2_getChar_3b067 48 = .ok (.baload, 1) := by decide +kernel
theorem dJ2_getChar_3b067_49 : decode cJ2_getChar_3b067 49 = .ok (.sipush 255, 3) := by decide +kernel
theorem dJ2_getChar_3b067_52 : decode cJ2_getChar_3b067 52 = .ok (.iand, 1) := by decide +kernel
theorem dJ2_getChar_3b067_53 : decode cJ2_getChar_3b067 53 = .ok (.getstatic 63, 3) := by decide +kernel
theorem dJ2_getChar_3b067_56 : decode cJ2_getChar_3b067 56 = .ok (.ishl, 1) := by decide +kernel
theorem dJ2_getChar_3b067_57 : decode cJ2_getChar_3b067 57 = .ok (.ior, 1) := by decide +kernel
theorem dJ2_getChar_3b067_58 : decode cJ2_getChar_3b067 58 = .ok (.i2c, 1) := by decide +kernel
theorem dJ2_getChar_3b067_59 : decode cJ2_getChar_3b067 59 = .ok (.ireturn, 1) := by decide +kernel
theorem dJ2_length_9d52b_0 : decode cJ2_length_9d52b 0 = .ok (.aload_n 0, 1) := by decide +kernel
theorem dJ2_length_9d52b_1 : decode cJ2_length_9d52b 1 = .ok (.arraylength, 1) := by decide +kernel
theorem dJ2_length_9d52b_2 : decode cJ2_length_9d52b 2 = .ok (.iconst 1, 1) := by decide +kernel
theorem dJ2_length_9d52b_3 : decode cJ2_length_9d52b 3 = .ok (.ishr, 1) := by decide +kernel
theorem dJ2_length_9d52b_4 : decode cJ2_length_9d52b 4 = .ok (.ireturn, 1) := by decide +kernel
theorem dJ2_charAt_3b067_0 : decode cJ2_charAt_3b067 0 = .ok (.iload_n 1, 1) := by decide +kernel
theorem dJ2_charAt_3b067_1 : decode cJ2_charAt_3b067 1 = .ok (.aload_n 0, 1) := by decide +kernel
theorem dJ2_charAt_3b067_2 : decode cJ2_charAt_3b067 2 = .ok (.invokestatic 67, 3) := by decide +kernel
theorem dJ2_charAt_3b067_5 : decode cJ2_charAt_3b067 5 = .ok (.aload_n 0, 1) := by decide +kernel
theorem dJ2_charAt_3b067_6 : decode cJ2_charAt_3b067 6 = .ok (.iload_n 1, 1) := by decide +kernel
theorem dJ2_charAt_3b067_7 : decode cJ2_charAt_3b067 7 = .ok (.invokestatic 71, 3) := by decide +kernel
theorem dJ2_charAt_3b067_10 : decode cJ2_charAt_3b067 10 = .ok (.ireturn, 1) := by decide +kernel
theorem dJ2_checkIndex_2214a_0 : decode cJ2_checkIndex_2214a 0 = .ok (.iload_n 0, 1) := by decide +kernel
theorem dJ2_checkIndex_2214a_1 : decode cJ2_checkIndex_2214a 1 = .ok (.aload_n 1, 1) := by decide +kernel
theorem dJ2_checkIndex_2214a_2 : decode cJ2_checkIndex_2214a 2 = .ok (.invokestatic 48, 3) := by decide +kernel
theorem dJ2_checkIndex_2214a_5 : decode cJ2_checkIndex_2214a 5 = .ok (.invokestatic 414, 3) := by decide +kernel
theorem dJ2_checkIndex_2214a_8 : decode cJ2_checkIndex_2214a 8 = .ok (.return_, 1) := by decide +kernel
theorem dJ3_checkIndex_8e157_0 : decode cJ3_checkIndex_8e157 0 = .ok (.iload_n 0, 1) := by decide +kernel
theorem dJ3_checkIndex_8e157_1 : decode cJ3_checkIndex_8e157 1 = .ok (.ifCond .lt 8, 3) := by decide +kernel
theorem dJ3_checkIndex_8e157_4 : decode cJ3_checkIndex_8e157 4 = .ok (.iload_n 0, 1) := by decide +kernel
theorem dJ3_checkIndex_8e157_5 : decode cJ3_checkIndex_8e157 5 = .ok (.iload_n 1, 1) := by decide +kernel
theorem dJ3_checkIndex_8e157_6 : decode cJ3_checkIndex_8e157 6 = .ok (.if_icmp .lt 10, 3) := by decide +kernel
theorem dJ3_checkIndex_8e157_9 : decode cJ3_checkIndex_8e157 9 = .ok (.aload_n 2, 1) := by decide +kernel
theorem dJ3_checkIndex_8e157_10 : decode cJ3_checkIndex_8e157 10 = .ok (.iload_n 0, 1) := by decide +kernel
theorem dJ3_checkIndex_8e157_11 : decode cJ3_checkIndex_8e157 11 = .ok (.iload_n 1, 1) := by decide +kernel
theorem dJ3_checkIndex_8e157_12 : decode cJ3_checkIndex_8e157 12 = .ok (.invokestatic 95, 3) := by decide +kernel
theorem dJ3_checkIndex_8e157_15 : decode cJ3_checkIndex_8e157 15 = .ok (.athrow, 1) := by decide +kernel
theorem dJ3_checkIndex_8e157_16 : decode cJ3_checkIndex_8e157 16 = .ok (.iload_n 0, 1) := by decide +kernel
theorem dJ3_checkIndex_8e157_17 : decode cJ3_checkIndex_8e157 17 = .ok (.ireturn, 1) := by decide +kernel
end
section
/-! THE WORLD: one fixed shape of 59 cells (class 0..48, reference 49..58); a state of it is its numbers, σ cell place. -/
abbrev Sg : Type := Nat → Nat → Int32
def up2 (σ : Sg) (k i : Nat) (v : Int32) : Sg := fun a => if a = k then upd (σ k) i v else σ a
def upr (σ : Sg) (k : Nat) (r : Nat → Int32) : Sg := fun a => if a = k then r else σ a
abbrev Shp : Type := (Nat × List (Option Nat)) ⊕ (Nat × Option Nat)
def sh (k : Nat) : Shp :=
  if k = 0 then .inl (4, [some 1, some 13, some 25, some 37, some 39, some 48, none])
  else if k < 37 then
    (if (k - 1) % 12 = 0 then .inl (0, [some (k + 1), some (k + 2), some (k + 3), none, none, none, none, none])
     else if (k - 1) % 12 = 1 then .inr (6, none)
     else if (k - 1) % 12 = 2 then .inr (8, some (k + 2))
     else if (k - 1) % 12 = 3 then .inr (10, none)
     else .inl (1, [none, none, none, none, none]))
  else if k = 37 then .inl (2, [some 38, none, none, none, none, none])
  else if k = 38 then .inr (120, none)
  else if k = 39 then .inr (4, some 40)
  else if k < 44 then .inl (3, [some (k + 4), none, none])
  else if k < 48 then .inr (40, none)
  else if k = 48 then .inr (7, none)
  else if k = 49 then .inl (5, [some 50, some 51, some 52, some 53, none, some 54, some 55, none, some 56, some 57, some 58, none, none, none, none, none, none, none])
  else if k < 54 then .inr (60, none)
  else if k = 54 then .inr (8, none)
  else if k = 55 then .inr (120, none)
  else if k = 56 then .inr (4, none)
  else if k = 57 then .inr (4, none)
  else .inr (160, none)
/-- the launch, the tables' numbers, the cells' addresses, the classes of int[], Person[], Sheet[], the static ABOVE, the String constants and their rows -/
abbrev Ev : Type := Launch × va_G × (Nat → Nat) × (ClassId × ClassId × ClassId) × Nat × (Nat → Nat) × (Nat → Nat)
def eL (E : Ev) : Launch := E.1
def eD (E : Ev) : va_G := E.2.1
def eA (E : Ev) : Nat → Nat := E.2.2.1
def eI (E : Ev) : ClassId := E.2.2.2.1.1
def eP (E : Ev) : ClassId := E.2.2.2.1.2.1
def eS (E : Ev) : ClassId := E.2.2.2.1.2.2
def eT (E : Ev) : Nat := E.2.2.2.2.1
def eK (E : Ev) : Nat → Nat := E.2.2.2.2.2.1
def eV (E : Ev) : Nat → Nat := E.2.2.2.2.2.2
def eX (E : Ev) : Nat → Prop := fun q => ∃ k, k < 59 ∧ q = eA E k
def fv (ad : Nat → Nat) (r : Nat → Int32) (f : Nat) (t : Option Nat) : Value := match t with
  | none => .int (r f)
  | some j => .ref (ad j)
def cS (E : Ev) (k : Nat) (r : Nat → Int32) (sp : Shp) : va_E := match sp with
  | .inl (ci, fs) => .inr (ci, fs.mapIdx (fv (eA E) r))
  | .inr (n, none) => .inl (eI E, n, .inl r)
  | .inr (n, some b) => .inl (if k = 39 then eS E else eP E, n, .inr (.inr (.inr (.inr (fun j => some (eA E (b + j)))))))
def cE (E : Ev) (σ : Sg) (k : Nat) : va_E := cS E k (σ k) (sh k)
def wl (E : Ev) (σ : Sg) : va_W := (List.range 59).map (fun k => (eA E k, cE E σ k))
def tysE (E : Ev) : List (ClassId × FieldType) := [(eI E, .int), (eP E, .object "ScandalCounter$Person"), (eS E, .object "ScandalCounter$Sheet")]
theorem wl_at {E : Ev} {σ : Sg} {k : Nat} (hk : k < 59) : (wl E σ)[k]? = some (eA E k, cE E σ k) := by
  simp [wl, hk]
theorem wl_set {E : Ev} {σ σ' : Sg} {k : Nat} {e : va_E} (he : e = cE E σ' k) (ho : ∀ j, j ≠ k → σ' j = σ j) : (wl E σ).set k (eA E k, e) = wl E σ' := by
  subst he
  apply List.ext_getElem?
  intro j
  by_cases hj : j < 59
  · by_cases h : k = j
    · subst h
      rw [wl_at hj, List.getElem?_set_self (by simp [wl]; omega)]
    · rw [List.getElem?_set_ne h, wl_at hj, wl_at hj]
      unfold cE
      rw [ho j (Ne.symm h)]
  · rw [List.getElem?_eq_none (by simp [wl]; omega), List.getElem?_eq_none (by simp [wl]; omega)]
def eJ (E : Ev) : Prop := ∀ i j, i < 59 → j < 59 → eA E i = eA E j → i = j
theorem wl_D {E : Ev} (h : eJ E) (σ : Sg) : va_D (eX E) (wl E σ) := by
  have key : ∀ (k : Nat) (q : Nat × va_E), (wl E σ)[k]? = some q → k < 59 ∧ q = (eA E k, cE E σ k) := by
    intro k q hq
    have hk : k < 59 := by
      have := (List.getElem?_eq_some_iff.mp hq).1
      simpa [wl] using this
    rw [wl_at hk] at hq
    exact ⟨hk, (Option.some.inj hq).symm⟩
  refine ⟨fun i j p q hi hj e => ?_, fun k q hq => ?_⟩
  · obtain ⟨h1, rfl⟩ := key i p hi
    obtain ⟨h2, rfl⟩ := key j q hj
    exact h i j h1 h2 e
  · obtain ⟨h1, rfl⟩ := key k q hq
    exact ⟨k, h1, rfl⟩
/-! the words of the tables that a callee may have from its caller -/
def tG : List Cond := lw_tbl.filter goodWord
theorem tG_mem {w : Cond} (h : w ∈ lw_tbl) (hg : goodWord w = true) : w ∈ tG := List.mem_filter.mpr ⟨h, hg⟩
theorem tG_of (i : Nat) {w : Cond} (h : tables_1[i]? = some w) (hg : goodWord w = true) : w ∈ tG := tG_mem (List.mem_append_right _ (List.mem_of_getElem? h)) hg
theorem tG_pr (i : Nat) {q : MethodName × Nat} (h : lw_privs[i]? = some q) : Cond.selects q.1.cls q.1 q.1 ∈ tG :=
  tG_mem (List.mem_append_left _ (List.mem_map.mpr ⟨q, List.mem_of_getElem? h, rfl⟩)) (by first | rfl | simp [goodWord, Cond.onTables, Cond.keeps, Cond.steady])
theorem tG_good {big : List Cond} (h : ∀ w ∈ tG, w ∈ big) {c : Cond} (hc : c ∈ tG) : GoodIn big (c :: tG) := by
  intro w hw
  have hw' : w ∈ tG := by
    rcases List.mem_cons.mp hw with rfl | h1
    · exact hc
    · exact h1
  exact ⟨h w hw', good_of_word (List.mem_filter.mp hw').2⟩
/-! what is known of the machine in every method -/
def txS : Nat → String × Nat × Nat × List Int32 := fun i => match i with
  | 0 => ("said", 35, 4, [115, 97, 105, 100])
  | 1 => ("hints", 44, 5, [104, 105, 110, 116, 115])
  | 2 => ("person", 104, 6, [112, 101, 114, 115, 111, 110])
  | 3 => ("lady", 106, 4, [108, 97, 100, 121])
  | 4 => ("duke", 108, 4, [100, 117, 107, 101])
  | 5 => ("clergy", 110, 6, [99, 108, 101, 114, 103, 121])
  | 6 => ("bishop", 112, 6, [98, 105, 115, 104, 111, 112])
  | 7 => ("cowman", 114, 6, [99, 111, 119, 109, 97, 110])
  | 8 => ("young", 116, 5, [121, 111, 117, 110, 103])
  | 9 => ("build", 82, 5, [98, 117, 105, 108, 100])
  | 10 => ("owed", 88, 4, [111, 119, 101, 100])
  | _ => ("bore", 90, 4, [98, 111, 114, 101])
def lenS : List Nat := (List.range 12).map (fun i => (txS i).2.2.1)
def bytS : List (List Int32) := (List.range 12).map (fun i => (txS i).2.2.2)
def abv : List Int32 := [-1, 0, 0, 2, 3, 0, 1]
def kNw (U : State) : Prop := va_Nw (.methodLinkNest RX0 88 yX4_isIn RX4) U ∧ va_Nw (.methodLinkNest RX0 73 yX4_saying RX4) U ∧ va_Nw (.methodLinkNest RX2 61 yX4_saying RX4) U ∧ va_Nw (.methodLinkNest RX2 92 yX4_mostOf RX4) U ∧ va_Nw (.methodLinkNest RX1 40 yX4_within RX4) U ∧ va_Nw (.fieldLinkNest RX1 44 RX4 "ABOVE" "[I" RX4) U
def kSt (E : Ev) (U : State) (H : Heap) : Prop :=
  va_Z RJ0 "COMPACT_STRINGS" "Z" (.int 1) (eX E) U H ∧ va_Zq RJ3 "SIOOBE_FORMATTER" "Ljava/util/function/BiFunction;" (eX E) U H ∧ va_Z RX4 "ABOVE" "[I" (.ref (eT E)) (eX E) U H ∧ va_T .int (eT E) 7 (fun j => .int (abv.getD j 0)) (eX E) U H ∧ vk_S 12 lenS bytS (eK E) (eV E) (eX E) U H
def Kx (E : Ev) (U : State) : Prop := va_K (eD E) vwCl (tysE E) U ∧ eJ E ∧ kNw U ∧ kSt E U U.heap ∧ ∀ i, i < 12 → vk_R RX2 (txS i).2.1 (txS i).1 (eK E i) U
theorem kNw_warm {s U : State} (hW : s.WarmedH U.vm) (h : kNw s) : kNw U :=
  ⟨va_Nw.warmM hW h.1, va_Nw.warmM hW h.2.1, va_Nw.warmM hW h.2.2.1, va_Nw.warmM hW h.2.2.2.1, va_Nw.warmM hW h.2.2.2.2.1, va_Nw.warmF hW h.2.2.2.2.2⟩
theorem kNw_same {s U : State} (hv : s.vm = U.vm) (h : kNw s) : kNw U :=
  ⟨va_Nw.same rfl hv h.1, va_Nw.same rfl hv h.2.1, va_Nw.same rfl hv h.2.2.1, va_Nw.same rfl hv h.2.2.2.1, va_Nw.same rfl hv h.2.2.2.2.1, va_Nw.same rfl hv h.2.2.2.2.2⟩
theorem kSt_moved {E : Ev} {u U : State} {H : Heap} (hvm : u.vm.Alike U.vm) (h : kSt E u H) : kSt E U H :=
  ⟨h.1.moved hvm, h.2.1.moved hvm, h.2.2.1.moved hvm, h.2.2.2.1.moved hvm, h.2.2.2.2.moved hvm⟩
theorem kSt_kept {E : Ev} {U : State} {H H1 : Heap} (hq : ∀ a : Nat, a < H.size → ¬ eX E a → H1[a]? = H[a]?) (h : kSt E U H) : kSt E U H1 :=
  ⟨h.1.kept hq, h.2.1.kept hq, h.2.2.1.kept hq, h.2.2.2.1.kept hq, h.2.2.2.2.kept hq⟩
theorem Kx_warm {E : Ev} {s U : State} (hW : s.WarmedH U.vm) (hq : ∀ a : Nat, a < s.heap.size → ¬ eX E a → U.heap[a]? = s.heap[a]?) (h : Kx E s) : Kx E U :=
  ⟨va_K.moved hW.alike h.1, h.2.1, kNw_warm hW h.2.2.1, kSt_kept hq (kSt_moved hW.alike h.2.2.2.1), fun i hi => vk_R.warm hW (h.2.2.2.2 i hi)⟩
theorem Kx_call {E : Ev} {U : State} {g : JFrame} {mk : MethodId} {a : Array Value} (h : Kx E U) : Kx E (U.calling g mk a) :=
  ⟨va_K.moved (u := U) (U := U.calling g mk a) (Vm.Alike.refl U.vm) h.1, h.2.1, kNw_same (s := U) (U := U.calling g mk a) rfl h.2.2.1, kSt_moved (u := U) (U := U.calling g mk a) (H := U.heap) (Vm.Alike.refl U.vm) h.2.2.2.1, fun i hi => vk_R.same (u := U) (U := U.calling g mk a) rfl (h.2.2.2.2 i hi)⟩
/-! a frame: the machine where a method runs -/
abbrev Fr : Type := Program × Env × Room × State × MethodId × Array Value × List Frame × Method × Code × Nat × Nat × (State → Prop)
def fP (fr : Fr) : Program := fr.1
def fE (fr : Fr) : Env := fr.2.1
def fR (fr : Fr) : Room := fr.2.2.1
def fS (fr : Fr) : State := fr.2.2.2.1
def fM (fr : Fr) : MethodId := fr.2.2.2.2.1
def fA (fr : Fr) : Array Value := fr.2.2.2.2.2.1
def fB (fr : Fr) : List Frame := fr.2.2.2.2.2.2.1
def fT (fr : Fr) : Method := fr.2.2.2.2.2.2.2.1
def fC (fr : Fr) : Code := fr.2.2.2.2.2.2.2.2.1
def fc (fr : Fr) : Nat := fr.2.2.2.2.2.2.2.2.2.1
def fs (fr : Fr) : Nat := fr.2.2.2.2.2.2.2.2.2.2.1
def fQ (fr : Fr) : State → Prop := fr.2.2.2.2.2.2.2.2.2.2.2
/-- name, bytes, locals, what it returns -/
abbrev Mt : Type := MethodName × ByteArray × Nat × Option FieldType
def Cx (E : Ev) (mt : Mt) (d : Nat) (fr : Fr) : Prop :=
  (fP fr).tables.exec = Jvm.exec ∧ (fC fr).code = mt.2.1 ∧ (fC fr).maxLocals = mt.2.2.1 ∧ (fS fr).vm.findClass mt.1.cls = some (fM fr).cls ∧ (∀ w ∈ tG, w.before (fA fr) (fS fr) = true) ∧ Kx E (fS fr) ∧ d ≤ (fR fr).frames ∧ 36 * d ≤ (fR fr).locals ∧ fc fr ≤ (fR fr).cells ∧ fs fr ≤ (fR fr).slots
/-- the machine stands at pc with locals lv, stack st and the numbers σ: it comes to the frame's end -/
def GW (E : Ev) (fr : Fr) (nL pc : Nat) (lv : List (Nat × Value)) (st : List Value) (σ : Sg) : Prop :=
  ∀ (H : Heap) (locs : List Loc) (ls : Array Slot), va_P (eD E) vwCl (wl E σ) H → va_S (eX E) (fS fr).heap H locs → lv_has ls nL lv →
    W (fP fr) (eL E) (fE fr) (fR fr) (fS fr) (fM fr) (fA fr) (fB fr) (fT fr) (fC fr) H locs (fc fr) (fs fr) (fQ fr) (F0 (fM fr) pc ls st)
def rmd (d : Nat) : Room := { frames := d, cells := 0, slots := 0, locals := 36 * d }
def QcW (E : Ev) (r : Option Value) (σ' : Sg) : Array Value → State → Outcome → State → Prop := fun _ st oc t => (oc = .returned r ∧ va_P (eD E) vwCl (wl E σ') t.heap) ∧ va_F (eX E) st t
def PcW (E : Ev) (av : List Value) (σ : Sg) : Array Value → State → Prop := va_Pc av (fun U => va_P (eD E) vwCl (wl E σ) U.heap ∧ Kx E U)
/-- a method's contract: from σ with these arguments it returns r, and the numbers are σ' -/
def Con (E : Ev) (mt : Mt) (d : Nat) (av : List Value) (σ : Sg) (r : Option Value) (σ' : Sg) : Prop :=
  Met (eL E) mt.1 (.code mt.1 mt.2.1 mt.2.2.1 mt.2.2.2 :: tG) (rmd d) (PcW E av σ) (QcW E r σ') 0 0 (eX E)
def Tg (E : Ev) (fr : Fr) (ret : Option FieldType) (r : Option Value) (σ' : Sg) : Prop :=
  (fT fr).sig.returnType = ret ∧ (fT fr).locks = false ∧ fQ fr = MQ (fB fr) (QcW E r σ') (fA fr) (fS fr) (fc fr) (fs fr) (eX E)
theorem con_of {E : Ev} {mt : Mt} {d : Nat} {av : List Value} {σ σ' : Sg} {r : Option Value} (hy : plainName mt.1.cls = true) (hl : (lg_sl av).length ≤ mt.2.2.1)
    (hw : ∀ fr : Fr, Cx E mt d fr → Tg E fr mt.2.2.2 r σ' → GW E fr mt.2.2.1 0 (lv_args 0 av) [] σ) : Con E mt d av σ r σ' := by
  refine Met.ofW (cc := mt.2.1) (maxL := mt.2.2.1) (ret := mt.2.2.2) hy rfl ?_
  intro p e s m args below meth c s₁ B hml hv
  obtain ⟨rfl, hP, hK⟩ := hv
  have hts := atoms_spec (ws := Cond.code mt.1 mt.2.1 mt.2.2.1 mt.2.2.2 :: tG) B.pre
  have hown : s.vm.findClass mt.1.cls = some m.cls := findClass_of_methodNamed B.named
  have cx : Cx E mt d (p, e, (headSpec (Cond.code mt.1 mt.2.1 mt.2.2.1 mt.2.2.2 :: tG) (rmd d)).room, s, m, av.toArray, below, meth, c, 0, 0, MQ below (QcW E r σ') av.toArray s 0 0 (eX E)) :=
    ⟨B.exec, B.bytes, hml, hown, fun w hw => hts w (List.mem_cons_of_mem _ hw), hK, Nat.le_refl d, Nat.le_refl _, Nat.zero_le _, Nat.zero_le _⟩
  have tg : Tg E (p, e, (headSpec (Cond.code mt.1 mt.2.1 mt.2.2.1 mt.2.2.2 :: tG) (rmd d)).room, s, m, av.toArray, below, meth, c, 0, 0, MQ below (QcW E r σ') av.toArray s 0 0 (eX E)) mt.2.2.2 r σ' :=
    ⟨B.returns, B.notSynchronized, rfl⟩
  rw [lg_entry_eq]
  exact hw _ cx tg s.heap [] _ hP va_S.rf (lv_entry av hl)
end
section
/-! RULES: a row an instruction, over GW. Each is the kit's own row, its machine hidden in fr and cx. -/
def jrem (x y : Int32) : Int32 := x - x / y * y
def jshl (x y : Int32) : Int32 := x <<< (y &&& 31)
def jshr (x y : Int32) : Int32 := x >>> (y &&& 31)
def jushr (x y : Int32) : Int32 := (x.toUInt32 >>> (y.toUInt32 &&& Int32.toUInt32 31)).toInt32
def jlrem (x y : Int64) : Int64 := x - x / y * y
section RUL
variable {E : Ev} {mt : Mt} {d : Nat} {fr : Fr} {nL pc pc' : Nat} {lv : List (Nat × Value)} {rest : List Value} {σ : Sg}
theorem gw_iconst {n : Int} {v : Int32} (cx : Cx E mt d fr) (hv : Int32.ofInt n = v) (hd : decode mt.2.1 pc = .ok (.iconst n, 1)) (hp : pc + 1 = pc') (k : GW E fr nL pc' lv (.int v :: rest) σ) : GW E fr nL pc lv (rest) σ := by
  subst hp; exact fun H locs ls hP hS hl => lv_iconst cx.1 cx.2.1 hd hv (k H locs ls hP hS hl)
theorem gw_bipush {n : Int} {v : Int32} (cx : Cx E mt d fr) (hv : (Int8.ofInt n).toInt32 = v) (hd : decode mt.2.1 pc = .ok (.bipush n, 2)) (hp : pc + 2 = pc') (k : GW E fr nL pc' lv (.int v :: rest) σ) : GW E fr nL pc lv (rest) σ := by
  subst hp; exact fun H locs ls hP hS hl => lv_bipush cx.1 cx.2.1 hd hv (k H locs ls hP hS hl)
theorem gw_sipush {n : Int} {v : Int32} (cx : Cx E mt d fr) (hv : (Int16.ofInt n).toInt32 = v) (hd : decode mt.2.1 pc = .ok (.sipush n, 3)) (hp : pc + 3 = pc') (k : GW E fr nL pc' lv (.int v :: rest) σ) : GW E fr nL pc lv (rest) σ := by
  subst hp; exact fun H locs ls hP hS hl => lv_sipush cx.1 cx.2.1 hd hv (k H locs ls hP hS hl)
theorem gw_lconst {n : Fin 2} {v : Int64} (cx : Cx E mt d fr) (hv : Int64.ofNat (n : Nat) = v) (hd : decode mt.2.1 pc = .ok (.lconst n, 1)) (hp : pc + 1 = pc') (k : GW E fr nL pc' lv (.long v :: rest) σ) : GW E fr nL pc lv (rest) σ := by
  subst hp; exact fun H locs ls hP hS hl => lv_lconst cx.1 cx.2.1 hd hv (k H locs ls hP hS hl)
theorem gw_ldc {ix : Nat} {v : Int32} (cx : Cx E mt d fr) (hw : Cond.constant mt.1.cls ix v ∈ tG) (hd : decode mt.2.1 pc = .ok (.ldc ix, 2)) (hp : pc + 2 = pc') (k : GW E fr nL pc' lv (.int v :: rest) σ) : GW E fr nL pc lv rest σ := by
  subst hp; exact fun H locs ls hP hS hl => lv_ldc cx.1 cx.2.1 cx.2.2.2.1 (cx.2.2.2.2.1 _ hw) hd (k H locs ls hP hS hl)
theorem gw_ldc_w {ix : Nat} {v : Int32} (cx : Cx E mt d fr) (hw : Cond.constant mt.1.cls ix v ∈ tG) (hd : decode mt.2.1 pc = .ok (.ldc_w ix, 3)) (hp : pc + 3 = pc') (k : GW E fr nL pc' lv (.int v :: rest) σ) : GW E fr nL pc lv rest σ := by
  subst hp; exact fun H locs ls hP hS hl => lv_ldcw cx.1 cx.2.1 cx.2.2.2.1 (cx.2.2.2.2.1 _ hw) hd (k H locs ls hP hS hl)
theorem gw_ldc2_w {ix : Nat} {v : Int64} (cx : Cx E mt d fr) (hw : Cond.constantLong mt.1.cls ix v ∈ tG) (hd : decode mt.2.1 pc = .ok (.ldc2_w ix, 3)) (hp : pc + 3 = pc') (k : GW E fr nL pc' lv (.long v :: rest) σ) : GW E fr nL pc lv rest σ := by
  subst hp; exact fun H locs ls hP hS hl => lv_ldc2 cx.1 cx.2.1 cx.2.2.2.1 (cx.2.2.2.2.1 _ hw) hd (k H locs ls hP hS hl)
theorem gw_iload_n {q : Fin 4} {i : Nat} {x : Int32} (cx : Cx E mt d fr) (j : Nat) (hj : lv[j]? = some (i, .int x)) (hi : (q : Nat) = i) (hd : decode mt.2.1 pc = .ok (.iload_n q, 1)) (hp : pc + 1 = pc') (k : GW E fr nL pc' lv (.int x :: rest) σ) : GW E fr nL pc lv rest σ := by
  subst hp; exact fun H locs ls hP hS hl => lv_iload_n cx.1 cx.2.1 hd hi (lv_at hl j hj) (k H locs ls hP hS hl)
theorem gw_iload {i : Nat} {x : Int32} (cx : Cx E mt d fr) (j : Nat) (hj : lv[j]? = some (i, .int x)) (hd : decode mt.2.1 pc = .ok (.iload i, 2)) (hp : pc + 2 = pc') (k : GW E fr nL pc' lv (.int x :: rest) σ) : GW E fr nL pc lv rest σ := by
  subst hp; exact fun H locs ls hP hS hl => lv_iload cx.1 cx.2.1 hd (lv_at hl j hj) (k H locs ls hP hS hl)
theorem gw_istore_n {q : Fin 4} {i : Nat} {x : Int32} {lv' : List (Nat × Value)} (cx : Cx E mt d fr) (hl' : (i, Value.int x) :: lv.filter (fun q => !(q.1 == i) && !(q.1 + 1 == i && q.2.category == 2)) = lv') (hi : (q : Nat) = i) (hn : i < nL) (hd : decode mt.2.1 pc = .ok (.istore_n q, 1)) (hp : pc + 1 = pc') (k : GW E fr nL pc' lv' rest σ) : GW E fr nL pc lv (.int x :: rest) σ := by
  subst hp; exact fun H locs ls hP hS hl => lv_istore_n cx.1 cx.2.1 hd hi hl hn hl' (fun ls' hl2 => k H locs ls' hP hS hl2)
theorem gw_istore {i : Nat} {x : Int32} {lv' : List (Nat × Value)} (cx : Cx E mt d fr) (hl' : (i, Value.int x) :: lv.filter (fun q => !(q.1 == i) && !(q.1 + 1 == i && q.2.category == 2)) = lv') (hn : i < nL) (hd : decode mt.2.1 pc = .ok (.istore i, 2)) (hp : pc + 2 = pc') (k : GW E fr nL pc' lv' rest σ) : GW E fr nL pc lv (.int x :: rest) σ := by
  subst hp; exact fun H locs ls hP hS hl => lv_istore cx.1 cx.2.1 hd hl hn hl' (fun ls' hl2 => k H locs ls' hP hS hl2)
theorem gw_lload_n {q : Fin 4} {i : Nat} {x : Int64} (cx : Cx E mt d fr) (j : Nat) (hj : lv[j]? = some (i, .long x)) (hi : (q : Nat) = i) (hd : decode mt.2.1 pc = .ok (.lload_n q, 1)) (hp : pc + 1 = pc') (k : GW E fr nL pc' lv (.long x :: rest) σ) : GW E fr nL pc lv rest σ := by
  subst hp; exact fun H locs ls hP hS hl => lv_lload_n cx.1 cx.2.1 hd hi (lv_at hl j hj) (k H locs ls hP hS hl)
theorem gw_lload {i : Nat} {x : Int64} (cx : Cx E mt d fr) (j : Nat) (hj : lv[j]? = some (i, .long x)) (hd : decode mt.2.1 pc = .ok (.lload i, 2)) (hp : pc + 2 = pc') (k : GW E fr nL pc' lv (.long x :: rest) σ) : GW E fr nL pc lv rest σ := by
  subst hp; exact fun H locs ls hP hS hl => lv_lload cx.1 cx.2.1 hd (lv_at hl j hj) (k H locs ls hP hS hl)
theorem gw_lstore_n {q : Fin 4} {i : Nat} {x : Int64} {lv' : List (Nat × Value)} (cx : Cx E mt d fr) (hl' : (i, Value.long x) :: lv.filter (fun q => !(q.1 == i) && (!(q.1 == i + 1) && !(q.1 + 1 == i && q.2.category == 2))) = lv') (hi : (q : Nat) = i) (hn : i + 1 < nL) (hd : decode mt.2.1 pc = .ok (.lstore_n q, 1)) (hp : pc + 1 = pc') (k : GW E fr nL pc' lv' rest σ) : GW E fr nL pc lv (.long x :: rest) σ := by
  subst hp; exact fun H locs ls hP hS hl => lv_lstore_n cx.1 cx.2.1 hd hi hl hn hl' (fun ls' hl2 => k H locs ls' hP hS hl2)
theorem gw_lstore {i : Nat} {x : Int64} {lv' : List (Nat × Value)} (cx : Cx E mt d fr) (hl' : (i, Value.long x) :: lv.filter (fun q => !(q.1 == i) && (!(q.1 == i + 1) && !(q.1 + 1 == i && q.2.category == 2))) = lv') (hn : i + 1 < nL) (hd : decode mt.2.1 pc = .ok (.lstore i, 2)) (hp : pc + 2 = pc') (k : GW E fr nL pc' lv' rest σ) : GW E fr nL pc lv (.long x :: rest) σ := by
  subst hp; exact fun H locs ls hP hS hl => lv_lstore cx.1 cx.2.1 hd hl hn hl' (fun ls' hl2 => k H locs ls' hP hS hl2)
theorem gw_aload_n {q : Fin 4} {i : Nat} {x : Nat} (cx : Cx E mt d fr) (j : Nat) (hj : lv[j]? = some (i, .ref x)) (hi : (q : Nat) = i) (hd : decode mt.2.1 pc = .ok (.aload_n q, 1)) (hp : pc + 1 = pc') (k : GW E fr nL pc' lv (.ref x :: rest) σ) : GW E fr nL pc lv rest σ := by
  subst hp; exact fun H locs ls hP hS hl => lv_aload_n cx.1 cx.2.1 hd hi (lv_at hl j hj) (k H locs ls hP hS hl)
theorem gw_aload {i : Nat} {x : Nat} (cx : Cx E mt d fr) (j : Nat) (hj : lv[j]? = some (i, .ref x)) (hd : decode mt.2.1 pc = .ok (.aload i, 2)) (hp : pc + 2 = pc') (k : GW E fr nL pc' lv (.ref x :: rest) σ) : GW E fr nL pc lv rest σ := by
  subst hp; exact fun H locs ls hP hS hl => lv_aload cx.1 cx.2.1 hd (lv_at hl j hj) (k H locs ls hP hS hl)
theorem gw_astore_n {q : Fin 4} {i : Nat} {x : Nat} {lv' : List (Nat × Value)} (cx : Cx E mt d fr) (hl' : (i, Value.ref x) :: lv.filter (fun q => !(q.1 == i) && !(q.1 + 1 == i && q.2.category == 2)) = lv') (hi : (q : Nat) = i) (hn : i < nL) (hd : decode mt.2.1 pc = .ok (.astore_n q, 1)) (hp : pc + 1 = pc') (k : GW E fr nL pc' lv' rest σ) : GW E fr nL pc lv (.ref x :: rest) σ := by
  subst hp; exact fun H locs ls hP hS hl => lv_astore_n cx.1 cx.2.1 hd hi hl hn hl' (fun ls' hl2 => k H locs ls' hP hS hl2)
theorem gw_astore {i : Nat} {x : Nat} {lv' : List (Nat × Value)} (cx : Cx E mt d fr) (hl' : (i, Value.ref x) :: lv.filter (fun q => !(q.1 == i) && !(q.1 + 1 == i && q.2.category == 2)) = lv') (hn : i < nL) (hd : decode mt.2.1 pc = .ok (.astore i, 2)) (hp : pc + 2 = pc') (k : GW E fr nL pc' lv' rest σ) : GW E fr nL pc lv (.ref x :: rest) σ := by
  subst hp; exact fun H locs ls hP hS hl => lv_astore cx.1 cx.2.1 hd hl hn hl' (fun ls' hl2 => k H locs ls' hP hS hl2)
theorem gw_iinc {i : Nat} {n : Int} {x v : Int32} {lv' : List (Nat × Value)} (cx : Cx E mt d fr) (j : Nat) (hj : lv[j]? = some (i, .int x)) (hv : x + Int32.ofInt n = v) (hl' : (i, Value.int v) :: lv.filter (fun q => !(q.1 == i) && !(q.1 + 1 == i && q.2.category == 2)) = lv') (hn : i < nL) (hd : decode mt.2.1 pc = .ok (.iinc i n, 3)) (hp : pc + 3 = pc') (k : GW E fr nL pc' lv' rest σ) : GW E fr nL pc lv rest σ := by
  subst hp; exact fun H locs ls hP hS hl => lv_iinc cx.1 cx.2.1 hd hl hj hv hn hl' (fun ls' hl2 => k H locs ls' hP hS hl2)
theorem gw_iadd {x y : Int32} (cx : Cx E mt d fr) (hd : decode mt.2.1 pc = .ok (.iadd, 1)) (hp : pc + 1 = pc') (k : GW E fr nL pc' lv (.int (x + y) :: rest) σ) : GW E fr nL pc lv (.int y :: .int x :: rest) σ := by
  subst hp; exact fun H locs ls hP hS hl => lv_iadd cx.1 cx.2.1 hd (k H locs ls hP hS hl)
theorem gw_isub {x y : Int32} (cx : Cx E mt d fr) (hd : decode mt.2.1 pc = .ok (.isub, 1)) (hp : pc + 1 = pc') (k : GW E fr nL pc' lv (.int (x - y) :: rest) σ) : GW E fr nL pc lv (.int y :: .int x :: rest) σ := by
  subst hp; exact fun H locs ls hP hS hl => lv_isub cx.1 cx.2.1 hd (k H locs ls hP hS hl)
theorem gw_imul {x y : Int32} (cx : Cx E mt d fr) (hd : decode mt.2.1 pc = .ok (.imul, 1)) (hp : pc + 1 = pc') (k : GW E fr nL pc' lv (.int (x * y) :: rest) σ) : GW E fr nL pc lv (.int y :: .int x :: rest) σ := by
  subst hp; exact fun H locs ls hP hS hl => lv_imul cx.1 cx.2.1 hd (k H locs ls hP hS hl)
theorem gw_iand {x y : Int32} (cx : Cx E mt d fr) (hd : decode mt.2.1 pc = .ok (.iand, 1)) (hp : pc + 1 = pc') (k : GW E fr nL pc' lv (.int (x &&& y) :: rest) σ) : GW E fr nL pc lv (.int y :: .int x :: rest) σ := by
  subst hp; exact fun H locs ls hP hS hl => lv_iand cx.1 cx.2.1 hd (k H locs ls hP hS hl)
theorem gw_ior {x y : Int32} (cx : Cx E mt d fr) (hd : decode mt.2.1 pc = .ok (.ior, 1)) (hp : pc + 1 = pc') (k : GW E fr nL pc' lv (.int (x ||| y) :: rest) σ) : GW E fr nL pc lv (.int y :: .int x :: rest) σ := by
  subst hp; exact fun H locs ls hP hS hl => lv_ior cx.1 cx.2.1 hd (k H locs ls hP hS hl)
theorem gw_ishl {x y : Int32} (cx : Cx E mt d fr) (hd : decode mt.2.1 pc = .ok (.ishl, 1)) (hp : pc + 1 = pc') (k : GW E fr nL pc' lv (.int (jshl x y) :: rest) σ) : GW E fr nL pc lv (.int y :: .int x :: rest) σ := by
  subst hp; exact fun H locs ls hP hS hl => lv_ishl cx.1 cx.2.1 hd (k H locs ls hP hS hl)
theorem gw_ishr {x y : Int32} (cx : Cx E mt d fr) (hd : decode mt.2.1 pc = .ok (.ishr, 1)) (hp : pc + 1 = pc') (k : GW E fr nL pc' lv (.int (jshr x y) :: rest) σ) : GW E fr nL pc lv (.int y :: .int x :: rest) σ := by
  subst hp; exact fun H locs ls hP hS hl => lv_ishr cx.1 cx.2.1 hd (k H locs ls hP hS hl)
theorem gw_iushr {x y : Int32} (cx : Cx E mt d fr) (hd : decode mt.2.1 pc = .ok (.iushr, 1)) (hp : pc + 1 = pc') (k : GW E fr nL pc' lv (.int (jushr x y) :: rest) σ) : GW E fr nL pc lv (.int y :: .int x :: rest) σ := by
  subst hp; exact fun H locs ls hP hS hl => lv_iushr cx.1 cx.2.1 hd rfl (k H locs ls hP hS hl)
theorem gw_idiv {x y : Int32} (cx : Cx E mt d fr) (hne : ¬ y = 0) (hd : decode mt.2.1 pc = .ok (.idiv, 1)) (hp : pc + 1 = pc') (k : GW E fr nL pc' lv (.int (x / y) :: rest) σ) : GW E fr nL pc lv (.int y :: .int x :: rest) σ := by
  subst hp; exact fun H locs ls hP hS hl => lv_idiv cx.1 cx.2.1 hd hne (k H locs ls hP hS hl)
theorem gw_irem {x y : Int32} (cx : Cx E mt d fr) (hne : ¬ y = 0) (hd : decode mt.2.1 pc = .ok (.irem, 1)) (hp : pc + 1 = pc') (k : GW E fr nL pc' lv (.int (jrem x y) :: rest) σ) : GW E fr nL pc lv (.int y :: .int x :: rest) σ := by
  subst hp; exact fun H locs ls hP hS hl => lv_irem cx.1 cx.2.1 hd hne (k H locs ls hP hS hl)
theorem gw_lmul {x y : Int64} (cx : Cx E mt d fr) (hd : decode mt.2.1 pc = .ok (.lmul, 1)) (hp : pc + 1 = pc') (k : GW E fr nL pc' lv (.long (x * y) :: rest) σ) : GW E fr nL pc lv (.long y :: .long x :: rest) σ := by
  subst hp; exact fun H locs ls hP hS hl => lv_lmul cx.1 cx.2.1 hd (k H locs ls hP hS hl)
theorem gw_ldiv {x y : Int64} (cx : Cx E mt d fr) (hne : ¬ y = 0) (hd : decode mt.2.1 pc = .ok (.ldiv, 1)) (hp : pc + 1 = pc') (k : GW E fr nL pc' lv (.long (x / y) :: rest) σ) : GW E fr nL pc lv (.long y :: .long x :: rest) σ := by
  subst hp; exact fun H locs ls hP hS hl => lv_ldiv cx.1 cx.2.1 hd hne (k H locs ls hP hS hl)
theorem gw_lrem {x y : Int64} (cx : Cx E mt d fr) (hne : ¬ y = 0) (hd : decode mt.2.1 pc = .ok (.lrem, 1)) (hp : pc + 1 = pc') (k : GW E fr nL pc' lv (.long (jlrem x y) :: rest) σ) : GW E fr nL pc lv (.long y :: .long x :: rest) σ := by
  subst hp; exact fun H locs ls hP hS hl => lv_lrem cx.1 cx.2.1 hd hne (k H locs ls hP hS hl)
theorem gw_lcmp {x y : Int64} (cx : Cx E mt d fr) (hd : decode mt.2.1 pc = .ok (.lcmp, 1)) (hp : pc + 1 = pc') (k : GW E fr nL pc' lv (.int (lg_cmp x y) :: rest) σ) : GW E fr nL pc lv (.long y :: .long x :: rest) σ := by
  subst hp; exact fun H locs ls hP hS hl => W.lcmp cx.1 cx.2.1 hd (k H locs ls hP hS hl)
theorem gw_i2l {x : Int32} (cx : Cx E mt d fr) (hd : decode mt.2.1 pc = .ok (.i2l, 1)) (hp : pc + 1 = pc') (k : GW E fr nL pc' lv (.long x.toInt64 :: rest) σ) : GW E fr nL pc lv (.int x :: rest) σ := by
  subst hp; exact fun H locs ls hP hS hl => lv_i2l cx.1 cx.2.1 hd rfl (k H locs ls hP hS hl)
theorem gw_i2b {x : Int32} (cx : Cx E mt d fr) (hd : decode mt.2.1 pc = .ok (.i2b, 1)) (hp : pc + 1 = pc') (k : GW E fr nL pc' lv (.int x.toInt8.toInt32 :: rest) σ) : GW E fr nL pc lv (.int x :: rest) σ := by
  subst hp; exact fun H locs ls hP hS hl => lv_i2b cx.1 cx.2.1 hd rfl (k H locs ls hP hS hl)
theorem gw_i2s {x : Int32} (cx : Cx E mt d fr) (hd : decode mt.2.1 pc = .ok (.i2s, 1)) (hp : pc + 1 = pc') (k : GW E fr nL pc' lv (.int x.toInt16.toInt32 :: rest) σ) : GW E fr nL pc lv (.int x :: rest) σ := by
  subst hp; exact fun H locs ls hP hS hl => lv_i2s cx.1 cx.2.1 hd rfl (k H locs ls hP hS hl)
theorem gw_i2c {x : Int32} (cx : Cx E mt d fr) (hd : decode mt.2.1 pc = .ok (.i2c, 1)) (hp : pc + 1 = pc') (k : GW E fr nL pc' lv (.int (x.toUInt32 % 65536).toInt32 :: rest) σ) : GW E fr nL pc lv (.int x :: rest) σ := by
  subst hp; exact fun H locs ls hP hS hl => lv_i2c cx.1 cx.2.1 hd rfl (k H locs ls hP hS hl)
theorem gw_dup {va : Value} (cx : Cx E mt d fr) (h1 : va.category = 1) (hd : decode mt.2.1 pc = .ok (.dup, 1)) (hp : pc + 1 = pc') (k : GW E fr nL pc' lv (va :: va :: rest) σ) : GW E fr nL pc lv (va :: rest) σ := by
  subst hp; exact fun H locs ls hP hS hl => lv_dup cx.1 cx.2.1 hd h1 (k H locs ls hP hS hl)
theorem gw_pop {va : Value} (cx : Cx E mt d fr) (h1 : va.category = 1) (hd : decode mt.2.1 pc = .ok (.pop, 1)) (hp : pc + 1 = pc') (k : GW E fr nL pc' lv (rest) σ) : GW E fr nL pc lv (va :: rest) σ := by
  subst hp; exact fun H locs ls hP hS hl => lv_pop cx.1 cx.2.1 hd h1 (k H locs ls hP hS hl)
theorem gw_dup2 {va vb : Value} (cx : Cx E mt d fr) (h1 : va.category = 1) (h2 : vb.category = 1) (hd : decode mt.2.1 pc = .ok (.dup2, 1)) (hp : pc + 1 = pc') (k : GW E fr nL pc' lv (va :: vb :: va :: vb :: rest) σ) : GW E fr nL pc lv (va :: vb :: rest) σ := by
  subst hp; exact fun H locs ls hP hS hl => lv_dup2_11 cx.1 cx.2.1 hd h1 h2 (k H locs ls hP hS hl)
theorem gw_if_eq_t {x : Int32} {off : Int} (cx : Cx E mt d fr) (hc : x = 0) (hd : decode mt.2.1 pc = .ok (.ifCond .eq off, 3)) (ht : (pc : Int) + off = (pc' : Int)) (k : GW E fr nL pc' lv rest σ) : GW E fr nL pc lv (.int x :: rest) σ :=
  fun H locs ls hP hS hl => lv_if_eq cx.1 cx.2.1 hd ht (fun _ => k H locs ls hP hS hl) (fun z => absurd hc z)
theorem gw_if_eq_f {x : Int32} {off : Int} (cx : Cx E mt d fr) (hc : ¬ (x = 0)) (hd : decode mt.2.1 pc = .ok (.ifCond .eq off, 3)) (ht : ∃ t : Nat, (pc : Int) + off = (t : Int)) (hp : pc + 3 = pc') (k : GW E fr nL pc' lv rest σ) : GW E fr nL pc lv (.int x :: rest) σ := by
  subst hp; obtain ⟨t, ht⟩ := ht; exact fun H locs ls hP hS hl => lv_if_eq cx.1 cx.2.1 hd ht (fun z => absurd z hc) (fun _ => k H locs ls hP hS hl)
theorem gw_ic_eq_t {x y : Int32} {off : Int} (cx : Cx E mt d fr) (hc : x = y) (hd : decode mt.2.1 pc = .ok (.if_icmp .eq off, 3)) (ht : (pc : Int) + off = (pc' : Int)) (k : GW E fr nL pc' lv rest σ) : GW E fr nL pc lv (.int y :: .int x :: rest) σ :=
  fun H locs ls hP hS hl => lv_icmp_eq cx.1 cx.2.1 hd ht (fun _ => k H locs ls hP hS hl) (fun z => absurd hc z)
theorem gw_ic_eq_f {x y : Int32} {off : Int} (cx : Cx E mt d fr) (hc : ¬ (x = y)) (hd : decode mt.2.1 pc = .ok (.if_icmp .eq off, 3)) (ht : ∃ t : Nat, (pc : Int) + off = (t : Int)) (hp : pc + 3 = pc') (k : GW E fr nL pc' lv rest σ) : GW E fr nL pc lv (.int y :: .int x :: rest) σ := by
  subst hp; obtain ⟨t, ht⟩ := ht; exact fun H locs ls hP hS hl => lv_icmp_eq cx.1 cx.2.1 hd ht (fun z => absurd z hc) (fun _ => k H locs ls hP hS hl)
theorem gw_if_ne_t {x : Int32} {off : Int} (cx : Cx E mt d fr) (hc : ¬ x = 0) (hd : decode mt.2.1 pc = .ok (.ifCond .ne off, 3)) (ht : (pc : Int) + off = (pc' : Int)) (k : GW E fr nL pc' lv rest σ) : GW E fr nL pc lv (.int x :: rest) σ :=
  fun H locs ls hP hS hl => lv_if_ne cx.1 cx.2.1 hd ht (fun _ => k H locs ls hP hS hl) (fun z => absurd z hc)
theorem gw_if_ne_f {x : Int32} {off : Int} (cx : Cx E mt d fr) (hc : x = 0) (hd : decode mt.2.1 pc = .ok (.ifCond .ne off, 3)) (ht : ∃ t : Nat, (pc : Int) + off = (t : Int)) (hp : pc + 3 = pc') (k : GW E fr nL pc' lv rest σ) : GW E fr nL pc lv (.int x :: rest) σ := by
  subst hp; obtain ⟨t, ht⟩ := ht; exact fun H locs ls hP hS hl => lv_if_ne cx.1 cx.2.1 hd ht (fun z => absurd hc z) (fun _ => k H locs ls hP hS hl)
theorem gw_ic_ne_t {x y : Int32} {off : Int} (cx : Cx E mt d fr) (hc : ¬ x = y) (hd : decode mt.2.1 pc = .ok (.if_icmp .ne off, 3)) (ht : (pc : Int) + off = (pc' : Int)) (k : GW E fr nL pc' lv rest σ) : GW E fr nL pc lv (.int y :: .int x :: rest) σ :=
  fun H locs ls hP hS hl => lv_icmp_ne cx.1 cx.2.1 hd ht (fun _ => k H locs ls hP hS hl) (fun z => absurd z hc)
theorem gw_ic_ne_f {x y : Int32} {off : Int} (cx : Cx E mt d fr) (hc : x = y) (hd : decode mt.2.1 pc = .ok (.if_icmp .ne off, 3)) (ht : ∃ t : Nat, (pc : Int) + off = (t : Int)) (hp : pc + 3 = pc') (k : GW E fr nL pc' lv rest σ) : GW E fr nL pc lv (.int y :: .int x :: rest) σ := by
  subst hp; obtain ⟨t, ht⟩ := ht; exact fun H locs ls hP hS hl => lv_icmp_ne cx.1 cx.2.1 hd ht (fun z => absurd hc z) (fun _ => k H locs ls hP hS hl)
theorem gw_if_lt_t {x : Int32} {off : Int} (cx : Cx E mt d fr) (hc : x < 0) (hd : decode mt.2.1 pc = .ok (.ifCond .lt off, 3)) (ht : (pc : Int) + off = (pc' : Int)) (k : GW E fr nL pc' lv rest σ) : GW E fr nL pc lv (.int x :: rest) σ :=
  fun H locs ls hP hS hl => lv_if_lt cx.1 cx.2.1 hd ht (fun _ => k H locs ls hP hS hl) (fun z => absurd hc z)
theorem gw_if_lt_f {x : Int32} {off : Int} (cx : Cx E mt d fr) (hc : ¬ (x < 0)) (hd : decode mt.2.1 pc = .ok (.ifCond .lt off, 3)) (ht : ∃ t : Nat, (pc : Int) + off = (t : Int)) (hp : pc + 3 = pc') (k : GW E fr nL pc' lv rest σ) : GW E fr nL pc lv (.int x :: rest) σ := by
  subst hp; obtain ⟨t, ht⟩ := ht; exact fun H locs ls hP hS hl => lv_if_lt cx.1 cx.2.1 hd ht (fun z => absurd z hc) (fun _ => k H locs ls hP hS hl)
theorem gw_ic_lt_t {x y : Int32} {off : Int} (cx : Cx E mt d fr) (hc : x < y) (hd : decode mt.2.1 pc = .ok (.if_icmp .lt off, 3)) (ht : (pc : Int) + off = (pc' : Int)) (k : GW E fr nL pc' lv rest σ) : GW E fr nL pc lv (.int y :: .int x :: rest) σ :=
  fun H locs ls hP hS hl => lv_icmp_lt cx.1 cx.2.1 hd ht (fun _ => k H locs ls hP hS hl) (fun z => absurd hc z)
theorem gw_ic_lt_f {x y : Int32} {off : Int} (cx : Cx E mt d fr) (hc : ¬ (x < y)) (hd : decode mt.2.1 pc = .ok (.if_icmp .lt off, 3)) (ht : ∃ t : Nat, (pc : Int) + off = (t : Int)) (hp : pc + 3 = pc') (k : GW E fr nL pc' lv rest σ) : GW E fr nL pc lv (.int y :: .int x :: rest) σ := by
  subst hp; obtain ⟨t, ht⟩ := ht; exact fun H locs ls hP hS hl => lv_icmp_lt cx.1 cx.2.1 hd ht (fun z => absurd z hc) (fun _ => k H locs ls hP hS hl)
theorem gw_if_ge_t {x : Int32} {off : Int} (cx : Cx E mt d fr) (hc : 0 ≤ x) (hd : decode mt.2.1 pc = .ok (.ifCond .ge off, 3)) (ht : (pc : Int) + off = (pc' : Int)) (k : GW E fr nL pc' lv rest σ) : GW E fr nL pc lv (.int x :: rest) σ :=
  fun H locs ls hP hS hl => lv_if_ge cx.1 cx.2.1 hd ht (fun _ => k H locs ls hP hS hl) (fun z => absurd hc z)
theorem gw_if_ge_f {x : Int32} {off : Int} (cx : Cx E mt d fr) (hc : ¬ (0 ≤ x)) (hd : decode mt.2.1 pc = .ok (.ifCond .ge off, 3)) (ht : ∃ t : Nat, (pc : Int) + off = (t : Int)) (hp : pc + 3 = pc') (k : GW E fr nL pc' lv rest σ) : GW E fr nL pc lv (.int x :: rest) σ := by
  subst hp; obtain ⟨t, ht⟩ := ht; exact fun H locs ls hP hS hl => lv_if_ge cx.1 cx.2.1 hd ht (fun z => absurd z hc) (fun _ => k H locs ls hP hS hl)
theorem gw_ic_ge_t {x y : Int32} {off : Int} (cx : Cx E mt d fr) (hc : y ≤ x) (hd : decode mt.2.1 pc = .ok (.if_icmp .ge off, 3)) (ht : (pc : Int) + off = (pc' : Int)) (k : GW E fr nL pc' lv rest σ) : GW E fr nL pc lv (.int y :: .int x :: rest) σ :=
  fun H locs ls hP hS hl => lv_icmp_ge cx.1 cx.2.1 hd ht (fun _ => k H locs ls hP hS hl) (fun z => absurd hc z)
theorem gw_ic_ge_f {x y : Int32} {off : Int} (cx : Cx E mt d fr) (hc : ¬ (y ≤ x)) (hd : decode mt.2.1 pc = .ok (.if_icmp .ge off, 3)) (ht : ∃ t : Nat, (pc : Int) + off = (t : Int)) (hp : pc + 3 = pc') (k : GW E fr nL pc' lv rest σ) : GW E fr nL pc lv (.int y :: .int x :: rest) σ := by
  subst hp; obtain ⟨t, ht⟩ := ht; exact fun H locs ls hP hS hl => lv_icmp_ge cx.1 cx.2.1 hd ht (fun z => absurd z hc) (fun _ => k H locs ls hP hS hl)
theorem gw_if_gt_t {x : Int32} {off : Int} (cx : Cx E mt d fr) (hc : 0 < x) (hd : decode mt.2.1 pc = .ok (.ifCond .gt off, 3)) (ht : (pc : Int) + off = (pc' : Int)) (k : GW E fr nL pc' lv rest σ) : GW E fr nL pc lv (.int x :: rest) σ :=
  fun H locs ls hP hS hl => lv_if_gt cx.1 cx.2.1 hd ht (fun _ => k H locs ls hP hS hl) (fun z => absurd hc z)
theorem gw_if_gt_f {x : Int32} {off : Int} (cx : Cx E mt d fr) (hc : ¬ (0 < x)) (hd : decode mt.2.1 pc = .ok (.ifCond .gt off, 3)) (ht : ∃ t : Nat, (pc : Int) + off = (t : Int)) (hp : pc + 3 = pc') (k : GW E fr nL pc' lv rest σ) : GW E fr nL pc lv (.int x :: rest) σ := by
  subst hp; obtain ⟨t, ht⟩ := ht; exact fun H locs ls hP hS hl => lv_if_gt cx.1 cx.2.1 hd ht (fun z => absurd z hc) (fun _ => k H locs ls hP hS hl)
theorem gw_ic_gt_t {x y : Int32} {off : Int} (cx : Cx E mt d fr) (hc : y < x) (hd : decode mt.2.1 pc = .ok (.if_icmp .gt off, 3)) (ht : (pc : Int) + off = (pc' : Int)) (k : GW E fr nL pc' lv rest σ) : GW E fr nL pc lv (.int y :: .int x :: rest) σ :=
  fun H locs ls hP hS hl => lv_icmp_gt cx.1 cx.2.1 hd ht (fun _ => k H locs ls hP hS hl) (fun z => absurd hc z)
theorem gw_ic_gt_f {x y : Int32} {off : Int} (cx : Cx E mt d fr) (hc : ¬ (y < x)) (hd : decode mt.2.1 pc = .ok (.if_icmp .gt off, 3)) (ht : ∃ t : Nat, (pc : Int) + off = (t : Int)) (hp : pc + 3 = pc') (k : GW E fr nL pc' lv rest σ) : GW E fr nL pc lv (.int y :: .int x :: rest) σ := by
  subst hp; obtain ⟨t, ht⟩ := ht; exact fun H locs ls hP hS hl => lv_icmp_gt cx.1 cx.2.1 hd ht (fun z => absurd z hc) (fun _ => k H locs ls hP hS hl)
theorem gw_if_le_t {x : Int32} {off : Int} (cx : Cx E mt d fr) (hc : x ≤ 0) (hd : decode mt.2.1 pc = .ok (.ifCond .le off, 3)) (ht : (pc : Int) + off = (pc' : Int)) (k : GW E fr nL pc' lv rest σ) : GW E fr nL pc lv (.int x :: rest) σ :=
  fun H locs ls hP hS hl => lv_if_le cx.1 cx.2.1 hd ht (fun _ => k H locs ls hP hS hl) (fun z => absurd hc z)
theorem gw_if_le_f {x : Int32} {off : Int} (cx : Cx E mt d fr) (hc : ¬ (x ≤ 0)) (hd : decode mt.2.1 pc = .ok (.ifCond .le off, 3)) (ht : ∃ t : Nat, (pc : Int) + off = (t : Int)) (hp : pc + 3 = pc') (k : GW E fr nL pc' lv rest σ) : GW E fr nL pc lv (.int x :: rest) σ := by
  subst hp; obtain ⟨t, ht⟩ := ht; exact fun H locs ls hP hS hl => lv_if_le cx.1 cx.2.1 hd ht (fun z => absurd z hc) (fun _ => k H locs ls hP hS hl)
theorem gw_ic_le_t {x y : Int32} {off : Int} (cx : Cx E mt d fr) (hc : x ≤ y) (hd : decode mt.2.1 pc = .ok (.if_icmp .le off, 3)) (ht : (pc : Int) + off = (pc' : Int)) (k : GW E fr nL pc' lv rest σ) : GW E fr nL pc lv (.int y :: .int x :: rest) σ :=
  fun H locs ls hP hS hl => lv_icmp_le cx.1 cx.2.1 hd ht (fun _ => k H locs ls hP hS hl) (fun z => absurd hc z)
theorem gw_ic_le_f {x y : Int32} {off : Int} (cx : Cx E mt d fr) (hc : ¬ (x ≤ y)) (hd : decode mt.2.1 pc = .ok (.if_icmp .le off, 3)) (ht : ∃ t : Nat, (pc : Int) + off = (t : Int)) (hp : pc + 3 = pc') (k : GW E fr nL pc' lv rest σ) : GW E fr nL pc lv (.int y :: .int x :: rest) σ := by
  subst hp; obtain ⟨t, ht⟩ := ht; exact fun H locs ls hP hS hl => lv_icmp_le cx.1 cx.2.1 hd ht (fun z => absurd z hc) (fun _ => k H locs ls hP hS hl)
theorem gw_goto {off : Int} (cx : Cx E mt d fr) (hd : decode mt.2.1 pc = .ok (.goto off, 3)) (ht : (pc : Int) + off = (pc' : Int)) (k : GW E fr nL pc' lv rest σ) : GW E fr nL pc lv rest σ :=
  fun H locs ls hP hS hl => lv_goto cx.1 cx.2.1 hd ht (k H locs ls hP hS hl)
theorem gw_tin {dflt lo hi : Int} {offs : Array Int} {len : Nat} {x : Int32} {off : Int} (v : Int32) (cx : Cx E mt d fr) (hx : x = v) (hd : decode mt.2.1 pc = .ok (.tableswitch dflt lo hi offs, len)) (h : (¬ v.toInt < lo ∧ ¬ hi < v.toInt) ∧ offs[(v.toInt - lo).toNat]? = some off) (ht : (pc : Int) + off = (pc' : Int)) (k : GW E fr nL pc' lv rest σ) : GW E fr nL pc lv (.int x :: rest) σ := by
  subst hx; exact fun H locs ls hP hS hl => lv_tableIn cx.1 cx.2.1 hd h.1.1 h.1.2 h.2 ht (k H locs ls hP hS hl)
theorem gw_tout {dflt lo hi : Int} {offs : Array Int} {len : Nat} {x : Int32} (cx : Cx E mt d fr) (hd : decode mt.2.1 pc = .ok (.tableswitch dflt lo hi offs, len)) (h : x.toInt < lo ∨ hi < x.toInt) (ht : (pc : Int) + dflt = (pc' : Int)) (k : GW E fr nL pc' lv rest σ) : GW E fr nL pc lv (.int x :: rest) σ :=
  fun H locs ls hP hS hl => lv_tableOut cx.1 cx.2.1 hd h ht (k H locs ls hP hS hl)
theorem gw_look {dflt off : Int} {ps : Array (Int × Int)} {len : Nat} {x : Int32} (cx : Cx E mt d fr) (hd : decode mt.2.1 pc = .ok (.lookupswitch dflt ps, len)) (hp : (ps.toList.zip (ps.toList.drop 1)).all (fun (a, next) => a.1 < next.1) = true) (ho : Op.lookupswitch.offset ps.toList dflt x.toInt = off) (ht : (pc : Int) + off = (pc' : Int)) (k : GW E fr nL pc' lv rest σ) : GW E fr nL pc lv (.int x :: rest) σ :=
  fun H locs ls hP hS hl => lv_lookup cx.1 cx.2.1 hd hp ho ht (k H locs ls hP hS hl)
/-! fields and arrays -/
def At (k : Nat) (sp : Shp) : Prop := k < 59 ∧ sh k = sp
theorem at_E {k : Nat} {sp : Shp} (h : At k sp) : (wl E σ)[k]? = some (eA E k, cS E k (σ k) sp) := by
  rw [wl_at h.1, cE, h.2]
theorem up2_o {k i : Nat} {v : Int32} (j : Nat) (h : j ≠ k) : up2 σ k i v j = σ j := by simp [up2, h]
theorem up2_k (k i : Nat) (v : Int32) : up2 σ k i v k = upd (σ k) i v := by simp [up2]
theorem mapIdx_set {ad : Nat → Nat} {r : Nat → Int32} {fs : List (Option Nat)} {f : Nat} {v : Int32} (hf : fs[f]? = some none) : (fs.mapIdx (fv ad r)).set f (.int v) = fs.mapIdx (fv ad (upd r f v)) := by
  apply List.ext_getElem?
  intro j
  by_cases h : f = j
  · subst h
    have hl : f < fs.length := (List.getElem?_eq_some_iff.mp hf).1
    rw [List.getElem?_set_self (by simpa using hl), List.getElem?_mapIdx, hf]
    simp [fv, upd]
  · rw [List.getElem?_set_ne h, List.getElem?_mapIdx, List.getElem?_mapIdx]
    cases fs[j]? with
    | none => rfl
    | some t =>
      cases t with
      | none => simp [fv, upd, Ne.symm h]
      | some q => rfl
def FLk (own : String) (ix ci f : Nat) : Prop := ∃ (C : String) (T : u_T) (N : Nat), vwCl[ci]? = some (C, T, N) ∧ (∀ w ∈ u_ws C T N, w ∈ tG) ∧ f < N ∧ Cond.fieldLink own ix (T f).1 (T f).2.1 (T f).2.2.1 ∈ tG
def FPk (own : String) (ix ci f : Nat) (ty : FieldType) : Prop := ∃ (C : String) (T : u_T) (N : Nat) (ty0 : Nat → FieldType), vwCl[ci]? = some (C, T, N) ∧ (∀ w ∈ u_ws C T N, w ∈ tG) ∧ f < N ∧ Cond.fieldLink own ix (T f).1 (T f).2.1 (T f).2.2.1 ∈ tG ∧ (∀ k, k < N → parseFieldDescriptor (T k).2.2.1 = some (ty0 k)) ∧ (∀ a, a < N → ∀ b, b < N → a ≠ b → (T a).2.1 ≠ (T b).2.1) ∧ (T f).2.2.2 = false ∧ parseFieldDescriptor (T f).2.2.1 = some ty
theorem gw_getI {k ci f ix : Nat} {fs : List (Option Nat)} (cx : Cx E mt d fr) (hs : At k (.inl (ci, fs))) (hf : fs[f]? = some none) (hk : FLk mt.1.cls ix ci f) (hd : decode mt.2.1 pc = .ok (.getfield ix, 3)) (hp : pc + 3 = pc') (kk : GW E fr nL pc' lv (.int (σ k f) :: rest) σ) : GW E fr nL pc lv (.ref (eA E k) :: rest) σ := by
  subst hp
  obtain ⟨C, T, N, hc, hin, hfN, hlk⟩ := hk
  exact fun H locs ls hP hS hl => va_get cx.1 cx.2.1 cx.2.2.2.2.1 hin cx.2.2.2.1 cx.2.2.2.2.2.1.1 hP k (at_E hs) hc f hfN (cx.2.2.2.2.1 _ hlk) (fun _ h => h) (v := .int (σ k f)) (by rw [List.getElem?_mapIdx, hf]; rfl) hd (kk H locs ls hP hS hl)
theorem gw_getR {k ci f ix j : Nat} {fs : List (Option Nat)} (cx : Cx E mt d fr) (hs : At k (.inl (ci, fs))) (hf : fs[f]? = some (some j)) (hk : FLk mt.1.cls ix ci f) (hd : decode mt.2.1 pc = .ok (.getfield ix, 3)) (hp : pc + 3 = pc') (kk : GW E fr nL pc' lv (.ref (eA E j) :: rest) σ) : GW E fr nL pc lv (.ref (eA E k) :: rest) σ := by
  subst hp
  obtain ⟨C, T, N, hc, hin, hfN, hlk⟩ := hk
  exact fun H locs ls hP hS hl => va_get cx.1 cx.2.1 cx.2.2.2.2.1 hin cx.2.2.2.1 cx.2.2.2.2.2.1.1 hP k (at_E hs) hc f hfN (cx.2.2.2.2.1 _ hlk) (fun _ h => h) (v := .ref (eA E j)) (by rw [List.getElem?_mapIdx, hf]; rfl) hd (kk H locs ls hP hS hl)
theorem gw_put {k ci f ix : Nat} {fs : List (Option Nat)} {ty : FieldType} {v : Int32} {σ1 : Sg} (cx : Cx E mt d fr) (hs : At k (.inl (ci, fs))) (hf : fs[f]? = some none) (hk : FPk mt.1.cls ix ci f ty) (hn : narrow ty (.int v) = .int v ∧ fits ty (.int v) = true) (hd : decode mt.2.1 pc = .ok (.putfield ix, 3)) (hp : pc + 3 = pc') (hσ : σ1 = up2 σ k f v) (kk : GW E fr nL pc' lv rest σ1) : GW E fr nL pc lv (.int v :: .ref (eA E k) :: rest) σ := by
  subst hp
  subst hσ
  obtain ⟨C, T, N, ty0, hc, hin, hfN, hlk, hty, hnm, hfin, hpd⟩ := hk
  intro H locs ls hP hS hl
  have hlen : f < (fs.mapIdx (fv (eA E) (σ k))).length := by simpa using (List.getElem?_eq_some_iff.mp hf).1
  refine va_put cx.1 cx.2.1 cx.2.2.2.2.1 hin ty0 hty hnm cx.2.2.2.1 cx.2.2.2.2.2.1.1 hP (wl_D cx.2.2.2.2.2.1.2.1 σ) hS k (at_E hs) hc f hfN (cx.2.2.2.2.1 _ hlk) (fun _ h => h) hfin hpd hn.1 hn.2 hlen hd (fun H1 locs1 hP1 _ hS1 => kk H1 locs1 ls ?_ hS1 hl)
  rw [wl_set (σ' := up2 σ k f v) ?_ (fun j hj => up2_o j hj)] at hP1
  · exact hP1
  · rw [cE, hs.2, up2_k]
    show _ = Sum.inr (ci, fs.mapIdx (fv (eA E) (upd (σ k) f v)))
    rw [mapIdx_set hf]
theorem gw_iald {k n j : Nat} {i : Int32} (cx : Cx E mt d fr) (hs : At k (.inr (n, none))) (hin : vp_in i n) (hj : i.toNatClampNeg = j) (hd : decode mt.2.1 pc = .ok (.iaload, 1)) (hp : pc + 1 = pc') (kk : GW E fr nL pc' lv (.int (σ k j) :: rest) σ) : GW E fr nL pc lv (.int i :: .ref (eA E k) :: rest) σ := by
  subst hp
  subst hj
  exact fun H locs ls hP hS hl => va_iald cx.1 cx.2.1 cx.2.2.2.2.2.1.1 hP k 0 (at_E hs) rfl hin hd (kk H locs ls hP hS hl)
theorem gw_iast {k n j : Nat} {i v : Int32} {σ1 : Sg} (cx : Cx E mt d fr) (hs : At k (.inr (n, none))) (hin : vp_in i n) (hj : i.toNatClampNeg = j) (hd : decode mt.2.1 pc = .ok (.iastore, 1)) (hp : pc + 1 = pc') (hσ : σ1 = up2 σ k j v) (kk : GW E fr nL pc' lv rest σ1) : GW E fr nL pc lv (.int v :: .int i :: .ref (eA E k) :: rest) σ := by
  subst hp
  subst hj
  subst hσ
  intro H locs ls hP hS hl
  refine va_iast cx.1 cx.2.1 cx.2.2.2.2.2.1.1 hP (wl_D cx.2.2.2.2.2.1.2.1 σ) hS k 0 (at_E hs) rfl hin hd (fun H1 locs1 hP1 _ hS1 => kk H1 locs1 ls ?_ hS1 hl)
  rw [wl_set (σ' := up2 σ k i.toNatClampNeg v) ?_ (fun j hj => up2_o j hj)] at hP1
  · exact hP1
  · rw [cE, hs.2, up2_k]
    rfl
theorem gw_aald {k n b : Nat} {i : Int32} (cx : Cx E mt d fr) (hs : At k (.inr (n, some b))) (hin : vp_in i n) (hd : decode mt.2.1 pc = .ok (.aaload, 1)) (hp : pc + 1 = pc') (kk : GW E fr nL pc' lv (.ref (eA E (b + i.toNatClampNeg)) :: rest) σ) : GW E fr nL pc lv (.int i :: .ref (eA E k) :: rest) σ := by
  subst hp
  intro H locs ls hP hS hl
  have h0 := at_E (E := E) (σ := σ) hs
  simp only [cS] at h0
  by_cases hk : k = 39
  · rw [if_pos hk] at h0
    exact va_aldq cx.1 cx.2.1 cx.2.2.2.2.2.1.1 hP k 2 h0 rfl hin hd (kk H locs ls hP hS hl)
  · rw [if_neg hk] at h0
    exact va_aldq cx.1 cx.2.1 cx.2.2.2.2.2.1.1 hP k 1 h0 rfl hin hd (kk H locs ls hP hS hl)
/-! calls -/
theorem tG_all {ws : List Cond} (h : ∀ w ∈ ws, w ∈ tG) : GoodIn tG ws := fun w hw => ⟨h w hw, good_of_word (List.mem_filter.mp (h w hw)).2⟩
theorem pc_blind {av : List Value} : FrameBlind (PcW E av σ) := fun _ _ _ _ q => ⟨q.1, q.2.1, Kx_call q.2.2⟩
def LkS (own : String) (ix : Nat) (m2 : Mt) (n : Nat) : Prop := Cond.methodLink own ix m2.1 ∈ tG ∧ Cond.static m2.1 ∈ tG ∧ Cond.initialized m2.1.cls ∈ tG ∧ Cond.code m2.1 m2.2.1 m2.2.2.1 m2.2.2.2 ∈ tG ∧ (m2.1.cls ≠ "java/lang/invoke/MethodHandle" ∧ m2.1.cls ≠ "java/lang/invoke/VarHandle" ∧ (parseMethodDescriptor m2.1.desc).map (fun d => d.parameters.length) = some n) ∧ m2.2.2.1 ≤ 17
def LkN (own : String) (ix : Nat) (m2 : Mt) (n : Nat) : Prop := (∀ U, kNw U → va_Nw (.methodLinkNest own ix m2.1 RX4) U) ∧ Cond.static m2.1 ∈ tG ∧ Cond.initialized m2.1.cls ∈ tG ∧ Cond.code m2.1 m2.2.1 m2.2.2.1 m2.2.2.2 ∈ tG ∧ (m2.1.cls ≠ "java/lang/invoke/MethodHandle" ∧ m2.1.cls ≠ "java/lang/invoke/VarHandle" ∧ (parseMethodDescriptor m2.1.desc).map (fun d => d.parameters.length) = some n) ∧ m2.2.2.1 ≤ 17
def LkV (own : String) (ix ci : Nat) (m2 : Mt) (n : Nat) : Prop := (∃ (T : u_T) (N : Nat), vwCl[ci]? = some (m2.1.cls, T, N)) ∧ Cond.methodLink own ix m2.1 ∈ tG ∧ Cond.instanceMethod m2.1 ∈ tG ∧ Cond.selects m2.1.cls m2.1 m2.1 ∈ tG ∧ Cond.initialized m2.1.cls ∈ tG ∧ Cond.code m2.1 m2.2.1 m2.2.2.1 m2.2.2.2 ∈ tG ∧ (m2.1.cls ≠ "java/lang/invoke/MethodHandle" ∧ m2.1.cls ≠ "java/lang/invoke/VarHandle" ∧ (parseMethodDescriptor m2.1.desc).map (fun d => d.parameters.length) = some n) ∧ m2.2.2.1 ≤ 17
theorem gw_run {av : List Value} {r : Option Value} {σ1 : Sg} {st : List Value} {H : Heap} {locs : List Loc} {ls : Array Slot} {a : Array Value}
    (run : va_Run (fP fr) (eL E) (fE fr) (fR fr) (fS fr) (fM fr) (fA fr) (fB fr) (fT fr) (fC fr) H locs (fc fr) (fs fr) 0 0 (F0 (fM fr) pc ls st) rest (QcW E r σ1 a) (eX E)) (hS : va_S (eX E) (fS fr).heap H locs) (hl : lv_has ls nL lv) (k : GW E fr nL (pc + 3) lv (r.toList ++ rest) σ1) :
    W (fP fr) (eL E) (fE fr) (fR fr) (fS fr) (fM fr) (fA fr) (fB fr) (fT fr) (fC fr) H locs (fc fr) (fs fr) (fQ fr) (F0 (fM fr) pc ls st) := by
  intro T hT X
  obtain ⟨v, st₀, t, T', L, h0, X', hL, e1, e2, ⟨⟨hv, hPt⟩, hz, hk⟩, stp⟩ := run T hT X
  cases hv
  rw [h0] at hz hk
  have hS' : va_S (eX E) (fS fr).heap T'.heap (locs ++ L) := by
    refine ⟨by rw [e1]; exact Nat.le_trans hS.1 hz, fun q h1 h2 => ?_, fun q hq => ?_⟩
    · rw [e1, hk q (Nat.lt_of_lt_of_le h1 hS.1) h2]
      exact hS.2.1 q h1 h2
    · rcases List.mem_append.mp hq with h | h
      · exact hS.2.2 q h
      · exact hL q h
  obtain ⟨t2, a1, b1⟩ := k T'.heap (locs ++ L) ls (by rw [e1]; exact hPt) hS' hl T' rfl X'
  exact ⟨t2, stp t2 a1, b1⟩
theorem gw_cS {m2 : Mt} {d2 : Nat} {av : List Value} {r : Option Value} {σ1 : Sg} {st : List Value} {ix : Nat} (cx : Cx E mt d fr) (hc : Con E m2 d2 av σ r σ1) (hd2 : d2 + 1 ≤ d) (hk : LkS mt.1.cls ix m2 av.length) (hd : decode mt.2.1 pc = .ok (.invokestatic ix, 3)) (hst : st = av.reverse ++ rest) (hrm : (rest.map fun v => v.category).sum ≤ 8) (hp : pc + 3 = pc') (k : GW E fr mt.2.2.1 pc' lv (r.toList ++ rest) σ1) : GW E fr mt.2.2.1 pc lv st σ := by
  subst hp
  subst hst
  obtain ⟨k1, k2, k3, k4, k5, k6⟩ := hk
  obtain ⟨hx, hb, hml, hown, hts, hK, hfr, hlo, hcl, hsl⟩ := cx
  intro H locs ls hP hS hl
  refine gw_run (av := av) (va_runS (As := av) ⟨hx, hb, hml, hown, hts⟩ hc (va_cwS av.length hts (tG_all ?_) rfl rfl rfl k5 ⟨Nat.le_trans hd2 hfr, ?_⟩) ⟨pc_blind, fun U hU hW => ⟨rfl, by rw [hU]; exact hP, Kx_warm hW (by rw [hU]; exact hS.2.1) hK⟩⟩ rfl rfl hl.1 rfl (lv_room hrm) hd ⟨hcl, hsl⟩) hS hl k
  · intro w hw
    simp only [va_wsS, List.mem_append, List.mem_cons, List.not_mem_nil, or_false] at hw
    rcases hw with (rfl | rfl | rfl) | rfl | hw
    · exact k1
    · exact k2
    · exact k3
    · exact k4
    · exact hw
  · show 8 + (m2.2.2.1 + 11) + 36 * d2 ≤ _
    omega
theorem gw_cN {m2 : Mt} {d2 : Nat} {av : List Value} {r : Option Value} {σ1 : Sg} {st : List Value} {ix : Nat} (cx : Cx E mt d fr) (hc : Con E m2 d2 av σ r σ1) (hd2 : d2 + 1 ≤ d) (hk : LkN mt.1.cls ix m2 av.length) (hd : decode mt.2.1 pc = .ok (.invokestatic ix, 3)) (hst : st = av.reverse ++ rest) (hrm : (rest.map fun v => v.category).sum ≤ 8) (hp : pc + 3 = pc') (k : GW E fr mt.2.2.1 pc' lv (r.toList ++ rest) σ1) : GW E fr mt.2.2.1 pc lv st σ := by
  subst hp
  subst hst
  obtain ⟨k1, k2, k3, k4, k5, k6⟩ := hk
  obtain ⟨hx, hb, hml, hown, hts, hK, hfr, hlo, hcl, hsl⟩ := cx
  intro H locs ls hP hS hl
  refine gw_run (av := av) (va_runSN (As := av) ⟨hx, hb, hml, hown, hts⟩ hc ⟨va_cnB av.length hts (tG_all ?_) rfl rfl rfl (k1 _ hK.2.2.1) (hts _ k3) k5 ⟨Nat.le_trans hd2 hfr, ?_⟩, hts _ k2, trivial⟩ ⟨pc_blind, fun U hU hW => ⟨rfl, by rw [hU]; exact hP, Kx_warm hW (by rw [hU]; exact hS.2.1) hK⟩⟩ rfl rfl hl.1 rfl (lv_room hrm) hd ⟨hcl, hsl⟩) hS hl k
  · intro w hw
    rcases List.mem_cons.mp hw with rfl | hw
    · exact k4
    · exact hw
  · show 8 + (m2.2.2.1 + 11) + 36 * d2 ≤ _
    omega
theorem gw_cV {m2 : Mt} {d2 : Nat} {av : List Value} {r : Option Value} {σ1 : Sg} {st : List Value} {ix ci kc : Nat} {fs : List (Option Nat)} (cx : Cx E mt d fr) (hc : Con E m2 d2 (.ref (eA E kc) :: av) σ r σ1) (hs : At kc (.inl (ci, fs))) (hd2 : d2 + 1 ≤ d) (hk : LkV mt.1.cls ix ci m2 av.length) (hd : decode mt.2.1 pc = .ok (.invokevirtual ix, 3)) (hst : st = av.reverse ++ .ref (eA E kc) :: rest) (hrm : (rest.map fun v => v.category).sum ≤ 8) (hp : pc + 3 = pc') (k : GW E fr mt.2.2.1 pc' lv (r.toList ++ rest) σ1) : GW E fr mt.2.2.1 pc lv st σ := by
  subst hp
  subst hst
  obtain ⟨⟨T0, N0, k0⟩, k1, k2, k3, k4, k5, k6, k7⟩ := hk
  obtain ⟨hx, hb, hml, hown, hts, hK, hfr, hlo, hcl, hsl⟩ := cx
  intro H locs ls hP hS hl
  refine gw_run (av := av) (va_runV (As := av) (b := eA E kc) ⟨hx, hb, hml, hown, hts⟩ hc (cwV av.length hts (tG_all ?_) rfl rfl rfl ⟨rfl, k6⟩ ⟨Nat.le_trans hd2 hfr, ?_⟩) ⟨pc_blind, va_recv hK.1 hP k0 (at_E hs), fun U hU hW => ⟨rfl, by rw [hU]; exact hP, Kx_warm hW (by rw [hU]; exact hS.2.1) hK⟩⟩ rfl rfl hl.1 rfl (lv_room hrm) hd ⟨hcl, hsl⟩) hS hl k
  · intro w hw
    simp only [wsV, List.mem_append, List.mem_cons, List.not_mem_nil, or_false] at hw
    rcases hw with (rfl | rfl | rfl | rfl) | rfl | hw
    · exact k1
    · exact k2
    · exact k3
    · exact k4
    · exact k5
    · exact hw
  · show 8 + (m2.2.2.1 + 11) + 36 * d2 ≤ _
    omega
/-- System.arraycopy between two rows of ints -/
def LkC (own : String) (ix : Nat) : Prop := Cond.methodLink own ix arraycopyName ∈ tG ∧ Cond.native arraycopyName ∈ tG ∧ Cond.static arraycopyName ∈ tG ∧ Cond.initialized "java/lang/System" ∈ tG
def cpyOk (sp dp n : Int32) (n0 n1 : Nat) : Prop := ¬ sp < 0 ∧ ¬ dp < 0 ∧ ¬ n < 0 ∧ sp.toNatClampNeg + n.toNatClampNeg ≤ n0 ∧ dp.toNatClampNeg + n.toNatClampNeg ≤ n1
def cpyR (σ : Sg) (k0 k1 : Nat) (sp dp n : Int32) : Sg := upr σ k1 (va_cpy (σ k0) (σ k1) sp.toNatClampNeg dp.toNatClampNeg n.toNatClampNeg)
theorem upr_o {k : Nat} {r : Nat → Int32} (j : Nat) (h : j ≠ k) : upr σ k r j = σ j := by simp [upr, h]
theorem upr_k (k : Nat) (r : Nat → Int32) : upr σ k r k = r := by simp [upr]
theorem gw_copy {k0 k1 n0 n1 ix : Nat} {sp dp n : Int32} {σ1 : Sg} (cx : Cx E mt d fr) (hs0 : At k0 (.inr (n0, none))) (hs1 : At k1 (.inr (n1, none))) (hk : LkC mt.1.cls ix) (hok : cpyOk sp dp n n0 n1) (h1d : 1 ≤ d) (hrm : (rest.map fun v => v.category).sum ≤ 8) (hd : decode mt.2.1 pc = .ok (.invokestatic ix, 3)) (hp : pc + 3 = pc') (hσ : σ1 = cpyR σ k0 k1 sp dp n) (kk : GW E fr mt.2.2.1 pc' lv rest σ1) : GW E fr mt.2.2.1 pc lv (.int n :: .int dp :: .ref (eA E k1) :: .int sp :: .ref (eA E k0) :: rest) σ := by
  subst hp
  subst hσ
  obtain ⟨c1, c2, c3, c4⟩ := hk
  obtain ⟨o1, o2, o3, o4, o5⟩ := hok
  obtain ⟨hx, hb, hml, hown, hts, hK, hfr, hlo, hcl, hsl⟩ := cx
  intro H locs ls hP hS hl
  refine va_copyi hx hb (hml.trans hl.1.symm) hown (hts _ c1) (hts _ c2) (hts _ c3) (hts _ c4) hK.1 hP (wl_D hK.2.1 σ) hS k0 k1 0 0 (at_E hs0) (at_E hs1) rfl rfl rfl o1 o2 o3 o4 o5 (fun _ _ => rfl) (by omega) ?_ hd (fun H1 locs1 hP1 _ hS1 => kk H1 locs1 ls ?_ hS1 hl)
  · have e : nativeFrameWords "java/lang/System" "arraycopy" 5 = 7 := by decide +kernel
    rw [e]
    omega
  · rw [wl_set (σ' := cpyR σ k0 k1 sp dp n) ?_ (fun j hj => upr_o j hj)] at hP1
    · exact hP1
    · rw [cE, hs1.2, cpyR, upr_k]
      rfl
/-! ends -/
theorem gw_iret {v : Int32} {σ' : Sg} {r : Option Value} (cx : Cx E mt d fr) (tg : Tg E fr (some .int) r σ') (hr : r = some (.int v)) (hσ : σ' = σ) (hd : decode mt.2.1 pc = .ok (.ireturn, 1)) : GW E fr nL pc lv [.int v] σ := by
  subst hr
  subst hσ
  obtain ⟨t1, t2, t3⟩ := tg
  intro H locs ls hP hS hl
  rw [t3]
  exact W.iret cx.1 cx.2.1 t1 (fun t ht _ => ⟨⟨rfl, by rw [ht]; exact hP⟩, hS.F ht⟩) hS.2.2 hd t2
theorem gw_zret {v : Int32} {σ' : Sg} {r : Option Value} (cx : Cx E mt d fr) (tg : Tg E fr (some .boolean) r σ') (hb : v = 0 ∨ v = 1) (hr : r = some (.int v)) (hσ : σ' = σ) (hd : decode mt.2.1 pc = .ok (.ireturn, 1)) : GW E fr nL pc lv [.int v] σ := by
  subst hr
  subst hσ
  obtain ⟨t1, t2, t3⟩ := tg
  intro H locs ls hP hS hl
  rw [t3]
  exact W.zret cx.1 cx.2.1 t1 (by rcases hb with rfl | rfl <;> rfl) (fun t ht _ => ⟨⟨rfl, by rw [ht]; exact hP⟩, hS.F ht⟩) hS.2.2 hd t2
theorem gw_lret {v : Int64} {σ' : Sg} {r : Option Value} (cx : Cx E mt d fr) (tg : Tg E fr (some .long) r σ') (hr : r = some (.long v)) (hσ : σ' = σ) (hd : decode mt.2.1 pc = .ok (.lreturn, 1)) : GW E fr nL pc lv [.long v] σ := by
  subst hr
  subst hσ
  obtain ⟨t1, t2, t3⟩ := tg
  intro H locs ls hP hS hl
  rw [t3]
  exact W.lret cx.1 cx.2.1 t1 (fun t ht _ => ⟨⟨rfl, by rw [ht]; exact hP⟩, hS.F ht⟩) hS.2.2 hd t2
theorem gw_vret {σ' : Sg} {r : Option Value} (cx : Cx E mt d fr) (tg : Tg E fr none r σ') (hr : r = none) (hσ : σ' = σ) (hd : decode mt.2.1 pc = .ok (.return_, 1)) : GW E fr nL pc lv [] σ := by
  subst hr
  subst hσ
  obtain ⟨t1, t2, t3⟩ := tg
  intro H locs ls hP hS hl
  rw [t3]
  exact W.vret cx.1 cx.2.1 t1 (fun t ht _ => ⟨⟨rfl, by rw [ht]; exact hP⟩, hS.F ht⟩) hS.2.2 hd t2
/-! the static row ABOVE, read by a nest mate -/
theorem gw_above {ix : Nat} (cx : Cx E mt d fr) (hk : ∀ U, kNw U → va_Nw (.fieldLinkNest mt.1.cls ix RX4 "ABOVE" "[I" RX4) U) (hd : decode mt.2.1 pc = .ok (.getstatic ix, 3)) (hp : pc + 3 = pc') (kk : GW E fr nL pc' lv (.ref (eT E) :: rest) σ) : GW E fr nL pc lv rest σ := by
  subst hp
  obtain ⟨hx, hb, hml, hown, hts, hK, hfr, hlo, hcl, hsl⟩ := cx
  obtain ⟨cf, kf, fi, f, a, cell, h1, h2, h3, h4, h5, h6, h7, h8⟩ := hK.2.2.2.1.2.2.1
  have hlink := va_Nw.use (A := fA fr) rfl (hk _ hK.2.2.1)
  intro H locs ls hP hS hl T hT X
  obtain ⟨vm', X', st⟩ := X.getstaticNest hx hown hlink h1 h2 h3 h4 (cell₁ := cell) (v := .ref (eT E)) (by rw [hT, hS.2.1 a (Array.getElem?_eq_some_iff.mp h5).1 h8]; exact h5) (fun e => by rw [e] at h6; cases h6) h7 (g := F0 (fM fr) pc ls rest) rfl (by rw [hb]; exact hd)
  obtain ⟨t, a1, b1⟩ := kk H locs ls hP hS hl (T.setVm vm') hT X'
  exact ⟨t, st t a1, b1⟩
theorem gw_abld {i : Int32} (cx : Cx E mt d fr) (hin : vp_in i 7) (hd : decode mt.2.1 pc = .ok (.iaload, 1)) (hp : pc + 1 = pc') (kk : GW E fr nL pc' lv (.int (abv.getD i.toNatClampNeg 0) :: rest) σ) : GW E fr nL pc lv (.int i :: .ref (eT E) :: rest) σ := by
  subst hp
  exact fun H locs ls hP hS hl => va_ti cx.1 cx.2.1 cx.2.2.2.2.2.1.2.2.2.1.2.2.2.1 hS hin rfl hd (kk H locs ls hP hS hl)
end RUL
end
section
/-! the tables' words, by their places; methods, links -/
theorem kI_X0 : Cond.initialized RX0 ∈ tG := tG_of 2 (by decide +kernel) (by decide +kernel)
theorem kI_X1 : Cond.initialized RX1 ∈ tG := tG_of 3 (by decide +kernel) (by decide +kernel)
theorem kI_X2 : Cond.initialized RX2 ∈ tG := tG_of 4 (by decide +kernel) (by decide +kernel)
theorem kI_X3 : Cond.initialized RX3 ∈ tG := tG_of 5 (by decide +kernel) (by decide +kernel)
theorem kI_X4 : Cond.initialized RX4 ∈ tG := tG_of 1 (by decide +kernel) (by decide +kernel)
theorem kI_X5 : Cond.initialized RX5 ∈ tG := tG_of 6 (by decide +kernel) (by decide +kernel)
theorem kI_J6 : Cond.initialized RJ6 ∈ tG := tG_of 9 (by decide +kernel) (by decide +kernel)
theorem kI_J9 : Cond.initialized RJ9 ∈ tG := tG_of 7 (by decide +kernel) (by decide +kernel)
theorem kI_J0 : Cond.initialized RJ0 ∈ tG := tG_of 10 (by decide +kernel) (by decide +kernel)
theorem kI_J1 : Cond.initialized RJ1 ∈ tG := tG_of 11 (by decide +kernel) (by decide +kernel)
theorem kI_J2 : Cond.initialized RJ2 ∈ tG := tG_of 13 (by decide +kernel) (by decide +kernel)
theorem kI_J10 : Cond.initialized RJ10 ∈ tG := tG_of 8 (by decide +kernel) (by decide +kernel)
theorem kI_J3 : Cond.initialized RJ3 ∈ tG := tG_of 12 (by decide +kernel) (by decide +kernel)
theorem iX0 : ∀ w ∈ u_ws RX0 TX0 8, w ∈ tG := by
  intro w hw
  obtain ⟨k, hk, rfl⟩ := List.mem_map.mp hw
  have hk := List.mem_range.mp hk
  match k, hk with
  | 0, _ => exact tG_of 77 (by decide +kernel) (by decide +kernel)
  | 1, _ => exact tG_of 79 (by decide +kernel) (by decide +kernel)
  | 2, _ => exact tG_of 81 (by decide +kernel) (by decide +kernel)
  | 3, _ => exact tG_of 83 (by decide +kernel) (by decide +kernel)
  | 4, _ => exact tG_of 85 (by decide +kernel) (by decide +kernel)
  | 5, _ => exact tG_of 87 (by decide +kernel) (by decide +kernel)
  | 6, _ => exact tG_of 89 (by decide +kernel) (by decide +kernel)
  | 7, _ => exact tG_of 91 (by decide +kernel) (by decide +kernel)
  | k + 8, hk => omega
theorem iX1 : ∀ w ∈ u_ws RX1 TX1 5, w ∈ tG := by
  intro w hw
  obtain ⟨k, hk, rfl⟩ := List.mem_map.mp hw
  have hk := List.mem_range.mp hk
  match k, hk with
  | 0, _ => exact tG_of 46 (by decide +kernel) (by decide +kernel)
  | 1, _ => exact tG_of 48 (by decide +kernel) (by decide +kernel)
  | 2, _ => exact tG_of 50 (by decide +kernel) (by decide +kernel)
  | 3, _ => exact tG_of 52 (by decide +kernel) (by decide +kernel)
  | 4, _ => exact tG_of 54 (by decide +kernel) (by decide +kernel)
  | k + 5, hk => omega
theorem iX2 : ∀ w ∈ u_ws RX2 TX2 6, w ∈ tG := by
  intro w hw
  obtain ⟨k, hk, rfl⟩ := List.mem_map.mp hw
  have hk := List.mem_range.mp hk
  match k, hk with
  | 0, _ => exact tG_of 107 (by decide +kernel) (by decide +kernel)
  | 1, _ => exact tG_of 109 (by decide +kernel) (by decide +kernel)
  | 2, _ => exact tG_of 111 (by decide +kernel) (by decide +kernel)
  | 3, _ => exact tG_of 113 (by decide +kernel) (by decide +kernel)
  | 4, _ => exact tG_of 115 (by decide +kernel) (by decide +kernel)
  | 5, _ => exact tG_of 117 (by decide +kernel) (by decide +kernel)
  | k + 6, hk => omega
theorem iX3 : ∀ w ∈ u_ws RX3 TX3 3, w ∈ tG := by
  intro w hw
  obtain ⟨k, hk, rfl⟩ := List.mem_map.mp hw
  have hk := List.mem_range.mp hk
  match k, hk with
  | 0, _ => exact tG_of 133 (by decide +kernel) (by decide +kernel)
  | 1, _ => exact tG_of 135 (by decide +kernel) (by decide +kernel)
  | 2, _ => exact tG_of 137 (by decide +kernel) (by decide +kernel)
  | k + 3, hk => omega
theorem iX4 : ∀ w ∈ u_ws RX4 TX4 7, w ∈ tG := by
  intro w hw
  obtain ⟨k, hk, rfl⟩ := List.mem_map.mp hw
  have hk := List.mem_range.mp hk
  match k, hk with
  | 0, _ => exact tG_of 147 (by decide +kernel) (by decide +kernel)
  | 1, _ => exact tG_of 149 (by decide +kernel) (by decide +kernel)
  | 2, _ => exact tG_of 151 (by decide +kernel) (by decide +kernel)
  | 3, _ => exact tG_of 153 (by decide +kernel) (by decide +kernel)
  | 4, _ => exact tG_of 155 (by decide +kernel) (by decide +kernel)
  | 5, _ => exact tG_of 157 (by decide +kernel) (by decide +kernel)
  | 6, _ => exact tG_of 159 (by decide +kernel) (by decide +kernel)
  | k + 7, hk => omega
theorem iX5 : ∀ w ∈ u_ws RX5 TX5 18, w ∈ tG := by
  intro w hw
  obtain ⟨k, hk, rfl⟩ := List.mem_map.mp hw
  have hk := List.mem_range.mp hk
  match k, hk with
  | 0, _ => exact tG_of 708 (by decide +kernel) (by decide +kernel)
  | 1, _ => exact tG_of 710 (by decide +kernel) (by decide +kernel)
  | 2, _ => exact tG_of 712 (by decide +kernel) (by decide +kernel)
  | 3, _ => exact tG_of 714 (by decide +kernel) (by decide +kernel)
  | 4, _ => exact tG_of 716 (by decide +kernel) (by decide +kernel)
  | 5, _ => exact tG_of 718 (by decide +kernel) (by decide +kernel)
  | 6, _ => exact tG_of 720 (by decide +kernel) (by decide +kernel)
  | 7, _ => exact tG_of 722 (by decide +kernel) (by decide +kernel)
  | 8, _ => exact tG_of 724 (by decide +kernel) (by decide +kernel)
  | 9, _ => exact tG_of 726 (by decide +kernel) (by decide +kernel)
  | 10, _ => exact tG_of 728 (by decide +kernel) (by decide +kernel)
  | 11, _ => exact tG_of 730 (by decide +kernel) (by decide +kernel)
  | 12, _ => exact tG_of 732 (by decide +kernel) (by decide +kernel)
  | 13, _ => exact tG_of 734 (by decide +kernel) (by decide +kernel)
  | 14, _ => exact tG_of 736 (by decide +kernel) (by decide +kernel)
  | 15, _ => exact tG_of 738 (by decide +kernel) (by decide +kernel)
  | 16, _ => exact tG_of 740 (by decide +kernel) (by decide +kernel)
  | 17, _ => exact tG_of 742 (by decide +kernel) (by decide +kernel)
  | k + 18, hk => omega
def mX0_init : Mt := (yX0_init, cX0_init, 2, none)
theorem kC_X0_init : Cond.code yX0_init cX0_init 2 none ∈ tG := tG_of 26 (by decide +kernel) (by decide +kernel)
theorem kN_X0_init : Cond.instanceMethod yX0_init ∈ tG := tG_of 25 (by decide +kernel) (by decide +kernel)
def mX0_become : Mt := (yX0_become, cX0_become, 3, none)
theorem kC_X0_become : Cond.code yX0_become cX0_become 3 none ∈ tG := tG_of 335 (by decide +kernel) (by decide +kernel)
theorem kN_X0_become : Cond.instanceMethod yX0_become ∈ tG := tG_of 333 (by decide +kernel) (by decide +kernel)
theorem kL_X0_become : Cond.selects yX0_become.cls yX0_become yX0_become ∈ tG := tG_of 334 (by decide +kernel) (by decide +kernel)
def mX0_has : Mt := (yX0_has, cX0_has, 2, (some .boolean))
theorem kC_X0_has : Cond.code yX0_has cX0_has 2 (some .boolean) ∈ tG := tG_of 201 (by decide +kernel) (by decide +kernel)
theorem kN_X0_has : Cond.instanceMethod yX0_has ∈ tG := tG_of 199 (by decide +kernel) (by decide +kernel)
theorem kL_X0_has : Cond.selects yX0_has.cls yX0_has yX0_has ∈ tG := tG_of 200 (by decide +kernel) (by decide +kernel)
def mX0_add : Mt := (yX0_add, cX0_add, 3, (some .int))
theorem kC_X0_add : Cond.code yX0_add cX0_add 3 (some .int) ∈ tG := tG_of 189 (by decide +kernel) (by decide +kernel)
theorem kN_X0_add : Cond.instanceMethod yX0_add ∈ tG := tG_of 187 (by decide +kernel) (by decide +kernel)
theorem kL_X0_add : Cond.selects yX0_add.cls yX0_add yX0_add ∈ tG := tG_of 188 (by decide +kernel) (by decide +kernel)
def mX0_sumOf : Mt := (yX0_sumOf, cX0_sumOf, 4, (some .int))
theorem kC_X0_sumOf : Cond.code yX0_sumOf cX0_sumOf 4 (some .int) ∈ tG := tG_of 313 (by decide +kernel) (by decide +kernel)
theorem kN_X0_sumOf : Cond.instanceMethod yX0_sumOf ∈ tG := tG_of 311 (by decide +kernel) (by decide +kernel)
theorem kL_X0_sumOf : Cond.selects yX0_sumOf.cls yX0_sumOf yX0_sumOf ∈ tG := tG_of 312 (by decide +kernel) (by decide +kernel)
def mX0_owedSet : Mt := (yX0_owedSet, cX0_owedSet, 3, (some .int))
theorem kC_X0_owedSet : Cond.code yX0_owedSet cX0_owedSet 3 (some .int) ∈ tG := tG_of 322 (by decide +kernel) (by decide +kernel)
theorem kN_X0_owedSet : Cond.instanceMethod yX0_owedSet ∈ tG := tG_of 320 (by decide +kernel) (by decide +kernel)
theorem kL_X0_owedSet : Cond.selects yX0_owedSet.cls yX0_owedSet yX0_owedSet ∈ tG := tG_of 321 (by decide +kernel) (by decide +kernel)
def mX0_isEven : Mt := (yX0_isEven, cX0_isEven, 1, (some .boolean))
theorem kC_X0_isEven : Cond.code yX0_isEven cX0_isEven 1 (some .boolean) ∈ tG := tG_of 326 (by decide +kernel) (by decide +kernel)
theorem kN_X0_isEven : Cond.instanceMethod yX0_isEven ∈ tG := tG_of 324 (by decide +kernel) (by decide +kernel)
theorem kL_X0_isEven : Cond.selects yX0_isEven.cls yX0_isEven yX0_isEven ∈ tG := tG_of 325 (by decide +kernel) (by decide +kernel)
def mX0_withRoom : Mt := (yX0_withRoom, cX0_withRoom, 3, (some .int))
theorem kC_X0_withRoom : Cond.code yX0_withRoom cX0_withRoom 3 (some .int) ∈ tG := tG_of 470 (by decide +kernel) (by decide +kernel)
theorem kN_X0_withRoom : Cond.instanceMethod yX0_withRoom ∈ tG := tG_of 468 (by decide +kernel) (by decide +kernel)
theorem kL_X0_withRoom : Cond.selects yX0_withRoom.cls yX0_withRoom yX0_withRoom ∈ tG := tG_of 469 (by decide +kernel) (by decide +kernel)
def mX0_spotsInUse : Mt := (yX0_spotsInUse, cX0_spotsInUse, 3, (some .int))
theorem kC_X0_spotsInUse : Cond.code yX0_spotsInUse cX0_spotsInUse 3 (some .int) ∈ tG := tG_of 679 (by decide +kernel) (by decide +kernel)
theorem kN_X0_spotsInUse : Cond.instanceMethod yX0_spotsInUse ∈ tG := tG_of 677 (by decide +kernel) (by decide +kernel)
theorem kL_X0_spotsInUse : Cond.selects yX0_spotsInUse.cls yX0_spotsInUse yX0_spotsInUse ∈ tG := tG_of 678 (by decide +kernel) (by decide +kernel)
def mX0_roomiestBut : Mt := (yX0_roomiestBut, cX0_roomiestBut, 6, (some .int))
theorem kC_X0_roomiestBut : Cond.code yX0_roomiestBut cX0_roomiestBut 6 (some .int) ∈ tG := tG_of 254 (by decide +kernel) (by decide +kernel)
theorem kN_X0_roomiestBut : Cond.instanceMethod yX0_roomiestBut ∈ tG := tG_of 252 (by decide +kernel) (by decide +kernel)
theorem kL_X0_roomiestBut : Cond.selects yX0_roomiestBut.cls yX0_roomiestBut yX0_roomiestBut ∈ tG := tG_of 253 (by decide +kernel) (by decide +kernel)
def mX0_bears : Mt := (yX0_bears, cX0_bears, 3, (some .boolean))
theorem kC_X0_bears : Cond.code yX0_bears cX0_bears 3 (some .boolean) ∈ tG := tG_of 259 (by decide +kernel) (by decide +kernel)
theorem kN_X0_bears : Cond.instanceMethod yX0_bears ∈ tG := tG_of 257 (by decide +kernel) (by decide +kernel)
theorem kL_X0_bears : Cond.selects yX0_bears.cls yX0_bears yX0_bears ∈ tG := tG_of 258 (by decide +kernel) (by decide +kernel)
def mX0_nextWhom : Mt := (yX0_nextWhom, cX0_nextWhom, 1, (some .int))
theorem kC_X0_nextWhom : Cond.code yX0_nextWhom cX0_nextWhom 1 (some .int) ∈ tG := tG_of 283 (by decide +kernel) (by decide +kernel)
theorem kN_X0_nextWhom : Cond.instanceMethod yX0_nextWhom ∈ tG := tG_of 281 (by decide +kernel) (by decide +kernel)
theorem kL_X0_nextWhom : Cond.selects yX0_nextWhom.cls yX0_nextWhom yX0_nextWhom ∈ tG := tG_of 282 (by decide +kernel) (by decide +kernel)
def mX0_nextWeight : Mt := (yX0_nextWeight, cX0_nextWeight, 1, (some .int))
theorem kC_X0_nextWeight : Cond.code yX0_nextWeight cX0_nextWeight 1 (some .int) ∈ tG := tG_of 287 (by decide +kernel) (by decide +kernel)
theorem kN_X0_nextWeight : Cond.instanceMethod yX0_nextWeight ∈ tG := tG_of 285 (by decide +kernel) (by decide +kernel)
theorem kL_X0_nextWeight : Cond.selects yX0_nextWeight.cls yX0_nextWeight yX0_nextWeight ∈ tG := tG_of 286 (by decide +kernel) (by decide +kernel)
def mX0_setNext : Mt := (yX0_setNext, cX0_setNext, 3, none)
theorem kC_X0_setNext : Cond.code yX0_setNext cX0_setNext 3 none ∈ tG := tG_of 373 (by decide +kernel) (by decide +kernel)
theorem kN_X0_setNext : Cond.instanceMethod yX0_setNext ∈ tG := tG_of 371 (by decide +kernel) (by decide +kernel)
theorem kL_X0_setNext : Cond.selects yX0_setNext.cls yX0_setNext yX0_setNext ∈ tG := tG_of 372 (by decide +kernel) (by decide +kernel)
def mX0_draw : Mt := (yX0_draw, cX0_draw, 1, (some .int))
theorem kC_X0_draw : Cond.code yX0_draw cX0_draw 1 (some .int) ∈ tG := tG_of 461 (by decide +kernel) (by decide +kernel)
theorem kN_X0_draw : Cond.instanceMethod yX0_draw ∈ tG := tG_of 459 (by decide +kernel) (by decide +kernel)
theorem kL_X0_draw : Cond.selects yX0_draw.cls yX0_draw yX0_draw ∈ tG := tG_of 460 (by decide +kernel) (by decide +kernel)
def mX0_passDays : Mt := (yX0_passDays, cX0_passDays, 3, none)
theorem kC_X0_passDays : Cond.code yX0_passDays cX0_passDays 3 none ∈ tG := tG_of 271 (by decide +kernel) (by decide +kernel)
theorem kN_X0_passDays : Cond.instanceMethod yX0_passDays ∈ tG := tG_of 269 (by decide +kernel) (by decide +kernel)
theorem kL_X0_passDays : Cond.selects yX0_passDays.cls yX0_passDays yX0_passDays ∈ tG := tG_of 270 (by decide +kernel) (by decide +kernel)
def mX0_isEvenWithin : Mt := (yX0_isEvenWithin, cX0_isEvenWithin, 3, (some .boolean))
theorem kC_X0_isEvenWithin : Cond.code yX0_isEvenWithin cX0_isEvenWithin 3 (some .boolean) ∈ tG := tG_of 383 (by decide +kernel) (by decide +kernel)
theorem kN_X0_isEvenWithin : Cond.instanceMethod yX0_isEvenWithin ∈ tG := tG_of 381 (by decide +kernel) (by decide +kernel)
theorem kL_X0_isEvenWithin : Cond.selects yX0_isEvenWithin.cls yX0_isEvenWithin yX0_isEvenWithin ∈ tG := tG_of 382 (by decide +kernel) (by decide +kernel)
def mX0_keepsHints : Mt := (yX0_keepsHints, cX0_keepsHints, 4, (some .boolean))
theorem kC_X0_keepsHints : Cond.code yX0_keepsHints cX0_keepsHints 4 (some .boolean) ∈ tG := tG_of 392 (by decide +kernel) (by decide +kernel)
theorem kN_X0_keepsHints : Cond.instanceMethod yX0_keepsHints ∈ tG := tG_of 390 (by decide +kernel) (by decide +kernel)
theorem kL_X0_keepsHints : Cond.selects yX0_keepsHints.cls yX0_keepsHints yX0_keepsHints ∈ tG := tG_of 391 (by decide +kernel) (by decide +kernel)
def mX0_passDay : Mt := (yX0_passDay, cX0_passDay, 2, none)
theorem kC_X0_passDay : Cond.code yX0_passDay cX0_passDay 2 none ∈ tG := tG_of 275 (by decide +kernel) (by decide +kernel)
theorem kN_X0_passDay : Cond.instanceMethod yX0_passDay ∈ tG := tG_of 273 (by decide +kernel) (by decide +kernel)
theorem kL_X0_passDay : Cond.selects yX0_passDay.cls yX0_passDay yX0_passDay ∈ tG := tG_of 274 (by decide +kernel) (by decide +kernel)
def mX0_tellSaying : Mt := (yX0_tellSaying, cX0_tellSaying, 3, none)
theorem kC_X0_tellSaying : Cond.code yX0_tellSaying cX0_tellSaying 3 none ∈ tG := tG_of 279 (by decide +kernel) (by decide +kernel)
theorem kN_X0_tellSaying : Cond.instanceMethod yX0_tellSaying ∈ tG := tG_of 278 (by decide +kernel) (by decide +kernel)
theorem kL_X0_tellSaying : Cond.selects yX0_tellSaying.cls yX0_tellSaying yX0_tellSaying ∈ tG := tG_pr (q := (yX0_tellSaying, 8)) 2 (by decide +kernel)
def mX0_serve : Mt := (yX0_serve, cX0_serve, 5, none)
theorem kC_X0_serve : Cond.code yX0_serve cX0_serve 5 none ∈ tG := tG_of 299 (by decide +kernel) (by decide +kernel)
theorem kN_X0_serve : Cond.instanceMethod yX0_serve ∈ tG := tG_of 298 (by decide +kernel) (by decide +kernel)
theorem kL_X0_serve : Cond.selects yX0_serve.cls yX0_serve yX0_serve ∈ tG := tG_pr (q := (yX0_serve, 8)) 3 (by decide +kernel)
def mX1_init : Mt := (yX1_init, cX1_init, 1, none)
theorem kC_X1_init : Cond.code yX1_init cX1_init 1 none ∈ tG := tG_of 33 (by decide +kernel) (by decide +kernel)
theorem kN_X1_init : Cond.instanceMethod yX1_init ∈ tG := tG_of 32 (by decide +kernel) (by decide +kernel)
def mX1_begin : Mt := (yX1_begin, cX1_begin, 3, none)
theorem kC_X1_begin : Cond.code yX1_begin cX1_begin 3 none ∈ tG := tG_of 193 (by decide +kernel) (by decide +kernel)
theorem kN_X1_begin : Cond.instanceMethod yX1_begin ∈ tG := tG_of 191 (by decide +kernel) (by decide +kernel)
theorem kL_X1_begin : Cond.selects yX1_begin.cls yX1_begin yX1_begin ∈ tG := tG_of 192 (by decide +kernel) (by decide +kernel)
def mX1_become : Mt := (yX1_become, cX1_become, 2, none)
theorem kC_X1_become : Cond.code yX1_become cX1_become 2 none ∈ tG := tG_of 342 (by decide +kernel) (by decide +kernel)
theorem kN_X1_become : Cond.instanceMethod yX1_become ∈ tG := tG_of 340 (by decide +kernel) (by decide +kernel)
theorem kL_X1_become : Cond.selects yX1_become.cls yX1_become yX1_become ∈ tG := tG_of 341 (by decide +kernel) (by decide +kernel)
def mX1_attribute : Mt := (yX1_attribute, cX1_attribute, 2, (some .int))
theorem kC_X1_attribute : Cond.code yX1_attribute cX1_attribute 2 (some .int) ∈ tG := tG_of 227 (by decide +kernel) (by decide +kernel)
theorem kN_X1_attribute : Cond.instanceMethod yX1_attribute ∈ tG := tG_of 225 (by decide +kernel) (by decide +kernel)
theorem kL_X1_attribute : Cond.selects yX1_attribute.cls yX1_attribute yX1_attribute ∈ tG := tG_of 226 (by decide +kernel) (by decide +kernel)
def mX1_setAttribute : Mt := (yX1_setAttribute, cX1_setAttribute, 3, none)
theorem kC_X1_setAttribute : Cond.code yX1_setAttribute cX1_setAttribute 3 none ∈ tG := tG_of 238 (by decide +kernel) (by decide +kernel)
theorem kN_X1_setAttribute : Cond.instanceMethod yX1_setAttribute ∈ tG := tG_of 236 (by decide +kernel) (by decide +kernel)
theorem kL_X1_setAttribute : Cond.selects yX1_setAttribute.cls yX1_setAttribute yX1_setAttribute ∈ tG := tG_of 237 (by decide +kernel) (by decide +kernel)
def mX1_feeling : Mt := (yX1_feeling, cX1_feeling, 2, (some .int))
theorem kC_X1_feeling : Cond.code yX1_feeling cX1_feeling 2 (some .int) ∈ tG := tG_of 246 (by decide +kernel) (by decide +kernel)
theorem kN_X1_feeling : Cond.instanceMethod yX1_feeling ∈ tG := tG_of 244 (by decide +kernel) (by decide +kernel)
theorem kL_X1_feeling : Cond.selects yX1_feeling.cls yX1_feeling yX1_feeling ∈ tG := tG_of 245 (by decide +kernel) (by decide +kernel)
def mX1_asking : Mt := (yX1_asking, cX1_asking, 2, (some .int))
theorem kC_X1_asking : Cond.code yX1_asking cX1_asking 2 (some .int) ∈ tG := tG_of 205 (by decide +kernel) (by decide +kernel)
theorem kN_X1_asking : Cond.instanceMethod yX1_asking ∈ tG := tG_of 203 (by decide +kernel) (by decide +kernel)
theorem kL_X1_asking : Cond.selects yX1_asking.cls yX1_asking yX1_asking ∈ tG := tG_of 204 (by decide +kernel) (by decide +kernel)
def mX1_mostAsked : Mt := (yX1_mostAsked, cX1_mostAsked, 2, (some .int))
theorem kC_X1_mostAsked : Cond.code yX1_mostAsked cX1_mostAsked 2 (some .int) ∈ tG := tG_of 209 (by decide +kernel) (by decide +kernel)
theorem kN_X1_mostAsked : Cond.instanceMethod yX1_mostAsked ∈ tG := tG_of 208 (by decide +kernel) (by decide +kernel)
theorem kL_X1_mostAsked : Cond.selects yX1_mostAsked.cls yX1_mostAsked yX1_mostAsked ∈ tG := tG_pr (q := (yX1_mostAsked, 5)) 1 (by decide +kernel)
def mX1_room : Mt := (yX1_room, cX1_room, 2, (some .int))
theorem kC_X1_room : Cond.code yX1_room cX1_room 2 (some .int) ∈ tG := tG_of 216 (by decide +kernel) (by decide +kernel)
theorem kN_X1_room : Cond.instanceMethod yX1_room ∈ tG := tG_of 214 (by decide +kernel) (by decide +kernel)
theorem kL_X1_room : Cond.selects yX1_room.cls yX1_room yX1_room ∈ tG := tG_of 215 (by decide +kernel) (by decide +kernel)
def mX1_forgetting : Mt := (yX1_forgetting, cX1_forgetting, 1, (some .int))
theorem kC_X1_forgetting : Cond.code yX1_forgetting cX1_forgetting 1 (some .int) ∈ tG := tG_of 223 (by decide +kernel) (by decide +kernel)
theorem kN_X1_forgetting : Cond.instanceMethod yX1_forgetting ∈ tG := tG_of 221 (by decide +kernel) (by decide +kernel)
theorem kL_X1_forgetting : Cond.selects yX1_forgetting.cls yX1_forgetting yX1_forgetting ∈ tG := tG_of 222 (by decide +kernel) (by decide +kernel)
def mX1_isOfKind : Mt := (yX1_isOfKind, cX1_isOfKind, 4, (some .boolean))
theorem kC_X1_isOfKind : Cond.code yX1_isOfKind cX1_isOfKind 4 (some .boolean) ∈ tG := tG_of 618 (by decide +kernel) (by decide +kernel)
theorem kN_X1_isOfKind : Cond.instanceMethod yX1_isOfKind ∈ tG := tG_of 616 (by decide +kernel) (by decide +kernel)
theorem kL_X1_isOfKind : Cond.selects yX1_isOfKind.cls yX1_isOfKind yX1_isOfKind ∈ tG := tG_of 617 (by decide +kernel) (by decide +kernel)
def mX1_suffer : Mt := (yX1_suffer, cX1_suffer, 3, none)
theorem kC_X1_suffer : Cond.code yX1_suffer cX1_suffer 3 none ∈ tG := tG_of 292 (by decide +kernel) (by decide +kernel)
theorem kN_X1_suffer : Cond.instanceMethod yX1_suffer ∈ tG := tG_of 290 (by decide +kernel) (by decide +kernel)
theorem kL_X1_suffer : Cond.selects yX1_suffer.cls yX1_suffer yX1_suffer ∈ tG := tG_of 291 (by decide +kernel) (by decide +kernel)
def mX1_forget : Mt := (yX1_forget, cX1_forget, 1, none)
theorem kC_X1_forget : Cond.code yX1_forget cX1_forget 1 none ∈ tG := tG_of 308 (by decide +kernel) (by decide +kernel)
theorem kN_X1_forget : Cond.instanceMethod yX1_forget ∈ tG := tG_of 306 (by decide +kernel) (by decide +kernel)
theorem kL_X1_forget : Cond.selects yX1_forget.cls yX1_forget yX1_forget ∈ tG := tG_of 307 (by decide +kernel) (by decide +kernel)
def mX2_init : Mt := (yX2_init, cX2_init, 1, none)
theorem kC_X2_init : Cond.code yX2_init cX2_init 1 none ∈ tG := tG_of 98 (by decide +kernel) (by decide +kernel)
theorem kN_X2_init : Cond.instanceMethod yX2_init ∈ tG := tG_of 97 (by decide +kernel) (by decide +kernel)
def mX2_append : Mt := (yX2_append, cX2_append, 2, none)
theorem kC_X2_append : Cond.code yX2_append cX2_append 2 none ∈ tG := tG_of 485 (by decide +kernel) (by decide +kernel)
theorem kN_X2_append : Cond.instanceMethod yX2_append ∈ tG := tG_of 483 (by decide +kernel) (by decide +kernel)
theorem kL_X2_append : Cond.selects yX2_append.cls yX2_append yX2_append ∈ tG := tG_of 484 (by decide +kernel) (by decide +kernel)
def mX2_readInto : Mt := (yX2_readInto, cX2_readInto, 3, (some .int))
theorem kC_X2_readInto : Cond.code yX2_readInto cX2_readInto 3 (some .int) ∈ tG := tG_of 497 (by decide +kernel) (by decide +kernel)
theorem kN_X2_readInto : Cond.instanceMethod yX2_readInto ∈ tG := tG_of 495 (by decide +kernel) (by decide +kernel)
theorem kL_X2_readInto : Cond.selects yX2_readInto.cls yX2_readInto yX2_readInto ∈ tG := tG_of 496 (by decide +kernel) (by decide +kernel)
def mX2_readItem : Mt := (yX2_readItem, cX2_readItem, 2, (some .boolean))
theorem kC_X2_readItem : Cond.code yX2_readItem cX2_readItem 2 (some .boolean) ∈ tG := tG_of 512 (by decide +kernel) (by decide +kernel)
theorem kN_X2_readItem : Cond.instanceMethod yX2_readItem ∈ tG := tG_of 511 (by decide +kernel) (by decide +kernel)
theorem kL_X2_readItem : Cond.selects yX2_readItem.cls yX2_readItem yX2_readItem ∈ tG := tG_pr (q := (yX2_readItem, 6)) 12 (by decide +kernel)
def mX2_readSaying : Mt := (yX2_readSaying, cX2_readSaying, 5, (some .boolean))
theorem kC_X2_readSaying : Cond.code yX2_readSaying cX2_readSaying 5 (some .boolean) ∈ tG := tG_of 569 (by decide +kernel) (by decide +kernel)
theorem kN_X2_readSaying : Cond.instanceMethod yX2_readSaying ∈ tG := tG_of 568 (by decide +kernel) (by decide +kernel)
theorem kL_X2_readSaying : Cond.selects yX2_readSaying.cls yX2_readSaying yX2_readSaying ∈ tG := tG_pr (q := (yX2_readSaying, 6)) 14 (by decide +kernel)
def mX2_readHints : Mt := (yX2_readHints, cX2_readHints, 3, (some .boolean))
theorem kC_X2_readHints : Cond.code yX2_readHints cX2_readHints 3 (some .boolean) ∈ tG := tG_of 579 (by decide +kernel) (by decide +kernel)
theorem kN_X2_readHints : Cond.instanceMethod yX2_readHints ∈ tG := tG_of 578 (by decide +kernel) (by decide +kernel)
theorem kL_X2_readHints : Cond.selects yX2_readHints.cls yX2_readHints yX2_readHints ∈ tG := tG_pr (q := (yX2_readHints, 6)) 16 (by decide +kernel)
def mX2_readPerson : Mt := (yX2_readPerson, cX2_readPerson, 5, (some .boolean))
theorem kC_X2_readPerson : Cond.code yX2_readPerson cX2_readPerson 5 (some .boolean) ∈ tG := tG_of 583 (by decide +kernel) (by decide +kernel)
theorem kN_X2_readPerson : Cond.instanceMethod yX2_readPerson ∈ tG := tG_of 582 (by decide +kernel) (by decide +kernel)
theorem kL_X2_readPerson : Cond.selects yX2_readPerson.cls yX2_readPerson yX2_readPerson ∈ tG := tG_pr (q := (yX2_readPerson, 6)) 17 (by decide +kernel)
def mX2_readAttribute : Mt := (yX2_readAttribute, cX2_readAttribute, 5, (some .boolean))
theorem kC_X2_readAttribute : Cond.code yX2_readAttribute cX2_readAttribute 5 (some .boolean) ∈ tG := tG_of 601 (by decide +kernel) (by decide +kernel)
theorem kN_X2_readAttribute : Cond.instanceMethod yX2_readAttribute ∈ tG := tG_of 600 (by decide +kernel) (by decide +kernel)
theorem kL_X2_readAttribute : Cond.selects yX2_readAttribute.cls yX2_readAttribute yX2_readAttribute ∈ tG := tG_pr (q := (yX2_readAttribute, 6)) 19 (by decide +kernel)
def mX2_readNumber : Mt := (yX2_readNumber, cX2_readNumber, 3, (some .int))
theorem kC_X2_readNumber : Cond.code yX2_readNumber cX2_readNumber 3 (some .int) ∈ tG := tG_of 573 (by decide +kernel) (by decide +kernel)
theorem kN_X2_readNumber : Cond.instanceMethod yX2_readNumber ∈ tG := tG_of 572 (by decide +kernel) (by decide +kernel)
theorem kL_X2_readNumber : Cond.selects yX2_readNumber.cls yX2_readNumber yX2_readNumber ∈ tG := tG_pr (q := (yX2_readNumber, 6)) 15 (by decide +kernel)
def mX2_kindOfWord : Mt := (yX2_kindOfWord, cX2_kindOfWord, 1, (some .int))
theorem kC_X2_kindOfWord : Cond.code yX2_kindOfWord cX2_kindOfWord 1 (some .int) ∈ tG := tG_of 587 (by decide +kernel) (by decide +kernel)
theorem kN_X2_kindOfWord : Cond.instanceMethod yX2_kindOfWord ∈ tG := tG_of 586 (by decide +kernel) (by decide +kernel)
theorem kL_X2_kindOfWord : Cond.selects yX2_kindOfWord.cls yX2_kindOfWord yX2_kindOfWord ∈ tG := tG_pr (q := (yX2_kindOfWord, 6)) 18 (by decide +kernel)
def mX2_isWord : Mt := (yX2_isWord, cX2_isWord, 3, (some .boolean))
theorem kC_X2_isWord : Cond.code yX2_isWord cX2_isWord 3 (some .boolean) ∈ tG := tG_of 517 (by decide +kernel) (by decide +kernel)
theorem kN_X2_isWord : Cond.instanceMethod yX2_isWord ∈ tG := tG_of 516 (by decide +kernel) (by decide +kernel)
theorem kL_X2_isWord : Cond.selects yX2_isWord.cls yX2_isWord yX2_isWord ∈ tG := tG_pr (q := (yX2_isWord, 6)) 13 (by decide +kernel)
def mX2_step : Mt := (yX2_step, cX2_step, 1, none)
theorem kC_X2_step : Cond.code yX2_step cX2_step 1 none ∈ tG := tG_of 501 (by decide +kernel) (by decide +kernel)
theorem kN_X2_step : Cond.instanceMethod yX2_step ∈ tG := tG_of 500 (by decide +kernel) (by decide +kernel)
theorem kL_X2_step : Cond.selects yX2_step.cls yX2_step yX2_step ∈ tG := tG_pr (q := (yX2_step, 6)) 11 (by decide +kernel)
def mX2_isLetter : Mt := (yX2_isLetter, cX2_isLetter, 1, (some .boolean))
theorem kC_X2_isLetter : Cond.code yX2_isLetter cX2_isLetter 1 (some .boolean) ∈ tG := tG_of 504 (by decide +kernel) (by decide +kernel)
theorem kS_X2_isLetter : Cond.static yX2_isLetter ∈ tG := tG_of 503 (by decide +kernel) (by decide +kernel)
def mX2_isDigit : Mt := (yX2_isDigit, cX2_isDigit, 1, (some .boolean))
theorem kC_X2_isDigit : Cond.code yX2_isDigit cX2_isDigit 1 (some .boolean) ∈ tG := tG_of 507 (by decide +kernel) (by decide +kernel)
theorem kS_X2_isDigit : Cond.static yX2_isDigit ∈ tG := tG_of 506 (by decide +kernel) (by decide +kernel)
def mX3_init : Mt := (yX3_init, cX3_init, 1, none)
theorem kC_X3_init : Cond.code yX3_init cX3_init 1 none ∈ tG := tG_of 125 (by decide +kernel) (by decide +kernel)
theorem kN_X3_init : Cond.instanceMethod yX3_init ∈ tG := tG_of 124 (by decide +kernel) (by decide +kernel)
def mX3_isMissing : Mt := (yX3_isMissing, cX3_isMissing, 1, (some .boolean))
theorem kC_X3_isMissing : Cond.code yX3_isMissing cX3_isMissing 1 (some .boolean) ∈ tG := tG_of 436 (by decide +kernel) (by decide +kernel)
theorem kN_X3_isMissing : Cond.instanceMethod yX3_isMissing ∈ tG := tG_of 434 (by decide +kernel) (by decide +kernel)
theorem kL_X3_isMissing : Cond.selects yX3_isMissing.cls yX3_isMissing yX3_isMissing ∈ tG := tG_of 435 (by decide +kernel) (by decide +kernel)
def mX3_lay : Mt := (yX3_lay, cX3_lay, 4, none)
theorem kC_X3_lay : Cond.code yX3_lay cX3_lay 4 none ∈ tG := tG_of 631 (by decide +kernel) (by decide +kernel)
theorem kN_X3_lay : Cond.instanceMethod yX3_lay ∈ tG := tG_of 629 (by decide +kernel) (by decide +kernel)
theorem kL_X3_lay : Cond.selects yX3_lay.cls yX3_lay yX3_lay ∈ tG := tG_of 630 (by decide +kernel) (by decide +kernel)
def mX3_put : Mt := (yX3_put, cX3_put, 4, none)
theorem kC_X3_put : Cond.code yX3_put cX3_put 4 none ∈ tG := tG_of 639 (by decide +kernel) (by decide +kernel)
theorem kN_X3_put : Cond.instanceMethod yX3_put ∈ tG := tG_of 637 (by decide +kernel) (by decide +kernel)
theorem kL_X3_put : Cond.selects yX3_put.cls yX3_put yX3_put ∈ tG := tG_of 638 (by decide +kernel) (by decide +kernel)
def mX3_hasRange : Mt := (yX3_hasRange, cX3_hasRange, 3, (some .boolean))
theorem kC_X3_hasRange : Cond.code yX3_hasRange cX3_hasRange 3 (some .boolean) ∈ tG := tG_of 647 (by decide +kernel) (by decide +kernel)
theorem kN_X3_hasRange : Cond.instanceMethod yX3_hasRange ∈ tG := tG_of 645 (by decide +kernel) (by decide +kernel)
theorem kL_X3_hasRange : Cond.selects yX3_hasRange.cls yX3_hasRange yX3_hasRange ∈ tG := tG_of 646 (by decide +kernel) (by decide +kernel)
def mX4_init : Mt := (yX4_init, cX4_init, 2, none)
theorem kC_X4_init : Cond.code yX4_init cX4_init 2 none ∈ tG := tG_of 18 (by decide +kernel) (by decide +kernel)
theorem kN_X4_init : Cond.instanceMethod yX4_init ∈ tG := tG_of 17 (by decide +kernel) (by decide +kernel)
def mX4_say : Mt := (yX4_say, cX4_say, 5, (some .int))
theorem kC_X4_say : Cond.code yX4_say cX4_say 5 (some .int) ∈ tG := tG_of 165 (by decide +kernel) (by decide +kernel)
theorem kN_X4_say : Cond.instanceMethod yX4_say ∈ tG := tG_of 163 (by decide +kernel) (by decide +kernel)
theorem kL_X4_say : Cond.selects yX4_say.cls yX4_say yX4_say ∈ tG := tG_of 164 (by decide +kernel) (by decide +kernel)
def mX4_said : Mt := (yX4_said, cX4_said, 2, (some .int))
theorem kC_X4_said : Cond.code yX4_said cX4_said 2 (some .int) ∈ tG := tG_of 180 (by decide +kernel) (by decide +kernel)
theorem kN_X4_said : Cond.instanceMethod yX4_said ∈ tG := tG_of 178 (by decide +kernel) (by decide +kernel)
theorem kL_X4_said : Cond.selects yX4_said.cls yX4_said yX4_said ∈ tG := tG_of 179 (by decide +kernel) (by decide +kernel)
def mX4_person : Mt := (yX4_person, cX4_person, 3, (some .int))
theorem kC_X4_person : Cond.code yX4_person cX4_person 3 (some .int) ∈ tG := tG_of 184 (by decide +kernel) (by decide +kernel)
theorem kN_X4_person : Cond.instanceMethod yX4_person ∈ tG := tG_of 182 (by decide +kernel) (by decide +kernel)
theorem kL_X4_person : Cond.selects yX4_person.cls yX4_person yX4_person ∈ tG := tG_of 183 (by decide +kernel) (by decide +kernel)
def mX4_of : Mt := (yX4_of, cX4_of, 4, (some .int))
theorem kC_X4_of : Cond.code yX4_of cX4_of 4 (some .int) ∈ tG := tG_of 197 (by decide +kernel) (by decide +kernel)
theorem kN_X4_of : Cond.instanceMethod yX4_of ∈ tG := tG_of 195 (by decide +kernel) (by decide +kernel)
theorem kL_X4_of : Cond.selects yX4_of.cls yX4_of yX4_of ∈ tG := tG_of 196 (by decide +kernel) (by decide +kernel)
def mX4_change : Mt := (yX4_change, cX4_change, 6, (some .int))
theorem kC_X4_change : Cond.code yX4_change cX4_change 6 (some .int) ∈ tG := tG_of 231 (by decide +kernel) (by decide +kernel)
theorem kN_X4_change : Cond.instanceMethod yX4_change ∈ tG := tG_of 229 (by decide +kernel) (by decide +kernel)
theorem kL_X4_change : Cond.selects yX4_change.cls yX4_change yX4_change ∈ tG := tG_of 230 (by decide +kernel) (by decide +kernel)
def mX4_feels : Mt := (yX4_feels, cX4_feels, 3, (some .int))
theorem kC_X4_feels : Cond.code yX4_feels cX4_feels 3 (some .int) ∈ tG := tG_of 242 (by decide +kernel) (by decide +kernel)
theorem kN_X4_feels : Cond.instanceMethod yX4_feels ∈ tG := tG_of 240 (by decide +kernel) (by decide +kernel)
theorem kL_X4_feels : Cond.selects yX4_feels.cls yX4_feels yX4_feels ∈ tG := tG_of 241 (by decide +kernel) (by decide +kernel)
def mX4_bearer : Mt := (yX4_bearer, cX4_bearer, 4, (some .int))
theorem kC_X4_bearer : Cond.code yX4_bearer cX4_bearer 4 (some .int) ∈ tG := tG_of 250 (by decide +kernel) (by decide +kernel)
theorem kN_X4_bearer : Cond.instanceMethod yX4_bearer ∈ tG := tG_of 248 (by decide +kernel) (by decide +kernel)
theorem kL_X4_bearer : Cond.selects yX4_bearer.cls yX4_bearer yX4_bearer ∈ tG := tG_of 249 (by decide +kernel) (by decide +kernel)
def mX4_go : Mt := (yX4_go, cX4_go, 2, (some .int))
theorem kC_X4_go : Cond.code yX4_go cX4_go 2 (some .int) ∈ tG := tG_of 265 (by decide +kernel) (by decide +kernel)
theorem kN_X4_go : Cond.instanceMethod yX4_go ∈ tG := tG_of 263 (by decide +kernel) (by decide +kernel)
theorem kL_X4_go : Cond.selects yX4_go.cls yX4_go yX4_go ∈ tG := tG_of 264 (by decide +kernel) (by decide +kernel)
def mX4_now : Mt := (yX4_now, cX4_now, 2, (some .int))
theorem kC_X4_now : Cond.code yX4_now cX4_now 2 (some .int) ∈ tG := tG_of 318 (by decide +kernel) (by decide +kernel)
theorem kN_X4_now : Cond.instanceMethod yX4_now ∈ tG := tG_of 316 (by decide +kernel) (by decide +kernel)
theorem kL_X4_now : Cond.selects yX4_now.cls yX4_now yX4_now ∈ tG := tG_of 317 (by decide +kernel) (by decide +kernel)
def mX4_ahead : Mt := (yX4_ahead, cX4_ahead, 5, (some .int))
theorem kC_X4_ahead : Cond.code yX4_ahead cX4_ahead 5 (some .int) ∈ tG := tG_of 331 (by decide +kernel) (by decide +kernel)
theorem kN_X4_ahead : Cond.instanceMethod yX4_ahead ∈ tG := tG_of 329 (by decide +kernel) (by decide +kernel)
theorem kL_X4_ahead : Cond.selects yX4_ahead.cls yX4_ahead yX4_ahead ∈ tG := tG_of 330 (by decide +kernel) (by decide +kernel)
def mX4_hints : Mt := (yX4_hints, cX4_hints, 2, (some .int))
theorem kC_X4_hints : Cond.code yX4_hints cX4_hints 2 (some .int) ∈ tG := tG_of 346 (by decide +kernel) (by decide +kernel)
theorem kN_X4_hints : Cond.instanceMethod yX4_hints ∈ tG := tG_of 344 (by decide +kernel) (by decide +kernel)
theorem kL_X4_hints : Cond.selects yX4_hints.cls yX4_hints yX4_hints ∈ tG := tG_of 345 (by decide +kernel) (by decide +kernel)
def mX4_even : Mt := (yX4_even, cX4_even, 2, (some .int))
theorem kC_X4_even : Cond.code yX4_even cX4_even 2 (some .int) ∈ tG := tG_of 350 (by decide +kernel) (by decide +kernel)
theorem kN_X4_even : Cond.instanceMethod yX4_even ∈ tG := tG_of 348 (by decide +kernel) (by decide +kernel)
theorem kL_X4_even : Cond.selects yX4_even.cls yX4_even yX4_even ∈ tG := tG_of 349 (by decide +kernel) (by decide +kernel)
def mX4_when : Mt := (yX4_when, cX4_when, 3, (some .int))
theorem kC_X4_when : Cond.code yX4_when cX4_when 3 (some .int) ∈ tG := tG_of 355 (by decide +kernel) (by decide +kernel)
theorem kN_X4_when : Cond.instanceMethod yX4_when ∈ tG := tG_of 353 (by decide +kernel) (by decide +kernel)
theorem kL_X4_when : Cond.selects yX4_when.cls yX4_when yX4_when ∈ tG := tG_of 354 (by decide +kernel) (by decide +kernel)
def mX4_clean : Mt := (yX4_clean, cX4_clean, 2, (some .int))
theorem kC_X4_clean : Cond.code yX4_clean cX4_clean 2 (some .int) ∈ tG := tG_of 363 (by decide +kernel) (by decide +kernel)
theorem kN_X4_clean : Cond.instanceMethod yX4_clean ∈ tG := tG_of 361 (by decide +kernel) (by decide +kernel)
theorem kL_X4_clean : Cond.selects yX4_clean.cls yX4_clean yX4_clean ∈ tG := tG_of 362 (by decide +kernel) (by decide +kernel)
def mX4_daysToBorne : Mt := (yX4_daysToBorne, cX4_daysToBorne, 5, (some .int))
theorem kC_X4_daysToBorne : Cond.code yX4_daysToBorne cX4_daysToBorne 5 (some .int) ∈ tG := tG_of 359 (by decide +kernel) (by decide +kernel)
theorem kN_X4_daysToBorne : Cond.instanceMethod yX4_daysToBorne ∈ tG := tG_of 358 (by decide +kernel) (by decide +kernel)
theorem kL_X4_daysToBorne : Cond.selects yX4_daysToBorne.cls yX4_daysToBorne yX4_daysToBorne ∈ tG := tG_pr (q := (yX4_daysToBorne, 7)) 4 (by decide +kernel)
def mX4_whom : Mt := (yX4_whom, cX4_whom, 6, (some .int))
theorem kC_X4_whom : Cond.code yX4_whom cX4_whom 6 (some .int) ∈ tG := tG_of 367 (by decide +kernel) (by decide +kernel)
theorem kN_X4_whom : Cond.instanceMethod yX4_whom ∈ tG := tG_of 365 (by decide +kernel) (by decide +kernel)
theorem kL_X4_whom : Cond.selects yX4_whom.cls yX4_whom yX4_whom ∈ tG := tG_of 366 (by decide +kernel) (by decide +kernel)
def mX4_weightFor : Mt := (yX4_weightFor, cX4_weightFor, 3, (some .int))
theorem kC_X4_weightFor : Cond.code yX4_weightFor cX4_weightFor 3 (some .int) ∈ tG := tG_of 378 (by decide +kernel) (by decide +kernel)
theorem kN_X4_weightFor : Cond.instanceMethod yX4_weightFor ∈ tG := tG_of 376 (by decide +kernel) (by decide +kernel)
theorem kL_X4_weightFor : Cond.selects yX4_weightFor.cls yX4_weightFor yX4_weightFor ∈ tG := tG_of 377 (by decide +kernel) (by decide +kernel)
def mX4_buildFor : Mt := (yX4_buildFor, cX4_buildFor, 4, (some .int))
theorem kC_X4_buildFor : Cond.code yX4_buildFor cX4_buildFor 4 (some .int) ∈ tG := tG_of 388 (by decide +kernel) (by decide +kernel)
theorem kN_X4_buildFor : Cond.instanceMethod yX4_buildFor ∈ tG := tG_of 386 (by decide +kernel) (by decide +kernel)
theorem kL_X4_buildFor : Cond.selects yX4_buildFor.cls yX4_buildFor yX4_buildFor ∈ tG := tG_of 387 (by decide +kernel) (by decide +kernel)
def mX4_kindFor : Mt := (yX4_kindFor, cX4_kindFor, 7, (some .int))
theorem kC_X4_kindFor : Cond.code yX4_kindFor cX4_kindFor 7 (some .int) ∈ tG := tG_of 396 (by decide +kernel) (by decide +kernel)
theorem kN_X4_kindFor : Cond.instanceMethod yX4_kindFor ∈ tG := tG_of 394 (by decide +kernel) (by decide +kernel)
theorem kL_X4_kindFor : Cond.selects yX4_kindFor.cls yX4_kindFor yX4_kindFor ∈ tG := tG_of 395 (by decide +kernel) (by decide +kernel)
def mX4_refuse : Mt := (yX4_refuse, cX4_refuse, 6, (some .int))
theorem kC_X4_refuse : Cond.code yX4_refuse cX4_refuse 6 (some .int) ∈ tG := tG_of 400 (by decide +kernel) (by decide +kernel)
theorem kN_X4_refuse : Cond.instanceMethod yX4_refuse ∈ tG := tG_of 398 (by decide +kernel) (by decide +kernel)
theorem kL_X4_refuse : Cond.selects yX4_refuse.cls yX4_refuse yX4_refuse ∈ tG := tG_of 399 (by decide +kernel) (by decide +kernel)
def mX4_borneWithout : Mt := (yX4_borneWithout, cX4_borneWithout, 4, (some .int))
theorem kC_X4_borneWithout : Cond.code yX4_borneWithout cX4_borneWithout 4 (some .int) ∈ tG := tG_of 411 (by decide +kernel) (by decide +kernel)
theorem kN_X4_borneWithout : Cond.instanceMethod yX4_borneWithout ∈ tG := tG_of 410 (by decide +kernel) (by decide +kernel)
theorem kL_X4_borneWithout : Cond.selects yX4_borneWithout.cls yX4_borneWithout yX4_borneWithout ∈ tG := tG_pr (q := (yX4_borneWithout, 7)) 5 (by decide +kernel)
def mX4_swapFor : Mt := (yX4_swapFor, cX4_swapFor, 7, (some .int))
theorem kC_X4_swapFor : Cond.code yX4_swapFor cX4_swapFor 7 (some .int) ∈ tG := tG_of 415 (by decide +kernel) (by decide +kernel)
theorem kN_X4_swapFor : Cond.instanceMethod yX4_swapFor ∈ tG := tG_of 413 (by decide +kernel) (by decide +kernel)
theorem kL_X4_swapFor : Cond.selects yX4_swapFor.cls yX4_swapFor yX4_swapFor ∈ tG := tG_of 414 (by decide +kernel) (by decide +kernel)
def mX4_hintsWithSwapped : Mt := (yX4_hintsWithSwapped, cX4_hintsWithSwapped, 4, (some .int))
theorem kC_X4_hintsWithSwapped : Cond.code yX4_hintsWithSwapped cX4_hintsWithSwapped 4 (some .int) ∈ tG := tG_of 420 (by decide +kernel) (by decide +kernel)
theorem kN_X4_hintsWithSwapped : Cond.instanceMethod yX4_hintsWithSwapped ∈ tG := tG_of 419 (by decide +kernel) (by decide +kernel)
theorem kL_X4_hintsWithSwapped : Cond.selects yX4_hintsWithSwapped.cls yX4_hintsWithSwapped yX4_hintsWithSwapped ∈ tG := tG_pr (q := (yX4_hintsWithSwapped, 7)) 6 (by decide +kernel)
def mX4_fits : Mt := (yX4_fits, cX4_fits, 6, (some .int))
theorem kC_X4_fits : Cond.code yX4_fits cX4_fits 6 (some .int) ∈ tG := tG_of 424 (by decide +kernel) (by decide +kernel)
theorem kN_X4_fits : Cond.instanceMethod yX4_fits ∈ tG := tG_of 422 (by decide +kernel) (by decide +kernel)
theorem kL_X4_fits : Cond.selects yX4_fits.cls yX4_fits yX4_fits ∈ tG := tG_of 423 (by decide +kernel) (by decide +kernel)
def mX4_weighed : Mt := (yX4_weighed, cX4_weighed, 5, (some .int))
theorem kC_X4_weighed : Cond.code yX4_weighed cX4_weighed 5 (some .int) ∈ tG := tG_of 449 (by decide +kernel) (by decide +kernel)
theorem kN_X4_weighed : Cond.instanceMethod yX4_weighed ∈ tG := tG_of 447 (by decide +kernel) (by decide +kernel)
theorem kL_X4_weighed : Cond.selects yX4_weighed.cls yX4_weighed yX4_weighed ∈ tG := tG_of 448 (by decide +kernel) (by decide +kernel)
def mX4_kinds : Mt := (yX4_kinds, cX4_kinds, 6, (some .int))
theorem kC_X4_kinds : Cond.code yX4_kinds cX4_kinds 6 (some .int) ∈ tG := tG_of 453 (by decide +kernel) (by decide +kernel)
theorem kN_X4_kinds : Cond.instanceMethod yX4_kinds ∈ tG := tG_of 451 (by decide +kernel) (by decide +kernel)
theorem kL_X4_kinds : Cond.selects yX4_kinds.cls yX4_kinds yX4_kinds ∈ tG := tG_of 452 (by decide +kernel) (by decide +kernel)
def mX4_isWeightAsTold : Mt := (yX4_isWeightAsTold, cX4_isWeightAsTold, 4, (some .boolean))
theorem kC_X4_isWeightAsTold : Cond.code yX4_isWeightAsTold cX4_isWeightAsTold 4 (some .boolean) ∈ tG := tG_of 441 (by decide +kernel) (by decide +kernel)
theorem kN_X4_isWeightAsTold : Cond.instanceMethod yX4_isWeightAsTold ∈ tG := tG_of 440 (by decide +kernel) (by decide +kernel)
theorem kL_X4_isWeightAsTold : Cond.selects yX4_isWeightAsTold.cls yX4_isWeightAsTold yX4_isWeightAsTold ∈ tG := tG_pr (q := (yX4_isWeightAsTold, 7)) 9 (by decide +kernel)
def mX4_isTrialAsTold : Mt := (yX4_isTrialAsTold, cX4_isTrialAsTold, 6, (some .boolean))
theorem kC_X4_isTrialAsTold : Cond.code yX4_isTrialAsTold cX4_isTrialAsTold 6 (some .boolean) ∈ tG := tG_of 445 (by decide +kernel) (by decide +kernel)
theorem kN_X4_isTrialAsTold : Cond.instanceMethod yX4_isTrialAsTold ∈ tG := tG_of 444 (by decide +kernel) (by decide +kernel)
theorem kL_X4_isTrialAsTold : Cond.selects yX4_isTrialAsTold.cls yX4_isTrialAsTold yX4_isTrialAsTold ∈ tG := tG_pr (q := (yX4_isTrialAsTold, 7)) 10 (by decide +kernel)
def mX4_sheetAndPersonFinding : Mt := (yX4_sheetAndPersonFinding, cX4_sheetAndPersonFinding, 4, (some .int))
theorem kC_X4_sheetAndPersonFinding : Cond.code yX4_sheetAndPersonFinding cX4_sheetAndPersonFinding 4 (some .int) ∈ tG := tG_of 428 (by decide +kernel) (by decide +kernel)
theorem kN_X4_sheetAndPersonFinding : Cond.instanceMethod yX4_sheetAndPersonFinding ∈ tG := tG_of 427 (by decide +kernel) (by decide +kernel)
theorem kL_X4_sheetAndPersonFinding : Cond.selects yX4_sheetAndPersonFinding.cls yX4_sheetAndPersonFinding yX4_sheetAndPersonFinding ∈ tG := tG_pr (q := (yX4_sheetAndPersonFinding, 7)) 7 (by decide +kernel)
def mX4_gossip : Mt := (yX4_gossip, cX4_gossip, 5, (some .int))
theorem kC_X4_gossip : Cond.code yX4_gossip cX4_gossip 5 (some .int) ∈ tG := tG_of 457 (by decide +kernel) (by decide +kernel)
theorem kN_X4_gossip : Cond.instanceMethod yX4_gossip ∈ tG := tG_of 455 (by decide +kernel) (by decide +kernel)
theorem kL_X4_gossip : Cond.selects yX4_gossip.cls yX4_gossip yX4_gossip ∈ tG := tG_of 456 (by decide +kernel) (by decide +kernel)
def mX4_odds : Mt := (yX4_odds, cX4_odds, 6, (some .long))
theorem kC_X4_odds : Cond.code yX4_odds cX4_odds 6 (some .long) ∈ tG := tG_of 466 (by decide +kernel) (by decide +kernel)
theorem kN_X4_odds : Cond.instanceMethod yX4_odds ∈ tG := tG_of 464 (by decide +kernel) (by decide +kernel)
theorem kL_X4_odds : Cond.selects yX4_odds.cls yX4_odds yX4_odds ∈ tG := tG_of 465 (by decide +kernel) (by decide +kernel)
def mX4_seed : Mt := (yX4_seed, cX4_seed, 3, (some .int))
theorem kC_X4_seed : Cond.code yX4_seed cX4_seed 3 (some .int) ∈ tG := tG_of 477 (by decide +kernel) (by decide +kernel)
theorem kN_X4_seed : Cond.instanceMethod yX4_seed ∈ tG := tG_of 475 (by decide +kernel) (by decide +kernel)
theorem kL_X4_seed : Cond.selects yX4_seed.cls yX4_seed yX4_seed ∈ tG := tG_of 476 (by decide +kernel) (by decide +kernel)
def mX4_feed : Mt := (yX4_feed, cX4_feed, 4, (some .int))
theorem kC_X4_feed : Cond.code yX4_feed cX4_feed 4 (some .int) ∈ tG := tG_of 481 (by decide +kernel) (by decide +kernel)
theorem kN_X4_feed : Cond.instanceMethod yX4_feed ∈ tG := tG_of 479 (by decide +kernel) (by decide +kernel)
theorem kL_X4_feed : Cond.selects yX4_feed.cls yX4_feed yX4_feed ∈ tG := tG_of 480 (by decide +kernel) (by decide +kernel)
def mX4_wipe : Mt := (yX4_wipe, cX4_wipe, 2, (some .int))
theorem kC_X4_wipe : Cond.code yX4_wipe cX4_wipe 2 (some .int) ∈ tG := tG_of 489 (by decide +kernel) (by decide +kernel)
theorem kN_X4_wipe : Cond.instanceMethod yX4_wipe ∈ tG := tG_of 487 (by decide +kernel) (by decide +kernel)
theorem kL_X4_wipe : Cond.selects yX4_wipe.cls yX4_wipe yX4_wipe ∈ tG := tG_of 488 (by decide +kernel) (by decide +kernel)
def mX4_text : Mt := (yX4_text, cX4_text, 2, (some .int))
theorem kC_X4_text : Cond.code yX4_text cX4_text 2 (some .int) ∈ tG := tG_of 493 (by decide +kernel) (by decide +kernel)
theorem kN_X4_text : Cond.instanceMethod yX4_text ∈ tG := tG_of 491 (by decide +kernel) (by decide +kernel)
theorem kL_X4_text : Cond.selects yX4_text.cls yX4_text yX4_text ∈ tG := tG_of 492 (by decide +kernel) (by decide +kernel)
def mX4_hold : Mt := (yX4_hold, cX4_hold, 3, (some .int))
theorem kC_X4_hold : Cond.code yX4_hold cX4_hold 3 (some .int) ∈ tG := tG_of 610 (by decide +kernel) (by decide +kernel)
theorem kN_X4_hold : Cond.instanceMethod yX4_hold ∈ tG := tG_of 608 (by decide +kernel) (by decide +kernel)
theorem kL_X4_hold : Cond.selects yX4_hold.cls yX4_hold yX4_hold ∈ tG := tG_of 609 (by decide +kernel) (by decide +kernel)
def mX4_as : Mt := (yX4_as, cX4_as, 4, (some .int))
theorem kC_X4_as : Cond.code yX4_as cX4_as 4 (some .int) ∈ tG := tG_of 614 (by decide +kernel) (by decide +kernel)
theorem kN_X4_as : Cond.instanceMethod yX4_as ∈ tG := tG_of 612 (by decide +kernel) (by decide +kernel)
theorem kL_X4_as : Cond.selects yX4_as.cls yX4_as yX4_as ∈ tG := tG_of 613 (by decide +kernel) (by decide +kernel)
def mX4_sheet : Mt := (yX4_sheet, cX4_sheet, 4, (some .int))
theorem kC_X4_sheet : Cond.code yX4_sheet cX4_sheet 4 (some .int) ∈ tG := tG_of 626 (by decide +kernel) (by decide +kernel)
theorem kN_X4_sheet : Cond.instanceMethod yX4_sheet ∈ tG := tG_of 624 (by decide +kernel) (by decide +kernel)
theorem kL_X4_sheet : Cond.selects yX4_sheet.cls yX4_sheet yX4_sheet ∈ tG := tG_of 625 (by decide +kernel) (by decide +kernel)
def mX4_write : Mt := (yX4_write, cX4_write, 5, (some .int))
theorem kC_X4_write : Cond.code yX4_write cX4_write 5 (some .int) ∈ tG := tG_of 635 (by decide +kernel) (by decide +kernel)
theorem kN_X4_write : Cond.instanceMethod yX4_write ∈ tG := tG_of 633 (by decide +kernel) (by decide +kernel)
theorem kL_X4_write : Cond.selects yX4_write.cls yX4_write yX4_write ∈ tG := tG_of 634 (by decide +kernel) (by decide +kernel)
def mX4_copy : Mt := (yX4_copy, cX4_copy, 8, (some .int))
theorem kC_X4_copy : Cond.code yX4_copy cX4_copy 8 (some .int) ∈ tG := tG_of 643 (by decide +kernel) (by decide +kernel)
theorem kN_X4_copy : Cond.instanceMethod yX4_copy ∈ tG := tG_of 641 (by decide +kernel) (by decide +kernel)
theorem kL_X4_copy : Cond.selects yX4_copy.cls yX4_copy yX4_copy ∈ tG := tG_of 642 (by decide +kernel) (by decide +kernel)
def mX4_load : Mt := (yX4_load, cX4_load, 5, (some .int))
theorem kC_X4_load : Cond.code yX4_load cX4_load 5 (some .int) ∈ tG := tG_of 652 (by decide +kernel) (by decide +kernel)
theorem kN_X4_load : Cond.instanceMethod yX4_load ∈ tG := tG_of 650 (by decide +kernel) (by decide +kernel)
theorem kL_X4_load : Cond.selects yX4_load.cls yX4_load yX4_load ∈ tG := tG_of 651 (by decide +kernel) (by decide +kernel)
def mX4_judge : Mt := (yX4_judge, cX4_judge, 5, (some .int))
theorem kC_X4_judge : Cond.code yX4_judge cX4_judge 5 (some .int) ∈ tG := tG_of 659 (by decide +kernel) (by decide +kernel)
theorem kN_X4_judge : Cond.instanceMethod yX4_judge ∈ tG := tG_of 657 (by decide +kernel) (by decide +kernel)
theorem kL_X4_judge : Cond.selects yX4_judge.cls yX4_judge yX4_judge ∈ tG := tG_of 658 (by decide +kernel) (by decide +kernel)
def mX4_sheetFinding : Mt := (yX4_sheetFinding, cX4_sheetFinding, 2, (some .int))
theorem kC_X4_sheetFinding : Cond.code yX4_sheetFinding cX4_sheetFinding 2 (some .int) ∈ tG := tG_of 432 (by decide +kernel) (by decide +kernel)
theorem kN_X4_sheetFinding : Cond.instanceMethod yX4_sheetFinding ∈ tG := tG_of 431 (by decide +kernel) (by decide +kernel)
theorem kL_X4_sheetFinding : Cond.selects yX4_sheetFinding.cls yX4_sheetFinding yX4_sheetFinding ∈ tG := tG_pr (q := (yX4_sheetFinding, 7)) 8 (by decide +kernel)
def mX4_image : Mt := (yX4_image, cX4_image, 1, (some .int))
theorem kC_X4_image : Cond.code yX4_image cX4_image 1 (some .int) ∈ tG := tG_of 663 (by decide +kernel) (by decide +kernel)
theorem kN_X4_image : Cond.instanceMethod yX4_image ∈ tG := tG_of 661 (by decide +kernel) (by decide +kernel)
theorem kL_X4_image : Cond.selects yX4_image.cls yX4_image yX4_image ∈ tG := tG_of 662 (by decide +kernel) (by decide +kernel)
def mX4_undo : Mt := (yX4_undo, cX4_undo, 1, (some .int))
theorem kC_X4_undo : Cond.code yX4_undo cX4_undo 1 (some .int) ∈ tG := tG_of 667 (by decide +kernel) (by decide +kernel)
theorem kN_X4_undo : Cond.instanceMethod yX4_undo ∈ tG := tG_of 665 (by decide +kernel) (by decide +kernel)
theorem kL_X4_undo : Cond.selects yX4_undo.cls yX4_undo yX4_undo ∈ tG := tG_of 666 (by decide +kernel) (by decide +kernel)
def mX4_tear : Mt := (yX4_tear, cX4_tear, 2, (some .int))
theorem kC_X4_tear : Cond.code yX4_tear cX4_tear 2 (some .int) ∈ tG := tG_of 671 (by decide +kernel) (by decide +kernel)
theorem kN_X4_tear : Cond.instanceMethod yX4_tear ∈ tG := tG_of 669 (by decide +kernel) (by decide +kernel)
theorem kL_X4_tear : Cond.selects yX4_tear.cls yX4_tear yX4_tear ∈ tG := tG_of 670 (by decide +kernel) (by decide +kernel)
def mX4_count : Mt := (yX4_count, cX4_count, 2, (some .int))
theorem kC_X4_count : Cond.code yX4_count cX4_count 2 (some .int) ∈ tG := tG_of 675 (by decide +kernel) (by decide +kernel)
theorem kN_X4_count : Cond.instanceMethod yX4_count ∈ tG := tG_of 673 (by decide +kernel) (by decide +kernel)
theorem kL_X4_count : Cond.selects yX4_count.cls yX4_count yX4_count ∈ tG := tG_of 674 (by decide +kernel) (by decide +kernel)
def mX4_status : Mt := (yX4_status, cX4_status, 4, (some .int))
theorem kC_X4_status : Cond.code yX4_status cX4_status 4 (some .int) ∈ tG := tG_of 683 (by decide +kernel) (by decide +kernel)
theorem kN_X4_status : Cond.instanceMethod yX4_status ∈ tG := tG_of 681 (by decide +kernel) (by decide +kernel)
theorem kL_X4_status : Cond.selects yX4_status.cls yX4_status yX4_status ∈ tG := tG_of 682 (by decide +kernel) (by decide +kernel)
def mX4_found : Mt := (yX4_found, cX4_found, 3, (some .int))
theorem kC_X4_found : Cond.code yX4_found cX4_found 3 (some .int) ∈ tG := tG_of 173 (by decide +kernel) (by decide +kernel)
theorem kN_X4_found : Cond.instanceMethod yX4_found ∈ tG := tG_of 172 (by decide +kernel) (by decide +kernel)
theorem kL_X4_found : Cond.selects yX4_found.cls yX4_found yX4_found ∈ tG := tG_pr (q := (yX4_found, 7)) 0 (by decide +kernel)
def mX4_within : Mt := (yX4_within, cX4_within, 3, (some .boolean))
theorem kC_X4_within : Cond.code yX4_within cX4_within 3 (some .boolean) ∈ tG := tG_of 168 (by decide +kernel) (by decide +kernel)
theorem kS_X4_within : Cond.static yX4_within ∈ tG := tG_of 167 (by decide +kernel) (by decide +kernel)
def mX4_isIn : Mt := (yX4_isIn, cX4_isIn, 2, (some .boolean))
theorem kC_X4_isIn : Cond.code yX4_isIn cX4_isIn 2 (some .boolean) ∈ tG := tG_of 295 (by decide +kernel) (by decide +kernel)
theorem kS_X4_isIn : Cond.static yX4_isIn ∈ tG := tG_of 294 (by decide +kernel) (by decide +kernel)
def mX4_saying : Mt := (yX4_saying, cX4_saying, 2, (some .int))
theorem kC_X4_saying : Cond.code yX4_saying cX4_saying 2 (some .int) ∈ tG := tG_of 176 (by decide +kernel) (by decide +kernel)
theorem kS_X4_saying : Cond.static yX4_saying ∈ tG := tG_of 175 (by decide +kernel) (by decide +kernel)
def mX4_isSaying : Mt := (yX4_isSaying, cX4_isSaying, 1, (some .boolean))
theorem kC_X4_isSaying : Cond.code yX4_isSaying cX4_isSaying 1 (some .boolean) ∈ tG := tG_of 655 (by decide +kernel) (by decide +kernel)
theorem kS_X4_isSaying : Cond.static yX4_isSaying ∈ tG := tG_of 654 (by decide +kernel) (by decide +kernel)
def mX4_mostOf : Mt := (yX4_mostOf, cX4_mostOf, 1, (some .int))
theorem kC_X4_mostOf : Cond.code yX4_mostOf cX4_mostOf 1 (some .int) ∈ tG := tG_of 234 (by decide +kernel) (by decide +kernel)
theorem kS_X4_mostOf : Cond.static yX4_mostOf ∈ tG := tG_of 233 (by decide +kernel) (by decide +kernel)
def mX4_power : Mt := (yX4_power, cX4_power, 5, (some .long))
theorem kC_X4_power : Cond.code yX4_power cX4_power 5 (some .long) ∈ tG := tG_of 473 (by decide +kernel) (by decide +kernel)
theorem kS_X4_power : Cond.static yX4_power ∈ tG := tG_of 472 (by decide +kernel) (by decide +kernel)
def mX5_init : Mt := (yX5_init, cX5_init, 2, none)
theorem kC_X5_init : Cond.code yX5_init cX5_init 2 none ∈ tG := tG_of 688 (by decide +kernel) (by decide +kernel)
theorem kN_X5_init : Cond.instanceMethod yX5_init ∈ tG := tG_of 687 (by decide +kernel) (by decide +kernel)
def mX5_isIn : Mt := (yX5_isIn, cX5_isIn, 6, (some .boolean))
theorem kC_X5_isIn : Cond.code yX5_isIn cX5_isIn 6 (some .boolean) ∈ tG := tG_of 755 (by decide +kernel) (by decide +kernel)
theorem kS_X5_isIn : Cond.static yX5_isIn ∈ tG := tG_of 754 (by decide +kernel) (by decide +kernel)
def mX5_finds : Mt := (yX5_finds, cX5_finds, 2, (some .int))
theorem kC_X5_finds : Cond.code yX5_finds cX5_finds 2 (some .int) ∈ tG := tG_of 765 (by decide +kernel) (by decide +kernel)
theorem kN_X5_finds : Cond.instanceMethod yX5_finds ∈ tG := tG_of 764 (by decide +kernel) (by decide +kernel)
theorem kL_X5_finds : Cond.selects yX5_finds.cls yX5_finds yX5_finds ∈ tG := tG_pr (q := (yX5_finds, 18)) 21 (by decide +kernel)
def mX5_becomes : Mt := (yX5_becomes, cX5_becomes, 4, (some .int))
theorem kC_X5_becomes : Cond.code yX5_becomes cX5_becomes 4 (some .int) ∈ tG := tG_of 760 (by decide +kernel) (by decide +kernel)
theorem kN_X5_becomes : Cond.instanceMethod yX5_becomes ∈ tG := tG_of 759 (by decide +kernel) (by decide +kernel)
theorem kL_X5_becomes : Cond.selects yX5_becomes.cls yX5_becomes yX5_becomes ∈ tG := tG_pr (q := (yX5_becomes, 18)) 20 (by decide +kernel)
def mX5_copyRow : Mt := (yX5_copyRow, cX5_copyRow, 3, none)
theorem kC_X5_copyRow : Cond.code yX5_copyRow cX5_copyRow 3 none ∈ tG := tG_of 897 (by decide +kernel) (by decide +kernel)
theorem kS_X5_copyRow : Cond.static yX5_copyRow ∈ tG := tG_of 896 (by decide +kernel) (by decide +kernel)
def mX5_isPlace : Mt := (yX5_isPlace, cX5_isPlace, 1, (some .boolean))
theorem kC_X5_isPlace : Cond.code yX5_isPlace cX5_isPlace 1 (some .boolean) ∈ tG := tG_of 751 (by decide +kernel) (by decide +kernel)
theorem kS_X5_isPlace : Cond.static yX5_isPlace ∈ tG := tG_of 750 (by decide +kernel) (by decide +kernel)
def mX5_isOne : Mt := (yX5_isOne, cX5_isOne, 2, (some .boolean))
theorem kC_X5_isOne : Cond.code yX5_isOne cX5_isOne 2 (some .boolean) ∈ tG := tG_of 791 (by decide +kernel) (by decide +kernel)
theorem kN_X5_isOne : Cond.instanceMethod yX5_isOne ∈ tG := tG_of 790 (by decide +kernel) (by decide +kernel)
theorem kL_X5_isOne : Cond.selects yX5_isOne.cls yX5_isOne yX5_isOne ∈ tG := tG_pr (q := (yX5_isOne, 18)) 23 (by decide +kernel)
def mX5_at : Mt := (yX5_at, cX5_at, 2, (some .int))
theorem kC_X5_at : Cond.code yX5_at cX5_at 2 (some .int) ∈ tG := tG_of 783 (by decide +kernel) (by decide +kernel)
theorem kS_X5_at : Cond.static yX5_at ∈ tG := tG_of 782 (by decide +kernel) (by decide +kernel)
def mX5_its : Mt := (yX5_its, cX5_its, 3, (some .int))
theorem kC_X5_its : Cond.code yX5_its cX5_its 3 (some .int) ∈ tG := tG_of 803 (by decide +kernel) (by decide +kernel)
theorem kN_X5_its : Cond.instanceMethod yX5_its ∈ tG := tG_of 802 (by decide +kernel) (by decide +kernel)
theorem kL_X5_its : Cond.selects yX5_its.cls yX5_its yX5_its ∈ tG := tG_pr (q := (yX5_its, 18)) 26 (by decide +kernel)
def mX5_least : Mt := (yX5_least, cX5_least, 2, (some .int))
theorem kC_X5_least : Cond.code yX5_least cX5_least 2 (some .int) ∈ tG := tG_of 806 (by decide +kernel) (by decide +kernel)
theorem kS_X5_least : Cond.static yX5_least ∈ tG := tG_of 805 (by decide +kernel) (by decide +kernel)
def mX5_greatest : Mt := (yX5_greatest, cX5_greatest, 2, (some .int))
theorem kC_X5_greatest : Cond.code yX5_greatest cX5_greatest 2 (some .int) ∈ tG := tG_of 813 (by decide +kernel) (by decide +kernel)
theorem kS_X5_greatest : Cond.static yX5_greatest ∈ tG := tG_of 812 (by decide +kernel) (by decide +kernel)
def mX5_orNone : Mt := (yX5_orNone, cX5_orNone, 2, (some .int))
theorem kC_X5_orNone : Cond.code yX5_orNone cX5_orNone 2 (some .int) ∈ tG := tG_of 849 (by decide +kernel) (by decide +kernel)
theorem kN_X5_orNone : Cond.instanceMethod yX5_orNone ∈ tG := tG_of 848 (by decide +kernel) (by decide +kernel)
theorem kL_X5_orNone : Cond.selects yX5_orNone.cls yX5_orNone yX5_orNone ∈ tG := tG_pr (q := (yX5_orNone, 18)) 32 (by decide +kernel)
def mX5_many : Mt := (yX5_many, cX5_many, 3, (some .int))
theorem kC_X5_many : Cond.code yX5_many cX5_many 3 (some .int) ∈ tG := tG_of 950 (by decide +kernel) (by decide +kernel)
theorem kS_X5_many : Cond.static yX5_many ∈ tG := tG_of 949 (by decide +kernel) (by decide +kernel)
def mX5_isSaying : Mt := (yX5_isSaying, cX5_isSaying, 1, (some .boolean))
theorem kC_X5_isSaying : Cond.code yX5_isSaying cX5_isSaying 1 (some .boolean) ∈ tG := tG_of 1112 (by decide +kernel) (by decide +kernel)
theorem kS_X5_isSaying : Cond.static yX5_isSaying ∈ tG := tG_of 1111 (by decide +kernel) (by decide +kernel)
def mX5_say : Mt := (yX5_say, cX5_say, 5, (some .int))
theorem kC_X5_say : Cond.code yX5_say cX5_say 5 (some .int) ∈ tG := tG_of 748 (by decide +kernel) (by decide +kernel)
theorem kN_X5_say : Cond.instanceMethod yX5_say ∈ tG := tG_of 746 (by decide +kernel) (by decide +kernel)
theorem kL_X5_say : Cond.selects yX5_say.cls yX5_say yX5_say ∈ tG := tG_of 747 (by decide +kernel) (by decide +kernel)
def mX5_said : Mt := (yX5_said, cX5_said, 2, (some .int))
theorem kC_X5_said : Cond.code yX5_said cX5_said 2 (some .int) ∈ tG := tG_of 769 (by decide +kernel) (by decide +kernel)
theorem kN_X5_said : Cond.instanceMethod yX5_said ∈ tG := tG_of 767 (by decide +kernel) (by decide +kernel)
theorem kL_X5_said : Cond.selects yX5_said.cls yX5_said yX5_said ∈ tG := tG_of 768 (by decide +kernel) (by decide +kernel)
def mX5_comes : Mt := (yX5_comes, cX5_comes, 4, none)
theorem kC_X5_comes : Cond.code yX5_comes cX5_comes 4 none ∈ tG := tG_of 780 (by decide +kernel) (by decide +kernel)
theorem kN_X5_comes : Cond.instanceMethod yX5_comes ∈ tG := tG_of 779 (by decide +kernel) (by decide +kernel)
theorem kL_X5_comes : Cond.selects yX5_comes.cls yX5_comes yX5_comes ∈ tG := tG_pr (q := (yX5_comes, 18)) 22 (by decide +kernel)
def mX5_person : Mt := (yX5_person, cX5_person, 3, (some .int))
theorem kC_X5_person : Cond.code yX5_person cX5_person 3 (some .int) ∈ tG := tG_of 773 (by decide +kernel) (by decide +kernel)
theorem kN_X5_person : Cond.instanceMethod yX5_person ∈ tG := tG_of 771 (by decide +kernel) (by decide +kernel)
theorem kL_X5_person : Cond.selects yX5_person.cls yX5_person yX5_person ∈ tG := tG_of 772 (by decide +kernel) (by decide +kernel)
def mX5_feelsOf : Mt := (yX5_feelsOf, cX5_feelsOf, 3, (some .int))
theorem kC_X5_feelsOf : Cond.code yX5_feelsOf cX5_feelsOf 3 (some .int) ∈ tG := tG_of 833 (by decide +kernel) (by decide +kernel)
theorem kN_X5_feelsOf : Cond.instanceMethod yX5_feelsOf ∈ tG := tG_of 832 (by decide +kernel) (by decide +kernel)
theorem kL_X5_feelsOf : Cond.selects yX5_feelsOf.cls yX5_feelsOf yX5_feelsOf ∈ tG := tG_pr (q := (yX5_feelsOf, 18)) 29 (by decide +kernel)
def mX5_asksMost : Mt := (yX5_asksMost, cX5_asksMost, 2, (some .int))
theorem kC_X5_asksMost : Cond.code yX5_asksMost cX5_asksMost 2 (some .int) ∈ tG := tG_of 799 (by decide +kernel) (by decide +kernel)
theorem kN_X5_asksMost : Cond.instanceMethod yX5_asksMost ∈ tG := tG_of 798 (by decide +kernel) (by decide +kernel)
theorem kL_X5_asksMost : Cond.selects yX5_asksMost.cls yX5_asksMost yX5_asksMost ∈ tG := tG_pr (q := (yX5_asksMost, 18)) 25 (by decide +kernel)
def mX5_asks : Mt := (yX5_asks, cX5_asks, 2, (some .int))
theorem kC_X5_asks : Cond.code yX5_asks cX5_asks 2 (some .int) ∈ tG := tG_of 795 (by decide +kernel) (by decide +kernel)
theorem kN_X5_asks : Cond.instanceMethod yX5_asks ∈ tG := tG_of 794 (by decide +kernel) (by decide +kernel)
theorem kL_X5_asks : Cond.selects yX5_asks.cls yX5_asks yX5_asks ∈ tG := tG_pr (q := (yX5_asks, 18)) 24 (by decide +kernel)
def mX5_room : Mt := (yX5_room, cX5_room, 3, (some .int))
theorem kC_X5_room : Cond.code yX5_room cX5_room 3 (some .int) ∈ tG := tG_of 810 (by decide +kernel) (by decide +kernel)
theorem kN_X5_room : Cond.instanceMethod yX5_room ∈ tG := tG_of 809 (by decide +kernel) (by decide +kernel)
theorem kL_X5_room : Cond.selects yX5_room.cls yX5_room yX5_room ∈ tG := tG_pr (q := (yX5_room, 18)) 27 (by decide +kernel)
def mX5_forgets : Mt := (yX5_forgets, cX5_forgets, 2, (some .int))
theorem kC_X5_forgets : Cond.code yX5_forgets cX5_forgets 2 (some .int) ∈ tG := tG_of 817 (by decide +kernel) (by decide +kernel)
theorem kN_X5_forgets : Cond.instanceMethod yX5_forgets ∈ tG := tG_of 816 (by decide +kernel) (by decide +kernel)
theorem kL_X5_forgets : Cond.selects yX5_forgets.cls yX5_forgets yX5_forgets ∈ tG := tG_pr (q := (yX5_forgets, 18)) 28 (by decide +kernel)
def mX5_of : Mt := (yX5_of, cX5_of, 3, (some .int))
theorem kC_X5_of : Cond.code yX5_of cX5_of 3 (some .int) ∈ tG := tG_of 787 (by decide +kernel) (by decide +kernel)
theorem kN_X5_of : Cond.instanceMethod yX5_of ∈ tG := tG_of 785 (by decide +kernel) (by decide +kernel)
theorem kL_X5_of : Cond.selects yX5_of.cls yX5_of yX5_of ∈ tG := tG_of 786 (by decide +kernel) (by decide +kernel)
def mX5_greatestOf : Mt := (yX5_greatestOf, cX5_greatestOf, 1, (some .int))
theorem kC_X5_greatestOf : Cond.code yX5_greatestOf cX5_greatestOf 1 (some .int) ∈ tG := tG_of 825 (by decide +kernel) (by decide +kernel)
theorem kS_X5_greatestOf : Cond.static yX5_greatestOf ∈ tG := tG_of 824 (by decide +kernel) (by decide +kernel)
def mX5_change : Mt := (yX5_change, cX5_change, 5, (some .int))
theorem kC_X5_change : Cond.code yX5_change cX5_change 5 (some .int) ∈ tG := tG_of 821 (by decide +kernel) (by decide +kernel)
theorem kN_X5_change : Cond.instanceMethod yX5_change ∈ tG := tG_of 819 (by decide +kernel) (by decide +kernel)
theorem kL_X5_change : Cond.selects yX5_change.cls yX5_change yX5_change ∈ tG := tG_of 820 (by decide +kernel) (by decide +kernel)
def mX5_feels : Mt := (yX5_feels, cX5_feels, 3, (some .int))
theorem kC_X5_feels : Cond.code yX5_feels cX5_feels 3 (some .int) ∈ tG := tG_of 829 (by decide +kernel) (by decide +kernel)
theorem kN_X5_feels : Cond.instanceMethod yX5_feels ∈ tG := tG_of 827 (by decide +kernel) (by decide +kernel)
theorem kL_X5_feels : Cond.selects yX5_feels.cls yX5_feels yX5_feels ∈ tG := tG_of 828 (by decide +kernel) (by decide +kernel)
def mX5_roomiestBut : Mt := (yX5_roomiestBut, cX5_roomiestBut, 4, (some .int))
theorem kC_X5_roomiestBut : Cond.code yX5_roomiestBut cX5_roomiestBut 4 (some .int) ∈ tG := tG_of 845 (by decide +kernel) (by decide +kernel)
theorem kN_X5_roomiestBut : Cond.instanceMethod yX5_roomiestBut ∈ tG := tG_of 844 (by decide +kernel) (by decide +kernel)
theorem kL_X5_roomiestBut : Cond.selects yX5_roomiestBut.cls yX5_roomiestBut yX5_roomiestBut ∈ tG := tG_pr (q := (yX5_roomiestBut, 18)) 31 (by decide +kernel)
def mX5_bearerOf : Mt := (yX5_bearerOf, cX5_bearerOf, 4, (some .int))
theorem kC_X5_bearerOf : Cond.code yX5_bearerOf cX5_bearerOf 4 (some .int) ∈ tG := tG_of 841 (by decide +kernel) (by decide +kernel)
theorem kN_X5_bearerOf : Cond.instanceMethod yX5_bearerOf ∈ tG := tG_of 840 (by decide +kernel) (by decide +kernel)
theorem kL_X5_bearerOf : Cond.selects yX5_bearerOf.cls yX5_bearerOf yX5_bearerOf ∈ tG := tG_pr (q := (yX5_bearerOf, 18)) 30 (by decide +kernel)
def mX5_bearer : Mt := (yX5_bearer, cX5_bearer, 3, (some .int))
theorem kC_X5_bearer : Cond.code yX5_bearer cX5_bearer 3 (some .int) ∈ tG := tG_of 837 (by decide +kernel) (by decide +kernel)
theorem kN_X5_bearer : Cond.instanceMethod yX5_bearer ∈ tG := tG_of 835 (by decide +kernel) (by decide +kernel)
theorem kL_X5_bearer : Cond.selects yX5_bearer.cls yX5_bearer yX5_bearer ∈ tG := tG_of 836 (by decide +kernel) (by decide +kernel)
def mX5_bears : Mt := (yX5_bears, cX5_bears, 4, none)
theorem kC_X5_bears : Cond.code yX5_bears cX5_bears 4 none ∈ tG := tG_of 869 (by decide +kernel) (by decide +kernel)
theorem kN_X5_bears : Cond.instanceMethod yX5_bears ∈ tG := tG_of 868 (by decide +kernel) (by decide +kernel)
theorem kL_X5_bears : Cond.selects yX5_bears.cls yX5_bears yX5_bears ∈ tG := tG_pr (q := (yX5_bears, 18)) 35 (by decide +kernel)
def mX5_asksNow : Mt := (yX5_asksNow, cX5_asksNow, 4, none)
theorem kC_X5_asksNow : Cond.code yX5_asksNow cX5_asksNow 4 none ∈ tG := tG_of 873 (by decide +kernel) (by decide +kernel)
theorem kN_X5_asksNow : Cond.instanceMethod yX5_asksNow ∈ tG := tG_of 872 (by decide +kernel) (by decide +kernel)
theorem kL_X5_asksNow : Cond.selects yX5_asksNow.cls yX5_asksNow yX5_asksNow ∈ tG := tG_pr (q := (yX5_asksNow, 18)) 36 (by decide +kernel)
def mX5_dayBut : Mt := (yX5_dayBut, cX5_dayBut, 6, none)
theorem kC_X5_dayBut : Cond.code yX5_dayBut cX5_dayBut 6 none ∈ tG := tG_of 865 (by decide +kernel) (by decide +kernel)
theorem kN_X5_dayBut : Cond.instanceMethod yX5_dayBut ∈ tG := tG_of 864 (by decide +kernel) (by decide +kernel)
theorem kL_X5_dayBut : Cond.selects yX5_dayBut.cls yX5_dayBut yX5_dayBut ∈ tG := tG_pr (q := (yX5_dayBut, 18)) 34 (by decide +kernel)
def mX5_goes : Mt := (yX5_goes, cX5_goes, 3, none)
theorem kC_X5_goes : Cond.code yX5_goes cX5_goes 3 none ∈ tG := tG_of 861 (by decide +kernel) (by decide +kernel)
theorem kN_X5_goes : Cond.instanceMethod yX5_goes ∈ tG := tG_of 860 (by decide +kernel) (by decide +kernel)
theorem kL_X5_goes : Cond.selects yX5_goes.cls yX5_goes yX5_goes ∈ tG := tG_pr (q := (yX5_goes, 18)) 33 (by decide +kernel)
def mX5_sumOf : Mt := (yX5_sumOf, cX5_sumOf, 4, (some .int))
theorem kC_X5_sumOf : Cond.code yX5_sumOf cX5_sumOf 4 (some .int) ∈ tG := tG_of 877 (by decide +kernel) (by decide +kernel)
theorem kN_X5_sumOf : Cond.instanceMethod yX5_sumOf ∈ tG := tG_of 876 (by decide +kernel) (by decide +kernel)
theorem kL_X5_sumOf : Cond.selects yX5_sumOf.cls yX5_sumOf yX5_sumOf ∈ tG := tG_pr (q := (yX5_sumOf, 18)) 37 (by decide +kernel)
def mX5_go : Mt := (yX5_go, cX5_go, 2, (some .int))
theorem kC_X5_go : Cond.code yX5_go cX5_go 2 (some .int) ∈ tG := tG_of 854 (by decide +kernel) (by decide +kernel)
theorem kN_X5_go : Cond.instanceMethod yX5_go ∈ tG := tG_of 852 (by decide +kernel) (by decide +kernel)
theorem kL_X5_go : Cond.selects yX5_go.cls yX5_go yX5_go ∈ tG := tG_of 853 (by decide +kernel) (by decide +kernel)
def mX5_owedOnes : Mt := (yX5_owedOnes, cX5_owedOnes, 3, (some .int))
theorem kC_X5_owedOnes : Cond.code yX5_owedOnes cX5_owedOnes 3 (some .int) ∈ tG := tG_of 885 (by decide +kernel) (by decide +kernel)
theorem kN_X5_owedOnes : Cond.instanceMethod yX5_owedOnes ∈ tG := tG_of 884 (by decide +kernel) (by decide +kernel)
theorem kL_X5_owedOnes : Cond.selects yX5_owedOnes.cls yX5_owedOnes yX5_owedOnes ∈ tG := tG_pr (q := (yX5_owedOnes, 18)) 38 (by decide +kernel)
def mX5_now : Mt := (yX5_now, cX5_now, 2, (some .int))
theorem kC_X5_now : Cond.code yX5_now cX5_now 2 (some .int) ∈ tG := tG_of 881 (by decide +kernel) (by decide +kernel)
theorem kN_X5_now : Cond.instanceMethod yX5_now ∈ tG := tG_of 879 (by decide +kernel) (by decide +kernel)
theorem kL_X5_now : Cond.selects yX5_now.cls yX5_now yX5_now ∈ tG := tG_of 880 (by decide +kernel) (by decide +kernel)
def mX5_thenAt : Mt := (yX5_thenAt, cX5_thenAt, 4, (some .int))
theorem kC_X5_thenAt : Cond.code yX5_thenAt cX5_thenAt 4 (some .int) ∈ tG := tG_of 894 (by decide +kernel) (by decide +kernel)
theorem kN_X5_thenAt : Cond.instanceMethod yX5_thenAt ∈ tG := tG_of 893 (by decide +kernel) (by decide +kernel)
theorem kL_X5_thenAt : Cond.selects yX5_thenAt.cls yX5_thenAt yX5_thenAt ∈ tG := tG_pr (q := (yX5_thenAt, 18)) 39 (by decide +kernel)
def mX5_ahead : Mt := (yX5_ahead, cX5_ahead, 5, (some .int))
theorem kC_X5_ahead : Cond.code yX5_ahead cX5_ahead 5 (some .int) ∈ tG := tG_of 889 (by decide +kernel) (by decide +kernel)
theorem kN_X5_ahead : Cond.instanceMethod yX5_ahead ∈ tG := tG_of 887 (by decide +kernel) (by decide +kernel)
theorem kL_X5_ahead : Cond.selects yX5_ahead.cls yX5_ahead yX5_ahead ∈ tG := tG_of 888 (by decide +kernel) (by decide +kernel)
def mX5_hints : Mt := (yX5_hints, cX5_hints, 2, (some .int))
theorem kC_X5_hints : Cond.code yX5_hints cX5_hints 2 (some .int) ∈ tG := tG_of 901 (by decide +kernel) (by decide +kernel)
theorem kN_X5_hints : Cond.instanceMethod yX5_hints ∈ tG := tG_of 899 (by decide +kernel) (by decide +kernel)
theorem kL_X5_hints : Cond.selects yX5_hints.cls yX5_hints yX5_hints ∈ tG := tG_of 900 (by decide +kernel) (by decide +kernel)
def mX5_even : Mt := (yX5_even, cX5_even, 2, (some .int))
theorem kC_X5_even : Cond.code yX5_even cX5_even 2 (some .int) ∈ tG := tG_of 905 (by decide +kernel) (by decide +kernel)
theorem kN_X5_even : Cond.instanceMethod yX5_even ∈ tG := tG_of 903 (by decide +kernel) (by decide +kernel)
theorem kL_X5_even : Cond.selects yX5_even.cls yX5_even yX5_even ∈ tG := tG_of 904 (by decide +kernel) (by decide +kernel)
def mX5_when : Mt := (yX5_when, cX5_when, 4, (some .int))
theorem kC_X5_when : Cond.code yX5_when cX5_when 4 (some .int) ∈ tG := tG_of 909 (by decide +kernel) (by decide +kernel)
theorem kN_X5_when : Cond.instanceMethod yX5_when ∈ tG := tG_of 907 (by decide +kernel) (by decide +kernel)
theorem kL_X5_when : Cond.selects yX5_when.cls yX5_when yX5_when ∈ tG := tG_of 908 (by decide +kernel) (by decide +kernel)
def mX5_clean : Mt := (yX5_clean, cX5_clean, 3, (some .int))
theorem kC_X5_clean : Cond.code yX5_clean cX5_clean 3 (some .int) ∈ tG := tG_of 914 (by decide +kernel) (by decide +kernel)
theorem kN_X5_clean : Cond.instanceMethod yX5_clean ∈ tG := tG_of 912 (by decide +kernel) (by decide +kernel)
theorem kL_X5_clean : Cond.selects yX5_clean.cls yX5_clean yX5_clean ∈ tG := tG_of 913 (by decide +kernel) (by decide +kernel)
def mX5_nextPlace : Mt := (yX5_nextPlace, cX5_nextPlace, 1, (some .int))
theorem kC_X5_nextPlace : Cond.code yX5_nextPlace cX5_nextPlace 1 (some .int) ∈ tG := tG_of 923 (by decide +kernel) (by decide +kernel)
theorem kN_X5_nextPlace : Cond.instanceMethod yX5_nextPlace ∈ tG := tG_of 922 (by decide +kernel) (by decide +kernel)
theorem kL_X5_nextPlace : Cond.selects yX5_nextPlace.cls yX5_nextPlace yX5_nextPlace ∈ tG := tG_pr (q := (yX5_nextPlace, 18)) 40 (by decide +kernel)
def mX5_whom : Mt := (yX5_whom, cX5_whom, 8, (some .int))
theorem kC_X5_whom : Cond.code yX5_whom cX5_whom 8 (some .int) ∈ tG := tG_of 918 (by decide +kernel) (by decide +kernel)
theorem kN_X5_whom : Cond.instanceMethod yX5_whom ∈ tG := tG_of 916 (by decide +kernel) (by decide +kernel)
theorem kL_X5_whom : Cond.selects yX5_whom.cls yX5_whom yX5_whom ∈ tG := tG_of 917 (by decide +kernel) (by decide +kernel)
def mX5_isEvenOnce : Mt := (yX5_isEvenOnce, cX5_isEvenOnce, 4, (some .boolean))
theorem kC_X5_isEvenOnce : Cond.code yX5_isEvenOnce cX5_isEvenOnce 4 (some .boolean) ∈ tG := tG_of 931 (by decide +kernel) (by decide +kernel)
theorem kN_X5_isEvenOnce : Cond.instanceMethod yX5_isEvenOnce ∈ tG := tG_of 930 (by decide +kernel) (by decide +kernel)
theorem kL_X5_isEvenOnce : Cond.selects yX5_isEvenOnce.cls yX5_isEvenOnce yX5_isEvenOnce ∈ tG := tG_pr (q := (yX5_isEvenOnce, 18)) 41 (by decide +kernel)
def mX5_weightFor : Mt := (yX5_weightFor, cX5_weightFor, 5, (some .int))
theorem kC_X5_weightFor : Cond.code yX5_weightFor cX5_weightFor 5 (some .int) ∈ tG := tG_of 927 (by decide +kernel) (by decide +kernel)
theorem kN_X5_weightFor : Cond.instanceMethod yX5_weightFor ∈ tG := tG_of 925 (by decide +kernel) (by decide +kernel)
theorem kL_X5_weightFor : Cond.selects yX5_weightFor.cls yX5_weightFor yX5_weightFor ∈ tG := tG_of 926 (by decide +kernel) (by decide +kernel)
def mX5_isAsked : Mt := (yX5_isAsked, cX5_isAsked, 3, (some .boolean))
theorem kC_X5_isAsked : Cond.code yX5_isAsked cX5_isAsked 3 (some .boolean) ∈ tG := tG_of 939 (by decide +kernel) (by decide +kernel)
theorem kN_X5_isAsked : Cond.instanceMethod yX5_isAsked ∈ tG := tG_of 938 (by decide +kernel) (by decide +kernel)
theorem kL_X5_isAsked : Cond.selects yX5_isAsked.cls yX5_isAsked yX5_isAsked ∈ tG := tG_pr (q := (yX5_isAsked, 18)) 42 (by decide +kernel)
def mX5_buildFor : Mt := (yX5_buildFor, cX5_buildFor, 6, (some .int))
theorem kC_X5_buildFor : Cond.code yX5_buildFor cX5_buildFor 6 (some .int) ∈ tG := tG_of 935 (by decide +kernel) (by decide +kernel)
theorem kN_X5_buildFor : Cond.instanceMethod yX5_buildFor ∈ tG := tG_of 933 (by decide +kernel) (by decide +kernel)
theorem kL_X5_buildFor : Cond.selects yX5_buildFor.cls yX5_buildFor yX5_buildFor ∈ tG := tG_of 934 (by decide +kernel) (by decide +kernel)
def mX5_kindFor : Mt := (yX5_kindFor, cX5_kindFor, 8, (some .int))
theorem kC_X5_kindFor : Cond.code yX5_kindFor cX5_kindFor 8 (some .int) ∈ tG := tG_of 943 (by decide +kernel) (by decide +kernel)
theorem kN_X5_kindFor : Cond.instanceMethod yX5_kindFor ∈ tG := tG_of 941 (by decide +kernel) (by decide +kernel)
theorem kL_X5_kindFor : Cond.selects yX5_kindFor.cls yX5_kindFor yX5_kindFor ∈ tG := tG_of 942 (by decide +kernel) (by decide +kernel)
def mX5_refuse : Mt := (yX5_refuse, cX5_refuse, 7, (some .int))
theorem kC_X5_refuse : Cond.code yX5_refuse cX5_refuse 7 (some .int) ∈ tG := tG_of 947 (by decide +kernel) (by decide +kernel)
theorem kN_X5_refuse : Cond.instanceMethod yX5_refuse ∈ tG := tG_of 945 (by decide +kernel) (by decide +kernel)
theorem kL_X5_refuse : Cond.selects yX5_refuse.cls yX5_refuse yX5_refuse ∈ tG := tG_of 946 (by decide +kernel) (by decide +kernel)
def mX5_swapFor : Mt := (yX5_swapFor, cX5_swapFor, 10, (some .int))
theorem kC_X5_swapFor : Cond.code yX5_swapFor cX5_swapFor 10 (some .int) ∈ tG := tG_of 954 (by decide +kernel) (by decide +kernel)
theorem kN_X5_swapFor : Cond.instanceMethod yX5_swapFor ∈ tG := tG_of 952 (by decide +kernel) (by decide +kernel)
theorem kL_X5_swapFor : Cond.selects yX5_swapFor.cls yX5_swapFor yX5_swapFor ∈ tG := tG_of 953 (by decide +kernel) (by decide +kernel)
def mX5_isTold : Mt := (yX5_isTold, cX5_isTold, 6, (some .boolean))
theorem kC_X5_isTold : Cond.code yX5_isTold cX5_isTold 6 (some .boolean) ∈ tG := tG_of 978 (by decide +kernel) (by decide +kernel)
theorem kN_X5_isTold : Cond.instanceMethod yX5_isTold ∈ tG := tG_of 977 (by decide +kernel) (by decide +kernel)
theorem kL_X5_isTold : Cond.selects yX5_isTold.cls yX5_isTold yX5_isTold ∈ tG := tG_pr (q := (yX5_isTold, 18)) 46 (by decide +kernel)
def mX5_findsFits : Mt := (yX5_findsFits, cX5_findsFits, 6, none)
theorem kC_X5_findsFits : Cond.code yX5_findsFits cX5_findsFits 6 none ∈ tG := tG_of 974 (by decide +kernel) (by decide +kernel)
theorem kN_X5_findsFits : Cond.instanceMethod yX5_findsFits ∈ tG := tG_of 973 (by decide +kernel) (by decide +kernel)
theorem kL_X5_findsFits : Cond.selects yX5_findsFits.cls yX5_findsFits yX5_findsFits ∈ tG := tG_pr (q := (yX5_findsFits, 18)) 45 (by decide +kernel)
def mX5_wantsFor : Mt := (yX5_wantsFor, cX5_wantsFor, 3, (some .int))
theorem kC_X5_wantsFor : Cond.code yX5_wantsFor cX5_wantsFor 3 (some .int) ∈ tG := tG_of 962 (by decide +kernel) (by decide +kernel)
theorem kN_X5_wantsFor : Cond.instanceMethod yX5_wantsFor ∈ tG := tG_of 961 (by decide +kernel) (by decide +kernel)
theorem kL_X5_wantsFor : Cond.selects yX5_wantsFor.cls yX5_wantsFor yX5_wantsFor ∈ tG := tG_pr (q := (yX5_wantsFor, 18)) 43 (by decide +kernel)
def mX5_fits : Mt := (yX5_fits, cX5_fits, 4, (some .int))
theorem kC_X5_fits : Cond.code yX5_fits cX5_fits 4 (some .int) ∈ tG := tG_of 958 (by decide +kernel) (by decide +kernel)
theorem kN_X5_fits : Cond.instanceMethod yX5_fits ∈ tG := tG_of 956 (by decide +kernel) (by decide +kernel)
theorem kL_X5_fits : Cond.selects yX5_fits.cls yX5_fits yX5_fits ∈ tG := tG_of 957 (by decide +kernel) (by decide +kernel)
def mX5_weighed : Mt := (yX5_weighed, cX5_weighed, 4, (some .int))
theorem kC_X5_weighed : Cond.code yX5_weighed cX5_weighed 4 (some .int) ∈ tG := tG_of 982 (by decide +kernel) (by decide +kernel)
theorem kN_X5_weighed : Cond.instanceMethod yX5_weighed ∈ tG := tG_of 980 (by decide +kernel) (by decide +kernel)
theorem kL_X5_weighed : Cond.selects yX5_weighed.cls yX5_weighed yX5_weighed ∈ tG := tG_of 981 (by decide +kernel) (by decide +kernel)
def mX5_kinds : Mt := (yX5_kinds, cX5_kinds, 7, (some .int))
theorem kC_X5_kinds : Cond.code yX5_kinds cX5_kinds 7 (some .int) ∈ tG := tG_of 986 (by decide +kernel) (by decide +kernel)
theorem kN_X5_kinds : Cond.instanceMethod yX5_kinds ∈ tG := tG_of 984 (by decide +kernel) (by decide +kernel)
theorem kL_X5_kinds : Cond.selects yX5_kinds.cls yX5_kinds yX5_kinds ∈ tG := tG_of 985 (by decide +kernel) (by decide +kernel)
def mX5_draw : Mt := (yX5_draw, cX5_draw, 1, (some .int))
theorem kC_X5_draw : Cond.code yX5_draw cX5_draw 1 (some .int) ∈ tG := tG_of 994 (by decide +kernel) (by decide +kernel)
theorem kN_X5_draw : Cond.instanceMethod yX5_draw ∈ tG := tG_of 993 (by decide +kernel) (by decide +kernel)
theorem kL_X5_draw : Cond.selects yX5_draw.cls yX5_draw yX5_draw ∈ tG := tG_pr (q := (yX5_draw, 18)) 47 (by decide +kernel)
def mX5_gossip : Mt := (yX5_gossip, cX5_gossip, 4, (some .int))
theorem kC_X5_gossip : Cond.code yX5_gossip cX5_gossip 4 (some .int) ∈ tG := tG_of 990 (by decide +kernel) (by decide +kernel)
theorem kN_X5_gossip : Cond.instanceMethod yX5_gossip ∈ tG := tG_of 988 (by decide +kernel) (by decide +kernel)
theorem kL_X5_gossip : Cond.selects yX5_gossip.cls yX5_gossip yX5_gossip ∈ tG := tG_of 989 (by decide +kernel) (by decide +kernel)
def mX5_odds : Mt := (yX5_odds, cX5_odds, 9, (some .long))
theorem kC_X5_odds : Cond.code yX5_odds cX5_odds 9 (some .long) ∈ tG := tG_of 999 (by decide +kernel) (by decide +kernel)
theorem kN_X5_odds : Cond.instanceMethod yX5_odds ∈ tG := tG_of 997 (by decide +kernel) (by decide +kernel)
theorem kL_X5_odds : Cond.selects yX5_odds.cls yX5_odds yX5_odds ∈ tG := tG_of 998 (by decide +kernel) (by decide +kernel)
def mX5_seed : Mt := (yX5_seed, cX5_seed, 2, (some .int))
theorem kC_X5_seed : Cond.code yX5_seed cX5_seed 2 (some .int) ∈ tG := tG_of 1005 (by decide +kernel) (by decide +kernel)
theorem kN_X5_seed : Cond.instanceMethod yX5_seed ∈ tG := tG_of 1003 (by decide +kernel) (by decide +kernel)
theorem kL_X5_seed : Cond.selects yX5_seed.cls yX5_seed yX5_seed ∈ tG := tG_of 1004 (by decide +kernel) (by decide +kernel)
def mX5_feed : Mt := (yX5_feed, cX5_feed, 4, (some .int))
theorem kC_X5_feed : Cond.code yX5_feed cX5_feed 4 (some .int) ∈ tG := tG_of 1009 (by decide +kernel) (by decide +kernel)
theorem kN_X5_feed : Cond.instanceMethod yX5_feed ∈ tG := tG_of 1007 (by decide +kernel) (by decide +kernel)
theorem kL_X5_feed : Cond.selects yX5_feed.cls yX5_feed yX5_feed ∈ tG := tG_of 1008 (by decide +kernel) (by decide +kernel)
def mX5_wipe : Mt := (yX5_wipe, cX5_wipe, 2, (some .int))
theorem kC_X5_wipe : Cond.code yX5_wipe cX5_wipe 2 (some .int) ∈ tG := tG_of 1013 (by decide +kernel) (by decide +kernel)
theorem kN_X5_wipe : Cond.instanceMethod yX5_wipe ∈ tG := tG_of 1011 (by decide +kernel) (by decide +kernel)
theorem kL_X5_wipe : Cond.selects yX5_wipe.cls yX5_wipe yX5_wipe ∈ tG := tG_of 1012 (by decide +kernel) (by decide +kernel)
def mX5_isLetter : Mt := (yX5_isLetter, cX5_isLetter, 1, (some .boolean))
theorem kC_X5_isLetter : Cond.code yX5_isLetter cX5_isLetter 1 (some .boolean) ∈ tG := tG_of 1028 (by decide +kernel) (by decide +kernel)
theorem kS_X5_isLetter : Cond.static yX5_isLetter ∈ tG := tG_of 1027 (by decide +kernel) (by decide +kernel)
def mX5_isDigit : Mt := (yX5_isDigit, cX5_isDigit, 1, (some .boolean))
theorem kC_X5_isDigit : Cond.code yX5_isDigit cX5_isDigit 1 (some .boolean) ∈ tG := tG_of 1031 (by decide +kernel) (by decide +kernel)
theorem kS_X5_isDigit : Cond.static yX5_isDigit ∈ tG := tG_of 1030 (by decide +kernel) (by decide +kernel)
def mX5_byteAt : Mt := (yX5_byteAt, cX5_byteAt, 2, (some .int))
theorem kC_X5_byteAt : Cond.code yX5_byteAt cX5_byteAt 2 (some .int) ∈ tG := tG_of 1025 (by decide +kernel) (by decide +kernel)
theorem kN_X5_byteAt : Cond.instanceMethod yX5_byteAt ∈ tG := tG_of 1024 (by decide +kernel) (by decide +kernel)
theorem kL_X5_byteAt : Cond.selects yX5_byteAt.cls yX5_byteAt yX5_byteAt ∈ tG := tG_pr (q := (yX5_byteAt, 18)) 49 (by decide +kernel)
def mX5_nextToken : Mt := (yX5_nextToken, cX5_nextToken, 2, none)
theorem kC_X5_nextToken : Cond.code yX5_nextToken cX5_nextToken 2 none ∈ tG := tG_of 1021 (by decide +kernel) (by decide +kernel)
theorem kN_X5_nextToken : Cond.instanceMethod yX5_nextToken ∈ tG := tG_of 1020 (by decide +kernel) (by decide +kernel)
theorem kL_X5_nextToken : Cond.selects yX5_nextToken.cls yX5_nextToken yX5_nextToken ∈ tG := tG_pr (q := (yX5_nextToken, 18)) 48 (by decide +kernel)
def mX5_has3 : Mt := (yX5_has3, cX5_has3, 5, (some .boolean))
theorem kC_X5_has3 : Cond.code yX5_has3 cX5_has3 5 (some .boolean) ∈ tG := tG_of 1051 (by decide +kernel) (by decide +kernel)
theorem kN_X5_has3 : Cond.instanceMethod yX5_has3 ∈ tG := tG_of 1050 (by decide +kernel) (by decide +kernel)
theorem kL_X5_has3 : Cond.selects yX5_has3.cls yX5_has3 yX5_has3 ∈ tG := tG_pr (q := (yX5_has3, 18)) 54 (by decide +kernel)
def mX5_isWord : Mt := (yX5_isWord, cX5_isWord, 2, (some .boolean))
theorem kC_X5_isWord : Cond.code yX5_isWord cX5_isWord 2 (some .boolean) ∈ tG := tG_of 1047 (by decide +kernel) (by decide +kernel)
theorem kN_X5_isWord : Cond.instanceMethod yX5_isWord ∈ tG := tG_of 1046 (by decide +kernel) (by decide +kernel)
theorem kL_X5_isWord : Cond.selects yX5_isWord.cls yX5_isWord yX5_isWord ∈ tG := tG_pr (q := (yX5_isWord, 18)) 53 (by decide +kernel)
def mX5_fails : Mt := (yX5_fails, cX5_fails, 1, (some .boolean))
theorem kC_X5_fails : Cond.code yX5_fails cX5_fails 1 (some .boolean) ∈ tG := tG_of 1067 (by decide +kernel) (by decide +kernel)
theorem kN_X5_fails : Cond.instanceMethod yX5_fails ∈ tG := tG_of 1066 (by decide +kernel) (by decide +kernel)
theorem kL_X5_fails : Cond.selects yX5_fails.cls yX5_fails yX5_fails ∈ tG := tG_pr (q := (yX5_fails, 18)) 58 (by decide +kernel)
def mX5_isFour : Mt := (yX5_isFour, cX5_isFour, 5, (some .boolean))
theorem kC_X5_isFour : Cond.code yX5_isFour cX5_isFour 5 (some .boolean) ∈ tG := tG_of 1055 (by decide +kernel) (by decide +kernel)
theorem kN_X5_isFour : Cond.instanceMethod yX5_isFour ∈ tG := tG_of 1054 (by decide +kernel) (by decide +kernel)
theorem kL_X5_isFour : Cond.selects yX5_isFour.cls yX5_isFour yX5_isFour ∈ tG := tG_pr (q := (yX5_isFour, 18)) 55 (by decide +kernel)
def mX5_isFive : Mt := (yX5_isFive, cX5_isFive, 6, (some .boolean))
theorem kC_X5_isFive : Cond.code yX5_isFive cX5_isFive 6 (some .boolean) ∈ tG := tG_of 1059 (by decide +kernel) (by decide +kernel)
theorem kN_X5_isFive : Cond.instanceMethod yX5_isFive ∈ tG := tG_of 1058 (by decide +kernel) (by decide +kernel)
theorem kL_X5_isFive : Cond.selects yX5_isFive.cls yX5_isFive yX5_isFive ∈ tG := tG_pr (q := (yX5_isFive, 18)) 56 (by decide +kernel)
def mX5_isSix : Mt := (yX5_isSix, cX5_isSix, 7, (some .boolean))
theorem kC_X5_isSix : Cond.code yX5_isSix cX5_isSix 7 (some .boolean) ∈ tG := tG_of 1043 (by decide +kernel) (by decide +kernel)
theorem kN_X5_isSix : Cond.instanceMethod yX5_isSix ∈ tG := tG_of 1042 (by decide +kernel) (by decide +kernel)
theorem kL_X5_isSix : Cond.selects yX5_isSix.cls yX5_isSix yX5_isSix ∈ tG := tG_pr (q := (yX5_isSix, 18)) 52 (by decide +kernel)
def mX5_isNumber : Mt := (yX5_isNumber, cX5_isNumber, 3, (some .boolean))
theorem kC_X5_isNumber : Cond.code yX5_isNumber cX5_isNumber 3 (some .boolean) ∈ tG := tG_of 1075 (by decide +kernel) (by decide +kernel)
theorem kN_X5_isNumber : Cond.instanceMethod yX5_isNumber ∈ tG := tG_of 1074 (by decide +kernel) (by decide +kernel)
theorem kL_X5_isNumber : Cond.selects yX5_isNumber.cls yX5_isNumber yX5_isNumber ∈ tG := tG_pr (q := (yX5_isNumber, 18)) 60 (by decide +kernel)
def mX5_kindHere : Mt := (yX5_kindHere, cX5_kindHere, 1, (some .int))
theorem kC_X5_kindHere : Cond.code yX5_kindHere cX5_kindHere 1 (some .int) ∈ tG := tG_of 1039 (by decide +kernel) (by decide +kernel)
theorem kN_X5_kindHere : Cond.instanceMethod yX5_kindHere ∈ tG := tG_of 1038 (by decide +kernel) (by decide +kernel)
theorem kL_X5_kindHere : Cond.selects yX5_kindHere.cls yX5_kindHere yX5_kindHere ∈ tG := tG_pr (q := (yX5_kindHere, 18)) 51 (by decide +kernel)
def mX5_perhaps : Mt := (yX5_perhaps, cX5_perhaps, 4, (some .boolean))
theorem kC_X5_perhaps : Cond.code yX5_perhaps cX5_perhaps 4 (some .boolean) ∈ tG := tG_of 1071 (by decide +kernel) (by decide +kernel)
theorem kN_X5_perhaps : Cond.instanceMethod yX5_perhaps ∈ tG := tG_of 1070 (by decide +kernel) (by decide +kernel)
theorem kL_X5_perhaps : Cond.selects yX5_perhaps.cls yX5_perhaps yX5_perhaps ∈ tG := tG_pr (q := (yX5_perhaps, 18)) 59 (by decide +kernel)
def mX5_personHere : Mt := (yX5_personHere, cX5_personHere, 3, (some .boolean))
theorem kC_X5_personHere : Cond.code yX5_personHere cX5_personHere 3 (some .boolean) ∈ tG := tG_of 1063 (by decide +kernel) (by decide +kernel)
theorem kN_X5_personHere : Cond.instanceMethod yX5_personHere ∈ tG := tG_of 1062 (by decide +kernel) (by decide +kernel)
theorem kL_X5_personHere : Cond.selects yX5_personHere.cls yX5_personHere yX5_personHere ∈ tG := tG_pr (q := (yX5_personHere, 18)) 57 (by decide +kernel)
def mX5_saidHere : Mt := (yX5_saidHere, cX5_saidHere, 3, (some .boolean))
theorem kC_X5_saidHere : Cond.code yX5_saidHere cX5_saidHere 3 (some .boolean) ∈ tG := tG_of 1079 (by decide +kernel) (by decide +kernel)
theorem kN_X5_saidHere : Cond.instanceMethod yX5_saidHere ∈ tG := tG_of 1078 (by decide +kernel) (by decide +kernel)
theorem kL_X5_saidHere : Cond.selects yX5_saidHere.cls yX5_saidHere yX5_saidHere ∈ tG := tG_pr (q := (yX5_saidHere, 18)) 61 (by decide +kernel)
def mX5_itemHere : Mt := (yX5_itemHere, cX5_itemHere, 2, (some .boolean))
theorem kC_X5_itemHere : Cond.code yX5_itemHere cX5_itemHere 2 (some .boolean) ∈ tG := tG_of 1035 (by decide +kernel) (by decide +kernel)
theorem kN_X5_itemHere : Cond.instanceMethod yX5_itemHere ∈ tG := tG_of 1034 (by decide +kernel) (by decide +kernel)
theorem kL_X5_itemHere : Cond.selects yX5_itemHere.cls yX5_itemHere yX5_itemHere ∈ tG := tG_pr (q := (yX5_itemHere, 18)) 50 (by decide +kernel)
def mX5_text : Mt := (yX5_text, cX5_text, 3, (some .int))
theorem kC_X5_text : Cond.code yX5_text cX5_text 3 (some .int) ∈ tG := tG_of 1017 (by decide +kernel) (by decide +kernel)
theorem kN_X5_text : Cond.instanceMethod yX5_text ∈ tG := tG_of 1015 (by decide +kernel) (by decide +kernel)
theorem kL_X5_text : Cond.selects yX5_text.cls yX5_text yX5_text ∈ tG := tG_of 1016 (by decide +kernel) (by decide +kernel)
def mX5_hold : Mt := (yX5_hold, cX5_hold, 3, (some .int))
theorem kC_X5_hold : Cond.code yX5_hold cX5_hold 3 (some .int) ∈ tG := tG_of 1083 (by decide +kernel) (by decide +kernel)
theorem kN_X5_hold : Cond.instanceMethod yX5_hold ∈ tG := tG_of 1081 (by decide +kernel) (by decide +kernel)
theorem kL_X5_hold : Cond.selects yX5_hold.cls yX5_hold yX5_hold ∈ tG := tG_of 1082 (by decide +kernel) (by decide +kernel)
def mX5_isUnder : Mt := (yX5_isUnder, cX5_isUnder, 2, (some .boolean))
theorem kC_X5_isUnder : Cond.code yX5_isUnder cX5_isUnder 2 (some .boolean) ∈ tG := tG_of 1091 (by decide +kernel) (by decide +kernel)
theorem kS_X5_isUnder : Cond.static yX5_isUnder ∈ tG := tG_of 1090 (by decide +kernel) (by decide +kernel)
def mX5_as : Mt := (yX5_as, cX5_as, 4, (some .int))
theorem kC_X5_as : Cond.code yX5_as cX5_as 4 (some .int) ∈ tG := tG_of 1088 (by decide +kernel) (by decide +kernel)
theorem kN_X5_as : Cond.instanceMethod yX5_as ∈ tG := tG_of 1086 (by decide +kernel) (by decide +kernel)
theorem kL_X5_as : Cond.selects yX5_as.cls yX5_as yX5_as ∈ tG := tG_of 1087 (by decide +kernel) (by decide +kernel)
def mX5_isSheet : Mt := (yX5_isSheet, cX5_isSheet, 1, (some .boolean))
theorem kC_X5_isSheet : Cond.code yX5_isSheet cX5_isSheet 1 (some .boolean) ∈ tG := tG_of 969 (by decide +kernel) (by decide +kernel)
theorem kS_X5_isSheet : Cond.static yX5_isSheet ∈ tG := tG_of 968 (by decide +kernel) (by decide +kernel)
def mX5_sheet : Mt := (yX5_sheet, cX5_sheet, 5, (some .int))
theorem kC_X5_sheet : Cond.code yX5_sheet cX5_sheet 5 (some .int) ∈ tG := tG_of 1096 (by decide +kernel) (by decide +kernel)
theorem kN_X5_sheet : Cond.instanceMethod yX5_sheet ∈ tG := tG_of 1094 (by decide +kernel) (by decide +kernel)
theorem kL_X5_sheet : Cond.selects yX5_sheet.cls yX5_sheet yX5_sheet ∈ tG := tG_of 1095 (by decide +kernel) (by decide +kernel)
def mX5_write : Mt := (yX5_write, cX5_write, 4, (some .int))
theorem kC_X5_write : Cond.code yX5_write cX5_write 4 (some .int) ∈ tG := tG_of 1101 (by decide +kernel) (by decide +kernel)
theorem kN_X5_write : Cond.instanceMethod yX5_write ∈ tG := tG_of 1099 (by decide +kernel) (by decide +kernel)
theorem kL_X5_write : Cond.selects yX5_write.cls yX5_write yX5_write ∈ tG := tG_of 1100 (by decide +kernel) (by decide +kernel)
def mX5_copy : Mt := (yX5_copy, cX5_copy, 10, (some .int))
theorem kC_X5_copy : Cond.code yX5_copy cX5_copy 10 (some .int) ∈ tG := tG_of 1105 (by decide +kernel) (by decide +kernel)
theorem kN_X5_copy : Cond.instanceMethod yX5_copy ∈ tG := tG_of 1103 (by decide +kernel) (by decide +kernel)
theorem kL_X5_copy : Cond.selects yX5_copy.cls yX5_copy yX5_copy ∈ tG := tG_of 1104 (by decide +kernel) (by decide +kernel)
def mX5_wants : Mt := (yX5_wants, cX5_wants, 2, (some .int))
theorem kC_X5_wants : Cond.code yX5_wants cX5_wants 2 (some .int) ∈ tG := tG_of 966 (by decide +kernel) (by decide +kernel)
theorem kN_X5_wants : Cond.instanceMethod yX5_wants ∈ tG := tG_of 965 (by decide +kernel) (by decide +kernel)
theorem kL_X5_wants : Cond.selects yX5_wants.cls yX5_wants yX5_wants ∈ tG := tG_pr (q := (yX5_wants, 18)) 44 (by decide +kernel)
def mX5_load : Mt := (yX5_load, cX5_load, 3, (some .int))
theorem kC_X5_load : Cond.code yX5_load cX5_load 3 (some .int) ∈ tG := tG_of 1109 (by decide +kernel) (by decide +kernel)
theorem kN_X5_load : Cond.instanceMethod yX5_load ∈ tG := tG_of 1107 (by decide +kernel) (by decide +kernel)
theorem kL_X5_load : Cond.selects yX5_load.cls yX5_load yX5_load ∈ tG := tG_of 1108 (by decide +kernel) (by decide +kernel)
def mX5_judge : Mt := (yX5_judge, cX5_judge, 3, (some .int))
theorem kC_X5_judge : Cond.code yX5_judge cX5_judge 3 (some .int) ∈ tG := tG_of 1117 (by decide +kernel) (by decide +kernel)
theorem kN_X5_judge : Cond.instanceMethod yX5_judge ∈ tG := tG_of 1115 (by decide +kernel) (by decide +kernel)
theorem kL_X5_judge : Cond.selects yX5_judge.cls yX5_judge yX5_judge ∈ tG := tG_of 1116 (by decide +kernel) (by decide +kernel)
def mX5_image : Mt := (yX5_image, cX5_image, 1, (some .int))
theorem kC_X5_image : Cond.code yX5_image cX5_image 1 (some .int) ∈ tG := tG_of 1121 (by decide +kernel) (by decide +kernel)
theorem kN_X5_image : Cond.instanceMethod yX5_image ∈ tG := tG_of 1119 (by decide +kernel) (by decide +kernel)
theorem kL_X5_image : Cond.selects yX5_image.cls yX5_image yX5_image ∈ tG := tG_of 1120 (by decide +kernel) (by decide +kernel)
def mX5_undo : Mt := (yX5_undo, cX5_undo, 1, (some .int))
theorem kC_X5_undo : Cond.code yX5_undo cX5_undo 1 (some .int) ∈ tG := tG_of 1125 (by decide +kernel) (by decide +kernel)
theorem kN_X5_undo : Cond.instanceMethod yX5_undo ∈ tG := tG_of 1123 (by decide +kernel) (by decide +kernel)
theorem kL_X5_undo : Cond.selects yX5_undo.cls yX5_undo yX5_undo ∈ tG := tG_of 1124 (by decide +kernel) (by decide +kernel)
def mX5_tear : Mt := (yX5_tear, cX5_tear, 2, (some .int))
theorem kC_X5_tear : Cond.code yX5_tear cX5_tear 2 (some .int) ∈ tG := tG_of 1129 (by decide +kernel) (by decide +kernel)
theorem kN_X5_tear : Cond.instanceMethod yX5_tear ∈ tG := tG_of 1127 (by decide +kernel) (by decide +kernel)
theorem kL_X5_tear : Cond.selects yX5_tear.cls yX5_tear yX5_tear ∈ tG := tG_of 1128 (by decide +kernel) (by decide +kernel)
def mX5_count : Mt := (yX5_count, cX5_count, 4, (some .int))
theorem kC_X5_count : Cond.code yX5_count cX5_count 4 (some .int) ∈ tG := tG_of 1133 (by decide +kernel) (by decide +kernel)
theorem kN_X5_count : Cond.instanceMethod yX5_count ∈ tG := tG_of 1131 (by decide +kernel) (by decide +kernel)
theorem kL_X5_count : Cond.selects yX5_count.cls yX5_count yX5_count ∈ tG := tG_of 1132 (by decide +kernel) (by decide +kernel)
def mX5_status : Mt := (yX5_status, cX5_status, 2, (some .int))
theorem kC_X5_status : Cond.code yX5_status cX5_status 2 (some .int) ∈ tG := tG_of 1137 (by decide +kernel) (by decide +kernel)
theorem kN_X5_status : Cond.instanceMethod yX5_status ∈ tG := tG_of 1135 (by decide +kernel) (by decide +kernel)
theorem kL_X5_status : Cond.selects yX5_status.cls yX5_status yX5_status ∈ tG := tG_of 1136 (by decide +kernel) (by decide +kernel)
def mJ6_bitCount_0f7a4 : Mt := (yJ6_bitCount_0f7a4, cJ6_bitCount_0f7a4, 1, (some .int))
theorem kC_J6_bitCount_0f7a4 : Cond.code yJ6_bitCount_0f7a4 cJ6_bitCount_0f7a4 1 (some .int) ∈ tG := tG_of 403 (by decide +kernel) (by decide +kernel)
theorem kS_J6_bitCount_0f7a4 : Cond.static yJ6_bitCount_0f7a4 ∈ tG := tG_of 402 (by decide +kernel) (by decide +kernel)
def mJ9_max_7cf53 : Mt := (yJ9_max_7cf53, cJ9_max_7cf53, 2, (some .int))
theorem kC_J9_max_7cf53 : Cond.code yJ9_max_7cf53 cJ9_max_7cf53 2 (some .int) ∈ tG := tG_of 219 (by decide +kernel) (by decide +kernel)
theorem kS_J9_max_7cf53 : Cond.static yJ9_max_7cf53 ∈ tG := tG_of 218 (by decide +kernel) (by decide +kernel)
def mJ9_min_7cf53 : Mt := (yJ9_min_7cf53, cJ9_min_7cf53, 2, (some .int))
theorem kC_J9_min_7cf53 : Cond.code yJ9_min_7cf53 cJ9_min_7cf53 2 (some .int) ∈ tG := tG_of 212 (by decide +kernel) (by decide +kernel)
theorem kS_J9_min_7cf53 : Cond.static yJ9_min_7cf53 ∈ tG := tG_of 211 (by decide +kernel) (by decide +kernel)
def mJ0_length_8abf5 : Mt := (yJ0_length_8abf5, cJ0_length_8abf5, 1, (some .int))
theorem kC_J0_length_8abf5 : Cond.code yJ0_length_8abf5 cJ0_length_8abf5 1 (some .int) ∈ tG := tG_of 521 (by decide +kernel) (by decide +kernel)
theorem kN_J0_length_8abf5 : Cond.instanceMethod yJ0_length_8abf5 ∈ tG := tG_of 519 (by decide +kernel) (by decide +kernel)
theorem kL_J0_length_8abf5 : Cond.selects yJ0_length_8abf5.cls yJ0_length_8abf5 yJ0_length_8abf5 ∈ tG := tG_of 520 (by decide +kernel) (by decide +kernel)
def mJ0_charAt_5068e : Mt := (yJ0_charAt_5068e, cJ0_charAt_5068e, 2, (some .char))
theorem kC_J0_charAt_5068e : Cond.code yJ0_charAt_5068e cJ0_charAt_5068e 2 (some .char) ∈ tG := tG_of 531 (by decide +kernel) (by decide +kernel)
theorem kN_J0_charAt_5068e : Cond.instanceMethod yJ0_charAt_5068e ∈ tG := tG_of 529 (by decide +kernel) (by decide +kernel)
theorem kL_J0_charAt_5068e : Cond.selects yJ0_charAt_5068e.cls yJ0_charAt_5068e yJ0_charAt_5068e ∈ tG := tG_of 530 (by decide +kernel) (by decide +kernel)
def mJ0_coder_7d493 : Mt := (yJ0_coder_7d493, cJ0_coder_7d493, 1, (some .byte))
theorem kC_J0_coder_7d493 : Cond.code yJ0_coder_7d493 cJ0_coder_7d493 1 (some .byte) ∈ tG := tG_of 525 (by decide +kernel) (by decide +kernel)
theorem kN_J0_coder_7d493 : Cond.instanceMethod yJ0_coder_7d493 ∈ tG := tG_of 523 (by decide +kernel) (by decide +kernel)
theorem kL_J0_coder_7d493 : Cond.selects yJ0_coder_7d493.cls yJ0_coder_7d493 yJ0_coder_7d493 ∈ tG := tG_of 524 (by decide +kernel) (by decide +kernel)
def mJ0_isLatin1_aae02 : Mt := (yJ0_isLatin1_aae02, cJ0_isLatin1_aae02, 1, (some .boolean))
theorem kC_J0_isLatin1_aae02 : Cond.code yJ0_isLatin1_aae02 cJ0_isLatin1_aae02 1 (some .boolean) ∈ tG := tG_of 535 (by decide +kernel) (by decide +kernel)
theorem kN_J0_isLatin1_aae02 : Cond.instanceMethod yJ0_isLatin1_aae02 ∈ tG := tG_of 533 (by decide +kernel) (by decide +kernel)
theorem kL_J0_isLatin1_aae02 : Cond.selects yJ0_isLatin1_aae02.cls yJ0_isLatin1_aae02 yJ0_isLatin1_aae02 ∈ tG := tG_of 534 (by decide +kernel) (by decide +kernel)
def mJ0_checkIndex_df160 : Mt := (yJ0_checkIndex_df160, cJ0_checkIndex_df160, 2, none)
theorem kC_J0_checkIndex_df160 : Cond.code yJ0_checkIndex_df160 cJ0_checkIndex_df160 2 none ∈ tG := tG_of 541 (by decide +kernel) (by decide +kernel)
theorem kS_J0_checkIndex_df160 : Cond.static yJ0_checkIndex_df160 ∈ tG := tG_of 540 (by decide +kernel) (by decide +kernel)
def mJ1_charAt_3b067 : Mt := (yJ1_charAt_3b067, cJ1_charAt_3b067, 2, (some .char))
theorem kC_J1_charAt_3b067 : Cond.code yJ1_charAt_3b067 cJ1_charAt_3b067 2 (some .char) ∈ tG := tG_of 538 (by decide +kernel) (by decide +kernel)
theorem kS_J1_charAt_3b067 : Cond.static yJ1_charAt_3b067 ∈ tG := tG_of 537 (by decide +kernel) (by decide +kernel)
def mJ2_getChar_3b067 : Mt := (yJ2_getChar_3b067, cJ2_getChar_3b067, 2, (some .char))
theorem kC_J2_getChar_3b067 : Cond.code yJ2_getChar_3b067 cJ2_getChar_3b067 2 (some .char) ∈ tG := tG_of 559 (by decide +kernel) (by decide +kernel)
theorem kS_J2_getChar_3b067 : Cond.static yJ2_getChar_3b067 ∈ tG := tG_of 558 (by decide +kernel) (by decide +kernel)
def mJ2_length_9d52b : Mt := (yJ2_length_9d52b, cJ2_length_9d52b, 1, (some .int))
theorem kC_J2_length_9d52b : Cond.code yJ2_length_9d52b cJ2_length_9d52b 1 (some .int) ∈ tG := tG_of 555 (by decide +kernel) (by decide +kernel)
theorem kS_J2_length_9d52b : Cond.static yJ2_length_9d52b ∈ tG := tG_of 554 (by decide +kernel) (by decide +kernel)
def mJ2_charAt_3b067 : Mt := (yJ2_charAt_3b067, cJ2_charAt_3b067, 2, (some .char))
theorem kC_J2_charAt_3b067 : Cond.code yJ2_charAt_3b067 cJ2_charAt_3b067 2 (some .char) ∈ tG := tG_of 549 (by decide +kernel) (by decide +kernel)
theorem kS_J2_charAt_3b067 : Cond.static yJ2_charAt_3b067 ∈ tG := tG_of 548 (by decide +kernel) (by decide +kernel)
def mJ2_checkIndex_2214a : Mt := (yJ2_checkIndex_2214a, cJ2_checkIndex_2214a, 2, none)
theorem kC_J2_checkIndex_2214a : Cond.code yJ2_checkIndex_2214a cJ2_checkIndex_2214a 2 none ∈ tG := tG_of 552 (by decide +kernel) (by decide +kernel)
theorem kS_J2_checkIndex_2214a : Cond.static yJ2_checkIndex_2214a ∈ tG := tG_of 551 (by decide +kernel) (by decide +kernel)
def mJ3_checkIndex_8e157 : Mt := (yJ3_checkIndex_8e157, cJ3_checkIndex_8e157, 3, (some .int))
theorem kC_J3_checkIndex_8e157 : Cond.code yJ3_checkIndex_8e157 cJ3_checkIndex_8e157 3 (some .int) ∈ tG := tG_of 546 (by decide +kernel) (by decide +kernel)
theorem kS_J3_checkIndex_8e157 : Cond.static yJ3_checkIndex_8e157 ∈ tG := tG_of 545 (by decide +kernel) (by decide +kernel)
def mL_law : Mt := (yL_law, cL_law, 4, (some .boolean))
theorem fl_X1_9 : FLk RX1 9 1 0 := ⟨RX1, TX1, 5, rfl, iX1, by decide, tG_of 35 (by decide +kernel) (by decide +kernel)⟩
theorem fp_X1_9 : FPk RX1 9 1 0 .int := ⟨RX1, TX1, 5, tyX1, rfl, iX1, by decide, tG_of 35 (by decide +kernel) (by decide +kernel), tyX1_ok, nmX1, rfl, by decide +kernel⟩
theorem fl_X4_160 : FLk RX4 160 1 0 := ⟨RX1, TX1, 5, rfl, iX1, by decide, tG_of 36 (by decide +kernel) (by decide +kernel)⟩
theorem fp_X4_160 : FPk RX4 160 1 0 .int := ⟨RX1, TX1, 5, tyX1, rfl, iX1, by decide, tG_of 36 (by decide +kernel) (by decide +kernel), tyX1_ok, nmX1, rfl, by decide +kernel⟩
theorem fl_X1_15 : FLk RX1 15 1 1 := ⟨RX1, TX1, 5, rfl, iX1, by decide, tG_of 37 (by decide +kernel) (by decide +kernel)⟩
theorem fp_X1_15 : FPk RX1 15 1 1 .int := ⟨RX1, TX1, 5, tyX1, rfl, iX1, by decide, tG_of 37 (by decide +kernel) (by decide +kernel), tyX1_ok, nmX1, rfl, by decide +kernel⟩
theorem fl_X0_59 : FLk RX0 59 1 1 := ⟨RX1, TX1, 5, rfl, iX1, by decide, tG_of 38 (by decide +kernel) (by decide +kernel)⟩
theorem fp_X0_59 : FPk RX0 59 1 1 .int := ⟨RX1, TX1, 5, tyX1, rfl, iX1, by decide, tG_of 38 (by decide +kernel) (by decide +kernel), tyX1_ok, nmX1, rfl, by decide +kernel⟩
theorem fl_X4_252 : FLk RX4 252 1 1 := ⟨RX1, TX1, 5, rfl, iX1, by decide, tG_of 39 (by decide +kernel) (by decide +kernel)⟩
theorem fp_X4_252 : FPk RX4 252 1 1 .int := ⟨RX1, TX1, 5, tyX1, rfl, iX1, by decide, tG_of 39 (by decide +kernel) (by decide +kernel), tyX1_ok, nmX1, rfl, by decide +kernel⟩
theorem fl_X1_18 : FLk RX1 18 1 2 := ⟨RX1, TX1, 5, rfl, iX1, by decide, tG_of 40 (by decide +kernel) (by decide +kernel)⟩
theorem fp_X1_18 : FPk RX1 18 1 2 .int := ⟨RX1, TX1, 5, tyX1, rfl, iX1, by decide, tG_of 40 (by decide +kernel) (by decide +kernel), tyX1_ok, nmX1, rfl, by decide +kernel⟩
theorem fl_X4_154 : FLk RX4 154 1 2 := ⟨RX1, TX1, 5, rfl, iX1, by decide, tG_of 41 (by decide +kernel) (by decide +kernel)⟩
theorem fp_X4_154 : FPk RX4 154 1 2 .int := ⟨RX1, TX1, 5, tyX1, rfl, iX1, by decide, tG_of 41 (by decide +kernel) (by decide +kernel), tyX1_ok, nmX1, rfl, by decide +kernel⟩
theorem fl_X1_21 : FLk RX1 21 1 3 := ⟨RX1, TX1, 5, rfl, iX1, by decide, tG_of 42 (by decide +kernel) (by decide +kernel)⟩
theorem fp_X1_21 : FPk RX1 21 1 3 .int := ⟨RX1, TX1, 5, tyX1, rfl, iX1, by decide, tG_of 42 (by decide +kernel) (by decide +kernel), tyX1_ok, nmX1, rfl, by decide +kernel⟩
theorem fl_X4_138 : FLk RX4 138 1 3 := ⟨RX1, TX1, 5, rfl, iX1, by decide, tG_of 43 (by decide +kernel) (by decide +kernel)⟩
theorem fp_X4_138 : FPk RX4 138 1 3 .int := ⟨RX1, TX1, 5, tyX1, rfl, iX1, by decide, tG_of 43 (by decide +kernel) (by decide +kernel), tyX1_ok, nmX1, rfl, by decide +kernel⟩
theorem fl_X1_24 : FLk RX1 24 1 4 := ⟨RX1, TX1, 5, rfl, iX1, by decide, tG_of 44 (by decide +kernel) (by decide +kernel)⟩
theorem fp_X1_24 : FPk RX1 24 1 4 .int := ⟨RX1, TX1, 5, tyX1, rfl, iX1, by decide, tG_of 44 (by decide +kernel) (by decide +kernel), tyX1_ok, nmX1, rfl, by decide +kernel⟩
theorem fl_X0_126 : FLk RX0 126 1 4 := ⟨RX1, TX1, 5, rfl, iX1, by decide, tG_of 45 (by decide +kernel) (by decide +kernel)⟩
theorem fp_X0_126 : FPk RX0 126 1 4 .int := ⟨RX1, TX1, 5, tyX1, rfl, iX1, by decide, tG_of 45 (by decide +kernel) (by decide +kernel), tyX1_ok, nmX1, rfl, by decide +kernel⟩
theorem fl_X0_9 : FLk RX0 9 0 0 := ⟨RX0, TX0, 8, rfl, iX0, by decide, tG_of 58 (by decide +kernel) (by decide +kernel)⟩
theorem fl_X4_49 : FLk RX4 49 0 0 := ⟨RX0, TX0, 8, rfl, iX0, by decide, tG_of 59 (by decide +kernel) (by decide +kernel)⟩
theorem fl_X2_56 : FLk RX2 56 0 0 := ⟨RX0, TX0, 8, rfl, iX0, by decide, tG_of 60 (by decide +kernel) (by decide +kernel)⟩
theorem fl_X0_17 : FLk RX0 17 0 1 := ⟨RX0, TX0, 8, rfl, iX0, by decide, tG_of 61 (by decide +kernel) (by decide +kernel)⟩
theorem fl_X4_68 : FLk RX4 68 0 1 := ⟨RX0, TX0, 8, rfl, iX0, by decide, tG_of 62 (by decide +kernel) (by decide +kernel)⟩
theorem fl_X2_78 : FLk RX2 78 0 1 := ⟨RX0, TX0, 8, rfl, iX0, by decide, tG_of 63 (by decide +kernel) (by decide +kernel)⟩
theorem fl_X0_22 : FLk RX0 22 0 2 := ⟨RX0, TX0, 8, rfl, iX0, by decide, tG_of 64 (by decide +kernel) (by decide +kernel)⟩
theorem fl_X4_219 : FLk RX4 219 0 2 := ⟨RX0, TX0, 8, rfl, iX0, by decide, tG_of 65 (by decide +kernel) (by decide +kernel)⟩
theorem fl_X0_35 : FLk RX0 35 0 3 := ⟨RX0, TX0, 8, rfl, iX0, by decide, tG_of 66 (by decide +kernel) (by decide +kernel)⟩
theorem fp_X0_35 : FPk RX0 35 0 3 .int := ⟨RX0, TX0, 8, tyX0, rfl, iX0, by decide, tG_of 66 (by decide +kernel) (by decide +kernel), tyX0_ok, nmX0, rfl, by decide +kernel⟩
theorem fl_X4_56 : FLk RX4 56 0 3 := ⟨RX0, TX0, 8, rfl, iX0, by decide, tG_of 67 (by decide +kernel) (by decide +kernel)⟩
theorem fp_X4_56 : FPk RX4 56 0 3 .int := ⟨RX0, TX0, 8, tyX0, rfl, iX0, by decide, tG_of 67 (by decide +kernel) (by decide +kernel), tyX0_ok, nmX0, rfl, by decide +kernel⟩
theorem fl_X0_42 : FLk RX0 42 0 4 := ⟨RX0, TX0, 8, rfl, iX0, by decide, tG_of 68 (by decide +kernel) (by decide +kernel)⟩
theorem fp_X0_42 : FPk RX0 42 0 4 .int := ⟨RX0, TX0, 8, tyX0, rfl, iX0, by decide, tG_of 68 (by decide +kernel) (by decide +kernel), tyX0_ok, nmX0, rfl, by decide +kernel⟩
theorem fl_X2_65 : FLk RX2 65 0 4 := ⟨RX0, TX0, 8, rfl, iX0, by decide, tG_of 69 (by decide +kernel) (by decide +kernel)⟩
theorem fp_X2_65 : FPk RX2 65 0 4 .int := ⟨RX0, TX0, 8, tyX0, rfl, iX0, by decide, tG_of 69 (by decide +kernel) (by decide +kernel), tyX0_ok, nmX0, rfl, by decide +kernel⟩
theorem fl_X4_117 : FLk RX4 117 0 4 := ⟨RX0, TX0, 8, rfl, iX0, by decide, tG_of 70 (by decide +kernel) (by decide +kernel)⟩
theorem fp_X4_117 : FPk RX4 117 0 4 .int := ⟨RX0, TX0, 8, tyX0, rfl, iX0, by decide, tG_of 70 (by decide +kernel) (by decide +kernel), tyX0_ok, nmX0, rfl, by decide +kernel⟩
theorem fl_X0_45 : FLk RX0 45 0 5 := ⟨RX0, TX0, 8, rfl, iX0, by decide, tG_of 71 (by decide +kernel) (by decide +kernel)⟩
theorem fp_X0_45 : FPk RX0 45 0 5 .int := ⟨RX0, TX0, 8, tyX0, rfl, iX0, by decide, tG_of 71 (by decide +kernel) (by decide +kernel), tyX0_ok, nmX0, rfl, by decide +kernel⟩
theorem fl_X4_72 : FLk RX4 72 0 5 := ⟨RX0, TX0, 8, rfl, iX0, by decide, tG_of 72 (by decide +kernel) (by decide +kernel)⟩
theorem fp_X4_72 : FPk RX4 72 0 5 .int := ⟨RX0, TX0, 8, tyX0, rfl, iX0, by decide, tG_of 72 (by decide +kernel) (by decide +kernel), tyX0_ok, nmX0, rfl, by decide +kernel⟩
theorem fl_X0_25 : FLk RX0 25 0 6 := ⟨RX0, TX0, 8, rfl, iX0, by decide, tG_of 73 (by decide +kernel) (by decide +kernel)⟩
theorem fp_X0_25 : FPk RX0 25 0 6 .int := ⟨RX0, TX0, 8, tyX0, rfl, iX0, by decide, tG_of 73 (by decide +kernel) (by decide +kernel), tyX0_ok, nmX0, rfl, by decide +kernel⟩
theorem fl_X4_208 : FLk RX4 208 0 6 := ⟨RX0, TX0, 8, rfl, iX0, by decide, tG_of 74 (by decide +kernel) (by decide +kernel)⟩
theorem fp_X4_208 : FPk RX4 208 0 6 .int := ⟨RX0, TX0, 8, tyX0, rfl, iX0, by decide, tG_of 74 (by decide +kernel) (by decide +kernel), tyX0_ok, nmX0, rfl, by decide +kernel⟩
theorem fl_X0_48 : FLk RX0 48 0 7 := ⟨RX0, TX0, 8, rfl, iX0, by decide, tG_of 75 (by decide +kernel) (by decide +kernel)⟩
theorem fp_X0_48 : FPk RX0 48 0 7 .int := ⟨RX0, TX0, 8, tyX0, rfl, iX0, by decide, tG_of 75 (by decide +kernel) (by decide +kernel), tyX0_ok, nmX0, rfl, by decide +kernel⟩
theorem fl_X4_174 : FLk RX4 174 0 7 := ⟨RX0, TX0, 8, rfl, iX0, by decide, tG_of 76 (by decide +kernel) (by decide +kernel)⟩
theorem fp_X4_174 : FPk RX4 174 0 7 .int := ⟨RX0, TX0, 8, tyX0, rfl, iX0, by decide, tG_of 76 (by decide +kernel) (by decide +kernel), tyX0_ok, nmX0, rfl, by decide +kernel⟩
theorem fl_X2_9 : FLk RX2 9 2 0 := ⟨RX2, TX2, 6, rfl, iX2, by decide, tG_of 100 (by decide +kernel) (by decide +kernel)⟩
theorem fl_X2_15 : FLk RX2 15 2 1 := ⟨RX2, TX2, 6, rfl, iX2, by decide, tG_of 101 (by decide +kernel) (by decide +kernel)⟩
theorem fp_X2_15 : FPk RX2 15 2 1 .int := ⟨RX2, TX2, 6, tyX2, rfl, iX2, by decide, tG_of 101 (by decide +kernel) (by decide +kernel), tyX2_ok, nmX2, rfl, by decide +kernel⟩
theorem fl_X4_211 : FLk RX4 211 2 1 := ⟨RX2, TX2, 6, rfl, iX2, by decide, tG_of 102 (by decide +kernel) (by decide +kernel)⟩
theorem fp_X4_211 : FPk RX4 211 2 1 .int := ⟨RX2, TX2, 6, tyX2, rfl, iX2, by decide, tG_of 102 (by decide +kernel) (by decide +kernel), tyX2_ok, nmX2, rfl, by decide +kernel⟩
theorem fl_X2_29 : FLk RX2 29 2 2 := ⟨RX2, TX2, 6, rfl, iX2, by decide, tG_of 103 (by decide +kernel) (by decide +kernel)⟩
theorem fp_X2_29 : FPk RX2 29 2 2 .int := ⟨RX2, TX2, 6, tyX2, rfl, iX2, by decide, tG_of 103 (by decide +kernel) (by decide +kernel), tyX2_ok, nmX2, rfl, by decide +kernel⟩
theorem fl_X2_32 : FLk RX2 32 2 3 := ⟨RX2, TX2, 6, rfl, iX2, by decide, tG_of 104 (by decide +kernel) (by decide +kernel)⟩
theorem fp_X2_32 : FPk RX2 32 2 3 .int := ⟨RX2, TX2, 6, tyX2, rfl, iX2, by decide, tG_of 104 (by decide +kernel) (by decide +kernel), tyX2_ok, nmX2, rfl, by decide +kernel⟩
theorem fl_X2_19 : FLk RX2 19 2 4 := ⟨RX2, TX2, 6, rfl, iX2, by decide, tG_of 105 (by decide +kernel) (by decide +kernel)⟩
theorem fp_X2_19 : FPk RX2 19 2 4 .int := ⟨RX2, TX2, 6, tyX2, rfl, iX2, by decide, tG_of 105 (by decide +kernel) (by decide +kernel), tyX2_ok, nmX2, rfl, by decide +kernel⟩
theorem fl_X2_101 : FLk RX2 101 2 5 := ⟨RX2, TX2, 6, rfl, iX2, by decide, tG_of 106 (by decide +kernel) (by decide +kernel)⟩
theorem fp_X2_101 : FPk RX2 101 2 5 .int := ⟨RX2, TX2, 6, tyX2, rfl, iX2, by decide, tG_of 106 (by decide +kernel) (by decide +kernel), tyX2_ok, nmX2, rfl, by decide +kernel⟩
theorem fl_X3_9 : FLk RX3 9 3 0 := ⟨RX3, TX3, 3, rfl, iX3, by decide, tG_of 127 (by decide +kernel) (by decide +kernel)⟩
theorem fl_X4_192 : FLk RX4 192 3 0 := ⟨RX3, TX3, 3, rfl, iX3, by decide, tG_of 128 (by decide +kernel) (by decide +kernel)⟩
theorem fl_X3_15 : FLk RX3 15 3 1 := ⟨RX3, TX3, 3, rfl, iX3, by decide, tG_of 129 (by decide +kernel) (by decide +kernel)⟩
theorem fp_X3_15 : FPk RX3 15 3 1 .int := ⟨RX3, TX3, 3, tyX3, rfl, iX3, by decide, tG_of 129 (by decide +kernel) (by decide +kernel), tyX3_ok, nmX3, rfl, by decide +kernel⟩
theorem fl_X4_237 : FLk RX4 237 3 1 := ⟨RX3, TX3, 3, rfl, iX3, by decide, tG_of 130 (by decide +kernel) (by decide +kernel)⟩
theorem fp_X4_237 : FPk RX4 237 3 1 .int := ⟨RX3, TX3, 3, tyX3, rfl, iX3, by decide, tG_of 130 (by decide +kernel) (by decide +kernel), tyX3_ok, nmX3, rfl, by decide +kernel⟩
theorem fl_X3_19 : FLk RX3 19 3 2 := ⟨RX3, TX3, 3, rfl, iX3, by decide, tG_of 131 (by decide +kernel) (by decide +kernel)⟩
theorem fp_X3_19 : FPk RX3 19 3 2 .int := ⟨RX3, TX3, 3, tyX3, rfl, iX3, by decide, tG_of 131 (by decide +kernel) (by decide +kernel), tyX3_ok, nmX3, rfl, by decide +kernel⟩
theorem fl_X4_191 : FLk RX4 191 3 2 := ⟨RX3, TX3, 3, rfl, iX3, by decide, tG_of 132 (by decide +kernel) (by decide +kernel)⟩
theorem fp_X4_191 : FPk RX4 191 3 2 .int := ⟨RX3, TX3, 3, tyX3, rfl, iX3, by decide, tG_of 132 (by decide +kernel) (by decide +kernel), tyX3_ok, nmX3, rfl, by decide +kernel⟩
theorem fl_X4_12 : FLk RX4 12 4 0 := ⟨RX4, TX4, 7, rfl, iX4, by decide, tG_of 140 (by decide +kernel) (by decide +kernel)⟩
theorem fl_X4_16 : FLk RX4 16 4 1 := ⟨RX4, TX4, 7, rfl, iX4, by decide, tG_of 141 (by decide +kernel) (by decide +kernel)⟩
theorem fl_X4_19 : FLk RX4 19 4 2 := ⟨RX4, TX4, 7, rfl, iX4, by decide, tG_of 142 (by decide +kernel) (by decide +kernel)⟩
theorem fl_X4_25 : FLk RX4 25 4 3 := ⟨RX4, TX4, 7, rfl, iX4, by decide, tG_of 143 (by decide +kernel) (by decide +kernel)⟩
theorem fl_X4_31 : FLk RX4 31 4 4 := ⟨RX4, TX4, 7, rfl, iX4, by decide, tG_of 144 (by decide +kernel) (by decide +kernel)⟩
theorem fl_X4_36 : FLk RX4 36 4 5 := ⟨RX4, TX4, 7, rfl, iX4, by decide, tG_of 145 (by decide +kernel) (by decide +kernel)⟩
theorem fl_X4_255 : FLk RX4 255 4 6 := ⟨RX4, TX4, 7, rfl, iX4, by decide, tG_of 146 (by decide +kernel) (by decide +kernel)⟩
theorem fp_X4_255 : FPk RX4 255 4 6 .boolean := ⟨RX4, TX4, 7, tyX4, rfl, iX4, by decide, tG_of 146 (by decide +kernel) (by decide +kernel), tyX4_ok, nmX4, rfl, by decide +kernel⟩
theorem fl_X5_7 : FLk RX5 7 5 0 := ⟨RX5, TX5, 18, rfl, iX5, by decide, tG_of 690 (by decide +kernel) (by decide +kernel)⟩
theorem fl_X5_13 : FLk RX5 13 5 1 := ⟨RX5, TX5, 18, rfl, iX5, by decide, tG_of 691 (by decide +kernel) (by decide +kernel)⟩
theorem fl_X5_16 : FLk RX5 16 5 2 := ⟨RX5, TX5, 18, rfl, iX5, by decide, tG_of 692 (by decide +kernel) (by decide +kernel)⟩
theorem fl_X5_19 : FLk RX5 19 5 3 := ⟨RX5, TX5, 18, rfl, iX5, by decide, tG_of 693 (by decide +kernel) (by decide +kernel)⟩
theorem fl_X5_277 : FLk RX5 277 5 4 := ⟨RX5, TX5, 18, rfl, iX5, by decide, tG_of 694 (by decide +kernel) (by decide +kernel)⟩
theorem fp_X5_277 : FPk RX5 277 5 4 .boolean := ⟨RX5, TX5, 18, tyX5, rfl, iX5, by decide, tG_of 694 (by decide +kernel) (by decide +kernel), tyX5_ok, nmX5, rfl, by decide +kernel⟩
theorem fl_X5_22 : FLk RX5 22 5 5 := ⟨RX5, TX5, 18, rfl, iX5, by decide, tG_of 695 (by decide +kernel) (by decide +kernel)⟩
theorem fl_X5_25 : FLk RX5 25 5 6 := ⟨RX5, TX5, 18, rfl, iX5, by decide, tG_of 696 (by decide +kernel) (by decide +kernel)⟩
theorem fl_X5_192 : FLk RX5 192 5 7 := ⟨RX5, TX5, 18, rfl, iX5, by decide, tG_of 697 (by decide +kernel) (by decide +kernel)⟩
theorem fp_X5_192 : FPk RX5 192 5 7 .int := ⟨RX5, TX5, 18, tyX5, rfl, iX5, by decide, tG_of 697 (by decide +kernel) (by decide +kernel), tyX5_ok, nmX5, rfl, by decide +kernel⟩
theorem fl_X5_28 : FLk RX5 28 5 8 := ⟨RX5, TX5, 18, rfl, iX5, by decide, tG_of 698 (by decide +kernel) (by decide +kernel)⟩
theorem fl_X5_31 : FLk RX5 31 5 9 := ⟨RX5, TX5, 18, rfl, iX5, by decide, tG_of 699 (by decide +kernel) (by decide +kernel)⟩
theorem fl_X5_34 : FLk RX5 34 5 10 := ⟨RX5, TX5, 18, rfl, iX5, by decide, tG_of 700 (by decide +kernel) (by decide +kernel)⟩
theorem fl_X5_165 : FLk RX5 165 5 11 := ⟨RX5, TX5, 18, rfl, iX5, by decide, tG_of 701 (by decide +kernel) (by decide +kernel)⟩
theorem fp_X5_165 : FPk RX5 165 5 11 .int := ⟨RX5, TX5, 18, tyX5, rfl, iX5, by decide, tG_of 701 (by decide +kernel) (by decide +kernel), tyX5_ok, nmX5, rfl, by decide +kernel⟩
theorem fl_X5_172 : FLk RX5 172 5 12 := ⟨RX5, TX5, 18, rfl, iX5, by decide, tG_of 702 (by decide +kernel) (by decide +kernel)⟩
theorem fp_X5_172 : FPk RX5 172 5 12 .int := ⟨RX5, TX5, 18, tyX5, rfl, iX5, by decide, tG_of 702 (by decide +kernel) (by decide +kernel), tyX5_ok, nmX5, rfl, by decide +kernel⟩
theorem fl_X5_210 : FLk RX5 210 5 13 := ⟨RX5, TX5, 18, rfl, iX5, by decide, tG_of 703 (by decide +kernel) (by decide +kernel)⟩
theorem fp_X5_210 : FPk RX5 210 5 13 .int := ⟨RX5, TX5, 18, tyX5, rfl, iX5, by decide, tG_of 703 (by decide +kernel) (by decide +kernel), tyX5_ok, nmX5, rfl, by decide +kernel⟩
theorem fl_X5_198 : FLk RX5 198 5 14 := ⟨RX5, TX5, 18, rfl, iX5, by decide, tG_of 704 (by decide +kernel) (by decide +kernel)⟩
theorem fp_X5_198 : FPk RX5 198 5 14 .int := ⟨RX5, TX5, 18, tyX5, rfl, iX5, by decide, tG_of 704 (by decide +kernel) (by decide +kernel), tyX5_ok, nmX5, rfl, by decide +kernel⟩
theorem fl_X5_195 : FLk RX5 195 5 15 := ⟨RX5, TX5, 18, rfl, iX5, by decide, tG_of 705 (by decide +kernel) (by decide +kernel)⟩
theorem fp_X5_195 : FPk RX5 195 5 15 .int := ⟨RX5, TX5, 18, tyX5, rfl, iX5, by decide, tG_of 705 (by decide +kernel) (by decide +kernel), tyX5_ok, nmX5, rfl, by decide +kernel⟩
theorem fl_X5_213 : FLk RX5 213 5 16 := ⟨RX5, TX5, 18, rfl, iX5, by decide, tG_of 706 (by decide +kernel) (by decide +kernel)⟩
theorem fp_X5_213 : FPk RX5 213 5 16 .int := ⟨RX5, TX5, 18, tyX5, rfl, iX5, by decide, tG_of 706 (by decide +kernel) (by decide +kernel), tyX5_ok, nmX5, rfl, by decide +kernel⟩
theorem fl_X5_216 : FLk RX5 216 5 17 := ⟨RX5, TX5, 18, rfl, iX5, by decide, tG_of 707 (by decide +kernel) (by decide +kernel)⟩
theorem fp_X5_216 : FPk RX5 216 5 17 .int := ⟨RX5, TX5, 18, tyX5, rfl, iX5, by decide, tG_of 707 (by decide +kernel) (by decide +kernel), tyX5_ok, nmX5, rfl, by decide +kernel⟩
theorem lk_L_13 : LkV RL 13 4 mX4_say 3 := ⟨⟨TX4, 7, rfl⟩, tG_of 162 (by decide +kernel) (by decide +kernel), kN_X4_say, kL_X4_say, kI_X4, kC_X4_say, ⟨by decide +kernel, by decide +kernel, by decide +kernel⟩, by decide⟩
theorem lk_X4_40 : LkS RX4 40 mX4_within 3 := ⟨tG_of 166 (by decide +kernel) (by decide +kernel), kS_X4_within, kI_X4, kC_X4_within, ⟨by decide +kernel, by decide +kernel, by decide +kernel⟩, by decide⟩
theorem lk_X4_45 : LkV RX4 45 4 mX4_found 1 := ⟨⟨TX4, 7, rfl⟩, tG_of 170 (by decide +kernel) (by decide +kernel), kN_X4_found, kL_X4_found, kI_X4, kC_X4_found, ⟨by decide +kernel, by decide +kernel, by decide +kernel⟩, by decide⟩
theorem lk_X4_52 : LkS RX4 52 mX4_saying 2 := ⟨tG_of 174 (by decide +kernel) (by decide +kernel), kS_X4_saying, kI_X4, kC_X4_saying, ⟨by decide +kernel, by decide +kernel, by decide +kernel⟩, by decide⟩
theorem lk_L_18 : LkV RL 18 4 mX4_said 1 := ⟨⟨TX4, 7, rfl⟩, tG_of 177 (by decide +kernel) (by decide +kernel), kN_X4_said, kL_X4_said, kI_X4, kC_X4_said, ⟨by decide +kernel, by decide +kernel, by decide +kernel⟩, by decide⟩
theorem lk_L_23 : LkV RL 23 4 mX4_person 2 := ⟨⟨TX4, 7, rfl⟩, tG_of 181 (by decide +kernel) (by decide +kernel), kN_X4_person, kL_X4_person, kI_X4, kC_X4_person, ⟨by decide +kernel, by decide +kernel, by decide +kernel⟩, by decide⟩
theorem lk_X4_61 : LkV RX4 61 0 mX0_add 2 := ⟨⟨TX0, 8, rfl⟩, tG_of 186 (by decide +kernel) (by decide +kernel), kN_X0_add, kL_X0_add, kI_X0, kC_X0_add, ⟨by decide +kernel, by decide +kernel, by decide +kernel⟩, by decide⟩
theorem lk_X0_51 : LkV RX0 51 1 mX1_begin 2 := ⟨⟨TX1, 5, rfl⟩, tG_of 190 (by decide +kernel) (by decide +kernel), kN_X1_begin, kL_X1_begin, kI_X1, kC_X1_begin, ⟨by decide +kernel, by decide +kernel, by decide +kernel⟩, by decide⟩
theorem lk_L_28 : LkV RL 28 4 mX4_of 2 := ⟨⟨TX4, 7, rfl⟩, tG_of 194 (by decide +kernel) (by decide +kernel), kN_X4_of, kL_X4_of, kI_X4, kC_X4_of, ⟨by decide +kernel, by decide +kernel, by decide +kernel⟩, by decide⟩
theorem lk_X4_64 : LkV RX4 64 0 mX0_has 1 := ⟨⟨TX0, 8, rfl⟩, tG_of 198 (by decide +kernel) (by decide +kernel), kN_X0_has, kL_X0_has, kI_X0, kC_X0_has, ⟨by decide +kernel, by decide +kernel, by decide +kernel⟩, by decide⟩
theorem lk_X4_75 : LkV RX4 75 1 mX1_asking 1 := ⟨⟨TX1, 5, rfl⟩, tG_of 202 (by decide +kernel) (by decide +kernel), kN_X1_asking, kL_X1_asking, kI_X1, kC_X1_asking, ⟨by decide +kernel, by decide +kernel, by decide +kernel⟩, by decide⟩
theorem lk_X1_33 : LkV RX1 33 1 mX1_mostAsked 1 := ⟨⟨TX1, 5, rfl⟩, tG_of 206 (by decide +kernel) (by decide +kernel), kN_X1_mostAsked, kL_X1_mostAsked, kI_X1, kC_X1_mostAsked, ⟨by decide +kernel, by decide +kernel, by decide +kernel⟩, by decide⟩
theorem lk_X1_37 : LkS RX1 37 mJ9_min_7cf53 2 := ⟨tG_of 210 (by decide +kernel) (by decide +kernel), kS_J9_min_7cf53, kI_J9, kC_J9_min_7cf53, ⟨by decide +kernel, by decide +kernel, by decide +kernel⟩, by decide⟩
theorem lk_X4_80 : LkV RX4 80 1 mX1_room 0 := ⟨⟨TX1, 5, rfl⟩, tG_of 213 (by decide +kernel) (by decide +kernel), kN_X1_room, kL_X1_room, kI_X1, kC_X1_room, ⟨by decide +kernel, by decide +kernel, by decide +kernel⟩, by decide⟩
theorem lk_X1_27 : LkS RX1 27 mJ9_max_7cf53 2 := ⟨tG_of 217 (by decide +kernel) (by decide +kernel), kS_J9_max_7cf53, kI_J9, kC_J9_max_7cf53, ⟨by decide +kernel, by decide +kernel, by decide +kernel⟩, by decide⟩
theorem lk_X4_84 : LkV RX4 84 1 mX1_forgetting 0 := ⟨⟨TX1, 5, rfl⟩, tG_of 220 (by decide +kernel) (by decide +kernel), kN_X1_forgetting, kL_X1_forgetting, kI_X1, kC_X1_forgetting, ⟨by decide +kernel, by decide +kernel, by decide +kernel⟩, by decide⟩
theorem lk_X4_87 : LkV RX4 87 1 mX1_attribute 1 := ⟨⟨TX1, 5, rfl⟩, tG_of 224 (by decide +kernel) (by decide +kernel), kN_X1_attribute, kL_X1_attribute, kI_X1, kC_X1_attribute, ⟨by decide +kernel, by decide +kernel, by decide +kernel⟩, by decide⟩
theorem lk_L_32 : LkV RL 32 4 mX4_change 3 := ⟨⟨TX4, 7, rfl⟩, tG_of 228 (by decide +kernel) (by decide +kernel), kN_X4_change, kL_X4_change, kI_X4, kC_X4_change, ⟨by decide +kernel, by decide +kernel, by decide +kernel⟩, by decide⟩
theorem lk_X4_90 : LkS RX4 90 mX4_mostOf 1 := ⟨tG_of 232 (by decide +kernel) (by decide +kernel), kS_X4_mostOf, kI_X4, kC_X4_mostOf, ⟨by decide +kernel, by decide +kernel, by decide +kernel⟩, by decide⟩
theorem lk_X4_93 : LkV RX4 93 1 mX1_setAttribute 2 := ⟨⟨TX1, 5, rfl⟩, tG_of 235 (by decide +kernel) (by decide +kernel), kN_X1_setAttribute, kL_X1_setAttribute, kI_X1, kC_X1_setAttribute, ⟨by decide +kernel, by decide +kernel, by decide +kernel⟩, by decide⟩
theorem lk_L_36 : LkV RL 36 4 mX4_feels 2 := ⟨⟨TX4, 7, rfl⟩, tG_of 239 (by decide +kernel) (by decide +kernel), kN_X4_feels, kL_X4_feels, kI_X4, kC_X4_feels, ⟨by decide +kernel, by decide +kernel, by decide +kernel⟩, by decide⟩
theorem lk_X4_97 : LkV RX4 97 1 mX1_feeling 1 := ⟨⟨TX1, 5, rfl⟩, tG_of 243 (by decide +kernel) (by decide +kernel), kN_X1_feeling, kL_X1_feeling, kI_X1, kC_X1_feeling, ⟨by decide +kernel, by decide +kernel, by decide +kernel⟩, by decide⟩
theorem lk_L_40 : LkV RL 40 4 mX4_bearer 2 := ⟨⟨TX4, 7, rfl⟩, tG_of 247 (by decide +kernel) (by decide +kernel), kN_X4_bearer, kL_X4_bearer, kI_X4, kC_X4_bearer, ⟨by decide +kernel, by decide +kernel, by decide +kernel⟩, by decide⟩
theorem lk_X4_100 : LkV RX4 100 0 mX0_roomiestBut 1 := ⟨⟨TX0, 8, rfl⟩, tG_of 251 (by decide +kernel) (by decide +kernel), kN_X0_roomiestBut, kL_X0_roomiestBut, kI_X0, kC_X0_roomiestBut, ⟨by decide +kernel, by decide +kernel, by decide +kernel⟩, by decide⟩
theorem lk_X0_66 : LkV RX0 66 1 mX1_room 0 := ⟨⟨TX1, 5, rfl⟩, tG_of 255 (by decide +kernel) (by decide +kernel), kN_X1_room, kL_X1_room, kI_X1, kC_X1_room, ⟨by decide +kernel, by decide +kernel, by decide +kernel⟩, by decide⟩
theorem lk_X4_103 : LkV RX4 103 0 mX0_bears 2 := ⟨⟨TX0, 8, rfl⟩, tG_of 256 (by decide +kernel) (by decide +kernel), kN_X0_bears, kL_X0_bears, kI_X0, kC_X0_bears, ⟨by decide +kernel, by decide +kernel, by decide +kernel⟩, by decide⟩
theorem lk_X0_69 : LkV RX0 69 0 mX0_has 1 := ⟨⟨TX0, 8, rfl⟩, tG_of 260 (by decide +kernel) (by decide +kernel), kN_X0_has, kL_X0_has, kI_X0, kC_X0_has, ⟨by decide +kernel, by decide +kernel, by decide +kernel⟩, by decide⟩
theorem lk_L_44 : LkV RL 44 4 mX4_go 1 := ⟨⟨TX4, 7, rfl⟩, tG_of 262 (by decide +kernel) (by decide +kernel), kN_X4_go, kL_X4_go, kI_X4, kC_X4_go, ⟨by decide +kernel, by decide +kernel, by decide +kernel⟩, by decide⟩
theorem lk_X4_110 : LkV RX4 110 0 mX0_passDays 1 := ⟨⟨TX0, 8, rfl⟩, tG_of 268 (by decide +kernel) (by decide +kernel), kN_X0_passDays, kL_X0_passDays, kI_X0, kC_X0_passDays, ⟨by decide +kernel, by decide +kernel, by decide +kernel⟩, by decide⟩
theorem lk_X0_78 : LkV RX0 78 0 mX0_passDay 0 := ⟨⟨TX0, 8, rfl⟩, tG_of 272 (by decide +kernel) (by decide +kernel), kN_X0_passDay, kL_X0_passDay, kI_X0, kC_X0_passDay, ⟨by decide +kernel, by decide +kernel, by decide +kernel⟩, by decide⟩
theorem lk_X0_85 : LkV RX0 85 0 mX0_tellSaying 0 := ⟨⟨TX0, 8, rfl⟩, tG_of 276 (by decide +kernel) (by decide +kernel), kN_X0_tellSaying, kL_X0_tellSaying, kI_X0, kC_X0_tellSaying, ⟨by decide +kernel, by decide +kernel, by decide +kernel⟩, by decide⟩
theorem lk_X0_105 : LkV RX0 105 0 mX0_nextWhom 0 := ⟨⟨TX0, 8, rfl⟩, tG_of 280 (by decide +kernel) (by decide +kernel), kN_X0_nextWhom, kL_X0_nextWhom, kI_X0, kC_X0_nextWhom, ⟨by decide +kernel, by decide +kernel, by decide +kernel⟩, by decide⟩
theorem lk_X0_108 : LkV RX0 108 0 mX0_nextWeight 0 := ⟨⟨TX0, 8, rfl⟩, tG_of 284 (by decide +kernel) (by decide +kernel), kN_X0_nextWeight, kL_X0_nextWeight, kI_X0, kC_X0_nextWeight, ⟨by decide +kernel, by decide +kernel, by decide +kernel⟩, by decide⟩
theorem lk_X0_111 : LkV RX0 111 1 mX1_feeling 1 := ⟨⟨TX1, 5, rfl⟩, tG_of 288 (by decide +kernel) (by decide +kernel), kN_X1_feeling, kL_X1_feeling, kI_X1, kC_X1_feeling, ⟨by decide +kernel, by decide +kernel, by decide +kernel⟩, by decide⟩
theorem lk_X0_114 : LkV RX0 114 1 mX1_suffer 2 := ⟨⟨TX1, 5, rfl⟩, tG_of 289 (by decide +kernel) (by decide +kernel), kN_X1_suffer, kL_X1_suffer, kI_X1, kC_X1_suffer, ⟨by decide +kernel, by decide +kernel, by decide +kernel⟩, by decide⟩
theorem lk_X0_92 : LkV RX0 92 0 mX0_serve 1 := ⟨⟨TX0, 8, rfl⟩, tG_of 296 (by decide +kernel) (by decide +kernel), kN_X0_serve, kL_X0_serve, kI_X0, kC_X0_serve, ⟨by decide +kernel, by decide +kernel, by decide +kernel⟩, by decide⟩
theorem lk_X0_117 : LkV RX0 117 1 mX1_asking 1 := ⟨⟨TX1, 5, rfl⟩, tG_of 300 (by decide +kernel) (by decide +kernel), kN_X1_asking, kL_X1_asking, kI_X1, kC_X1_asking, ⟨by decide +kernel, by decide +kernel, by decide +kernel⟩, by decide⟩
theorem lk_X0_120 : LkV RX0 120 0 mX0_roomiestBut 1 := ⟨⟨TX0, 8, rfl⟩, tG_of 301 (by decide +kernel) (by decide +kernel), kN_X0_roomiestBut, kL_X0_roomiestBut, kI_X0, kC_X0_roomiestBut, ⟨by decide +kernel, by decide +kernel, by decide +kernel⟩, by decide⟩
theorem lk_X0_123 : LkV RX0 123 0 mX0_bears 2 := ⟨⟨TX0, 8, rfl⟩, tG_of 302 (by decide +kernel) (by decide +kernel), kN_X0_bears, kL_X0_bears, kI_X0, kC_X0_bears, ⟨by decide +kernel, by decide +kernel, by decide +kernel⟩, by decide⟩
theorem lk_X0_100 : LkS RX0 100 mJ9_min_7cf53 2 := ⟨tG_of 303 (by decide +kernel) (by decide +kernel), kS_J9_min_7cf53, kI_J9, kC_J9_min_7cf53, ⟨by decide +kernel, by decide +kernel, by decide +kernel⟩, by decide⟩
theorem lk_X0_96 : LkV RX0 96 1 mX1_forget 0 := ⟨⟨TX1, 5, rfl⟩, tG_of 305 (by decide +kernel) (by decide +kernel), kN_X1_forget, kL_X1_forget, kI_X1, kC_X1_forget, ⟨by decide +kernel, by decide +kernel, by decide +kernel⟩, by decide⟩
theorem lk_X1_48 : LkV RX1 48 1 mX1_forgetting 0 := ⟨⟨TX1, 5, rfl⟩, tG_of 309 (by decide +kernel) (by decide +kernel), kN_X1_forgetting, kL_X1_forgetting, kI_X1, kC_X1_forgetting, ⟨by decide +kernel, by decide +kernel, by decide +kernel⟩, by decide⟩
theorem lk_X4_114 : LkV RX4 114 0 mX0_sumOf 1 := ⟨⟨TX0, 8, rfl⟩, tG_of 310 (by decide +kernel) (by decide +kernel), kN_X0_sumOf, kL_X0_sumOf, kI_X0, kC_X0_sumOf, ⟨by decide +kernel, by decide +kernel, by decide +kernel⟩, by decide⟩
theorem lk_X0_55 : LkV RX0 55 1 mX1_attribute 1 := ⟨⟨TX1, 5, rfl⟩, tG_of 314 (by decide +kernel) (by decide +kernel), kN_X1_attribute, kL_X1_attribute, kI_X1, kC_X1_attribute, ⟨by decide +kernel, by decide +kernel, by decide +kernel⟩, by decide⟩
theorem lk_L_48 : LkV RL 48 4 mX4_now 1 := ⟨⟨TX4, 7, rfl⟩, tG_of 315 (by decide +kernel) (by decide +kernel), kN_X4_now, kL_X4_now, kI_X4, kC_X4_now, ⟨by decide +kernel, by decide +kernel, by decide +kernel⟩, by decide⟩
theorem lk_X4_120 : LkV RX4 120 0 mX0_owedSet 0 := ⟨⟨TX0, 8, rfl⟩, tG_of 319 (by decide +kernel) (by decide +kernel), kN_X0_owedSet, kL_X0_owedSet, kI_X0, kC_X0_owedSet, ⟨by decide +kernel, by decide +kernel, by decide +kernel⟩, by decide⟩
theorem lk_X4_123 : LkV RX4 123 0 mX0_isEven 0 := ⟨⟨TX0, 8, rfl⟩, tG_of 323 (by decide +kernel) (by decide +kernel), kN_X0_isEven, kL_X0_isEven, kI_X0, kC_X0_isEven, ⟨by decide +kernel, by decide +kernel, by decide +kernel⟩, by decide⟩
theorem lk_X0_62 : LkV RX0 62 0 mX0_owedSet 0 := ⟨⟨TX0, 8, rfl⟩, tG_of 327 (by decide +kernel) (by decide +kernel), kN_X0_owedSet, kL_X0_owedSet, kI_X0, kC_X0_owedSet, ⟨by decide +kernel, by decide +kernel, by decide +kernel⟩, by decide⟩
theorem lk_L_52 : LkV RL 52 4 mX4_ahead 3 := ⟨⟨TX4, 7, rfl⟩, tG_of 328 (by decide +kernel) (by decide +kernel), kN_X4_ahead, kL_X4_ahead, kI_X4, kC_X4_ahead, ⟨by decide +kernel, by decide +kernel, by decide +kernel⟩, by decide⟩
theorem lk_X4_127 : LkV RX4 127 0 mX0_become 1 := ⟨⟨TX0, 8, rfl⟩, tG_of 332 (by decide +kernel) (by decide +kernel), kN_X0_become, kL_X0_become, kI_X0, kC_X0_become, ⟨by decide +kernel, by decide +kernel, by decide +kernel⟩, by decide⟩
theorem lk_X0_29 : LkC RX0 29 := ⟨tG_of 336 (by decide +kernel) (by decide +kernel), tG_of 338 (by decide +kernel) (by decide +kernel), tG_of 337 (by decide +kernel) (by decide +kernel), kI_J10⟩
theorem lk_X0_38 : LkV RX0 38 1 mX1_become 1 := ⟨⟨TX1, 5, rfl⟩, tG_of 339 (by decide +kernel) (by decide +kernel), kN_X1_become, kL_X1_become, kI_X1, kC_X1_become, ⟨by decide +kernel, by decide +kernel, by decide +kernel⟩, by decide⟩
theorem lk_L_56 : LkV RL 56 4 mX4_hints 1 := ⟨⟨TX4, 7, rfl⟩, tG_of 343 (by decide +kernel) (by decide +kernel), kN_X4_hints, kL_X4_hints, kI_X4, kC_X4_hints, ⟨by decide +kernel, by decide +kernel, by decide +kernel⟩, by decide⟩
theorem lk_L_60 : LkV RL 60 4 mX4_even 0 := ⟨⟨TX4, 7, rfl⟩, tG_of 347 (by decide +kernel) (by decide +kernel), kN_X4_even, kL_X4_even, kI_X4, kC_X4_even, ⟨by decide +kernel, by decide +kernel, by decide +kernel⟩, by decide⟩
theorem lk_X4_131 : LkV RX4 131 0 mX0_passDay 0 := ⟨⟨TX0, 8, rfl⟩, tG_of 351 (by decide +kernel) (by decide +kernel), kN_X0_passDay, kL_X0_passDay, kI_X0, kC_X0_passDay, ⟨by decide +kernel, by decide +kernel, by decide +kernel⟩, by decide⟩
theorem lk_L_65 : LkV RL 65 4 mX4_when 2 := ⟨⟨TX4, 7, rfl⟩, tG_of 352 (by decide +kernel) (by decide +kernel), kN_X4_when, kL_X4_when, kI_X4, kC_X4_when, ⟨by decide +kernel, by decide +kernel, by decide +kernel⟩, by decide⟩
theorem lk_X4_134 : LkV RX4 134 4 mX4_daysToBorne 3 := ⟨⟨TX4, 7, rfl⟩, tG_of 356 (by decide +kernel) (by decide +kernel), kN_X4_daysToBorne, kL_X4_daysToBorne, kI_X4, kC_X4_daysToBorne, ⟨by decide +kernel, by decide +kernel, by decide +kernel⟩, by decide⟩
theorem lk_L_69 : LkV RL 69 4 mX4_clean 1 := ⟨⟨TX4, 7, rfl⟩, tG_of 360 (by decide +kernel) (by decide +kernel), kN_X4_clean, kL_X4_clean, kI_X4, kC_X4_clean, ⟨by decide +kernel, by decide +kernel, by decide +kernel⟩, by decide⟩
theorem lk_L_73 : LkV RL 73 4 mX4_whom 1 := ⟨⟨TX4, 7, rfl⟩, tG_of 364 (by decide +kernel) (by decide +kernel), kN_X4_whom, kL_X4_whom, kI_X4, kC_X4_whom, ⟨by decide +kernel, by decide +kernel, by decide +kernel⟩, by decide⟩
theorem lk_X4_142 : LkV RX4 142 0 mX0_nextWeight 0 := ⟨⟨TX0, 8, rfl⟩, tG_of 369 (by decide +kernel) (by decide +kernel), kN_X0_nextWeight, kL_X0_nextWeight, kI_X0, kC_X0_nextWeight, ⟨by decide +kernel, by decide +kernel, by decide +kernel⟩, by decide⟩
theorem lk_X4_145 : LkV RX4 145 0 mX0_setNext 2 := ⟨⟨TX0, 8, rfl⟩, tG_of 370 (by decide +kernel) (by decide +kernel), kN_X0_setNext, kL_X0_setNext, kI_X0, kC_X0_setNext, ⟨by decide +kernel, by decide +kernel, by decide +kernel⟩, by decide⟩
theorem lk_L_77 : LkV RL 77 4 mX4_weightFor 1 := ⟨⟨TX4, 7, rfl⟩, tG_of 375 (by decide +kernel) (by decide +kernel), kN_X4_weightFor, kL_X4_weightFor, kI_X4, kC_X4_weightFor, ⟨by decide +kernel, by decide +kernel, by decide +kernel⟩, by decide⟩
theorem lk_X4_148 : LkV RX4 148 0 mX0_nextWhom 0 := ⟨⟨TX0, 8, rfl⟩, tG_of 379 (by decide +kernel) (by decide +kernel), kN_X0_nextWhom, kL_X0_nextWhom, kI_X0, kC_X0_nextWhom, ⟨by decide +kernel, by decide +kernel, by decide +kernel⟩, by decide⟩
theorem lk_X4_151 : LkV RX4 151 0 mX0_isEvenWithin 1 := ⟨⟨TX0, 8, rfl⟩, tG_of 380 (by decide +kernel) (by decide +kernel), kN_X0_isEvenWithin, kL_X0_isEvenWithin, kI_X0, kC_X0_isEvenWithin, ⟨by decide +kernel, by decide +kernel, by decide +kernel⟩, by decide⟩
theorem lk_X0_81 : LkV RX0 81 0 mX0_isEven 0 := ⟨⟨TX0, 8, rfl⟩, tG_of 384 (by decide +kernel) (by decide +kernel), kN_X0_isEven, kL_X0_isEven, kI_X0, kC_X0_isEven, ⟨by decide +kernel, by decide +kernel, by decide +kernel⟩, by decide⟩
theorem lk_L_81 : LkV RL 81 4 mX4_buildFor 2 := ⟨⟨TX4, 7, rfl⟩, tG_of 385 (by decide +kernel) (by decide +kernel), kN_X4_buildFor, kL_X4_buildFor, kI_X4, kC_X4_buildFor, ⟨by decide +kernel, by decide +kernel, by decide +kernel⟩, by decide⟩
theorem lk_X4_157 : LkV RX4 157 0 mX0_keepsHints 1 := ⟨⟨TX0, 8, rfl⟩, tG_of 389 (by decide +kernel) (by decide +kernel), kN_X0_keepsHints, kL_X0_keepsHints, kI_X0, kC_X0_keepsHints, ⟨by decide +kernel, by decide +kernel, by decide +kernel⟩, by decide⟩
theorem lk_L_85 : LkV RL 85 4 mX4_kindFor 2 := ⟨⟨TX4, 7, rfl⟩, tG_of 393 (by decide +kernel) (by decide +kernel), kN_X4_kindFor, kL_X4_kindFor, kI_X4, kC_X4_kindFor, ⟨by decide +kernel, by decide +kernel, by decide +kernel⟩, by decide⟩
theorem lk_L_89 : LkV RL 89 4 mX4_refuse 3 := ⟨⟨TX4, 7, rfl⟩, tG_of 397 (by decide +kernel) (by decide +kernel), kN_X4_refuse, kL_X4_refuse, kI_X4, kC_X4_refuse, ⟨by decide +kernel, by decide +kernel, by decide +kernel⟩, by decide⟩
theorem lk_X4_163 : LkS RX4 163 mJ6_bitCount_0f7a4 1 := ⟨tG_of 401 (by decide +kernel) (by decide +kernel), kS_J6_bitCount_0f7a4, kI_J6, kC_J6_bitCount_0f7a4, ⟨by decide +kernel, by decide +kernel, by decide +kernel⟩, by decide⟩
theorem lk_X4_168 : LkS RX4 168 mX4_isIn 2 := ⟨tG_of 407 (by decide +kernel) (by decide +kernel), kS_X4_isIn, kI_X4, kC_X4_isIn, ⟨by decide +kernel, by decide +kernel, by decide +kernel⟩, by decide⟩
theorem lk_X4_171 : LkV RX4 171 4 mX4_borneWithout 3 := ⟨⟨TX4, 7, rfl⟩, tG_of 408 (by decide +kernel) (by decide +kernel), kN_X4_borneWithout, kL_X4_borneWithout, kI_X4, kC_X4_borneWithout, ⟨by decide +kernel, by decide +kernel, by decide +kernel⟩, by decide⟩
theorem lk_L_93 : LkV RL 93 4 mX4_swapFor 1 := ⟨⟨TX4, 7, rfl⟩, tG_of 412 (by decide +kernel) (by decide +kernel), kN_X4_swapFor, kL_X4_swapFor, kI_X4, kC_X4_swapFor, ⟨by decide +kernel, by decide +kernel, by decide +kernel⟩, by decide⟩
theorem lk_X4_178 : LkV RX4 178 4 mX4_hintsWithSwapped 3 := ⟨⟨TX4, 7, rfl⟩, tG_of 417 (by decide +kernel) (by decide +kernel), kN_X4_hintsWithSwapped, kL_X4_hintsWithSwapped, kI_X4, kC_X4_hintsWithSwapped, ⟨by decide +kernel, by decide +kernel, by decide +kernel⟩, by decide⟩
theorem lk_L_97 : LkV RL 97 4 mX4_fits 2 := ⟨⟨TX4, 7, rfl⟩, tG_of 421 (by decide +kernel) (by decide +kernel), kN_X4_fits, kL_X4_fits, kI_X4, kC_X4_fits, ⟨by decide +kernel, by decide +kernel, by decide +kernel⟩, by decide⟩
theorem lk_X4_181 : LkV RX4 181 4 mX4_sheetAndPersonFinding 2 := ⟨⟨TX4, 7, rfl⟩, tG_of 425 (by decide +kernel) (by decide +kernel), kN_X4_sheetAndPersonFinding, kL_X4_sheetAndPersonFinding, kI_X4, kC_X4_sheetAndPersonFinding, ⟨by decide +kernel, by decide +kernel, by decide +kernel⟩, by decide⟩
theorem lk_X4_195 : LkV RX4 195 4 mX4_sheetFinding 1 := ⟨⟨TX4, 7, rfl⟩, tG_of 429 (by decide +kernel) (by decide +kernel), kN_X4_sheetFinding, kL_X4_sheetFinding, kI_X4, kC_X4_sheetFinding, ⟨by decide +kernel, by decide +kernel, by decide +kernel⟩, by decide⟩
theorem lk_X4_234 : LkV RX4 234 3 mX3_isMissing 0 := ⟨⟨TX3, 3, rfl⟩, tG_of 433 (by decide +kernel) (by decide +kernel), kN_X3_isMissing, kL_X3_isMissing, kI_X3, kC_X3_isMissing, ⟨by decide +kernel, by decide +kernel, by decide +kernel⟩, by decide⟩
theorem lk_X4_184 : LkV RX4 184 4 mX4_isWeightAsTold 3 := ⟨⟨TX4, 7, rfl⟩, tG_of 438 (by decide +kernel) (by decide +kernel), kN_X4_isWeightAsTold, kL_X4_isWeightAsTold, kI_X4, kC_X4_isWeightAsTold, ⟨by decide +kernel, by decide +kernel, by decide +kernel⟩, by decide⟩
theorem lk_X4_188 : LkV RX4 188 4 mX4_isTrialAsTold 3 := ⟨⟨TX4, 7, rfl⟩, tG_of 442 (by decide +kernel) (by decide +kernel), kN_X4_isTrialAsTold, kL_X4_isTrialAsTold, kI_X4, kC_X4_isTrialAsTold, ⟨by decide +kernel, by decide +kernel, by decide +kernel⟩, by decide⟩
theorem lk_L_101 : LkV RL 101 4 mX4_weighed 2 := ⟨⟨TX4, 7, rfl⟩, tG_of 446 (by decide +kernel) (by decide +kernel), kN_X4_weighed, kL_X4_weighed, kI_X4, kC_X4_weighed, ⟨by decide +kernel, by decide +kernel, by decide +kernel⟩, by decide⟩
theorem lk_L_105 : LkV RL 105 4 mX4_kinds 2 := ⟨⟨TX4, 7, rfl⟩, tG_of 450 (by decide +kernel) (by decide +kernel), kN_X4_kinds, kL_X4_kinds, kI_X4, kC_X4_kinds, ⟨by decide +kernel, by decide +kernel, by decide +kernel⟩, by decide⟩
theorem lk_L_109 : LkV RL 109 4 mX4_gossip 1 := ⟨⟨TX4, 7, rfl⟩, tG_of 454 (by decide +kernel) (by decide +kernel), kN_X4_gossip, kL_X4_gossip, kI_X4, kC_X4_gossip, ⟨by decide +kernel, by decide +kernel, by decide +kernel⟩, by decide⟩
theorem lk_X4_198 : LkV RX4 198 0 mX0_draw 0 := ⟨⟨TX0, 8, rfl⟩, tG_of 458 (by decide +kernel) (by decide +kernel), kN_X0_draw, kL_X0_draw, kI_X0, kC_X0_draw, ⟨by decide +kernel, by decide +kernel, by decide +kernel⟩, by decide⟩
theorem lk_L_113 : LkV RL 113 4 mX4_odds 2 := ⟨⟨TX4, 7, rfl⟩, tG_of 463 (by decide +kernel) (by decide +kernel), kN_X4_odds, kL_X4_odds, kI_X4, kC_X4_odds, ⟨by decide +kernel, by decide +kernel, by decide +kernel⟩, by decide⟩
theorem lk_X4_201 : LkV RX4 201 0 mX0_withRoom 0 := ⟨⟨TX0, 8, rfl⟩, tG_of 467 (by decide +kernel) (by decide +kernel), kN_X0_withRoom, kL_X0_withRoom, kI_X0, kC_X0_withRoom, ⟨by decide +kernel, by decide +kernel, by decide +kernel⟩, by decide⟩
theorem lk_X4_204 : LkS RX4 204 mX4_power 2 := ⟨tG_of 471 (by decide +kernel) (by decide +kernel), kS_X4_power, kI_X4, kC_X4_power, ⟨by decide +kernel, by decide +kernel, by decide +kernel⟩, by decide⟩
theorem lk_L_118 : LkV RL 118 4 mX4_seed 1 := ⟨⟨TX4, 7, rfl⟩, tG_of 474 (by decide +kernel) (by decide +kernel), kN_X4_seed, kL_X4_seed, kI_X4, kC_X4_seed, ⟨by decide +kernel, by decide +kernel, by decide +kernel⟩, by decide⟩
theorem lk_L_122 : LkV RL 122 4 mX4_feed 2 := ⟨⟨TX4, 7, rfl⟩, tG_of 478 (by decide +kernel) (by decide +kernel), kN_X4_feed, kL_X4_feed, kI_X4, kC_X4_feed, ⟨by decide +kernel, by decide +kernel, by decide +kernel⟩, by decide⟩
theorem lk_X4_212 : LkV RX4 212 2 mX2_append 1 := ⟨⟨TX2, 6, rfl⟩, tG_of 482 (by decide +kernel) (by decide +kernel), kN_X2_append, kL_X2_append, kI_X2, kC_X2_append, ⟨by decide +kernel, by decide +kernel, by decide +kernel⟩, by decide⟩
theorem lk_L_126 : LkV RL 126 4 mX4_wipe 0 := ⟨⟨TX4, 7, rfl⟩, tG_of 486 (by decide +kernel) (by decide +kernel), kN_X4_wipe, kL_X4_wipe, kI_X4, kC_X4_wipe, ⟨by decide +kernel, by decide +kernel, by decide +kernel⟩, by decide⟩
theorem lk_L_130 : LkV RL 130 4 mX4_text 0 := ⟨⟨TX4, 7, rfl⟩, tG_of 490 (by decide +kernel) (by decide +kernel), kN_X4_text, kL_X4_text, kI_X4, kC_X4_text, ⟨by decide +kernel, by decide +kernel, by decide +kernel⟩, by decide⟩
theorem lk_X4_215 : LkV RX4 215 2 mX2_readInto 1 := ⟨⟨TX2, 6, rfl⟩, tG_of 494 (by decide +kernel) (by decide +kernel), kN_X2_readInto, kL_X2_readInto, kI_X2, kC_X2_readInto, ⟨by decide +kernel, by decide +kernel, by decide +kernel⟩, by decide⟩
theorem lk_X2_22 : LkV RX2 22 2 mX2_step 0 := ⟨⟨TX2, 6, rfl⟩, tG_of 498 (by decide +kernel) (by decide +kernel), kN_X2_step, kL_X2_step, kI_X2, kC_X2_step, ⟨by decide +kernel, by decide +kernel, by decide +kernel⟩, by decide⟩
theorem lk_X2_127 : LkS RX2 127 mX2_isLetter 1 := ⟨tG_of 502 (by decide +kernel) (by decide +kernel), kS_X2_isLetter, kI_X2, kC_X2_isLetter, ⟨by decide +kernel, by decide +kernel, by decide +kernel⟩, by decide⟩
theorem lk_X2_130 : LkS RX2 130 mX2_isDigit 1 := ⟨tG_of 505 (by decide +kernel) (by decide +kernel), kS_X2_isDigit, kI_X2, kC_X2_isDigit, ⟨by decide +kernel, by decide +kernel, by decide +kernel⟩, by decide⟩
theorem lk_X2_133 : LkS RX2 133 mJ9_min_7cf53 2 := ⟨tG_of 508 (by decide +kernel) (by decide +kernel), kS_J9_min_7cf53, kI_J9, kC_J9_min_7cf53, ⟨by decide +kernel, by decide +kernel, by decide +kernel⟩, by decide⟩
theorem lk_X2_25 : LkV RX2 25 2 mX2_readItem 1 := ⟨⟨TX2, 6, rfl⟩, tG_of 509 (by decide +kernel) (by decide +kernel), kN_X2_readItem, kL_X2_readItem, kI_X2, kC_X2_readItem, ⟨by decide +kernel, by decide +kernel, by decide +kernel⟩, by decide⟩
theorem lk_X2_37 : LkV RX2 37 2 mX2_isWord 1 := ⟨⟨TX2, 6, rfl⟩, tG_of 514 (by decide +kernel) (by decide +kernel), kN_X2_isWord, kL_X2_isWord, kI_X2, kC_X2_isWord, ⟨by decide +kernel, by decide +kernel, by decide +kernel⟩, by decide⟩
theorem lk_J0_495 : LkS RJ0 495 mJ1_charAt_3b067 2 := ⟨tG_of 536 (by decide +kernel) (by decide +kernel), kS_J1_charAt_3b067, kI_J1, kC_J1_charAt_3b067, ⟨by decide +kernel, by decide +kernel, by decide +kernel⟩, by decide⟩
theorem lk_J1_9 : LkS RJ1 9 mJ0_checkIndex_df160 2 := ⟨tG_of 539 (by decide +kernel) (by decide +kernel), kS_J0_checkIndex_df160, kI_J0, kC_J0_checkIndex_df160, ⟨by decide +kernel, by decide +kernel, by decide +kernel⟩, by decide⟩
theorem lk_J0_1059 : LkS RJ0 1059 mJ3_checkIndex_8e157 3 := ⟨tG_of 544 (by decide +kernel) (by decide +kernel), kS_J3_checkIndex_8e157, kI_J3, kC_J3_checkIndex_8e157, ⟨by decide +kernel, by decide +kernel, by decide +kernel⟩, by decide⟩
theorem lk_J0_498 : LkS RJ0 498 mJ2_charAt_3b067 2 := ⟨tG_of 547 (by decide +kernel) (by decide +kernel), kS_J2_charAt_3b067, kI_J2, kC_J2_charAt_3b067, ⟨by decide +kernel, by decide +kernel, by decide +kernel⟩, by decide⟩
theorem lk_J2_67 : LkS RJ2 67 mJ2_checkIndex_2214a 2 := ⟨tG_of 550 (by decide +kernel) (by decide +kernel), kS_J2_checkIndex_2214a, kI_J2, kC_J2_checkIndex_2214a, ⟨by decide +kernel, by decide +kernel, by decide +kernel⟩, by decide⟩
theorem lk_J2_48 : LkS RJ2 48 mJ2_length_9d52b 1 := ⟨tG_of 553 (by decide +kernel) (by decide +kernel), kS_J2_length_9d52b, kI_J2, kC_J2_length_9d52b, ⟨by decide +kernel, by decide +kernel, by decide +kernel⟩, by decide⟩
theorem lk_J2_414 : LkS RJ2 414 mJ0_checkIndex_df160 2 := ⟨tG_of 556 (by decide +kernel) (by decide +kernel), kS_J0_checkIndex_df160, kI_J0, kC_J0_checkIndex_df160, ⟨by decide +kernel, by decide +kernel, by decide +kernel⟩, by decide⟩
theorem lk_J2_71 : LkS RJ2 71 mJ2_getChar_3b067 2 := ⟨tG_of 557 (by decide +kernel) (by decide +kernel), kS_J2_getChar_3b067, kI_J2, kC_J2_getChar_3b067, ⟨by decide +kernel, by decide +kernel, by decide +kernel⟩, by decide⟩
theorem lk_X2_41 : LkV RX2 41 2 mX2_readSaying 1 := ⟨⟨TX2, 6, rfl⟩, tG_of 566 (by decide +kernel) (by decide +kernel), kN_X2_readSaying, kL_X2_readSaying, kI_X2, kC_X2_readSaying, ⟨by decide +kernel, by decide +kernel, by decide +kernel⟩, by decide⟩
theorem lk_X2_52 : LkV RX2 52 2 mX2_readNumber 1 := ⟨⟨TX2, 6, rfl⟩, tG_of 570 (by decide +kernel) (by decide +kernel), kN_X2_readNumber, kL_X2_readNumber, kI_X2, kC_X2_readNumber, ⟨by decide +kernel, by decide +kernel, by decide +kernel⟩, by decide⟩
theorem lk_X2_46 : LkV RX2 46 2 mX2_readHints 1 := ⟨⟨TX2, 6, rfl⟩, tG_of 576 (by decide +kernel) (by decide +kernel), kN_X2_readHints, kL_X2_readHints, kI_X2, kC_X2_readHints, ⟨by decide +kernel, by decide +kernel, by decide +kernel⟩, by decide⟩
theorem lk_X2_49 : LkV RX2 49 2 mX2_readPerson 1 := ⟨⟨TX2, 6, rfl⟩, tG_of 580 (by decide +kernel) (by decide +kernel), kN_X2_readPerson, kL_X2_readPerson, kI_X2, kC_X2_readPerson, ⟨by decide +kernel, by decide +kernel, by decide +kernel⟩, by decide⟩
theorem lk_X2_67 : LkV RX2 67 2 mX2_kindOfWord 0 := ⟨⟨TX2, 6, rfl⟩, tG_of 584 (by decide +kernel) (by decide +kernel), kN_X2_kindOfWord, kL_X2_kindOfWord, kI_X2, kC_X2_kindOfWord, ⟨by decide +kernel, by decide +kernel, by decide +kernel⟩, by decide⟩
theorem lk_X2_71 : LkV RX2 71 0 mX0_add 2 := ⟨⟨TX0, 8, rfl⟩, tG_of 595 (by decide +kernel) (by decide +kernel), kN_X0_add, kL_X0_add, kI_X0, kC_X0_add, ⟨by decide +kernel, by decide +kernel, by decide +kernel⟩, by decide⟩
theorem lk_X2_74 : LkV RX2 74 0 mX0_has 1 := ⟨⟨TX0, 8, rfl⟩, tG_of 596 (by decide +kernel) (by decide +kernel), kN_X0_has, kL_X0_has, kI_X0, kC_X0_has, ⟨by decide +kernel, by decide +kernel, by decide +kernel⟩, by decide⟩
theorem lk_X2_84 : LkV RX2 84 2 mX2_readAttribute 3 := ⟨⟨TX2, 6, rfl⟩, tG_of 598 (by decide +kernel) (by decide +kernel), kN_X2_readAttribute, kL_X2_readAttribute, kI_X2, kC_X2_readAttribute, ⟨by decide +kernel, by decide +kernel, by decide +kernel⟩, by decide⟩
theorem lk_X2_95 : LkV RX2 95 1 mX1_setAttribute 2 := ⟨⟨TX1, 5, rfl⟩, tG_of 603 (by decide +kernel) (by decide +kernel), kN_X1_setAttribute, kL_X1_setAttribute, kI_X1, kC_X1_setAttribute, ⟨by decide +kernel, by decide +kernel, by decide +kernel⟩, by decide⟩
theorem lk_L_134 : LkV RL 134 4 mX4_hold 2 := ⟨⟨TX4, 7, rfl⟩, tG_of 607 (by decide +kernel) (by decide +kernel), kN_X4_hold, kL_X4_hold, kI_X4, kC_X4_hold, ⟨by decide +kernel, by decide +kernel, by decide +kernel⟩, by decide⟩
theorem lk_L_138 : LkV RL 138 4 mX4_as 2 := ⟨⟨TX4, 7, rfl⟩, tG_of 611 (by decide +kernel) (by decide +kernel), kN_X4_as, kL_X4_as, kI_X4, kC_X4_as, ⟨by decide +kernel, by decide +kernel, by decide +kernel⟩, by decide⟩
theorem lk_X4_223 : LkV RX4 223 1 mX1_isOfKind 1 := ⟨⟨TX1, 5, rfl⟩, tG_of 615 (by decide +kernel) (by decide +kernel), kN_X1_isOfKind, kL_X1_isOfKind, kI_X1, kC_X1_isOfKind, ⟨by decide +kernel, by decide +kernel, by decide +kernel⟩, by decide⟩
theorem lk_L_142 : LkV RL 142 4 mX4_sheet 3 := ⟨⟨TX4, 7, rfl⟩, tG_of 623 (by decide +kernel) (by decide +kernel), kN_X4_sheet, kL_X4_sheet, kI_X4, kC_X4_sheet, ⟨by decide +kernel, by decide +kernel, by decide +kernel⟩, by decide⟩
theorem lk_X4_228 : LkV RX4 228 3 mX3_lay 2 := ⟨⟨TX3, 3, rfl⟩, tG_of 628 (by decide +kernel) (by decide +kernel), kN_X3_lay, kL_X3_lay, kI_X3, kC_X3_lay, ⟨by decide +kernel, by decide +kernel, by decide +kernel⟩, by decide⟩
theorem lk_L_146 : LkV RL 146 4 mX4_write 3 := ⟨⟨TX4, 7, rfl⟩, tG_of 632 (by decide +kernel) (by decide +kernel), kN_X4_write, kL_X4_write, kI_X4, kC_X4_write, ⟨by decide +kernel, by decide +kernel, by decide +kernel⟩, by decide⟩
theorem lk_X4_231 : LkV RX4 231 3 mX3_put 2 := ⟨⟨TX3, 3, rfl⟩, tG_of 636 (by decide +kernel) (by decide +kernel), kN_X3_put, kL_X3_put, kI_X3, kC_X3_put, ⟨by decide +kernel, by decide +kernel, by decide +kernel⟩, by decide⟩
theorem lk_L_150 : LkV RL 150 4 mX4_copy 5 := ⟨⟨TX4, 7, rfl⟩, tG_of 640 (by decide +kernel) (by decide +kernel), kN_X4_copy, kL_X4_copy, kI_X4, kC_X4_copy, ⟨by decide +kernel, by decide +kernel, by decide +kernel⟩, by decide⟩
theorem lk_X4_240 : LkV RX4 240 3 mX3_hasRange 2 := ⟨⟨TX3, 3, rfl⟩, tG_of 644 (by decide +kernel) (by decide +kernel), kN_X3_hasRange, kL_X3_hasRange, kI_X3, kC_X3_hasRange, ⟨by decide +kernel, by decide +kernel, by decide +kernel⟩, by decide⟩
theorem lk_X4_243 : LkC RX4 243 := ⟨tG_of 648 (by decide +kernel) (by decide +kernel), tG_of 338 (by decide +kernel) (by decide +kernel), tG_of 337 (by decide +kernel) (by decide +kernel), kI_J10⟩
theorem lk_L_155 : LkV RL 155 4 mX4_load 1 := ⟨⟨TX4, 7, rfl⟩, tG_of 649 (by decide +kernel) (by decide +kernel), kN_X4_load, kL_X4_load, kI_X4, kC_X4_load, ⟨by decide +kernel, by decide +kernel, by decide +kernel⟩, by decide⟩
theorem lk_X4_249 : LkS RX4 249 mX4_isSaying 1 := ⟨tG_of 653 (by decide +kernel) (by decide +kernel), kS_X4_isSaying, kI_X4, kC_X4_isSaying, ⟨by decide +kernel, by decide +kernel, by decide +kernel⟩, by decide⟩
theorem lk_L_159 : LkV RL 159 4 mX4_judge 1 := ⟨⟨TX4, 7, rfl⟩, tG_of 656 (by decide +kernel) (by decide +kernel), kN_X4_judge, kL_X4_judge, kI_X4, kC_X4_judge, ⟨by decide +kernel, by decide +kernel, by decide +kernel⟩, by decide⟩
theorem lk_L_163 : LkV RL 163 4 mX4_image 0 := ⟨⟨TX4, 7, rfl⟩, tG_of 660 (by decide +kernel) (by decide +kernel), kN_X4_image, kL_X4_image, kI_X4, kC_X4_image, ⟨by decide +kernel, by decide +kernel, by decide +kernel⟩, by decide⟩
theorem lk_L_167 : LkV RL 167 4 mX4_undo 0 := ⟨⟨TX4, 7, rfl⟩, tG_of 664 (by decide +kernel) (by decide +kernel), kN_X4_undo, kL_X4_undo, kI_X4, kC_X4_undo, ⟨by decide +kernel, by decide +kernel, by decide +kernel⟩, by decide⟩
theorem lk_L_171 : LkV RL 171 4 mX4_tear 0 := ⟨⟨TX4, 7, rfl⟩, tG_of 668 (by decide +kernel) (by decide +kernel), kN_X4_tear, kL_X4_tear, kI_X4, kC_X4_tear, ⟨by decide +kernel, by decide +kernel, by decide +kernel⟩, by decide⟩
theorem lk_L_175 : LkV RL 175 4 mX4_count 1 := ⟨⟨TX4, 7, rfl⟩, tG_of 672 (by decide +kernel) (by decide +kernel), kN_X4_count, kL_X4_count, kI_X4, kC_X4_count, ⟨by decide +kernel, by decide +kernel, by decide +kernel⟩, by decide⟩
theorem lk_X4_259 : LkV RX4 259 0 mX0_spotsInUse 0 := ⟨⟨TX0, 8, rfl⟩, tG_of 676 (by decide +kernel) (by decide +kernel), kN_X0_spotsInUse, kL_X0_spotsInUse, kI_X0, kC_X0_spotsInUse, ⟨by decide +kernel, by decide +kernel, by decide +kernel⟩, by decide⟩
theorem lk_L_179 : LkV RL 179 4 mX4_status 1 := ⟨⟨TX4, 7, rfl⟩, tG_of 680 (by decide +kernel) (by decide +kernel), kN_X4_status, kL_X4_status, kI_X4, kC_X4_status, ⟨by decide +kernel, by decide +kernel, by decide +kernel⟩, by decide⟩
theorem lk_L_17 : LkV RL 17 5 mX5_say 3 := ⟨⟨TX5, 18, rfl⟩, tG_of 745 (by decide +kernel) (by decide +kernel), kN_X5_say, kL_X5_say, kI_X5, kC_X5_say, ⟨by decide +kernel, by decide +kernel, by decide +kernel⟩, by decide⟩
theorem lk_X5_49 : LkS RX5 49 mX5_isPlace 1 := ⟨tG_of 749 (by decide +kernel) (by decide +kernel), kS_X5_isPlace, kI_X5, kC_X5_isPlace, ⟨by decide +kernel, by decide +kernel, by decide +kernel⟩, by decide⟩
theorem lk_X5_45 : LkS RX5 45 mX5_isIn 3 := ⟨tG_of 753 (by decide +kernel) (by decide +kernel), kS_X5_isIn, kI_X5, kC_X5_isIn, ⟨by decide +kernel, by decide +kernel, by decide +kernel⟩, by decide⟩
theorem lk_X5_57 : LkV RX5 57 5 mX5_becomes 2 := ⟨⟨TX5, 18, rfl⟩, tG_of 757 (by decide +kernel) (by decide +kernel), kN_X5_becomes, kL_X5_becomes, kI_X5, kC_X5_becomes, ⟨by decide +kernel, by decide +kernel, by decide +kernel⟩, by decide⟩
theorem lk_X5_39 : LkV RX5 39 5 mX5_finds 1 := ⟨⟨TX5, 18, rfl⟩, tG_of 762 (by decide +kernel) (by decide +kernel), kN_X5_finds, kL_X5_finds, kI_X5, kC_X5_finds, ⟨by decide +kernel, by decide +kernel, by decide +kernel⟩, by decide⟩
theorem lk_L_22 : LkV RL 22 5 mX5_said 1 := ⟨⟨TX5, 18, rfl⟩, tG_of 766 (by decide +kernel) (by decide +kernel), kN_X5_said, kL_X5_said, kI_X5, kC_X5_said, ⟨by decide +kernel, by decide +kernel, by decide +kernel⟩, by decide⟩
theorem lk_L_27 : LkV RL 27 5 mX5_person 2 := ⟨⟨TX5, 18, rfl⟩, tG_of 770 (by decide +kernel) (by decide +kernel), kN_X5_person, kL_X5_person, kI_X5, kC_X5_person, ⟨by decide +kernel, by decide +kernel, by decide +kernel⟩, by decide⟩
theorem lk_X5_69 : LkV RX5 69 5 mX5_comes 2 := ⟨⟨TX5, 18, rfl⟩, tG_of 777 (by decide +kernel) (by decide +kernel), kN_X5_comes, kL_X5_comes, kI_X5, kC_X5_comes, ⟨by decide +kernel, by decide +kernel, by decide +kernel⟩, by decide⟩
theorem lk_X5_61 : LkS RX5 61 mX5_at 2 := ⟨tG_of 781 (by decide +kernel) (by decide +kernel), kS_X5_at, kI_X5, kC_X5_at, ⟨by decide +kernel, by decide +kernel, by decide +kernel⟩, by decide⟩
theorem lk_L_31 : LkV RL 31 5 mX5_of 2 := ⟨⟨TX5, 18, rfl⟩, tG_of 784 (by decide +kernel) (by decide +kernel), kN_X5_of, kL_X5_of, kI_X5, kC_X5_of, ⟨by decide +kernel, by decide +kernel, by decide +kernel⟩, by decide⟩
theorem lk_X5_85 : LkV RX5 85 5 mX5_isOne 1 := ⟨⟨TX5, 18, rfl⟩, tG_of 788 (by decide +kernel) (by decide +kernel), kN_X5_isOne, kL_X5_isOne, kI_X5, kC_X5_isOne, ⟨by decide +kernel, by decide +kernel, by decide +kernel⟩, by decide⟩
theorem lk_X5_88 : LkV RX5 88 5 mX5_asks 1 := ⟨⟨TX5, 18, rfl⟩, tG_of 792 (by decide +kernel) (by decide +kernel), kN_X5_asks, kL_X5_asks, kI_X5, kC_X5_asks, ⟨by decide +kernel, by decide +kernel, by decide +kernel⟩, by decide⟩
theorem lk_X5_79 : LkV RX5 79 5 mX5_asksMost 1 := ⟨⟨TX5, 18, rfl⟩, tG_of 796 (by decide +kernel) (by decide +kernel), kN_X5_asksMost, kL_X5_asksMost, kI_X5, kC_X5_asksMost, ⟨by decide +kernel, by decide +kernel, by decide +kernel⟩, by decide⟩
theorem lk_X5_73 : LkV RX5 73 5 mX5_its 2 := ⟨⟨TX5, 18, rfl⟩, tG_of 800 (by decide +kernel) (by decide +kernel), kN_X5_its, kL_X5_its, kI_X5, kC_X5_its, ⟨by decide +kernel, by decide +kernel, by decide +kernel⟩, by decide⟩
theorem lk_X5_82 : LkS RX5 82 mX5_least 2 := ⟨tG_of 804 (by decide +kernel) (by decide +kernel), kS_X5_least, kI_X5, kC_X5_least, ⟨by decide +kernel, by decide +kernel, by decide +kernel⟩, by decide⟩
theorem lk_X5_91 : LkV RX5 91 5 mX5_room 1 := ⟨⟨TX5, 18, rfl⟩, tG_of 807 (by decide +kernel) (by decide +kernel), kN_X5_room, kL_X5_room, kI_X5, kC_X5_room, ⟨by decide +kernel, by decide +kernel, by decide +kernel⟩, by decide⟩
theorem lk_X5_76 : LkS RX5 76 mX5_greatest 2 := ⟨tG_of 811 (by decide +kernel) (by decide +kernel), kS_X5_greatest, kI_X5, kC_X5_greatest, ⟨by decide +kernel, by decide +kernel, by decide +kernel⟩, by decide⟩
theorem lk_X5_94 : LkV RX5 94 5 mX5_forgets 1 := ⟨⟨TX5, 18, rfl⟩, tG_of 814 (by decide +kernel) (by decide +kernel), kN_X5_forgets, kL_X5_forgets, kI_X5, kC_X5_forgets, ⟨by decide +kernel, by decide +kernel, by decide +kernel⟩, by decide⟩
theorem lk_L_35 : LkV RL 35 5 mX5_change 3 := ⟨⟨TX5, 18, rfl⟩, tG_of 818 (by decide +kernel) (by decide +kernel), kN_X5_change, kL_X5_change, kI_X5, kC_X5_change, ⟨by decide +kernel, by decide +kernel, by decide +kernel⟩, by decide⟩
theorem lk_X5_99 : LkS RX5 99 mX5_greatestOf 1 := ⟨tG_of 823 (by decide +kernel) (by decide +kernel), kS_X5_greatestOf, kI_X5, kC_X5_greatestOf, ⟨by decide +kernel, by decide +kernel, by decide +kernel⟩, by decide⟩
theorem lk_L_39 : LkV RL 39 5 mX5_feels 2 := ⟨⟨TX5, 18, rfl⟩, tG_of 826 (by decide +kernel) (by decide +kernel), kN_X5_feels, kL_X5_feels, kI_X5, kC_X5_feels, ⟨by decide +kernel, by decide +kernel, by decide +kernel⟩, by decide⟩
theorem lk_X5_102 : LkV RX5 102 5 mX5_feelsOf 2 := ⟨⟨TX5, 18, rfl⟩, tG_of 830 (by decide +kernel) (by decide +kernel), kN_X5_feelsOf, kL_X5_feelsOf, kI_X5, kC_X5_feelsOf, ⟨by decide +kernel, by decide +kernel, by decide +kernel⟩, by decide⟩
theorem lk_L_43 : LkV RL 43 5 mX5_bearer 2 := ⟨⟨TX5, 18, rfl⟩, tG_of 834 (by decide +kernel) (by decide +kernel), kN_X5_bearer, kL_X5_bearer, kI_X5, kC_X5_bearer, ⟨by decide +kernel, by decide +kernel, by decide +kernel⟩, by decide⟩
theorem lk_X5_108 : LkV RX5 108 5 mX5_bearerOf 2 := ⟨⟨TX5, 18, rfl⟩, tG_of 838 (by decide +kernel) (by decide +kernel), kN_X5_bearerOf, kL_X5_bearerOf, kI_X5, kC_X5_bearerOf, ⟨by decide +kernel, by decide +kernel, by decide +kernel⟩, by decide⟩
theorem lk_X5_105 : LkV RX5 105 5 mX5_roomiestBut 1 := ⟨⟨TX5, 18, rfl⟩, tG_of 842 (by decide +kernel) (by decide +kernel), kN_X5_roomiestBut, kL_X5_roomiestBut, kI_X5, kC_X5_roomiestBut, ⟨by decide +kernel, by decide +kernel, by decide +kernel⟩, by decide⟩
theorem lk_X5_111 : LkV RX5 111 5 mX5_orNone 1 := ⟨⟨TX5, 18, rfl⟩, tG_of 846 (by decide +kernel) (by decide +kernel), kN_X5_orNone, kL_X5_orNone, kI_X5, kC_X5_orNone, ⟨by decide +kernel, by decide +kernel, by decide +kernel⟩, by decide⟩
theorem lk_L_47 : LkV RL 47 5 mX5_go 1 := ⟨⟨TX5, 18, rfl⟩, tG_of 851 (by decide +kernel) (by decide +kernel), kN_X5_go, kL_X5_go, kI_X5, kC_X5_go, ⟨by decide +kernel, by decide +kernel, by decide +kernel⟩, by decide⟩
theorem lk_X5_129 : LkV RX5 129 5 mX5_goes 1 := ⟨⟨TX5, 18, rfl⟩, tG_of 858 (by decide +kernel) (by decide +kernel), kN_X5_goes, kL_X5_goes, kI_X5, kC_X5_goes, ⟨by decide +kernel, by decide +kernel, by decide +kernel⟩, by decide⟩
theorem lk_X5_123 : LkV RX5 123 5 mX5_dayBut 1 := ⟨⟨TX5, 18, rfl⟩, tG_of 862 (by decide +kernel) (by decide +kernel), kN_X5_dayBut, kL_X5_dayBut, kI_X5, kC_X5_dayBut, ⟨by decide +kernel, by decide +kernel, by decide +kernel⟩, by decide⟩
theorem lk_X5_114 : LkV RX5 114 5 mX5_bears 3 := ⟨⟨TX5, 18, rfl⟩, tG_of 866 (by decide +kernel) (by decide +kernel), kN_X5_bears, kL_X5_bears, kI_X5, kC_X5_bears, ⟨by decide +kernel, by decide +kernel, by decide +kernel⟩, by decide⟩
theorem lk_X5_119 : LkV RX5 119 5 mX5_asksNow 1 := ⟨⟨TX5, 18, rfl⟩, tG_of 870 (by decide +kernel) (by decide +kernel), kN_X5_asksNow, kL_X5_asksNow, kI_X5, kC_X5_asksNow, ⟨by decide +kernel, by decide +kernel, by decide +kernel⟩, by decide⟩
theorem lk_X5_132 : LkV RX5 132 5 mX5_sumOf 1 := ⟨⟨TX5, 18, rfl⟩, tG_of 874 (by decide +kernel) (by decide +kernel), kN_X5_sumOf, kL_X5_sumOf, kI_X5, kC_X5_sumOf, ⟨by decide +kernel, by decide +kernel, by decide +kernel⟩, by decide⟩
theorem lk_L_51 : LkV RL 51 5 mX5_now 1 := ⟨⟨TX5, 18, rfl⟩, tG_of 878 (by decide +kernel) (by decide +kernel), kN_X5_now, kL_X5_now, kI_X5, kC_X5_now, ⟨by decide +kernel, by decide +kernel, by decide +kernel⟩, by decide⟩
theorem lk_X5_135 : LkV RX5 135 5 mX5_owedOnes 0 := ⟨⟨TX5, 18, rfl⟩, tG_of 882 (by decide +kernel) (by decide +kernel), kN_X5_owedOnes, kL_X5_owedOnes, kI_X5, kC_X5_owedOnes, ⟨by decide +kernel, by decide +kernel, by decide +kernel⟩, by decide⟩
theorem lk_L_55 : LkV RL 55 5 mX5_ahead 3 := ⟨⟨TX5, 18, rfl⟩, tG_of 886 (by decide +kernel) (by decide +kernel), kN_X5_ahead, kL_X5_ahead, kI_X5, kC_X5_ahead, ⟨by decide +kernel, by decide +kernel, by decide +kernel⟩, by decide⟩
theorem lk_X5_145 : LkV RX5 145 5 mX5_thenAt 2 := ⟨⟨TX5, 18, rfl⟩, tG_of 891 (by decide +kernel) (by decide +kernel), kN_X5_thenAt, kL_X5_thenAt, kI_X5, kC_X5_thenAt, ⟨by decide +kernel, by decide +kernel, by decide +kernel⟩, by decide⟩
theorem lk_X5_139 : LkS RX5 139 mX5_copyRow 2 := ⟨tG_of 895 (by decide +kernel) (by decide +kernel), kS_X5_copyRow, kI_X5, kC_X5_copyRow, ⟨by decide +kernel, by decide +kernel, by decide +kernel⟩, by decide⟩
theorem lk_L_59 : LkV RL 59 5 mX5_hints 1 := ⟨⟨TX5, 18, rfl⟩, tG_of 898 (by decide +kernel) (by decide +kernel), kN_X5_hints, kL_X5_hints, kI_X5, kC_X5_hints, ⟨by decide +kernel, by decide +kernel, by decide +kernel⟩, by decide⟩
theorem lk_L_64 : LkV RL 64 5 mX5_even 0 := ⟨⟨TX5, 18, rfl⟩, tG_of 902 (by decide +kernel) (by decide +kernel), kN_X5_even, kL_X5_even, kI_X5, kC_X5_even, ⟨by decide +kernel, by decide +kernel, by decide +kernel⟩, by decide⟩
theorem lk_L_68 : LkV RL 68 5 mX5_when 2 := ⟨⟨TX5, 18, rfl⟩, tG_of 906 (by decide +kernel) (by decide +kernel), kN_X5_when, kL_X5_when, kI_X5, kC_X5_when, ⟨by decide +kernel, by decide +kernel, by decide +kernel⟩, by decide⟩
theorem lk_L_72 : LkV RL 72 5 mX5_clean 1 := ⟨⟨TX5, 18, rfl⟩, tG_of 911 (by decide +kernel) (by decide +kernel), kN_X5_clean, kL_X5_clean, kI_X5, kC_X5_clean, ⟨by decide +kernel, by decide +kernel, by decide +kernel⟩, by decide⟩
theorem lk_L_76 : LkV RL 76 5 mX5_whom 1 := ⟨⟨TX5, 18, rfl⟩, tG_of 915 (by decide +kernel) (by decide +kernel), kN_X5_whom, kL_X5_whom, kI_X5, kC_X5_whom, ⟨by decide +kernel, by decide +kernel, by decide +kernel⟩, by decide⟩
theorem lk_X5_152 : LkV RX5 152 5 mX5_nextPlace 0 := ⟨⟨TX5, 18, rfl⟩, tG_of 920 (by decide +kernel) (by decide +kernel), kN_X5_nextPlace, kL_X5_nextPlace, kI_X5, kC_X5_nextPlace, ⟨by decide +kernel, by decide +kernel, by decide +kernel⟩, by decide⟩
theorem lk_L_80 : LkV RL 80 5 mX5_weightFor 1 := ⟨⟨TX5, 18, rfl⟩, tG_of 924 (by decide +kernel) (by decide +kernel), kN_X5_weightFor, kL_X5_weightFor, kI_X5, kC_X5_weightFor, ⟨by decide +kernel, by decide +kernel, by decide +kernel⟩, by decide⟩
theorem lk_X5_155 : LkV RX5 155 5 mX5_isEvenOnce 1 := ⟨⟨TX5, 18, rfl⟩, tG_of 928 (by decide +kernel) (by decide +kernel), kN_X5_isEvenOnce, kL_X5_isEvenOnce, kI_X5, kC_X5_isEvenOnce, ⟨by decide +kernel, by decide +kernel, by decide +kernel⟩, by decide⟩
theorem lk_L_84 : LkV RL 84 5 mX5_buildFor 2 := ⟨⟨TX5, 18, rfl⟩, tG_of 932 (by decide +kernel) (by decide +kernel), kN_X5_buildFor, kL_X5_buildFor, kI_X5, kC_X5_buildFor, ⟨by decide +kernel, by decide +kernel, by decide +kernel⟩, by decide⟩
theorem lk_X5_158 : LkV RX5 158 5 mX5_isAsked 2 := ⟨⟨TX5, 18, rfl⟩, tG_of 936 (by decide +kernel) (by decide +kernel), kN_X5_isAsked, kL_X5_isAsked, kI_X5, kC_X5_isAsked, ⟨by decide +kernel, by decide +kernel, by decide +kernel⟩, by decide⟩
theorem lk_L_88 : LkV RL 88 5 mX5_kindFor 2 := ⟨⟨TX5, 18, rfl⟩, tG_of 940 (by decide +kernel) (by decide +kernel), kN_X5_kindFor, kL_X5_kindFor, kI_X5, kC_X5_kindFor, ⟨by decide +kernel, by decide +kernel, by decide +kernel⟩, by decide⟩
theorem lk_L_92 : LkV RL 92 5 mX5_refuse 3 := ⟨⟨TX5, 18, rfl⟩, tG_of 944 (by decide +kernel) (by decide +kernel), kN_X5_refuse, kL_X5_refuse, kI_X5, kC_X5_refuse, ⟨by decide +kernel, by decide +kernel, by decide +kernel⟩, by decide⟩
theorem lk_X5_162 : LkS RX5 162 mX5_many 1 := ⟨tG_of 948 (by decide +kernel) (by decide +kernel), kS_X5_many, kI_X5, kC_X5_many, ⟨by decide +kernel, by decide +kernel, by decide +kernel⟩, by decide⟩
theorem lk_L_96 : LkV RL 96 5 mX5_swapFor 1 := ⟨⟨TX5, 18, rfl⟩, tG_of 951 (by decide +kernel) (by decide +kernel), kN_X5_swapFor, kL_X5_swapFor, kI_X5, kC_X5_swapFor, ⟨by decide +kernel, by decide +kernel, by decide +kernel⟩, by decide⟩
theorem lk_L_100 : LkV RL 100 5 mX5_fits 2 := ⟨⟨TX5, 18, rfl⟩, tG_of 955 (by decide +kernel) (by decide +kernel), kN_X5_fits, kL_X5_fits, kI_X5, kC_X5_fits, ⟨by decide +kernel, by decide +kernel, by decide +kernel⟩, by decide⟩
theorem lk_X5_178 : LkV RX5 178 5 mX5_wantsFor 2 := ⟨⟨TX5, 18, rfl⟩, tG_of 959 (by decide +kernel) (by decide +kernel), kN_X5_wantsFor, kL_X5_wantsFor, kI_X5, kC_X5_wantsFor, ⟨by decide +kernel, by decide +kernel, by decide +kernel⟩, by decide⟩
theorem lk_X5_175 : LkV RX5 175 5 mX5_wants 1 := ⟨⟨TX5, 18, rfl⟩, tG_of 963 (by decide +kernel) (by decide +kernel), kN_X5_wants, kL_X5_wants, kI_X5, kC_X5_wants, ⟨by decide +kernel, by decide +kernel, by decide +kernel⟩, by decide⟩
theorem lk_X5_270 : LkS RX5 270 mX5_isSheet 1 := ⟨tG_of 967 (by decide +kernel) (by decide +kernel), kS_X5_isSheet, kI_X5, kC_X5_isSheet, ⟨by decide +kernel, by decide +kernel, by decide +kernel⟩, by decide⟩
theorem lk_X5_181 : LkV RX5 181 5 mX5_findsFits 2 := ⟨⟨TX5, 18, rfl⟩, tG_of 971 (by decide +kernel) (by decide +kernel), kN_X5_findsFits, kL_X5_findsFits, kI_X5, kC_X5_findsFits, ⟨by decide +kernel, by decide +kernel, by decide +kernel⟩, by decide⟩
theorem lk_X5_169 : LkV RX5 169 5 mX5_isTold 2 := ⟨⟨TX5, 18, rfl⟩, tG_of 975 (by decide +kernel) (by decide +kernel), kN_X5_isTold, kL_X5_isTold, kI_X5, kC_X5_isTold, ⟨by decide +kernel, by decide +kernel, by decide +kernel⟩, by decide⟩
theorem lk_L_104 : LkV RL 104 5 mX5_weighed 2 := ⟨⟨TX5, 18, rfl⟩, tG_of 979 (by decide +kernel) (by decide +kernel), kN_X5_weighed, kL_X5_weighed, kI_X5, kC_X5_weighed, ⟨by decide +kernel, by decide +kernel, by decide +kernel⟩, by decide⟩
theorem lk_L_108 : LkV RL 108 5 mX5_kinds 2 := ⟨⟨TX5, 18, rfl⟩, tG_of 983 (by decide +kernel) (by decide +kernel), kN_X5_kinds, kL_X5_kinds, kI_X5, kC_X5_kinds, ⟨by decide +kernel, by decide +kernel, by decide +kernel⟩, by decide⟩
theorem lk_L_112 : LkV RL 112 5 mX5_gossip 1 := ⟨⟨TX5, 18, rfl⟩, tG_of 987 (by decide +kernel) (by decide +kernel), kN_X5_gossip, kL_X5_gossip, kI_X5, kC_X5_gossip, ⟨by decide +kernel, by decide +kernel, by decide +kernel⟩, by decide⟩
theorem lk_X5_185 : LkV RX5 185 5 mX5_draw 0 := ⟨⟨TX5, 18, rfl⟩, tG_of 991 (by decide +kernel) (by decide +kernel), kN_X5_draw, kL_X5_draw, kI_X5, kC_X5_draw, ⟨by decide +kernel, by decide +kernel, by decide +kernel⟩, by decide⟩
theorem lk_L_117 : LkV RL 117 5 mX5_odds 2 := ⟨⟨TX5, 18, rfl⟩, tG_of 996 (by decide +kernel) (by decide +kernel), kN_X5_odds, kL_X5_odds, kI_X5, kC_X5_odds, ⟨by decide +kernel, by decide +kernel, by decide +kernel⟩, by decide⟩
theorem lk_L_121 : LkV RL 121 5 mX5_seed 1 := ⟨⟨TX5, 18, rfl⟩, tG_of 1002 (by decide +kernel) (by decide +kernel), kN_X5_seed, kL_X5_seed, kI_X5, kC_X5_seed, ⟨by decide +kernel, by decide +kernel, by decide +kernel⟩, by decide⟩
theorem lk_L_125 : LkV RL 125 5 mX5_feed 2 := ⟨⟨TX5, 18, rfl⟩, tG_of 1006 (by decide +kernel) (by decide +kernel), kN_X5_feed, kL_X5_feed, kI_X5, kC_X5_feed, ⟨by decide +kernel, by decide +kernel, by decide +kernel⟩, by decide⟩
theorem lk_L_129 : LkV RL 129 5 mX5_wipe 0 := ⟨⟨TX5, 18, rfl⟩, tG_of 1010 (by decide +kernel) (by decide +kernel), kN_X5_wipe, kL_X5_wipe, kI_X5, kC_X5_wipe, ⟨by decide +kernel, by decide +kernel, by decide +kernel⟩, by decide⟩
theorem lk_L_133 : LkV RL 133 5 mX5_text 0 := ⟨⟨TX5, 18, rfl⟩, tG_of 1014 (by decide +kernel) (by decide +kernel), kN_X5_text, kL_X5_text, kI_X5, kC_X5_text, ⟨by decide +kernel, by decide +kernel, by decide +kernel⟩, by decide⟩
theorem lk_X5_241 : LkV RX5 241 5 mX5_nextToken 0 := ⟨⟨TX5, 18, rfl⟩, tG_of 1018 (by decide +kernel) (by decide +kernel), kN_X5_nextToken, kL_X5_nextToken, kI_X5, kC_X5_nextToken, ⟨by decide +kernel, by decide +kernel, by decide +kernel⟩, by decide⟩
theorem lk_X5_201 : LkV RX5 201 5 mX5_byteAt 1 := ⟨⟨TX5, 18, rfl⟩, tG_of 1022 (by decide +kernel) (by decide +kernel), kN_X5_byteAt, kL_X5_byteAt, kI_X5, kC_X5_byteAt, ⟨by decide +kernel, by decide +kernel, by decide +kernel⟩, by decide⟩
theorem lk_X5_204 : LkS RX5 204 mX5_isLetter 1 := ⟨tG_of 1026 (by decide +kernel) (by decide +kernel), kS_X5_isLetter, kI_X5, kC_X5_isLetter, ⟨by decide +kernel, by decide +kernel, by decide +kernel⟩, by decide⟩
theorem lk_X5_207 : LkS RX5 207 mX5_isDigit 1 := ⟨tG_of 1029 (by decide +kernel) (by decide +kernel), kS_X5_isDigit, kI_X5, kC_X5_isDigit, ⟨by decide +kernel, by decide +kernel, by decide +kernel⟩, by decide⟩
theorem lk_X5_260 : LkV RX5 260 5 mX5_itemHere 0 := ⟨⟨TX5, 18, rfl⟩, tG_of 1032 (by decide +kernel) (by decide +kernel), kN_X5_itemHere, kL_X5_itemHere, kI_X5, kC_X5_itemHere, ⟨by decide +kernel, by decide +kernel, by decide +kernel⟩, by decide⟩
theorem lk_X5_251 : LkV RX5 251 5 mX5_kindHere 0 := ⟨⟨TX5, 18, rfl⟩, tG_of 1036 (by decide +kernel) (by decide +kernel), kN_X5_kindHere, kL_X5_kindHere, kI_X5, kC_X5_kindHere, ⟨by decide +kernel, by decide +kernel, by decide +kernel⟩, by decide⟩
theorem lk_X5_230 : LkV RX5 230 5 mX5_isSix 6 := ⟨⟨TX5, 18, rfl⟩, tG_of 1040 (by decide +kernel) (by decide +kernel), kN_X5_isSix, kL_X5_isSix, kI_X5, kC_X5_isSix, ⟨by decide +kernel, by decide +kernel, by decide +kernel⟩, by decide⟩
theorem lk_X5_219 : LkV RX5 219 5 mX5_isWord 1 := ⟨⟨TX5, 18, rfl⟩, tG_of 1044 (by decide +kernel) (by decide +kernel), kN_X5_isWord, kL_X5_isWord, kI_X5, kC_X5_isWord, ⟨by decide +kernel, by decide +kernel, by decide +kernel⟩, by decide⟩
theorem lk_X5_222 : LkV RX5 222 5 mX5_has3 4 := ⟨⟨TX5, 18, rfl⟩, tG_of 1048 (by decide +kernel) (by decide +kernel), kN_X5_has3, kL_X5_has3, kI_X5, kC_X5_has3, ⟨by decide +kernel, by decide +kernel, by decide +kernel⟩, by decide⟩
theorem lk_X5_234 : LkV RX5 234 5 mX5_isFour 4 := ⟨⟨TX5, 18, rfl⟩, tG_of 1052 (by decide +kernel) (by decide +kernel), kN_X5_isFour, kL_X5_isFour, kI_X5, kC_X5_isFour, ⟨by decide +kernel, by decide +kernel, by decide +kernel⟩, by decide⟩
theorem lk_X5_237 : LkV RX5 237 5 mX5_isFive 5 := ⟨⟨TX5, 18, rfl⟩, tG_of 1056 (by decide +kernel) (by decide +kernel), kN_X5_isFive, kL_X5_isFive, kI_X5, kC_X5_isFive, ⟨by decide +kernel, by decide +kernel, by decide +kernel⟩, by decide⟩
theorem lk_X5_254 : LkV RX5 254 5 mX5_personHere 1 := ⟨⟨TX5, 18, rfl⟩, tG_of 1060 (by decide +kernel) (by decide +kernel), kN_X5_personHere, kL_X5_personHere, kI_X5, kC_X5_personHere, ⟨by decide +kernel, by decide +kernel, by decide +kernel⟩, by decide⟩
theorem lk_X5_226 : LkV RX5 226 5 mX5_fails 0 := ⟨⟨TX5, 18, rfl⟩, tG_of 1064 (by decide +kernel) (by decide +kernel), kN_X5_fails, kL_X5_fails, kI_X5, kC_X5_fails, ⟨by decide +kernel, by decide +kernel, by decide +kernel⟩, by decide⟩
theorem lk_X5_247 : LkV RX5 247 5 mX5_perhaps 3 := ⟨⟨TX5, 18, rfl⟩, tG_of 1068 (by decide +kernel) (by decide +kernel), kN_X5_perhaps, kL_X5_perhaps, kI_X5, kC_X5_perhaps, ⟨by decide +kernel, by decide +kernel, by decide +kernel⟩, by decide⟩
theorem lk_X5_244 : LkV RX5 244 5 mX5_isNumber 2 := ⟨⟨TX5, 18, rfl⟩, tG_of 1072 (by decide +kernel) (by decide +kernel), kN_X5_isNumber, kL_X5_isNumber, kI_X5, kC_X5_isNumber, ⟨by decide +kernel, by decide +kernel, by decide +kernel⟩, by decide⟩
theorem lk_X5_257 : LkV RX5 257 5 mX5_saidHere 0 := ⟨⟨TX5, 18, rfl⟩, tG_of 1076 (by decide +kernel) (by decide +kernel), kN_X5_saidHere, kL_X5_saidHere, kI_X5, kC_X5_saidHere, ⟨by decide +kernel, by decide +kernel, by decide +kernel⟩, by decide⟩
theorem lk_L_137 : LkV RL 137 5 mX5_hold 2 := ⟨⟨TX5, 18, rfl⟩, tG_of 1080 (by decide +kernel) (by decide +kernel), kN_X5_hold, kL_X5_hold, kI_X5, kC_X5_hold, ⟨by decide +kernel, by decide +kernel, by decide +kernel⟩, by decide⟩
theorem lk_L_141 : LkV RL 141 5 mX5_as 2 := ⟨⟨TX5, 18, rfl⟩, tG_of 1085 (by decide +kernel) (by decide +kernel), kN_X5_as, kL_X5_as, kI_X5, kC_X5_as, ⟨by decide +kernel, by decide +kernel, by decide +kernel⟩, by decide⟩
theorem lk_X5_266 : LkS RX5 266 mX5_isUnder 2 := ⟨tG_of 1089 (by decide +kernel) (by decide +kernel), kS_X5_isUnder, kI_X5, kC_X5_isUnder, ⟨by decide +kernel, by decide +kernel, by decide +kernel⟩, by decide⟩
theorem lk_L_145 : LkV RL 145 5 mX5_sheet 3 := ⟨⟨TX5, 18, rfl⟩, tG_of 1093 (by decide +kernel) (by decide +kernel), kN_X5_sheet, kL_X5_sheet, kI_X5, kC_X5_sheet, ⟨by decide +kernel, by decide +kernel, by decide +kernel⟩, by decide⟩
theorem lk_L_149 : LkV RL 149 5 mX5_write 3 := ⟨⟨TX5, 18, rfl⟩, tG_of 1098 (by decide +kernel) (by decide +kernel), kN_X5_write, kL_X5_write, kI_X5, kC_X5_write, ⟨by decide +kernel, by decide +kernel, by decide +kernel⟩, by decide⟩
theorem lk_L_154 : LkV RL 154 5 mX5_copy 5 := ⟨⟨TX5, 18, rfl⟩, tG_of 1102 (by decide +kernel) (by decide +kernel), kN_X5_copy, kL_X5_copy, kI_X5, kC_X5_copy, ⟨by decide +kernel, by decide +kernel, by decide +kernel⟩, by decide⟩
theorem lk_L_158 : LkV RL 158 5 mX5_load 1 := ⟨⟨TX5, 18, rfl⟩, tG_of 1106 (by decide +kernel) (by decide +kernel), kN_X5_load, kL_X5_load, kI_X5, kC_X5_load, ⟨by decide +kernel, by decide +kernel, by decide +kernel⟩, by decide⟩
theorem lk_X5_274 : LkS RX5 274 mX5_isSaying 1 := ⟨tG_of 1110 (by decide +kernel) (by decide +kernel), kS_X5_isSaying, kI_X5, kC_X5_isSaying, ⟨by decide +kernel, by decide +kernel, by decide +kernel⟩, by decide⟩
theorem lk_L_162 : LkV RL 162 5 mX5_judge 1 := ⟨⟨TX5, 18, rfl⟩, tG_of 1114 (by decide +kernel) (by decide +kernel), kN_X5_judge, kL_X5_judge, kI_X5, kC_X5_judge, ⟨by decide +kernel, by decide +kernel, by decide +kernel⟩, by decide⟩
theorem lk_L_166 : LkV RL 166 5 mX5_image 0 := ⟨⟨TX5, 18, rfl⟩, tG_of 1118 (by decide +kernel) (by decide +kernel), kN_X5_image, kL_X5_image, kI_X5, kC_X5_image, ⟨by decide +kernel, by decide +kernel, by decide +kernel⟩, by decide⟩
theorem lk_L_170 : LkV RL 170 5 mX5_undo 0 := ⟨⟨TX5, 18, rfl⟩, tG_of 1122 (by decide +kernel) (by decide +kernel), kN_X5_undo, kL_X5_undo, kI_X5, kC_X5_undo, ⟨by decide +kernel, by decide +kernel, by decide +kernel⟩, by decide⟩
theorem lk_L_174 : LkV RL 174 5 mX5_tear 0 := ⟨⟨TX5, 18, rfl⟩, tG_of 1126 (by decide +kernel) (by decide +kernel), kN_X5_tear, kL_X5_tear, kI_X5, kC_X5_tear, ⟨by decide +kernel, by decide +kernel, by decide +kernel⟩, by decide⟩
theorem lk_L_178 : LkV RL 178 5 mX5_count 1 := ⟨⟨TX5, 18, rfl⟩, tG_of 1130 (by decide +kernel) (by decide +kernel), kN_X5_count, kL_X5_count, kI_X5, kC_X5_count, ⟨by decide +kernel, by decide +kernel, by decide +kernel⟩, by decide⟩
theorem lk_L_182 : LkV RL 182 5 mX5_status 1 := ⟨⟨TX5, 18, rfl⟩, tG_of 1134 (by decide +kernel) (by decide +kernel), kN_X5_status, kL_X5_status, kI_X5, kC_X5_status, ⟨by decide +kernel, by decide +kernel, by decide +kernel⟩, by decide⟩
theorem lk_X0_88 : LkN RX0 88 mX4_isIn 2 := ⟨fun U h => h.1, kS_X4_isIn, kI_X4, kC_X4_isIn, ⟨by decide +kernel, by decide +kernel, by decide +kernel⟩, by decide⟩
theorem lk_X0_73 : LkN RX0 73 mX4_saying 2 := ⟨fun U h => h.2.1, kS_X4_saying, kI_X4, kC_X4_saying, ⟨by decide +kernel, by decide +kernel, by decide +kernel⟩, by decide⟩
theorem lk_X2_61 : LkN RX2 61 mX4_saying 2 := ⟨fun U h => h.2.2.1, kS_X4_saying, kI_X4, kC_X4_saying, ⟨by decide +kernel, by decide +kernel, by decide +kernel⟩, by decide⟩
theorem lk_X2_92 : LkN RX2 92 mX4_mostOf 1 := ⟨fun U h => h.2.2.2.1, kS_X4_mostOf, kI_X4, kC_X4_mostOf, ⟨by decide +kernel, by decide +kernel, by decide +kernel⟩, by decide⟩
theorem lk_X1_40 : LkN RX1 40 mX4_within 3 := ⟨fun U h => h.2.2.2.2.1, kS_X4_within, kI_X4, kC_X4_within, ⟨by decide +kernel, by decide +kernel, by decide +kernel⟩, by decide⟩
theorem ct_X4_44 : Cond.constant RX4 44 (-1000001 : Int32) ∈ tG := tG_of 169 (by decide +kernel) (by decide +kernel)
theorem ct_X4_60 : Cond.constant RX4 60 (-1000002 : Int32) ∈ tG := tG_of 185 (by decide +kernel) (by decide +kernel)
theorem ct_X4_107 : Cond.constant RX4 107 (-1000004 : Int32) ∈ tG := tG_of 261 (by decide +kernel) (by decide +kernel)
theorem ct_X4_108 : Cond.constant RX4 108 (99999 : Int32) ∈ tG := tG_of 266 (by decide +kernel) (by decide +kernel)
theorem ct_X4_109 : Cond.constant RX4 109 (-1000005 : Int32) ∈ tG := tG_of 267 (by decide +kernel) (by decide +kernel)
theorem ct_X0_99 : Cond.constant RX0 99 (99999 : Int32) ∈ tG := tG_of 304 (by decide +kernel) (by decide +kernel)
theorem ct_X4_141 : Cond.constant RX4 141 (79993 : Int32) ∈ tG := tG_of 368 (by decide +kernel) (by decide +kernel)
theorem ct_J6_265 : Cond.constant RJ6 265 (1431655765 : Int32) ∈ tG := tG_of 404 (by decide +kernel) (by decide +kernel)
theorem ct_J6_266 : Cond.constant RJ6 266 (858993459 : Int32) ∈ tG := tG_of 405 (by decide +kernel) (by decide +kernel)
theorem ct_J6_267 : Cond.constant RJ6 267 (252645135 : Int32) ∈ tG := tG_of 406 (by decide +kernel) (by decide +kernel)
theorem ct_X4_177 : Cond.constant RX4 177 (100000 : Int32) ∈ tG := tG_of 416 (by decide +kernel) (by decide +kernel)
theorem ct_X4_222 : Cond.constant RX4 222 (-1000006 : Int32) ∈ tG := tG_of 437 (by decide +kernel) (by decide +kernel)
theorem ct_X0_77 : Cond.constant RX0 77 (1103515245 : Int32) ∈ tG := tG_of 462 (by decide +kernel) (by decide +kernel)
theorem ct_X4_226 : Cond.constant RX4 226 (-1000003 : Int32) ∈ tG := tG_of 622 (by decide +kernel) (by decide +kernel)
theorem ct_X4_227 : Cond.constant RX4 227 (-1000007 : Int32) ∈ tG := tG_of 627 (by decide +kernel) (by decide +kernel)
theorem ct_X5_37 : Cond.constant RX5 37 (-1000001 : Int32) ∈ tG := tG_of 761 (by decide +kernel) (by decide +kernel)
theorem ct_X5_68 : Cond.constant RX5 68 (-1000002 : Int32) ∈ tG := tG_of 776 (by decide +kernel) (by decide +kernel)
theorem ct_X5_38 : Cond.constant RX5 38 (-1000004 : Int32) ∈ tG := tG_of 850 (by decide +kernel) (by decide +kernel)
theorem ct_X5_118 : Cond.constant RX5 118 (99999 : Int32) ∈ tG := tG_of 856 (by decide +kernel) (by decide +kernel)
theorem ct_X5_128 : Cond.constant RX5 128 (-1000005 : Int32) ∈ tG := tG_of 857 (by decide +kernel) (by decide +kernel)
theorem ct_X5_265 : Cond.constant RX5 265 (-1000006 : Int32) ∈ tG := tG_of 970 (by decide +kernel) (by decide +kernel)
theorem ct_X5_184 : Cond.constant RX5 184 (1103515245 : Int32) ∈ tG := tG_of 995 (by decide +kernel) (by decide +kernel)
theorem ct_X5_269 : Cond.constant RX5 269 (-1000003 : Int32) ∈ tG := tG_of 1092 (by decide +kernel) (by decide +kernel)
theorem ct_X5_273 : Cond.constant RX5 273 (-1000007 : Int32) ∈ tG := tG_of 1097 (by decide +kernel) (by decide +kernel)
theorem ct_X5_53 : Cond.constantLong RX5 53 (7 : Int64) ∈ tG := tG_of 752 (by decide +kernel) (by decide +kernel)
theorem ct_X5_55 : Cond.constantLong RX5 55 (20 : Int64) ∈ tG := tG_of 756 (by decide +kernel) (by decide +kernel)
theorem ct_X5_64 : Cond.constantLong RX5 64 (6 : Int64) ∈ tG := tG_of 774 (by decide +kernel) (by decide +kernel)
theorem ct_X5_66 : Cond.constantLong RX5 66 (99 : Int64) ∈ tG := tG_of 775 (by decide +kernel) (by decide +kernel)
theorem ct_X5_97 : Cond.constantLong RX5 97 (4 : Int64) ∈ tG := tG_of 822 (by decide +kernel) (by decide +kernel)
theorem ct_X5_126 : Cond.constantLong RX5 126 (60 : Int64) ∈ tG := tG_of 855 (by decide +kernel) (by decide +kernel)
theorem ct_X5_143 : Cond.constantLong RX5 143 (100 : Int64) ∈ tG := tG_of 890 (by decide +kernel) (by decide +kernel)
theorem ct_X5_148 : Cond.constantLong RX5 148 (9999 : Int64) ∈ tG := tG_of 910 (by decide +kernel) (by decide +kernel)
theorem ct_X5_150 : Cond.constantLong RX5 150 (40 : Int64) ∈ tG := tG_of 919 (by decide +kernel) (by decide +kernel)
theorem ct_X5_188 : Cond.constantLong RX5 188 (8 : Int64) ∈ tG := tG_of 1000 (by decide +kernel) (by decide +kernel)
theorem ct_X5_190 : Cond.constantLong RX5 190 (2 : Int64) ∈ tG := tG_of 1001 (by decide +kernel) (by decide +kernel)
theorem ct_X5_263 : Cond.constantLong RX5 263 (9 : Int64) ∈ tG := tG_of 1084 (by decide +kernel) (by decide +kernel)
theorem ct_X5_43 : Cond.constantLong RX5 43 (720 : Int64) ∈ tG := tG_of 1113 (by decide +kernel) (by decide +kernel)
theorem ct_X5_281 : Cond.constantLong RX5 281 (-1 : Int64) ∈ tG := tG_of 1138 (by decide +kernel) (by decide +kernel)
end
section
/-! what the functions are made of -/
def chk {α : Type} (i : Int32) (n : Nat) (o : Option α) : Option α := if (0 ≤ i.toInt ∧ i.toInt < (n : Int)) then o else none
def chkb {α : Type} (v : Int32) (o : Option α) : Option α := if (v = 0 ∨ v = 1) then o else none
def lt {α : Type} (s : Sg) (f : Sg → Option α) : Option α := f s
def ob0 {α β : Type} (o : Option β) (f : β → Option α) : Option α := match o with
  | some x => f x
  | none => none
def ob1 {α : Type} (o : Option Sg) (f : Sg → Option α) : Option α := match o with
  | some x => f x
  | none => none
def ob2 {α β : Type} (o : Option (β × Sg)) (f : β → Sg → Option α) : Option α := match o with
  | some x => f x.1 x.2
  | none => none
def cp {α : Type} (sp dp n : Int32) (n0 n1 : Nat) (s : Sg) (f : Sg → Option α) : Option α := if (0 ≤ sp.toInt ∧ 0 ≤ dp.toInt ∧ 0 ≤ n.toInt ∧ sp.toInt + n.toInt ≤ (n0 : Int) ∧ dp.toInt + n.toInt ≤ (n1 : Int)) then f s else none
def FU : Nat := 1000
theorem chk_some {α : Type} {i : Int32} {n : Nat} {o : Option α} {y : α} (h : chk i n o = some y) : vp_in i n ∧ o = some y := by
  unfold chk at h
  split at h
  · rename_i c; exact ⟨vp_in_iff.mpr c, h⟩
  · cases h
theorem chkb_some {α : Type} {v : Int32} {o : Option α} {y : α} (h : chkb v o = some y) : (v = 0 ∨ v = 1) ∧ o = some y := by
  unfold chkb at h
  split at h
  · rename_i c; exact ⟨c, h⟩
  · cases h
theorem lt_some {α : Type} {s : Sg} {f : Sg → Option α} {y : α} (h : lt s f = some y) : ∃ s1, s1 = s ∧ f s1 = some y := ⟨s, rfl, h⟩
theorem ob0_some {α β : Type} {o : Option β} {f : β → Option α} {y : α} (h : ob0 o f = some y) : ∃ x, o = some x ∧ f x = some y := by
  cases o with
  | none => cases h
  | some x => exact ⟨x, rfl, h⟩
theorem ob1_some {α : Type} {o : Option Sg} {f : Sg → Option α} {y : α} (h : ob1 o f = some y) : ∃ x, o = some x ∧ f x = some y := by
  cases o with
  | none => cases h
  | some x => exact ⟨x, rfl, h⟩
theorem ob2_some {α β : Type} {o : Option (β × Sg)} {f : β → Sg → Option α} {y : α} (h : ob2 o f = some y) : ∃ x s, o = some (x, s) ∧ f x s = some y := by
  cases o with
  | none => cases h
  | some x => exact ⟨x.1, x.2, rfl, h⟩
theorem cp_some {α : Type} {sp dp n : Int32} {n0 n1 : Nat} {s : Sg} {f : Sg → Option α} {y : α} (h : cp sp dp n n0 n1 s f = some y) : cpyOk sp dp n n0 n1 ∧ ∃ s1, s1 = s ∧ f s1 = some y := by
  unfold cp at h
  split at h
  · rename_i c
    obtain ⟨c1, c2, c3, c4, c5⟩ := c
    have z : (0 : Int32).toInt = 0 := by decide
    refine ⟨⟨?_, ?_, ?_, ?_, ?_⟩, s, rfl, h⟩
    · rw [Int32.lt_iff_toInt_lt, z]; omega
    · rw [Int32.lt_iff_toInt_lt, z]; omega
    · rw [Int32.lt_iff_toInt_lt, z]; omega
    · show sp.toInt.toNat + n.toInt.toNat ≤ n0; omega
    · show dp.toInt.toNat + n.toInt.toNat ≤ n1; omega
  · cases h
theorem ite_some {α : Type} {c : Prop} [Decidable c] {a b : Option α} {y : α} (h : (if c then a else b) = some y) : (c ∧ a = some y) ∨ (¬ c ∧ b = some y) := by
  split at h
  · rename_i hc; exact Or.inl ⟨hc, h⟩
  · rename_i hc; exact Or.inr ⟨hc, h⟩
theorem rt0 {v r : Int32} (h : some v = some r) : (some (Value.int r)) = some (Value.int v) := by cases h; rfl
theorem rt1 {v r : Int32} {a b : Sg} (h : some (v, a) = some (r, b)) : (some (Value.int r)) = some (Value.int v) := by cases h; rfl
theorem rt2 {v r : Int32} {a b : Sg} (h : some (v, a) = some (r, b)) : b = a := by cases h; rfl
theorem rl0 {v r : Int64} (h : some v = some r) : (some (Value.long r)) = some (Value.long v) := by cases h; rfl
theorem rl1 {v r : Int64} {a b : Sg} (h : some (v, a) = some (r, b)) : (some (Value.long r)) = some (Value.long v) := by cases h; rfl
theorem rl2 {v r : Int64} {a b : Sg} (h : some (v, a) = some (r, b)) : b = a := by cases h; rfl
theorem rtV {a b : Sg} (h : some a = some b) : b = a := by cases h; rfl
theorem vpc {i : Int32} {n : Nat} (h : (0 ≤ i.toInt ∧ i.toInt < (n : Int))) : vp_in i n := vp_in_iff.mpr h
theorem gw_sub {E : Ev} {fr : Fr} {nL pc : Nat} {lv lv' : List (Nat × Value)} {st : List Value} {σ : Sg} (is : List Nat) (h : lv_pick lv is = lv') (k : GW E fr nL pc lv' st σ) : GW E fr nL pc lv st σ := fun H locs ls hP hS hl => k H locs ls hP hS (lv_sub hl is h)
/-! the cells' kinds -/
def Cty (b : Nat) : Prop := b = 1 ∨ b = 13 ∨ b = 25
def Psn (q : Nat) : Prop := ∃ b j, Cty b ∧ j < 8 ∧ q = b + 4 + j
def Sht (q : Nat) : Prop := q = 40 ∨ q = 41 ∨ q = 42 ∨ q = 43
theorem cty1 : Cty 1 := Or.inl rfl
theorem cty13 : Cty 13 := Or.inr (Or.inl rfl)
theorem cty25 : Cty 25 := Or.inr (Or.inr rfl)
theorem atC {b : Nat} (h : Cty b) : At b (.inl (0, [some (b + 1), some (b + 2), some (b + 3), none, none, none, none, none])) := by rcases h with rfl | rfl | rfl <;> exact ⟨by decide, rfl⟩
theorem atCl {b : Nat} (h : Cty b) : At (b + 1) (.inr (6, none)) := by rcases h with rfl | rfl | rfl <;> exact ⟨by decide, rfl⟩
theorem atCp {b : Nat} (h : Cty b) : At (b + 2) (.inr (8, some (b + 4))) := by rcases h with rfl | rfl | rfl <;> exact ⟨by decide, rfl⟩
theorem atCs {b : Nat} (h : Cty b) : At (b + 3) (.inr (10, none)) := by rcases h with rfl | rfl | rfl <;> exact ⟨by decide, rfl⟩
theorem atP {q : Nat} (h : Psn q) : At q (.inl (1, [none, none, none, none, none])) := by
  obtain ⟨b, j, hb, hj, rfl⟩ := h
  have hj8 : j = 0 ∨ j = 1 ∨ j = 2 ∨ j = 3 ∨ j = 4 ∨ j = 5 ∨ j = 6 ∨ j = 7 := by omega
  rcases hb with rfl | rfl | rfl <;> rcases hj8 with rfl | rfl | rfl | rfl | rfl | rfl | rfl | rfl <;> exact ⟨by decide, rfl⟩
theorem atS {q : Nat} (h : Sht q) : At q (.inl (3, [some (q + 4), none, none])) := by rcases h with rfl | rfl | rfl | rfl <;> exact ⟨by decide, rfl⟩
theorem atSn {q : Nat} (h : Sht q) : At (q + 4) (.inr (40, none)) := by rcases h with rfl | rfl | rfl | rfl <;> exact ⟨by decide, rfl⟩
theorem psn_of {b : Nat} {i : Int32} (hb : Cty b) (hi : vp_in i 8) : Psn (b + 4 + i.toNatClampNeg) := ⟨b, _, hb, Nat.not_le.mp fun q => hi (Or.inr q), rfl⟩
theorem sht_of {i : Int32} (hi : vp_in i 4) : Sht (40 + i.toNatClampNeg) := by
  have h : i.toNatClampNeg < 4 := Nat.not_le.mp fun q => hi (Or.inr q)
  unfold Sht
  omega
theorem at0 : At 0 (.inl (4, [some 1, some 13, some 25, some 37, some 39, some 48, none])) := ⟨by decide, rfl⟩
theorem at37 : At 37 (.inl (2, [some 38, none, none, none, none, none])) := ⟨by decide, rfl⟩
theorem at38 : At 38 (.inr (120, none)) := ⟨by decide, rfl⟩
theorem at39 : At 39 (.inr (4, some 40)) := ⟨by decide, rfl⟩
theorem at48 : At 48 (.inr (7, none)) := ⟨by decide, rfl⟩
theorem at49 : At 49 (.inl (5, [some 50, some 51, some 52, some 53, none, some 54, some 55, none, some 56, some 57, some 58, none, none, none, none, none, none, none])) := ⟨by decide, rfl⟩
theorem at50 : At 50 (.inr (60, none)) := ⟨by decide, rfl⟩
theorem at51 : At 51 (.inr (60, none)) := ⟨by decide, rfl⟩
theorem at52 : At 52 (.inr (60, none)) := ⟨by decide, rfl⟩
theorem at53 : At 53 (.inr (60, none)) := ⟨by decide, rfl⟩
theorem at54 : At 54 (.inr (8, none)) := ⟨by decide, rfl⟩
theorem at55 : At 55 (.inr (120, none)) := ⟨by decide, rfl⟩
theorem at56 : At 56 (.inr (4, none)) := ⟨by decide, rfl⟩
theorem at57 : At 57 (.inr (4, none)) := ⟨by decide, rfl⟩
theorem at58 : At 58 (.inr (160, none)) := ⟨by decide, rfl⟩
theorem cb_6 : (Int8.ofInt (6)).toInt32 = (6 : Int32) := by decide
theorem cb_7 : (Int8.ofInt (7)).toInt32 = (7 : Int32) := by decide
theorem cb_8 : (Int8.ofInt (8)).toInt32 = (8 : Int32) := by decide
theorem cb_9 : (Int8.ofInt (9)).toInt32 = (9 : Int32) := by decide
theorem cb_10 : (Int8.ofInt (10)).toInt32 = (10 : Int32) := by decide
theorem cb_15 : (Int8.ofInt (15)).toInt32 = (15 : Int32) := by decide
theorem cb_16 : (Int8.ofInt (16)).toInt32 = (16 : Int32) := by decide
theorem cb_20 : (Int8.ofInt (20)).toInt32 = (20 : Int32) := by decide
theorem cb_21 : (Int8.ofInt (21)).toInt32 = (21 : Int32) := by decide
theorem cb_32 : (Int8.ofInt (32)).toInt32 = (32 : Int32) := by decide
theorem cb_40 : (Int8.ofInt (40)).toInt32 = (40 : Int32) := by decide
theorem cb_48 : (Int8.ofInt (48)).toInt32 = (48 : Int32) := by decide
theorem cb_50 : (Int8.ofInt (50)).toInt32 = (50 : Int32) := by decide
theorem cb_57 : (Int8.ofInt (57)).toInt32 = (57 : Int32) := by decide
theorem cb_59 : (Int8.ofInt (59)).toInt32 = (59 : Int32) := by decide
theorem cb_60 : (Int8.ofInt (60)).toInt32 = (60 : Int32) := by decide
theorem cb_63 : (Int8.ofInt (63)).toInt32 = (63 : Int32) := by decide
theorem cb_97 : (Int8.ofInt (97)).toInt32 = (97 : Int32) := by decide
theorem cb_98 : (Int8.ofInt (98)).toInt32 = (98 : Int32) := by decide
theorem cb_99 : (Int8.ofInt (99)).toInt32 = (99 : Int32) := by decide
theorem cb_100 : (Int8.ofInt (100)).toInt32 = (100 : Int32) := by decide
theorem cb_101 : (Int8.ofInt (101)).toInt32 = (101 : Int32) := by decide
theorem cb_103 : (Int8.ofInt (103)).toInt32 = (103 : Int32) := by decide
theorem cb_104 : (Int8.ofInt (104)).toInt32 = (104 : Int32) := by decide
theorem cb_105 : (Int8.ofInt (105)).toInt32 = (105 : Int32) := by decide
theorem cb_107 : (Int8.ofInt (107)).toInt32 = (107 : Int32) := by decide
theorem cb_108 : (Int8.ofInt (108)).toInt32 = (108 : Int32) := by decide
theorem cb_109 : (Int8.ofInt (109)).toInt32 = (109 : Int32) := by decide
theorem cb_110 : (Int8.ofInt (110)).toInt32 = (110 : Int32) := by decide
theorem cb_111 : (Int8.ofInt (111)).toInt32 = (111 : Int32) := by decide
theorem cb_112 : (Int8.ofInt (112)).toInt32 = (112 : Int32) := by decide
theorem cb_114 : (Int8.ofInt (114)).toInt32 = (114 : Int32) := by decide
theorem cb_115 : (Int8.ofInt (115)).toInt32 = (115 : Int32) := by decide
theorem cb_116 : (Int8.ofInt (116)).toInt32 = (116 : Int32) := by decide
theorem cb_117 : (Int8.ofInt (117)).toInt32 = (117 : Int32) := by decide
theorem cb_119 : (Int8.ofInt (119)).toInt32 = (119 : Int32) := by decide
theorem cb_120 : (Int8.ofInt (120)).toInt32 = (120 : Int32) := by decide
theorem cb_121 : (Int8.ofInt (121)).toInt32 = (121 : Int32) := by decide
theorem cb_122 : (Int8.ofInt (122)).toInt32 = (122 : Int32) := by decide
theorem ci_m1 : Int32.ofInt (-1) = (-1 : Int32) := by decide
theorem ci_0 : Int32.ofInt (0) = (0 : Int32) := by decide
theorem ci_1 : Int32.ofInt (1) = (1 : Int32) := by decide
theorem ci_2 : Int32.ofInt (2) = (2 : Int32) := by decide
theorem ci_3 : Int32.ofInt (3) = (3 : Int32) := by decide
theorem ci_4 : Int32.ofInt (4) = (4 : Int32) := by decide
theorem ci_5 : Int32.ofInt (5) = (5 : Int32) := by decide
theorem cl_0 : Int64.ofNat ((0 : Fin 2) : Nat) = (0 : Int64) := by decide
theorem cl_1 : Int64.ofNat ((1 : Fin 2) : Nat) = (1 : Int64) := by decide
theorem cn_0 : (0 : Int32).toNatClampNeg = 0 := by decide
theorem cn_1 : (1 : Int32).toNatClampNeg = 1 := by decide
theorem cn_2 : (2 : Int32).toNatClampNeg = 2 := by decide
theorem cn_3 : (3 : Int32).toNatClampNeg = 3 := by decide
theorem cs_200 : (Int16.ofInt (200)).toInt32 = (200 : Int32) := by decide
theorem cs_255 : (Int16.ofInt (255)).toInt32 = (255 : Int32) := by decide
theorem cs_9999 : (Int16.ofInt (9999)).toInt32 = (9999 : Int32) := by decide
theorem cs_10000 : (Int16.ofInt (10000)).toInt32 = (10000 : Int32) := by decide
theorem cs_12345 : (Int16.ofInt (12345)).toInt32 = (12345 : Int32) := by decide
end
section
def f_X1_become (q : Nat) (x1 : Nat) (σ : Sg) : Option (Sg) :=
  lt (up2 σ q 0 (σ x1 0)) fun s1 =>
  lt (up2 s1 q 1 (s1 x1 1)) fun s3 =>
  lt (up2 s3 q 2 (s3 x1 2)) fun s5 =>
  lt (up2 s5 q 3 (s5 x1 3)) fun s7 =>
  lt (up2 s7 q 4 (s7 x1 4)) fun s9 =>
  some s9
theorem k_X1_become (E : Ev) {q : Nat} {x1 : Nat} (hq : Psn q) (hx1 : Psn x1) {σ : Sg} {σ' : Sg} (h : f_X1_become q x1 σ = some σ') : Con E mX1_become 0 [.ref (eA E q), .ref (eA E x1)] σ none σ' := by
  refine con_of (by decide) (by decide) (fun fr cx tg => ?_)
  show GW E fr 2 0 [(0, .ref (eA E q)), (1, .ref (eA E x1))] [] σ
  rw [f_X1_become] at h
  refine gw_aload_n (pc' := 1) cx 0 rfl rfl dX1_become_0 rfl ?_
  refine gw_aload_n (pc' := 2) cx 1 rfl rfl dX1_become_1 rfl ?_
  refine gw_getI (pc' := 5) cx (atP hx1) rfl fl_X1_9 dX1_become_2 rfl ?_
  obtain ⟨s1, e2, h⟩ := lt_some h
  refine gw_put (pc' := 8) cx (atP hq) rfl fp_X1_9 ⟨rfl, rfl⟩ dX1_become_5 rfl e2 ?_
  refine gw_aload_n (pc' := 9) cx 0 rfl rfl dX1_become_8 rfl ?_
  refine gw_aload_n (pc' := 10) cx 1 rfl rfl dX1_become_9 rfl ?_
  refine gw_getI (pc' := 13) cx (atP hx1) rfl fl_X1_15 dX1_become_10 rfl ?_
  obtain ⟨s3, e4, h⟩ := lt_some h
  refine gw_put (pc' := 16) cx (atP hq) rfl fp_X1_15 ⟨rfl, rfl⟩ dX1_become_13 rfl e4 ?_
  refine gw_aload_n (pc' := 17) cx 0 rfl rfl dX1_become_16 rfl ?_
  refine gw_aload_n (pc' := 18) cx 1 rfl rfl dX1_become_17 rfl ?_
  refine gw_getI (pc' := 21) cx (atP hx1) rfl fl_X1_18 dX1_become_18 rfl ?_
  obtain ⟨s5, e6, h⟩ := lt_some h
  refine gw_put (pc' := 24) cx (atP hq) rfl fp_X1_18 ⟨rfl, rfl⟩ dX1_become_21 rfl e6 ?_
  refine gw_aload_n (pc' := 25) cx 0 rfl rfl dX1_become_24 rfl ?_
  refine gw_aload_n (pc' := 26) cx 1 rfl rfl dX1_become_25 rfl ?_
  refine gw_getI (pc' := 29) cx (atP hx1) rfl fl_X1_21 dX1_become_26 rfl ?_
  obtain ⟨s7, e8, h⟩ := lt_some h
  refine gw_put (pc' := 32) cx (atP hq) rfl fp_X1_21 ⟨rfl, rfl⟩ dX1_become_29 rfl e8 ?_
  refine gw_aload_n (pc' := 33) cx 0 rfl rfl dX1_become_32 rfl ?_
  refine gw_aload_n (pc' := 34) cx 1 rfl rfl dX1_become_33 rfl ?_
  refine gw_getI (pc' := 37) cx (atP hx1) rfl fl_X1_24 dX1_become_34 rfl ?_
  obtain ⟨s9, e10, h⟩ := lt_some h
  refine gw_put (pc' := 40) cx (atP hq) rfl fp_X1_24 ⟨rfl, rfl⟩ dX1_become_37 rfl e10 ?_
  exact gw_vret cx tg rfl (rtV h) dX1_become_40
def f_X1_begin (q : Nat) (x1 : Int32) (x2 : Int32) (σ : Sg) : Option (Sg) :=
  lt (up2 σ q 0 x1) fun s1 =>
  lt (up2 s1 q 1 0) fun s3 =>
  lt (up2 s3 q 2 x2) fun s5 =>
  lt (up2 s5 q 3 0) fun s7 =>
  lt (up2 s7 q 4 0) fun s9 =>
  some s9
theorem k_X1_begin (E : Ev) {q : Nat} {x1 : Int32} {x2 : Int32} (hq : Psn q) {σ : Sg} {σ' : Sg} (h : f_X1_begin q x1 x2 σ = some σ') : Con E mX1_begin 0 [.ref (eA E q), .int x1, .int x2] σ none σ' := by
  refine con_of (by decide) (by decide) (fun fr cx tg => ?_)
  show GW E fr 3 0 [(0, .ref (eA E q)), (1, .int x1), (2, .int x2)] [] σ
  rw [f_X1_begin] at h
  refine gw_aload_n (pc' := 1) cx 0 rfl rfl dX1_begin_0 rfl ?_
  refine gw_iload_n (pc' := 2) cx 1 rfl rfl dX1_begin_1 rfl ?_
  obtain ⟨s1, e2, h⟩ := lt_some h
  refine gw_put (pc' := 5) cx (atP hq) rfl fp_X1_9 ⟨rfl, rfl⟩ dX1_begin_2 rfl e2 ?_
  refine gw_aload_n (pc' := 6) cx 0 rfl rfl dX1_begin_5 rfl ?_
  refine gw_iconst (pc' := 7) (v := 0) cx ci_0 dX1_begin_6 rfl ?_
  obtain ⟨s3, e4, h⟩ := lt_some h
  refine gw_put (pc' := 10) cx (atP hq) rfl fp_X1_15 ⟨rfl, rfl⟩ dX1_begin_7 rfl e4 ?_
  refine gw_aload_n (pc' := 11) cx 0 rfl rfl dX1_begin_10 rfl ?_
  refine gw_iload_n (pc' := 12) cx 2 rfl rfl dX1_begin_11 rfl ?_
  obtain ⟨s5, e6, h⟩ := lt_some h
  refine gw_put (pc' := 15) cx (atP hq) rfl fp_X1_18 ⟨rfl, rfl⟩ dX1_begin_12 rfl e6 ?_
  refine gw_aload_n (pc' := 16) cx 0 rfl rfl dX1_begin_15 rfl ?_
  refine gw_iconst (pc' := 17) (v := 0) cx ci_0 dX1_begin_16 rfl ?_
  obtain ⟨s7, e8, h⟩ := lt_some h
  refine gw_put (pc' := 20) cx (atP hq) rfl fp_X1_21 ⟨rfl, rfl⟩ dX1_begin_17 rfl e8 ?_
  refine gw_aload_n (pc' := 21) cx 0 rfl rfl dX1_begin_20 rfl ?_
  refine gw_iconst (pc' := 22) (v := 0) cx ci_0 dX1_begin_21 rfl ?_
  obtain ⟨s9, e10, h⟩ := lt_some h
  refine gw_put (pc' := 25) cx (atP hq) rfl fp_X1_24 ⟨rfl, rfl⟩ dX1_begin_22 rfl e10 ?_
  exact gw_vret cx tg rfl (rtV h) dX1_begin_25
def f_X1_attribute (q : Nat) (x1 : Int32) (σ : Sg) : Option (Int32) :=
  if x1 = 0 then
    some (σ q 0)
  else
    if x1 = 1 then
      some (σ q 1)
    else
      if x1 = 2 then
        some (σ q 2)
      else
        if x1 = 3 then
          some (σ q 3)
        else
          some (σ q 4)
theorem k_X1_attribute (E : Ev) {q : Nat} {x1 : Int32} (hq : Psn q) {σ : Sg} {r : Int32} (h : f_X1_attribute q x1 σ = some r) : Con E mX1_attribute 0 [.ref (eA E q), .int x1] σ (some (.int r)) σ := by
  refine con_of (by decide) (by decide) (fun fr cx tg => ?_)
  show GW E fr 2 0 [(0, .ref (eA E q)), (1, .int x1)] [] σ
  rw [f_X1_attribute] at h
  refine gw_iload_n (pc' := 1) cx 1 rfl rfl dX1_attribute_0 rfl ?_
  rcases ite_some h with ⟨c1, h⟩ | ⟨c1, h⟩
  · refine gw_tin (pc' := 32) (off := 31) 0 cx c1 dX1_attribute_1 (by decide) (by decide) ?_
    refine gw_aload_n (pc' := 33) cx 0 rfl rfl dX1_attribute_32 rfl ?_
    refine gw_getI (pc' := 36) cx (atP hq) rfl fl_X1_9 dX1_attribute_33 rfl ?_
    exact gw_iret cx tg (rt0 h) rfl dX1_attribute_36
  · skip
    rcases ite_some h with ⟨c2, h⟩ | ⟨c2, h⟩
    · refine gw_tin (pc' := 37) (off := 36) 1 cx c2 dX1_attribute_1 (by decide) (by decide) ?_
      refine gw_aload_n (pc' := 38) cx 0 rfl rfl dX1_attribute_37 rfl ?_
      refine gw_getI (pc' := 41) cx (atP hq) rfl fl_X1_15 dX1_attribute_38 rfl ?_
      exact gw_iret cx tg (rt0 h) rfl dX1_attribute_41
    · skip
      rcases ite_some h with ⟨c3, h⟩ | ⟨c3, h⟩
      · refine gw_tin (pc' := 42) (off := 41) 2 cx c3 dX1_attribute_1 (by decide) (by decide) ?_
        refine gw_aload_n (pc' := 43) cx 0 rfl rfl dX1_attribute_42 rfl ?_
        refine gw_getI (pc' := 46) cx (atP hq) rfl fl_X1_18 dX1_attribute_43 rfl ?_
        exact gw_iret cx tg (rt0 h) rfl dX1_attribute_46
      · skip
        rcases ite_some h with ⟨c4, h⟩ | ⟨c4, h⟩
        · refine gw_tin (pc' := 47) (off := 46) 3 cx c4 dX1_attribute_1 (by decide) (by decide) ?_
          refine gw_aload_n (pc' := 48) cx 0 rfl rfl dX1_attribute_47 rfl ?_
          refine gw_getI (pc' := 51) cx (atP hq) rfl fl_X1_21 dX1_attribute_48 rfl ?_
          exact gw_iret cx tg (rt0 h) rfl dX1_attribute_51
        · skip
          refine gw_tout (pc' := 52) cx dX1_attribute_1 (by have a0 := lv_neT (a := 0) c1 rfl; have a1 := lv_neT (a := 1) c2 rfl; have a2 := lv_neT (a := 2) c3 rfl; have a3 := lv_neT (a := 3) c4 rfl; omega) (by decide) ?_
          refine gw_aload_n (pc' := 53) cx 0 rfl rfl dX1_attribute_52 rfl ?_
          refine gw_getI (pc' := 56) cx (atP hq) rfl fl_X1_24 dX1_attribute_53 rfl ?_
          exact gw_iret cx tg (rt0 h) rfl dX1_attribute_56
def f_J9_max_7cf53 (x0 : Int32) (x1 : Int32) (σ : Sg) : Option (Int32) :=
  if x0 < x1 then
    some x1
  else
    some x0
theorem k_J9_max_7cf53 (E : Ev) {x0 : Int32} {x1 : Int32} {σ : Sg} {r : Int32} (h : f_J9_max_7cf53 x0 x1 σ = some r) : Con E mJ9_max_7cf53 0 [.int x0, .int x1] σ (some (.int r)) σ := by
  refine con_of (by decide) (by decide) (fun fr cx tg => ?_)
  show GW E fr 2 0 [(0, .int x0), (1, .int x1)] [] σ
  rw [f_J9_max_7cf53] at h
  refine gw_iload_n (pc' := 1) cx 0 rfl rfl dJ9_max_7cf53_0 rfl ?_
  refine gw_iload_n (pc' := 2) cx 1 rfl rfl dJ9_max_7cf53_1 rfl ?_
  rcases ite_some h with ⟨c1, h⟩ | ⟨c1, h⟩
  · refine gw_ic_lt_t (pc' := 9) cx c1 dJ9_max_7cf53_2 (by decide) ?_
    refine gw_iload_n (pc' := 10) cx 1 rfl rfl dJ9_max_7cf53_9 rfl ?_
    exact gw_iret cx tg (rt0 h) rfl dJ9_max_7cf53_10
  · refine gw_ic_lt_f (pc' := 5) cx c1 dJ9_max_7cf53_2 ⟨9, by decide⟩ rfl ?_
    refine gw_iload_n (pc' := 6) cx 0 rfl rfl dJ9_max_7cf53_5 rfl ?_
    refine gw_goto (pc' := 10) cx dJ9_max_7cf53_6 (by decide) ?_
    exact gw_iret cx tg (rt0 h) rfl dJ9_max_7cf53_10
def f_X1_room (q : Nat) (σ : Sg) : Option (Int32) :=
  ob0 (f_J9_max_7cf53 0 ((σ q 2) - (σ q 3)) σ) fun r2 =>
  if (σ q 0) = 1 then
    some (r2 / 2)
  else
    if (σ q 0) = 2 then
      some r2
    else
      if (σ q 0) = 3 then
        some (r2 + (σ q 2))
      else
        if (σ q 0) = 4 then
          some (r2 + (σ q 2))
        else
          if (σ q 0) = 5 then
            if (σ q 3) = 0 then
              some 99
            else
              some r2
          else
            if (σ q 0) = 6 then
              some ((r2 / 2) + 5)
            else
              some r2
theorem k_X1_room (E : Ev) {q : Nat} (hq : Psn q) {σ : Sg} {r : Int32} (h : f_X1_room q σ = some r) : Con E mX1_room 1 [.ref (eA E q)] σ (some (.int r)) σ := by
  refine con_of (by decide) (by decide) (fun fr cx tg => ?_)
  show GW E fr 2 0 [(0, .ref (eA E q))] [] σ
  rw [f_X1_room] at h
  refine gw_iconst (pc' := 1) (v := 0) cx ci_0 dX1_room_0 rfl ?_
  refine gw_aload_n (pc' := 2) cx 0 rfl rfl dX1_room_1 rfl ?_
  refine gw_getI (pc' := 5) cx (atP hq) rfl fl_X1_18 dX1_room_2 rfl ?_
  refine gw_aload_n (pc' := 6) cx 0 rfl rfl dX1_room_5 rfl ?_
  refine gw_getI (pc' := 9) cx (atP hq) rfl fl_X1_21 dX1_room_6 rfl ?_
  refine gw_isub (pc' := 10) cx dX1_room_9 rfl ?_
  obtain ⟨r2, g1, h⟩ := ob0_some h
  refine gw_cS (pc' := 13) (av := [.int 0, .int ((σ q 2) - (σ q 3))]) (rest := []) cx (k_J9_max_7cf53 E g1) (by decide) lk_X1_27 dX1_room_10 rfl (by decide) rfl ?_
  show GW E fr _ 13 _ (.int r2 :: _) _
  refine gw_istore_n (pc' := 14) (lv' := [(1, .int r2), (0, .ref (eA E q))]) cx rfl rfl (by decide) dX1_room_13 rfl ?_
  refine gw_aload_n (pc' := 15) cx 1 rfl rfl dX1_room_14 rfl ?_
  refine gw_getI (pc' := 18) cx (atP hq) rfl fl_X1_9 dX1_room_15 rfl ?_
  rcases ite_some h with ⟨c3, h⟩ | ⟨c3, h⟩
  · refine gw_tin (pc' := 56) (off := 38) 1 cx c3 dX1_room_18 (by decide) (by decide) ?_
    refine gw_iload_n (pc' := 57) cx 0 rfl rfl dX1_room_56 rfl ?_
    refine gw_iconst (pc' := 58) (v := 2) cx ci_2 dX1_room_57 rfl ?_
    refine gw_idiv (pc' := 59) cx (by decide) dX1_room_58 rfl ?_
    exact gw_iret cx tg (rt0 h) rfl dX1_room_59
  · skip
    rcases ite_some h with ⟨c4, h⟩ | ⟨c4, h⟩
    · refine gw_tin (pc' := 87) (off := 69) 2 cx c4 dX1_room_18 (by decide) (by decide) ?_
      refine gw_iload_n (pc' := 88) cx 0 rfl rfl dX1_room_87 rfl ?_
      exact gw_iret cx tg (rt0 h) rfl dX1_room_88
    · skip
      rcases ite_some h with ⟨c5, h⟩ | ⟨c5, h⟩
      · refine gw_tin (pc' := 66) (off := 48) 3 cx c5 dX1_room_18 (by decide) (by decide) ?_
        refine gw_iload_n (pc' := 67) cx 0 rfl rfl dX1_room_66 rfl ?_
        refine gw_aload_n (pc' := 68) cx 1 rfl rfl dX1_room_67 rfl ?_
        refine gw_getI (pc' := 71) cx (atP hq) rfl fl_X1_18 dX1_room_68 rfl ?_
        refine gw_iadd (pc' := 72) cx dX1_room_71 rfl ?_
        exact gw_iret cx tg (rt0 h) rfl dX1_room_72
      · skip
        rcases ite_some h with ⟨c6, h⟩ | ⟨c6, h⟩
        · refine gw_tin (pc' := 66) (off := 48) 4 cx c6 dX1_room_18 (by decide) (by decide) ?_
          refine gw_iload_n (pc' := 67) cx 0 rfl rfl dX1_room_66 rfl ?_
          refine gw_aload_n (pc' := 68) cx 1 rfl rfl dX1_room_67 rfl ?_
          refine gw_getI (pc' := 71) cx (atP hq) rfl fl_X1_18 dX1_room_68 rfl ?_
          refine gw_iadd (pc' := 72) cx dX1_room_71 rfl ?_
          exact gw_iret cx tg (rt0 h) rfl dX1_room_72
        · skip
          rcases ite_some h with ⟨c7, h⟩ | ⟨c7, h⟩
          · refine gw_tin (pc' := 73) (off := 55) 5 cx c7 dX1_room_18 (by decide) (by decide) ?_
            refine gw_aload_n (pc' := 74) cx 1 rfl rfl dX1_room_73 rfl ?_
            refine gw_getI (pc' := 77) cx (atP hq) rfl fl_X1_21 dX1_room_74 rfl ?_
            rcases ite_some h with ⟨c8, h⟩ | ⟨c8, h⟩
            · refine gw_if_ne_f (pc' := 80) cx c8 dX1_room_77 ⟨85, by decide⟩ rfl ?_
              refine gw_bipush (pc' := 82) (v := 99) cx cb_99 dX1_room_80 rfl ?_
              refine gw_goto (pc' := 86) cx dX1_room_82 (by decide) ?_
              exact gw_iret cx tg (rt0 h) rfl dX1_room_86
            · refine gw_if_ne_t (pc' := 85) cx c8 dX1_room_77 (by decide) ?_
              refine gw_iload_n (pc' := 86) cx 0 rfl rfl dX1_room_85 rfl ?_
              exact gw_iret cx tg (rt0 h) rfl dX1_room_86
          · skip
            rcases ite_some h with ⟨c9, h⟩ | ⟨c9, h⟩
            · refine gw_tin (pc' := 60) (off := 42) 6 cx c9 dX1_room_18 (by decide) (by decide) ?_
              refine gw_iload_n (pc' := 61) cx 0 rfl rfl dX1_room_60 rfl ?_
              refine gw_iconst (pc' := 62) (v := 2) cx ci_2 dX1_room_61 rfl ?_
              refine gw_idiv (pc' := 63) cx (by decide) dX1_room_62 rfl ?_
              refine gw_iconst (pc' := 64) (v := 5) cx ci_5 dX1_room_63 rfl ?_
              refine gw_iadd (pc' := 65) cx dX1_room_64 rfl ?_
              exact gw_iret cx tg (rt0 h) rfl dX1_room_65
            · skip
              refine gw_tout (pc' := 87) cx dX1_room_18 (by have a1 := lv_neT (a := 1) c3 rfl; have a2 := lv_neT (a := 2) c4 rfl; have a3 := lv_neT (a := 3) c5 rfl; have a4 := lv_neT (a := 4) c6 rfl; have a5 := lv_neT (a := 5) c7 rfl; have a6 := lv_neT (a := 6) c9 rfl; omega) (by decide) ?_
              refine gw_iload_n (pc' := 88) cx 0 rfl rfl dX1_room_87 rfl ?_
              exact gw_iret cx tg (rt0 h) rfl dX1_room_88
def f_X4_saying (x0 : Int32) (x1 : Int32) (σ : Sg) : Option (Int32) :=
  some ((100 * x0) + x1)
theorem k_X4_saying (E : Ev) {x0 : Int32} {x1 : Int32} {σ : Sg} {r : Int32} (h : f_X4_saying x0 x1 σ = some r) : Con E mX4_saying 0 [.int x0, .int x1] σ (some (.int r)) σ := by
  refine con_of (by decide) (by decide) (fun fr cx tg => ?_)
  show GW E fr 2 0 [(0, .int x0), (1, .int x1)] [] σ
  rw [f_X4_saying] at h
  refine gw_bipush (pc' := 2) (v := 100) cx cb_100 dX4_saying_0 rfl ?_
  refine gw_iload_n (pc' := 3) cx 0 rfl rfl dX4_saying_2 rfl ?_
  refine gw_imul (pc' := 4) cx dX4_saying_3 rfl ?_
  refine gw_iload_n (pc' := 5) cx 1 rfl rfl dX4_saying_4 rfl ?_
  refine gw_iadd (pc' := 6) cx dX4_saying_5 rfl ?_
  exact gw_iret cx tg (rt0 h) rfl dX4_saying_6
def f_X1_feeling (q : Nat) (x1 : Int32) (σ : Sg) : Option (Int32) :=
  if (σ q 0) = 1 then
    some (2 * x1)
  else
    if (σ q 0) = 2 then
      some (x1 / 2)
    else
      if (σ q 0) = 3 then
        some ((x1 / 2) + 1)
      else
        if (σ q 0) = 4 then
          some (((x1 / 2) + 1) + ((σ q 3) / 10))
        else
          if (σ q 0) = 5 then
            if 5 ≤ x1 then
              some x1
            else
              some 0
          else
            if (σ q 0) = 6 then
              ob0 (f_J9_max_7cf53 0 ((2 * x1) - 3) σ) fun r9 =>
              some r9
            else
              some x1
theorem k_X1_feeling (E : Ev) {q : Nat} {x1 : Int32} (hq : Psn q) {σ : Sg} {r : Int32} (h : f_X1_feeling q x1 σ = some r) : Con E mX1_feeling 1 [.ref (eA E q), .int x1] σ (some (.int r)) σ := by
  refine con_of (by decide) (by decide) (fun fr cx tg => ?_)
  show GW E fr 2 0 [(0, .ref (eA E q)), (1, .int x1)] [] σ
  rw [f_X1_feeling] at h
  refine gw_aload_n (pc' := 1) cx 0 rfl rfl dX1_feeling_0 rfl ?_
  refine gw_getI (pc' := 4) cx (atP hq) rfl fl_X1_9 dX1_feeling_1 rfl ?_
  rcases ite_some h with ⟨c1, h⟩ | ⟨c1, h⟩
  · refine gw_tin (pc' := 44) (off := 40) 1 cx c1 dX1_feeling_4 (by decide) (by decide) ?_
    refine gw_iconst (pc' := 45) (v := 2) cx ci_2 dX1_feeling_44 rfl ?_
    refine gw_iload_n (pc' := 46) cx 1 rfl rfl dX1_feeling_45 rfl ?_
    refine gw_imul (pc' := 47) cx dX1_feeling_46 rfl ?_
    exact gw_iret cx tg (rt0 h) rfl dX1_feeling_47
  · skip
    rcases ite_some h with ⟨c2, h⟩ | ⟨c2, h⟩
    · refine gw_tin (pc' := 58) (off := 54) 2 cx c2 dX1_feeling_4 (by decide) (by decide) ?_
      refine gw_iload_n (pc' := 59) cx 1 rfl rfl dX1_feeling_58 rfl ?_
      refine gw_iconst (pc' := 60) (v := 2) cx ci_2 dX1_feeling_59 rfl ?_
      refine gw_idiv (pc' := 61) cx (by decide) dX1_feeling_60 rfl ?_
      exact gw_iret cx tg (rt0 h) rfl dX1_feeling_61
    · skip
      rcases ite_some h with ⟨c3, h⟩ | ⟨c3, h⟩
      · refine gw_tin (pc' := 62) (off := 58) 3 cx c3 dX1_feeling_4 (by decide) (by decide) ?_
        refine gw_iload_n (pc' := 63) cx 1 rfl rfl dX1_feeling_62 rfl ?_
        refine gw_iconst (pc' := 64) (v := 2) cx ci_2 dX1_feeling_63 rfl ?_
        refine gw_idiv (pc' := 65) cx (by decide) dX1_feeling_64 rfl ?_
        refine gw_iconst (pc' := 66) (v := 1) cx ci_1 dX1_feeling_65 rfl ?_
        refine gw_iadd (pc' := 67) cx dX1_feeling_66 rfl ?_
        exact gw_iret cx tg (rt0 h) rfl dX1_feeling_67
      · skip
        rcases ite_some h with ⟨c4, h⟩ | ⟨c4, h⟩
        · refine gw_tin (pc' := 68) (off := 64) 4 cx c4 dX1_feeling_4 (by decide) (by decide) ?_
          refine gw_iload_n (pc' := 69) cx 1 rfl rfl dX1_feeling_68 rfl ?_
          refine gw_iconst (pc' := 70) (v := 2) cx ci_2 dX1_feeling_69 rfl ?_
          refine gw_idiv (pc' := 71) cx (by decide) dX1_feeling_70 rfl ?_
          refine gw_iconst (pc' := 72) (v := 1) cx ci_1 dX1_feeling_71 rfl ?_
          refine gw_iadd (pc' := 73) cx dX1_feeling_72 rfl ?_
          refine gw_aload_n (pc' := 74) cx 0 rfl rfl dX1_feeling_73 rfl ?_
          refine gw_getI (pc' := 77) cx (atP hq) rfl fl_X1_21 dX1_feeling_74 rfl ?_
          refine gw_bipush (pc' := 79) (v := 10) cx cb_10 dX1_feeling_77 rfl ?_
          refine gw_idiv (pc' := 80) cx (by decide) dX1_feeling_79 rfl ?_
          refine gw_iadd (pc' := 81) cx dX1_feeling_80 rfl ?_
          exact gw_iret cx tg (rt0 h) rfl dX1_feeling_81
        · skip
          rcases ite_some h with ⟨c5, h⟩ | ⟨c5, h⟩
          · refine gw_tin (pc' := 82) (off := 78) 5 cx c5 dX1_feeling_4 (by decide) (by decide) ?_
            refine gw_iload_n (pc' := 83) cx 1 rfl rfl dX1_feeling_82 rfl ?_
            refine gw_iconst (pc' := 84) (v := 5) cx ci_5 dX1_feeling_83 rfl ?_
            rcases ite_some h with ⟨c6, h⟩ | ⟨c6, h⟩
            · refine gw_ic_ge_t (pc' := 91) cx c6 dX1_feeling_84 (by decide) ?_
              refine gw_iload_n (pc' := 92) cx 1 rfl rfl dX1_feeling_91 rfl ?_
              exact gw_iret cx tg (rt0 h) rfl dX1_feeling_92
            · refine gw_ic_ge_f (pc' := 87) cx c6 dX1_feeling_84 ⟨91, by decide⟩ rfl ?_
              refine gw_iconst (pc' := 88) (v := 0) cx ci_0 dX1_feeling_87 rfl ?_
              refine gw_goto (pc' := 92) cx dX1_feeling_88 (by decide) ?_
              exact gw_iret cx tg (rt0 h) rfl dX1_feeling_92
          · skip
            rcases ite_some h with ⟨c7, h⟩ | ⟨c7, h⟩
            · refine gw_tin (pc' := 48) (off := 44) 6 cx c7 dX1_feeling_4 (by decide) (by decide) ?_
              refine gw_iconst (pc' := 49) (v := 0) cx ci_0 dX1_feeling_48 rfl ?_
              refine gw_iconst (pc' := 50) (v := 2) cx ci_2 dX1_feeling_49 rfl ?_
              refine gw_iload_n (pc' := 51) cx 1 rfl rfl dX1_feeling_50 rfl ?_
              refine gw_imul (pc' := 52) cx dX1_feeling_51 rfl ?_
              refine gw_iconst (pc' := 53) (v := 3) cx ci_3 dX1_feeling_52 rfl ?_
              refine gw_isub (pc' := 54) cx dX1_feeling_53 rfl ?_
              obtain ⟨r9, g8, h⟩ := ob0_some h
              refine gw_cS (pc' := 57) (av := [.int 0, .int ((2 * x1) - 3)]) (rest := []) cx (k_J9_max_7cf53 E g8) (by decide) lk_X1_27 dX1_feeling_54 rfl (by decide) rfl ?_
              show GW E fr _ 57 _ (.int r9 :: _) _
              exact gw_iret cx tg (rt0 h) rfl dX1_feeling_57
            · skip
              refine gw_tout (pc' := 93) cx dX1_feeling_4 (by have a1 := lv_neT (a := 1) c1 rfl; have a2 := lv_neT (a := 2) c2 rfl; have a3 := lv_neT (a := 3) c3 rfl; have a4 := lv_neT (a := 4) c4 rfl; have a5 := lv_neT (a := 5) c5 rfl; have a6 := lv_neT (a := 6) c7 rfl; omega) (by decide) ?_
              refine gw_iload_n (pc' := 94) cx 1 rfl rfl dX1_feeling_93 rfl ?_
              exact gw_iret cx tg (rt0 h) rfl dX1_feeling_94
def f_J9_min_7cf53 (x0 : Int32) (x1 : Int32) (σ : Sg) : Option (Int32) :=
  if x1 < x0 then
    some x1
  else
    some x0
theorem k_J9_min_7cf53 (E : Ev) {x0 : Int32} {x1 : Int32} {σ : Sg} {r : Int32} (h : f_J9_min_7cf53 x0 x1 σ = some r) : Con E mJ9_min_7cf53 0 [.int x0, .int x1] σ (some (.int r)) σ := by
  refine con_of (by decide) (by decide) (fun fr cx tg => ?_)
  show GW E fr 2 0 [(0, .int x0), (1, .int x1)] [] σ
  rw [f_J9_min_7cf53] at h
  refine gw_iload_n (pc' := 1) cx 0 rfl rfl dJ9_min_7cf53_0 rfl ?_
  refine gw_iload_n (pc' := 2) cx 1 rfl rfl dJ9_min_7cf53_1 rfl ?_
  rcases ite_some h with ⟨c1, h⟩ | ⟨c1, h⟩
  · refine gw_ic_gt_t (pc' := 9) cx c1 dJ9_min_7cf53_2 (by decide) ?_
    refine gw_iload_n (pc' := 10) cx 1 rfl rfl dJ9_min_7cf53_9 rfl ?_
    exact gw_iret cx tg (rt0 h) rfl dJ9_min_7cf53_10
  · refine gw_ic_gt_f (pc' := 5) cx c1 dJ9_min_7cf53_2 ⟨9, by decide⟩ rfl ?_
    refine gw_iload_n (pc' := 6) cx 0 rfl rfl dJ9_min_7cf53_5 rfl ?_
    refine gw_goto (pc' := 10) cx dJ9_min_7cf53_6 (by decide) ?_
    exact gw_iret cx tg (rt0 h) rfl dJ9_min_7cf53_10
def f_X1_suffer (q : Nat) (x1 : Int32) (x2 : Int32) (σ : Sg) : Option (Sg) :=
  ob0 (f_J9_min_7cf53 9999 ((σ q 1) + x1) σ) fun r2 =>
  lt (up2 σ q 1 r2) fun s3 =>
  ob0 (f_J9_min_7cf53 9999 ((s3 q 3) + x2) s3) fun r6 =>
  lt (up2 s3 q 3 r6) fun s7 =>
  some s7
theorem k_X1_suffer (E : Ev) {q : Nat} {x1 : Int32} {x2 : Int32} (hq : Psn q) {σ : Sg} {σ' : Sg} (h : f_X1_suffer q x1 x2 σ = some σ') : Con E mX1_suffer 1 [.ref (eA E q), .int x1, .int x2] σ none σ' := by
  refine con_of (by decide) (by decide) (fun fr cx tg => ?_)
  show GW E fr 3 0 [(0, .ref (eA E q)), (1, .int x1), (2, .int x2)] [] σ
  rw [f_X1_suffer] at h
  refine gw_aload_n (pc' := 1) cx 0 rfl rfl dX1_suffer_0 rfl ?_
  refine gw_sipush (pc' := 4) (v := 9999) cx cs_9999 dX1_suffer_1 rfl ?_
  refine gw_aload_n (pc' := 5) cx 0 rfl rfl dX1_suffer_4 rfl ?_
  refine gw_getI (pc' := 8) cx (atP hq) rfl fl_X1_15 dX1_suffer_5 rfl ?_
  refine gw_iload_n (pc' := 9) cx 1 rfl rfl dX1_suffer_8 rfl ?_
  refine gw_iadd (pc' := 10) cx dX1_suffer_9 rfl ?_
  obtain ⟨r2, g1, h⟩ := ob0_some h
  refine gw_cS (pc' := 13) (av := [.int 9999, .int ((σ q 1) + x1)]) (rest := [.ref (eA E q)]) cx (k_J9_min_7cf53 E g1) (by decide) lk_X1_37 dX1_suffer_10 rfl (by decide) rfl ?_
  show GW E fr _ 13 _ (.int r2 :: _) _
  obtain ⟨s3, e4, h⟩ := lt_some h
  refine gw_put (pc' := 16) cx (atP hq) rfl fp_X1_15 ⟨rfl, rfl⟩ dX1_suffer_13 rfl e4 ?_
  refine gw_aload_n (pc' := 17) cx 0 rfl rfl dX1_suffer_16 rfl ?_
  refine gw_sipush (pc' := 20) (v := 9999) cx cs_9999 dX1_suffer_17 rfl ?_
  refine gw_aload_n (pc' := 21) cx 0 rfl rfl dX1_suffer_20 rfl ?_
  refine gw_getI (pc' := 24) cx (atP hq) rfl fl_X1_21 dX1_suffer_21 rfl ?_
  refine gw_iload_n (pc' := 25) cx 2 rfl rfl dX1_suffer_24 rfl ?_
  refine gw_iadd (pc' := 26) cx dX1_suffer_25 rfl ?_
  obtain ⟨r6, g5, h⟩ := ob0_some h
  refine gw_cS (pc' := 29) (av := [.int 9999, .int ((s3 q 3) + x2)]) (rest := [.ref (eA E q)]) cx (k_J9_min_7cf53 E g5) (by decide) lk_X1_37 dX1_suffer_26 rfl (by decide) rfl ?_
  show GW E fr _ 29 _ (.int r6 :: _) _
  obtain ⟨s7, e8, h⟩ := lt_some h
  refine gw_put (pc' := 32) cx (atP hq) rfl fp_X1_21 ⟨rfl, rfl⟩ dX1_suffer_29 rfl e8 ?_
  exact gw_vret cx tg rfl (rtV h) dX1_suffer_32
def f_X4_isIn (x0 : Int32) (x1 : Int32) (σ : Sg) : Option (Int32) :=
  if ((jshr x0 x1) &&& 1) = 1 then
    some 1
  else
    some 0
theorem k_X4_isIn (E : Ev) {x0 : Int32} {x1 : Int32} {σ : Sg} {r : Int32} (h : f_X4_isIn x0 x1 σ = some r) : Con E mX4_isIn 0 [.int x0, .int x1] σ (some (.int r)) σ := by
  refine con_of (by decide) (by decide) (fun fr cx tg => ?_)
  show GW E fr 2 0 [(0, .int x0), (1, .int x1)] [] σ
  rw [f_X4_isIn] at h
  refine gw_iload_n (pc' := 1) cx 0 rfl rfl dX4_isIn_0 rfl ?_
  refine gw_iload_n (pc' := 2) cx 1 rfl rfl dX4_isIn_1 rfl ?_
  refine gw_ishr (pc' := 3) cx dX4_isIn_2 rfl ?_
  refine gw_iconst (pc' := 4) (v := 1) cx ci_1 dX4_isIn_3 rfl ?_
  refine gw_iand (pc' := 5) cx dX4_isIn_4 rfl ?_
  refine gw_iconst (pc' := 6) (v := 1) cx ci_1 dX4_isIn_5 rfl ?_
  rcases ite_some h with ⟨c1, h⟩ | ⟨c1, h⟩
  · refine gw_ic_ne_f (pc' := 9) cx c1 dX4_isIn_6 ⟨13, by decide⟩ rfl ?_
    refine gw_iconst (pc' := 10) (v := 1) cx ci_1 dX4_isIn_9 rfl ?_
    refine gw_goto (pc' := 14) cx dX4_isIn_10 (by decide) ?_
    exact gw_zret cx tg (Or.inr rfl) (rt0 h) rfl dX4_isIn_14
  · refine gw_ic_ne_t (pc' := 13) cx c1 dX4_isIn_6 (by decide) ?_
    refine gw_iconst (pc' := 14) (v := 0) cx ci_0 dX4_isIn_13 rfl ?_
    exact gw_zret cx tg (Or.inl rfl) (rt0 h) rfl dX4_isIn_14
def f_X1_mostAsked (q : Nat) (x1 : Int32) (σ : Sg) : Option (Int32) :=
  if (σ q 0) = 1 then
    some 5
  else
    if (σ q 0) = 2 then
      some 20
    else
      if (σ q 0) = 3 then
        some 0
      else
        if (σ q 0) = 4 then
          if (jrem x1 7) = 6 then
            some 3
          else
            some 0
        else
          if (σ q 0) = 5 then
            some 10
          else
            if (σ q 0) = 6 then
              some 15
            else
              some 10
theorem k_X1_mostAsked (E : Ev) {q : Nat} {x1 : Int32} (hq : Psn q) {σ : Sg} {r : Int32} (h : f_X1_mostAsked q x1 σ = some r) : Con E mX1_mostAsked 0 [.ref (eA E q), .int x1] σ (some (.int r)) σ := by
  refine con_of (by decide) (by decide) (fun fr cx tg => ?_)
  show GW E fr 2 0 [(0, .ref (eA E q)), (1, .int x1)] [] σ
  rw [f_X1_mostAsked] at h
  refine gw_aload_n (pc' := 1) cx 0 rfl rfl dX1_mostAsked_0 rfl ?_
  refine gw_getI (pc' := 4) cx (atP hq) rfl fl_X1_9 dX1_mostAsked_1 rfl ?_
  rcases ite_some h with ⟨c1, h⟩ | ⟨c1, h⟩
  · refine gw_tin (pc' := 44) (off := 40) 1 cx c1 dX1_mostAsked_4 (by decide) (by decide) ?_
    refine gw_iconst (pc' := 45) (v := 5) cx ci_5 dX1_mostAsked_44 rfl ?_
    exact gw_iret cx tg (rt0 h) rfl dX1_mostAsked_45
  · skip
    rcases ite_some h with ⟨c2, h⟩ | ⟨c2, h⟩
    · refine gw_tin (pc' := 49) (off := 45) 2 cx c2 dX1_mostAsked_4 (by decide) (by decide) ?_
      refine gw_bipush (pc' := 51) (v := 20) cx cb_20 dX1_mostAsked_49 rfl ?_
      exact gw_iret cx tg (rt0 h) rfl dX1_mostAsked_51
    · skip
      rcases ite_some h with ⟨c3, h⟩ | ⟨c3, h⟩
      · refine gw_tin (pc' := 52) (off := 48) 3 cx c3 dX1_mostAsked_4 (by decide) (by decide) ?_
        refine gw_iconst (pc' := 53) (v := 0) cx ci_0 dX1_mostAsked_52 rfl ?_
        exact gw_iret cx tg (rt0 h) rfl dX1_mostAsked_53
      · skip
        rcases ite_some h with ⟨c4, h⟩ | ⟨c4, h⟩
        · refine gw_tin (pc' := 54) (off := 50) 4 cx c4 dX1_mostAsked_4 (by decide) (by decide) ?_
          refine gw_iload_n (pc' := 55) cx 1 rfl rfl dX1_mostAsked_54 rfl ?_
          refine gw_bipush (pc' := 57) (v := 7) cx cb_7 dX1_mostAsked_55 rfl ?_
          refine gw_irem (pc' := 58) cx (by decide) dX1_mostAsked_57 rfl ?_
          refine gw_bipush (pc' := 60) (v := 6) cx cb_6 dX1_mostAsked_58 rfl ?_
          rcases ite_some h with ⟨c5, h⟩ | ⟨c5, h⟩
          · refine gw_ic_ne_f (pc' := 63) cx c5 dX1_mostAsked_60 ⟨67, by decide⟩ rfl ?_
            refine gw_iconst (pc' := 64) (v := 3) cx ci_3 dX1_mostAsked_63 rfl ?_
            refine gw_goto (pc' := 68) cx dX1_mostAsked_64 (by decide) ?_
            exact gw_iret cx tg (rt0 h) rfl dX1_mostAsked_68
          · refine gw_ic_ne_t (pc' := 67) cx c5 dX1_mostAsked_60 (by decide) ?_
            refine gw_iconst (pc' := 68) (v := 0) cx ci_0 dX1_mostAsked_67 rfl ?_
            exact gw_iret cx tg (rt0 h) rfl dX1_mostAsked_68
        · skip
          rcases ite_some h with ⟨c6, h⟩ | ⟨c6, h⟩
          · refine gw_tin (pc' := 69) (off := 65) 5 cx c6 dX1_mostAsked_4 (by decide) (by decide) ?_
            refine gw_bipush (pc' := 71) (v := 10) cx cb_10 dX1_mostAsked_69 rfl ?_
            exact gw_iret cx tg (rt0 h) rfl dX1_mostAsked_71
          · skip
            rcases ite_some h with ⟨c7, h⟩ | ⟨c7, h⟩
            · refine gw_tin (pc' := 46) (off := 42) 6 cx c7 dX1_mostAsked_4 (by decide) (by decide) ?_
              refine gw_bipush (pc' := 48) (v := 15) cx cb_15 dX1_mostAsked_46 rfl ?_
              exact gw_iret cx tg (rt0 h) rfl dX1_mostAsked_48
            · skip
              refine gw_tout (pc' := 69) cx dX1_mostAsked_4 (by have a1 := lv_neT (a := 1) c1 rfl; have a2 := lv_neT (a := 2) c2 rfl; have a3 := lv_neT (a := 3) c3 rfl; have a4 := lv_neT (a := 4) c4 rfl; have a5 := lv_neT (a := 5) c6 rfl; have a6 := lv_neT (a := 6) c7 rfl; omega) (by decide) ?_
              refine gw_bipush (pc' := 71) (v := 10) cx cb_10 dX1_mostAsked_69 rfl ?_
              exact gw_iret cx tg (rt0 h) rfl dX1_mostAsked_71
def f_X1_asking (q : Nat) (x1 : Int32) (σ : Sg) : Option (Int32) :=
  ob0 (f_X1_mostAsked q x1 σ) fun r2 =>
  ob0 (f_J9_min_7cf53 r2 (σ q 1) σ) fun r4 =>
  some r4
theorem k_X1_asking (E : Ev) {q : Nat} {x1 : Int32} (hq : Psn q) {σ : Sg} {r : Int32} (h : f_X1_asking q x1 σ = some r) : Con E mX1_asking 1 [.ref (eA E q), .int x1] σ (some (.int r)) σ := by
  refine con_of (by decide) (by decide) (fun fr cx tg => ?_)
  show GW E fr 2 0 [(0, .ref (eA E q)), (1, .int x1)] [] σ
  rw [f_X1_asking] at h
  refine gw_aload_n (pc' := 1) cx 0 rfl rfl dX1_asking_0 rfl ?_
  refine gw_iload_n (pc' := 2) cx 1 rfl rfl dX1_asking_1 rfl ?_
  obtain ⟨r2, g1, h⟩ := ob0_some h
  refine gw_cV (pc' := 5) (av := [.int x1]) (rest := []) cx (k_X1_mostAsked E hq g1) (atP hq) (by decide) lk_X1_33 dX1_asking_2 rfl (by decide) rfl ?_
  show GW E fr _ 5 _ (.int r2 :: _) _
  refine gw_aload_n (pc' := 6) cx 0 rfl rfl dX1_asking_5 rfl ?_
  refine gw_getI (pc' := 9) cx (atP hq) rfl fl_X1_15 dX1_asking_6 rfl ?_
  obtain ⟨r4, g3, h⟩ := ob0_some h
  refine gw_cS (pc' := 12) (av := [.int r2, .int (σ q 1)]) (rest := []) cx (k_J9_min_7cf53 E g3) (by decide) lk_X1_37 dX1_asking_9 rfl (by decide) rfl ?_
  show GW E fr _ 12 _ (.int r4 :: _) _
  exact gw_iret cx tg (rt0 h) rfl dX1_asking_12
def f_X1_forgetting (q : Nat) (σ : Sg) : Option (Int32) :=
  if (σ q 0) = 1 then
    some 0
  else
    if (σ q 0) = 2 then
      some 3
    else
      if (σ q 0) = 3 then
        some 3
      else
        if (σ q 0) = 4 then
          some 6
        else
          some 1
theorem k_X1_forgetting (E : Ev) {q : Nat} (hq : Psn q) {σ : Sg} {r : Int32} (h : f_X1_forgetting q σ = some r) : Con E mX1_forgetting 0 [.ref (eA E q)] σ (some (.int r)) σ := by
  refine con_of (by decide) (by decide) (fun fr cx tg => ?_)
  show GW E fr 1 0 [(0, .ref (eA E q))] [] σ
  rw [f_X1_forgetting] at h
  refine gw_aload_n (pc' := 1) cx 0 rfl rfl dX1_forgetting_0 rfl ?_
  refine gw_getI (pc' := 4) cx (atP hq) rfl fl_X1_9 dX1_forgetting_1 rfl ?_
  rcases ite_some h with ⟨c1, h⟩ | ⟨c1, h⟩
  · refine gw_tin (pc' := 36) (off := 32) 1 cx c1 dX1_forgetting_4 (by decide) (by decide) ?_
    refine gw_iconst (pc' := 37) (v := 0) cx ci_0 dX1_forgetting_36 rfl ?_
    exact gw_iret cx tg (rt0 h) rfl dX1_forgetting_37
  · skip
    rcases ite_some h with ⟨c2, h⟩ | ⟨c2, h⟩
    · refine gw_tin (pc' := 38) (off := 34) 2 cx c2 dX1_forgetting_4 (by decide) (by decide) ?_
      refine gw_iconst (pc' := 39) (v := 3) cx ci_3 dX1_forgetting_38 rfl ?_
      exact gw_iret cx tg (rt0 h) rfl dX1_forgetting_39
    · skip
      rcases ite_some h with ⟨c3, h⟩ | ⟨c3, h⟩
      · refine gw_tin (pc' := 38) (off := 34) 3 cx c3 dX1_forgetting_4 (by decide) (by decide) ?_
        refine gw_iconst (pc' := 39) (v := 3) cx ci_3 dX1_forgetting_38 rfl ?_
        exact gw_iret cx tg (rt0 h) rfl dX1_forgetting_39
      · skip
        rcases ite_some h with ⟨c4, h⟩ | ⟨c4, h⟩
        · refine gw_tin (pc' := 40) (off := 36) 4 cx c4 dX1_forgetting_4 (by decide) (by decide) ?_
          refine gw_bipush (pc' := 42) (v := 6) cx cb_6 dX1_forgetting_40 rfl ?_
          exact gw_iret cx tg (rt0 h) rfl dX1_forgetting_42
        · skip
          refine gw_tout (pc' := 43) cx dX1_forgetting_4 (by have a1 := lv_neT (a := 1) c1 rfl; have a2 := lv_neT (a := 2) c2 rfl; have a3 := lv_neT (a := 3) c3 rfl; have a4 := lv_neT (a := 4) c4 rfl; omega) (by decide) ?_
          refine gw_iconst (pc' := 44) (v := 1) cx ci_1 dX1_forgetting_43 rfl ?_
          exact gw_iret cx tg (rt0 h) rfl dX1_forgetting_44
def f_X1_forget (q : Nat) (σ : Sg) : Option (Sg) :=
  ob0 (f_X1_forgetting q σ) fun r2 =>
  ob0 (f_J9_max_7cf53 0 ((σ q 3) - r2) σ) fun r4 =>
  lt (up2 σ q 3 r4) fun s5 =>
  some s5
theorem k_X1_forget (E : Ev) {q : Nat} (hq : Psn q) {σ : Sg} {σ' : Sg} (h : f_X1_forget q σ = some σ') : Con E mX1_forget 1 [.ref (eA E q)] σ none σ' := by
  refine con_of (by decide) (by decide) (fun fr cx tg => ?_)
  show GW E fr 1 0 [(0, .ref (eA E q))] [] σ
  rw [f_X1_forget] at h
  refine gw_aload_n (pc' := 1) cx 0 rfl rfl dX1_forget_0 rfl ?_
  refine gw_iconst (pc' := 2) (v := 0) cx ci_0 dX1_forget_1 rfl ?_
  refine gw_aload_n (pc' := 3) cx 0 rfl rfl dX1_forget_2 rfl ?_
  refine gw_getI (pc' := 6) cx (atP hq) rfl fl_X1_21 dX1_forget_3 rfl ?_
  refine gw_aload_n (pc' := 7) cx 0 rfl rfl dX1_forget_6 rfl ?_
  obtain ⟨r2, g1, h⟩ := ob0_some h
  refine gw_cV (pc' := 10) (av := []) (rest := [.int (σ q 3), .int 0, .ref (eA E q)]) cx (k_X1_forgetting E hq g1) (atP hq) (by decide) lk_X1_48 dX1_forget_7 rfl (by decide) rfl ?_
  show GW E fr _ 10 _ (.int r2 :: _) _
  refine gw_isub (pc' := 11) cx dX1_forget_10 rfl ?_
  obtain ⟨r4, g3, h⟩ := ob0_some h
  refine gw_cS (pc' := 14) (av := [.int 0, .int ((σ q 3) - r2)]) (rest := [.ref (eA E q)]) cx (k_J9_max_7cf53 E g3) (by decide) lk_X1_27 dX1_forget_11 rfl (by decide) rfl ?_
  show GW E fr _ 14 _ (.int r4 :: _) _
  obtain ⟨s5, e6, h⟩ := lt_some h
  refine gw_put (pc' := 17) cx (atP hq) rfl fp_X1_21 ⟨rfl, rfl⟩ dX1_forget_14 rfl e6 ?_
  exact gw_vret cx tg rfl (rtV h) dX1_forget_17
def f_X1_setAttribute (q : Nat) (x1 : Int32) (x2 : Int32) (σ : Sg) : Option (Sg) :=
  if x1 = 0 then
    lt (up2 σ q 0 x2) fun s2 =>
    some s2
  else
    if x1 = 1 then
      lt (up2 σ q 1 x2) fun s5 =>
      some s5
    else
      if x1 = 2 then
        lt (up2 σ q 2 x2) fun s8 =>
        some s8
      else
        if x1 = 3 then
          lt (up2 σ q 3 x2) fun s11 =>
          some s11
        else
          lt (up2 σ q 4 x2) fun s13 =>
          some s13
theorem k_X1_setAttribute (E : Ev) {q : Nat} {x1 : Int32} {x2 : Int32} (hq : Psn q) {σ : Sg} {σ' : Sg} (h : f_X1_setAttribute q x1 x2 σ = some σ') : Con E mX1_setAttribute 0 [.ref (eA E q), .int x1, .int x2] σ none σ' := by
  refine con_of (by decide) (by decide) (fun fr cx tg => ?_)
  show GW E fr 3 0 [(0, .ref (eA E q)), (1, .int x1), (2, .int x2)] [] σ
  rw [f_X1_setAttribute] at h
  refine gw_iload_n (pc' := 1) cx 1 rfl rfl dX1_setAttribute_0 rfl ?_
  rcases ite_some h with ⟨c1, h⟩ | ⟨c1, h⟩
  · refine gw_tin (pc' := 32) (off := 31) 0 cx c1 dX1_setAttribute_1 (by decide) (by decide) ?_
    refine gw_aload_n (pc' := 33) cx 0 rfl rfl dX1_setAttribute_32 rfl ?_
    refine gw_iload_n (pc' := 34) cx 2 rfl rfl dX1_setAttribute_33 rfl ?_
    obtain ⟨s2, e3, h⟩ := lt_some h
    refine gw_put (pc' := 37) cx (atP hq) rfl fp_X1_9 ⟨rfl, rfl⟩ dX1_setAttribute_34 rfl e3 ?_
    refine gw_goto (pc' := 69) cx dX1_setAttribute_37 (by decide) ?_
    exact gw_vret cx tg rfl (rtV h) dX1_setAttribute_69
  · skip
    rcases ite_some h with ⟨c4, h⟩ | ⟨c4, h⟩
    · refine gw_tin (pc' := 40) (off := 39) 1 cx c4 dX1_setAttribute_1 (by decide) (by decide) ?_
      refine gw_aload_n (pc' := 41) cx 0 rfl rfl dX1_setAttribute_40 rfl ?_
      refine gw_iload_n (pc' := 42) cx 2 rfl rfl dX1_setAttribute_41 rfl ?_
      obtain ⟨s5, e6, h⟩ := lt_some h
      refine gw_put (pc' := 45) cx (atP hq) rfl fp_X1_15 ⟨rfl, rfl⟩ dX1_setAttribute_42 rfl e6 ?_
      refine gw_goto (pc' := 69) cx dX1_setAttribute_45 (by decide) ?_
      exact gw_vret cx tg rfl (rtV h) dX1_setAttribute_69
    · skip
      rcases ite_some h with ⟨c7, h⟩ | ⟨c7, h⟩
      · refine gw_tin (pc' := 48) (off := 47) 2 cx c7 dX1_setAttribute_1 (by decide) (by decide) ?_
        refine gw_aload_n (pc' := 49) cx 0 rfl rfl dX1_setAttribute_48 rfl ?_
        refine gw_iload_n (pc' := 50) cx 2 rfl rfl dX1_setAttribute_49 rfl ?_
        obtain ⟨s8, e9, h⟩ := lt_some h
        refine gw_put (pc' := 53) cx (atP hq) rfl fp_X1_18 ⟨rfl, rfl⟩ dX1_setAttribute_50 rfl e9 ?_
        refine gw_goto (pc' := 69) cx dX1_setAttribute_53 (by decide) ?_
        exact gw_vret cx tg rfl (rtV h) dX1_setAttribute_69
      · skip
        rcases ite_some h with ⟨c10, h⟩ | ⟨c10, h⟩
        · refine gw_tin (pc' := 56) (off := 55) 3 cx c10 dX1_setAttribute_1 (by decide) (by decide) ?_
          refine gw_aload_n (pc' := 57) cx 0 rfl rfl dX1_setAttribute_56 rfl ?_
          refine gw_iload_n (pc' := 58) cx 2 rfl rfl dX1_setAttribute_57 rfl ?_
          obtain ⟨s11, e12, h⟩ := lt_some h
          refine gw_put (pc' := 61) cx (atP hq) rfl fp_X1_21 ⟨rfl, rfl⟩ dX1_setAttribute_58 rfl e12 ?_
          refine gw_goto (pc' := 69) cx dX1_setAttribute_61 (by decide) ?_
          exact gw_vret cx tg rfl (rtV h) dX1_setAttribute_69
        · skip
          refine gw_tout (pc' := 64) cx dX1_setAttribute_1 (by have a0 := lv_neT (a := 0) c1 rfl; have a1 := lv_neT (a := 1) c4 rfl; have a2 := lv_neT (a := 2) c7 rfl; have a3 := lv_neT (a := 3) c10 rfl; omega) (by decide) ?_
          refine gw_aload_n (pc' := 65) cx 0 rfl rfl dX1_setAttribute_64 rfl ?_
          refine gw_iload_n (pc' := 66) cx 2 rfl rfl dX1_setAttribute_65 rfl ?_
          obtain ⟨s13, e14, h⟩ := lt_some h
          refine gw_put (pc' := 69) cx (atP hq) rfl fp_X1_24 ⟨rfl, rfl⟩ dX1_setAttribute_66 rfl e14 ?_
          exact gw_vret cx tg rfl (rtV h) dX1_setAttribute_69
def f_X4_within (x0 : Int32) (x1 : Int32) (x2 : Int32) (σ : Sg) : Option (Int32) :=
  if x0 < x1 then
    some 0
  else
    if x2 < x0 then
      some 0
    else
      some 1
theorem k_X4_within (E : Ev) {x0 : Int32} {x1 : Int32} {x2 : Int32} {σ : Sg} {r : Int32} (h : f_X4_within x0 x1 x2 σ = some r) : Con E mX4_within 0 [.int x0, .int x1, .int x2] σ (some (.int r)) σ := by
  refine con_of (by decide) (by decide) (fun fr cx tg => ?_)
  show GW E fr 3 0 [(0, .int x0), (1, .int x1), (2, .int x2)] [] σ
  rw [f_X4_within] at h
  refine gw_iload_n (pc' := 1) cx 0 rfl rfl dX4_within_0 rfl ?_
  refine gw_iload_n (pc' := 2) cx 1 rfl rfl dX4_within_1 rfl ?_
  rcases ite_some h with ⟨c1, h⟩ | ⟨c1, h⟩
  · refine gw_ic_lt_t (pc' := 14) cx c1 dX4_within_2 (by decide) ?_
    refine gw_iconst (pc' := 15) (v := 0) cx ci_0 dX4_within_14 rfl ?_
    exact gw_zret cx tg (Or.inl rfl) (rt0 h) rfl dX4_within_15
  · refine gw_ic_lt_f (pc' := 5) cx c1 dX4_within_2 ⟨14, by decide⟩ rfl ?_
    refine gw_iload_n (pc' := 6) cx 0 rfl rfl dX4_within_5 rfl ?_
    refine gw_iload_n (pc' := 7) cx 2 rfl rfl dX4_within_6 rfl ?_
    rcases ite_some h with ⟨c2, h⟩ | ⟨c2, h⟩
    · refine gw_ic_gt_t (pc' := 14) cx c2 dX4_within_7 (by decide) ?_
      refine gw_iconst (pc' := 15) (v := 0) cx ci_0 dX4_within_14 rfl ?_
      exact gw_zret cx tg (Or.inl rfl) (rt0 h) rfl dX4_within_15
    · refine gw_ic_gt_f (pc' := 10) cx c2 dX4_within_7 ⟨14, by decide⟩ rfl ?_
      refine gw_iconst (pc' := 11) (v := 1) cx ci_1 dX4_within_10 rfl ?_
      refine gw_goto (pc' := 15) cx dX4_within_11 (by decide) ?_
      exact gw_zret cx tg (Or.inr rfl) (rt0 h) rfl dX4_within_15
def f_X1_isOfKind_L7 (y1 : Int32) : Nat → Int32 → Int32 → Sg → Option (Int32)
  | 0, _, _, _ => none
  | n + 1, y2, y3, σ =>
    if 7 ≤ y3 then
      some 0
    else
      ob0 (f_X4_within y2 0 6 σ) fun r3 =>
      if r3 = 0 then
        some 0
      else
        if y2 = y1 then
          some 1
        else
          chk y2 7 <|
          f_X1_isOfKind_L7 y1 n (abv.getD y2.toNatClampNeg 0) (y3 + 1) σ
theorem w_X1_isOfKind_L7 {E : Ev} {fr : Fr} {r : Int32} {σ0 : Sg} (cx : Cx E mX1_isOfKind 1 fr) (tg : Tg E fr (some .boolean) (some (.int r)) σ0) (y1 : Int32) : ∀ (n : Nat) (y2 : Int32) (y3 : Int32) (σ : Sg), σ = σ0 → f_X1_isOfKind_L7 y1 n y2 y3 σ = some r → GW E fr 4 7 [(1, .int y1), (2, .int y2), (3, .int y3)] [] σ := by
  intro n
  induction n with
  | zero => intro y2 y3 σ hs h; cases (show (none : Option (Int32)) = _ from h)
  | succ n ih =>
    intro y2 y3 σ hs h
    rw [f_X1_isOfKind_L7] at h
    subst hs
      refine gw_iload_n (pc' := 8) cx 2 rfl rfl dX1_isOfKind_7 rfl ?_
      refine gw_bipush (pc' := 10) (v := 7) cx cb_7 dX1_isOfKind_8 rfl ?_
      rcases ite_some h with ⟨c1, h⟩ | ⟨c1, h⟩
      · refine gw_ic_ge_t (pc' := 42) cx c1 dX1_isOfKind_10 (by decide) ?_
        refine gw_iconst (pc' := 43) (v := 0) cx ci_0 dX1_isOfKind_42 rfl ?_
        exact gw_zret cx tg (Or.inl rfl) (rt0 h) rfl dX1_isOfKind_43
      · refine gw_ic_ge_f (pc' := 13) cx c1 dX1_isOfKind_10 ⟨42, by decide⟩ rfl ?_
        refine gw_iload_n (pc' := 14) cx 1 rfl rfl dX1_isOfKind_13 rfl ?_
        refine gw_iconst (pc' := 15) (v := 0) cx ci_0 dX1_isOfKind_14 rfl ?_
        refine gw_bipush (pc' := 17) (v := 6) cx cb_6 dX1_isOfKind_15 rfl ?_
        obtain ⟨r3, g2, h⟩ := ob0_some h
        refine gw_cN (pc' := 20) (av := [.int y2, .int 0, .int 6]) (rest := []) cx (k_X4_within E g2) (by decide) lk_X1_40 dX1_isOfKind_17 rfl (by decide) rfl ?_
        show GW E fr _ 20 _ (.int r3 :: _) _
        rcases ite_some h with ⟨c4, h⟩ | ⟨c4, h⟩
        · refine gw_if_eq_t (pc' := 42) cx c4 dX1_isOfKind_20 (by decide) ?_
          refine gw_iconst (pc' := 43) (v := 0) cx ci_0 dX1_isOfKind_42 rfl ?_
          exact gw_zret cx tg (Or.inl rfl) (rt0 h) rfl dX1_isOfKind_43
        · refine gw_if_eq_f (pc' := 23) cx c4 dX1_isOfKind_20 ⟨42, by decide⟩ rfl ?_
          refine gw_iload_n (pc' := 24) cx 1 rfl rfl dX1_isOfKind_23 rfl ?_
          refine gw_iload_n (pc' := 25) cx 0 rfl rfl dX1_isOfKind_24 rfl ?_
          rcases ite_some h with ⟨c5, h⟩ | ⟨c5, h⟩
          · refine gw_ic_ne_f (pc' := 28) cx c5 dX1_isOfKind_25 ⟨30, by decide⟩ rfl ?_
            refine gw_iconst (pc' := 29) (v := 1) cx ci_1 dX1_isOfKind_28 rfl ?_
            exact gw_zret cx tg (Or.inr rfl) (rt0 h) rfl dX1_isOfKind_29
          · refine gw_ic_ne_t (pc' := 30) cx c5 dX1_isOfKind_25 (by decide) ?_
            refine gw_above (pc' := 33) cx (fun U h => h.2.2.2.2.2) dX1_isOfKind_30 rfl ?_
            refine gw_iload_n (pc' := 34) cx 1 rfl rfl dX1_isOfKind_33 rfl ?_
            obtain ⟨i6, h⟩ := chk_some h
            refine gw_abld (pc' := 35) cx i6 dX1_isOfKind_34 rfl ?_
            refine gw_istore_n (pc' := 36) (lv' := [(2, .int (abv.getD y2.toNatClampNeg 0)), (1, .int y1), (3, .int y3)]) cx rfl rfl (by decide) dX1_isOfKind_35 rfl ?_
            refine gw_iinc (pc' := 39) (v := (y3 + 1)) (lv' := [(3, .int (y3 + 1)), (2, .int (abv.getD y2.toNatClampNeg 0)), (1, .int y1)]) cx 2 rfl rfl rfl (by decide) dX1_isOfKind_36 rfl ?_
            refine gw_goto (pc' := 7) cx dX1_isOfKind_39 (by decide) ?_
            refine gw_sub [2, 1, 0] (lv' := [(1, .int y1), (2, .int (abv.getD y2.toNatClampNeg 0)), (3, .int (y3 + 1))]) rfl ?_
            exact ih (abv.getD y2.toNatClampNeg 0) (y3 + 1) σ rfl h
def f_X1_isOfKind (q : Nat) (x1 : Int32) (σ : Sg) : Option (Int32) :=
  f_X1_isOfKind_L7 x1 FU (σ q 0) 0 σ
theorem k_X1_isOfKind (E : Ev) {q : Nat} {x1 : Int32} (hq : Psn q) {σ : Sg} {r : Int32} (h : f_X1_isOfKind q x1 σ = some r) : Con E mX1_isOfKind 1 [.ref (eA E q), .int x1] σ (some (.int r)) σ := by
  refine con_of (by decide) (by decide) (fun fr cx tg => ?_)
  show GW E fr 4 0 [(0, .ref (eA E q)), (1, .int x1)] [] σ
  rw [f_X1_isOfKind] at h
  refine gw_aload_n (pc' := 1) cx 0 rfl rfl dX1_isOfKind_0 rfl ?_
  refine gw_getI (pc' := 4) cx (atP hq) rfl fl_X1_9 dX1_isOfKind_1 rfl ?_
  refine gw_istore_n (pc' := 5) (lv' := [(2, .int (σ q 0)), (0, .ref (eA E q)), (1, .int x1)]) cx rfl rfl (by decide) dX1_isOfKind_4 rfl ?_
  refine gw_iconst (pc' := 6) (v := 0) cx ci_0 dX1_isOfKind_5 rfl ?_
  refine gw_istore_n (pc' := 7) (lv' := [(3, .int 0), (2, .int (σ q 0)), (0, .ref (eA E q)), (1, .int x1)]) cx rfl rfl (by decide) dX1_isOfKind_6 rfl ?_
  refine gw_sub [3, 1, 0] (lv' := [(1, .int x1), (2, .int (σ q 0)), (3, .int 0)]) rfl ?_
 exact w_X1_isOfKind_L7 cx tg x1 FU (σ q 0) 0 σ rfl h
def f_X4_mostOf (x0 : Int32) (σ : Sg) : Option (Int32) :=
  if x0 = 0 then
    some 6
  else
    if x0 = 2 then
      some 99
    else
      some 9999
theorem k_X4_mostOf (E : Ev) {x0 : Int32} {σ : Sg} {r : Int32} (h : f_X4_mostOf x0 σ = some r) : Con E mX4_mostOf 0 [.int x0] σ (some (.int r)) σ := by
  refine con_of (by decide) (by decide) (fun fr cx tg => ?_)
  show GW E fr 1 0 [(0, .int x0)] [] σ
  rw [f_X4_mostOf] at h
  refine gw_iload_n (pc' := 1) cx 0 rfl rfl dX4_mostOf_0 rfl ?_
  rcases ite_some h with ⟨c1, h⟩ | ⟨c1, h⟩
  · refine gw_look (pc' := 28) (off := 27) cx dX4_mostOf_1 (by decide) (by rw [c1]; decide) (by decide) ?_
    refine gw_bipush (pc' := 30) (v := 6) cx cb_6 dX4_mostOf_28 rfl ?_
    exact gw_iret cx tg (rt0 h) rfl dX4_mostOf_30
  · skip
    rcases ite_some h with ⟨c2, h⟩ | ⟨c2, h⟩
    · refine gw_look (pc' := 31) (off := 30) cx dX4_mostOf_1 (by decide) (by rw [c2]; decide) (by decide) ?_
      refine gw_bipush (pc' := 33) (v := 99) cx cb_99 dX4_mostOf_31 rfl ?_
      exact gw_iret cx tg (rt0 h) rfl dX4_mostOf_33
    · skip
      refine gw_look (pc' := 34) (off := 33) cx dX4_mostOf_1 (by decide) (by show Op.lookupswitch.offset [(0, 27), (2, 30)] 33 _ = _; rw [lv_osw c1 rfl, lv_osw c2 rfl]; rfl) (by decide) ?_
      refine gw_sipush (pc' := 37) (v := 9999) cx cs_9999 dX4_mostOf_34 rfl ?_
      exact gw_iret cx tg (rt0 h) rfl dX4_mostOf_37
def f_X3_isMissing (t : Nat) (σ : Sg) : Option (Int32) :=
  if (σ t 1) = 0 then
    some 1
  else
    some 0
theorem k_X3_isMissing (E : Ev) {t : Nat} (ht : Sht t) {σ : Sg} {r : Int32} (h : f_X3_isMissing t σ = some r) : Con E mX3_isMissing 0 [.ref (eA E t)] σ (some (.int r)) σ := by
  refine con_of (by decide) (by decide) (fun fr cx tg => ?_)
  show GW E fr 1 0 [(0, .ref (eA E t))] [] σ
  rw [f_X3_isMissing] at h
  refine gw_aload_n (pc' := 1) cx 0 rfl rfl dX3_isMissing_0 rfl ?_
  refine gw_getI (pc' := 4) cx (atS ht) rfl fl_X3_15 dX3_isMissing_1 rfl ?_
  rcases ite_some h with ⟨c1, h⟩ | ⟨c1, h⟩
  · refine gw_if_ne_f (pc' := 7) cx c1 dX3_isMissing_4 ⟨11, by decide⟩ rfl ?_
    refine gw_iconst (pc' := 8) (v := 1) cx ci_1 dX3_isMissing_7 rfl ?_
    refine gw_goto (pc' := 12) cx dX3_isMissing_8 (by decide) ?_
    exact gw_zret cx tg (Or.inr rfl) (rt0 h) rfl dX3_isMissing_12
  · refine gw_if_ne_t (pc' := 11) cx c1 dX3_isMissing_4 (by decide) ?_
    refine gw_iconst (pc' := 12) (v := 0) cx ci_0 dX3_isMissing_11 rfl ?_
    exact gw_zret cx tg (Or.inl rfl) (rt0 h) rfl dX3_isMissing_12
def f_X3_lay_L12 (c0 : Nat) : Nat → Int32 → Sg → Option (Sg)
  | 0, _, _ => none
  | n + 1, y3, σ =>
    if 40 ≤ y3 then
      some σ
    else
      chk y3 40 <|
      lt (up2 σ (c0 + 4) y3.toNatClampNeg 0) fun s7 =>
      f_X3_lay_L12 c0 n (y3 + 1) s7
theorem w_X3_lay_L12 {E : Ev} {fr : Fr} {σ' : Sg} (cx : Cx E mX3_lay 0 fr) (tg : Tg E fr none none σ') (c0 : Nat) (hc0 : Sht c0) : ∀ (n : Nat) (y3 : Int32) (σ : Sg), f_X3_lay_L12 c0 n y3 σ = some σ' → GW E fr 4 12 [(0, .ref (eA E c0)), (3, .int y3)] [] σ := by
  intro n
  induction n with
  | zero => intro y3 σ h; cases (show (none : Option (Sg)) = _ from h)
  | succ n ih =>
    intro y3 σ h
    rw [f_X3_lay_L12] at h
      refine gw_iload_n (pc' := 13) cx 1 rfl rfl dX3_lay_12 rfl ?_
      refine gw_bipush (pc' := 15) (v := 40) cx cb_40 dX3_lay_13 rfl ?_
      rcases ite_some h with ⟨c5, h⟩ | ⟨c5, h⟩
      · refine gw_ic_ge_t (pc' := 31) cx c5 dX3_lay_15 (by decide) ?_
        exact gw_vret cx tg rfl (rtV h) dX3_lay_31
      · refine gw_ic_ge_f (pc' := 18) cx c5 dX3_lay_15 ⟨31, by decide⟩ rfl ?_
        refine gw_aload_n (pc' := 19) cx 0 rfl rfl dX3_lay_18 rfl ?_
        refine gw_getR (pc' := 22) cx (atS hc0) rfl fl_X3_9 dX3_lay_19 rfl ?_
        refine gw_iload_n (pc' := 23) cx 1 rfl rfl dX3_lay_22 rfl ?_
        refine gw_iconst (pc' := 24) (v := 0) cx ci_0 dX3_lay_23 rfl ?_
        obtain ⟨i6, h⟩ := chk_some h
        obtain ⟨s7, e8, h⟩ := lt_some h
        refine gw_iast (pc' := 25) cx (atSn hc0) i6 rfl dX3_lay_24 rfl e8 ?_
        refine gw_iinc (pc' := 28) (v := (y3 + 1)) (lv' := [(3, .int (y3 + 1)), (0, .ref (eA E c0))]) cx 1 rfl rfl rfl (by decide) dX3_lay_25 rfl ?_
        refine gw_goto (pc' := 12) cx dX3_lay_28 (by decide) ?_
        refine gw_sub [1, 0] (lv' := [(0, .ref (eA E c0)), (3, .int (y3 + 1))]) rfl ?_
        exact ih (y3 + 1) s7 h
def f_X3_lay (t : Nat) (x1 : Int32) (x2 : Int32) (σ : Sg) : Option (Sg) :=
  lt (up2 σ t 1 x1) fun s1 =>
  lt (up2 s1 t 2 x2) fun s3 =>
  f_X3_lay_L12 t FU 0 s3
theorem k_X3_lay (E : Ev) {t : Nat} {x1 : Int32} {x2 : Int32} (ht : Sht t) {σ : Sg} {σ' : Sg} (h : f_X3_lay t x1 x2 σ = some σ') : Con E mX3_lay 0 [.ref (eA E t), .int x1, .int x2] σ none σ' := by
  refine con_of (by decide) (by decide) (fun fr cx tg => ?_)
  show GW E fr 4 0 [(0, .ref (eA E t)), (1, .int x1), (2, .int x2)] [] σ
  rw [f_X3_lay] at h
  refine gw_aload_n (pc' := 1) cx 0 rfl rfl dX3_lay_0 rfl ?_
  refine gw_iload_n (pc' := 2) cx 1 rfl rfl dX3_lay_1 rfl ?_
  obtain ⟨s1, e2, h⟩ := lt_some h
  refine gw_put (pc' := 5) cx (atS ht) rfl fp_X3_15 ⟨rfl, rfl⟩ dX3_lay_2 rfl e2 ?_
  refine gw_aload_n (pc' := 6) cx 0 rfl rfl dX3_lay_5 rfl ?_
  refine gw_iload_n (pc' := 7) cx 2 rfl rfl dX3_lay_6 rfl ?_
  obtain ⟨s3, e4, h⟩ := lt_some h
  refine gw_put (pc' := 10) cx (atS ht) rfl fp_X3_19 ⟨rfl, rfl⟩ dX3_lay_7 rfl e4 ?_
  refine gw_iconst (pc' := 11) (v := 0) cx ci_0 dX3_lay_10 rfl ?_
  refine gw_istore_n (pc' := 12) (lv' := [(3, .int 0), (0, .ref (eA E t)), (1, .int x1), (2, .int x2)]) cx rfl rfl (by decide) dX3_lay_11 rfl ?_
  refine gw_sub [1, 0] (lv' := [(0, .ref (eA E t)), (3, .int 0)]) rfl ?_
 exact w_X3_lay_L12 cx tg t ht FU 0 s3 h
def f_X3_put (t : Nat) (x1 : Int32) (x2 : Int32) (σ : Sg) : Option (Sg) :=
  chk x1 40 <|
  lt (up2 σ (t + 4) x1.toNatClampNeg (jshr (jshl x2 (32 - (σ t 1))) (32 - (σ t 1)))) fun s2 =>
  some s2
theorem k_X3_put (E : Ev) {t : Nat} {x1 : Int32} {x2 : Int32} (ht : Sht t) {σ : Sg} {σ' : Sg} (h : f_X3_put t x1 x2 σ = some σ') : Con E mX3_put 0 [.ref (eA E t), .int x1, .int x2] σ none σ' := by
  refine con_of (by decide) (by decide) (fun fr cx tg => ?_)
  show GW E fr 4 0 [(0, .ref (eA E t)), (1, .int x1), (2, .int x2)] [] σ
  rw [f_X3_put] at h
  refine gw_bipush (pc' := 2) (v := 32) cx cb_32 dX3_put_0 rfl ?_
  refine gw_aload_n (pc' := 3) cx 0 rfl rfl dX3_put_2 rfl ?_
  refine gw_getI (pc' := 6) cx (atS ht) rfl fl_X3_15 dX3_put_3 rfl ?_
  refine gw_isub (pc' := 7) cx dX3_put_6 rfl ?_
  refine gw_istore_n (pc' := 8) (lv' := [(3, .int (32 - (σ t 1))), (0, .ref (eA E t)), (1, .int x1), (2, .int x2)]) cx rfl rfl (by decide) dX3_put_7 rfl ?_
  refine gw_aload_n (pc' := 9) cx 1 rfl rfl dX3_put_8 rfl ?_
  refine gw_getR (pc' := 12) cx (atS ht) rfl fl_X3_9 dX3_put_9 rfl ?_
  refine gw_iload_n (pc' := 13) cx 2 rfl rfl dX3_put_12 rfl ?_
  refine gw_iload_n (pc' := 14) cx 3 rfl rfl dX3_put_13 rfl ?_
  refine gw_iload_n (pc' := 15) cx 0 rfl rfl dX3_put_14 rfl ?_
  refine gw_ishl (pc' := 16) cx dX3_put_15 rfl ?_
  refine gw_iload_n (pc' := 17) cx 0 rfl rfl dX3_put_16 rfl ?_
  refine gw_ishr (pc' := 18) cx dX3_put_17 rfl ?_
  obtain ⟨i1, h⟩ := chk_some h
  obtain ⟨s2, e3, h⟩ := lt_some h
  refine gw_iast (pc' := 19) cx (atSn ht) i1 rfl dX3_put_18 rfl e3 ?_
  exact gw_vret cx tg rfl (rtV h) dX3_put_19
def f_X3_hasRange (t : Nat) (x1 : Int32) (x2 : Int32) (σ : Sg) : Option (Int32) :=
  if x1 < 0 then
    some 0
  else
    if x2 < 0 then
      some 0
    else
      if (σ t 2) < x2 then
        some 0
      else
        if ((σ t 2) - x2) < x1 then
          some 0
        else
          some 1
theorem k_X3_hasRange (E : Ev) {t : Nat} {x1 : Int32} {x2 : Int32} (ht : Sht t) {σ : Sg} {r : Int32} (h : f_X3_hasRange t x1 x2 σ = some r) : Con E mX3_hasRange 0 [.ref (eA E t), .int x1, .int x2] σ (some (.int r)) σ := by
  refine con_of (by decide) (by decide) (fun fr cx tg => ?_)
  show GW E fr 3 0 [(0, .ref (eA E t)), (1, .int x1), (2, .int x2)] [] σ
  rw [f_X3_hasRange] at h
  refine gw_iload_n (pc' := 1) cx 1 rfl rfl dX3_hasRange_0 rfl ?_
  rcases ite_some h with ⟨c1, h⟩ | ⟨c1, h⟩
  · refine gw_if_lt_t (pc' := 30) cx c1 dX3_hasRange_1 (by decide) ?_
    refine gw_iconst (pc' := 31) (v := 0) cx ci_0 dX3_hasRange_30 rfl ?_
    exact gw_zret cx tg (Or.inl rfl) (rt0 h) rfl dX3_hasRange_31
  · refine gw_if_lt_f (pc' := 4) cx c1 dX3_hasRange_1 ⟨30, by decide⟩ rfl ?_
    refine gw_iload_n (pc' := 5) cx 2 rfl rfl dX3_hasRange_4 rfl ?_
    rcases ite_some h with ⟨c2, h⟩ | ⟨c2, h⟩
    · refine gw_if_lt_t (pc' := 30) cx c2 dX3_hasRange_5 (by decide) ?_
      refine gw_iconst (pc' := 31) (v := 0) cx ci_0 dX3_hasRange_30 rfl ?_
      exact gw_zret cx tg (Or.inl rfl) (rt0 h) rfl dX3_hasRange_31
    · refine gw_if_lt_f (pc' := 8) cx c2 dX3_hasRange_5 ⟨30, by decide⟩ rfl ?_
      refine gw_iload_n (pc' := 9) cx 2 rfl rfl dX3_hasRange_8 rfl ?_
      refine gw_aload_n (pc' := 10) cx 0 rfl rfl dX3_hasRange_9 rfl ?_
      refine gw_getI (pc' := 13) cx (atS ht) rfl fl_X3_19 dX3_hasRange_10 rfl ?_
      rcases ite_some h with ⟨c3, h⟩ | ⟨c3, h⟩
      · refine gw_ic_gt_t (pc' := 30) cx c3 dX3_hasRange_13 (by decide) ?_
        refine gw_iconst (pc' := 31) (v := 0) cx ci_0 dX3_hasRange_30 rfl ?_
        exact gw_zret cx tg (Or.inl rfl) (rt0 h) rfl dX3_hasRange_31
      · refine gw_ic_gt_f (pc' := 16) cx c3 dX3_hasRange_13 ⟨30, by decide⟩ rfl ?_
        refine gw_iload_n (pc' := 17) cx 1 rfl rfl dX3_hasRange_16 rfl ?_
        refine gw_aload_n (pc' := 18) cx 0 rfl rfl dX3_hasRange_17 rfl ?_
        refine gw_getI (pc' := 21) cx (atS ht) rfl fl_X3_19 dX3_hasRange_18 rfl ?_
        refine gw_iload_n (pc' := 22) cx 2 rfl rfl dX3_hasRange_21 rfl ?_
        refine gw_isub (pc' := 23) cx dX3_hasRange_22 rfl ?_
        rcases ite_some h with ⟨c4, h⟩ | ⟨c4, h⟩
        · refine gw_ic_gt_t (pc' := 30) cx c4 dX3_hasRange_23 (by decide) ?_
          refine gw_iconst (pc' := 31) (v := 0) cx ci_0 dX3_hasRange_30 rfl ?_
          exact gw_zret cx tg (Or.inl rfl) (rt0 h) rfl dX3_hasRange_31
        · refine gw_ic_gt_f (pc' := 26) cx c4 dX3_hasRange_23 ⟨30, by decide⟩ rfl ?_
          refine gw_iconst (pc' := 27) (v := 1) cx ci_1 dX3_hasRange_26 rfl ?_
          refine gw_goto (pc' := 31) cx dX3_hasRange_27 (by decide) ?_
          exact gw_zret cx tg (Or.inr rfl) (rt0 h) rfl dX3_hasRange_31
def f_J6_bitCount_0f7a4 (x0 : Int32) (σ : Sg) : Option (Int32) :=
  some ((((((((x0 - ((jushr x0 1) &&& 1431655765)) &&& 858993459) + ((jushr (x0 - ((jushr x0 1) &&& 1431655765)) 2) &&& 858993459)) + (jushr (((x0 - ((jushr x0 1) &&& 1431655765)) &&& 858993459) + ((jushr (x0 - ((jushr x0 1) &&& 1431655765)) 2) &&& 858993459)) 4)) &&& 252645135) + (jushr (((((x0 - ((jushr x0 1) &&& 1431655765)) &&& 858993459) + ((jushr (x0 - ((jushr x0 1) &&& 1431655765)) 2) &&& 858993459)) + (jushr (((x0 - ((jushr x0 1) &&& 1431655765)) &&& 858993459) + ((jushr (x0 - ((jushr x0 1) &&& 1431655765)) 2) &&& 858993459)) 4)) &&& 252645135) 8)) + (jushr ((((((x0 - ((jushr x0 1) &&& 1431655765)) &&& 858993459) + ((jushr (x0 - ((jushr x0 1) &&& 1431655765)) 2) &&& 858993459)) + (jushr (((x0 - ((jushr x0 1) &&& 1431655765)) &&& 858993459) + ((jushr (x0 - ((jushr x0 1) &&& 1431655765)) 2) &&& 858993459)) 4)) &&& 252645135) + (jushr (((((x0 - ((jushr x0 1) &&& 1431655765)) &&& 858993459) + ((jushr (x0 - ((jushr x0 1) &&& 1431655765)) 2) &&& 858993459)) + (jushr (((x0 - ((jushr x0 1) &&& 1431655765)) &&& 858993459) + ((jushr (x0 - ((jushr x0 1) &&& 1431655765)) 2) &&& 858993459)) 4)) &&& 252645135) 8)) 16)) &&& 63)
theorem k_J6_bitCount_0f7a4 (E : Ev) {x0 : Int32} {σ : Sg} {r : Int32} (h : f_J6_bitCount_0f7a4 x0 σ = some r) : Con E mJ6_bitCount_0f7a4 0 [.int x0] σ (some (.int r)) σ := by
  refine con_of (by decide) (by decide) (fun fr cx tg => ?_)
  show GW E fr 1 0 [(0, .int x0)] [] σ
  rw [f_J6_bitCount_0f7a4] at h
  refine gw_iload_n (pc' := 1) cx 0 rfl rfl dJ6_bitCount_0f7a4_0 rfl ?_
  refine gw_iload_n (pc' := 2) cx 0 rfl rfl dJ6_bitCount_0f7a4_1 rfl ?_
  refine gw_iconst (pc' := 3) (v := 1) cx ci_1 dJ6_bitCount_0f7a4_2 rfl ?_
  refine gw_iushr (pc' := 4) cx dJ6_bitCount_0f7a4_3 rfl ?_
  refine gw_ldc_w (pc' := 7) (v := 1431655765) cx ct_J6_265 dJ6_bitCount_0f7a4_4 rfl ?_
  refine gw_iand (pc' := 8) cx dJ6_bitCount_0f7a4_7 rfl ?_
  refine gw_isub (pc' := 9) cx dJ6_bitCount_0f7a4_8 rfl ?_
  refine gw_istore_n (pc' := 10) (lv' := [(0, .int (x0 - ((jushr x0 1) &&& 1431655765)))]) cx rfl rfl (by decide) dJ6_bitCount_0f7a4_9 rfl ?_
  refine gw_iload_n (pc' := 11) cx 0 rfl rfl dJ6_bitCount_0f7a4_10 rfl ?_
  refine gw_ldc_w (pc' := 14) (v := 858993459) cx ct_J6_266 dJ6_bitCount_0f7a4_11 rfl ?_
  refine gw_iand (pc' := 15) cx dJ6_bitCount_0f7a4_14 rfl ?_
  refine gw_iload_n (pc' := 16) cx 0 rfl rfl dJ6_bitCount_0f7a4_15 rfl ?_
  refine gw_iconst (pc' := 17) (v := 2) cx ci_2 dJ6_bitCount_0f7a4_16 rfl ?_
  refine gw_iushr (pc' := 18) cx dJ6_bitCount_0f7a4_17 rfl ?_
  refine gw_ldc_w (pc' := 21) (v := 858993459) cx ct_J6_266 dJ6_bitCount_0f7a4_18 rfl ?_
  refine gw_iand (pc' := 22) cx dJ6_bitCount_0f7a4_21 rfl ?_
  refine gw_iadd (pc' := 23) cx dJ6_bitCount_0f7a4_22 rfl ?_
  refine gw_istore_n (pc' := 24) (lv' := [(0, .int (((x0 - ((jushr x0 1) &&& 1431655765)) &&& 858993459) + ((jushr (x0 - ((jushr x0 1) &&& 1431655765)) 2) &&& 858993459)))]) cx rfl rfl (by decide) dJ6_bitCount_0f7a4_23 rfl ?_
  refine gw_iload_n (pc' := 25) cx 0 rfl rfl dJ6_bitCount_0f7a4_24 rfl ?_
  refine gw_iload_n (pc' := 26) cx 0 rfl rfl dJ6_bitCount_0f7a4_25 rfl ?_
  refine gw_iconst (pc' := 27) (v := 4) cx ci_4 dJ6_bitCount_0f7a4_26 rfl ?_
  refine gw_iushr (pc' := 28) cx dJ6_bitCount_0f7a4_27 rfl ?_
  refine gw_iadd (pc' := 29) cx dJ6_bitCount_0f7a4_28 rfl ?_
  refine gw_ldc_w (pc' := 32) (v := 252645135) cx ct_J6_267 dJ6_bitCount_0f7a4_29 rfl ?_
  refine gw_iand (pc' := 33) cx dJ6_bitCount_0f7a4_32 rfl ?_
  refine gw_istore_n (pc' := 34) (lv' := [(0, .int (((((x0 - ((jushr x0 1) &&& 1431655765)) &&& 858993459) + ((jushr (x0 - ((jushr x0 1) &&& 1431655765)) 2) &&& 858993459)) + (jushr (((x0 - ((jushr x0 1) &&& 1431655765)) &&& 858993459) + ((jushr (x0 - ((jushr x0 1) &&& 1431655765)) 2) &&& 858993459)) 4)) &&& 252645135))]) cx rfl rfl (by decide) dJ6_bitCount_0f7a4_33 rfl ?_
  refine gw_iload_n (pc' := 35) cx 0 rfl rfl dJ6_bitCount_0f7a4_34 rfl ?_
  refine gw_iload_n (pc' := 36) cx 0 rfl rfl dJ6_bitCount_0f7a4_35 rfl ?_
  refine gw_bipush (pc' := 38) (v := 8) cx cb_8 dJ6_bitCount_0f7a4_36 rfl ?_
  refine gw_iushr (pc' := 39) cx dJ6_bitCount_0f7a4_38 rfl ?_
  refine gw_iadd (pc' := 40) cx dJ6_bitCount_0f7a4_39 rfl ?_
  refine gw_istore_n (pc' := 41) (lv' := [(0, .int ((((((x0 - ((jushr x0 1) &&& 1431655765)) &&& 858993459) + ((jushr (x0 - ((jushr x0 1) &&& 1431655765)) 2) &&& 858993459)) + (jushr (((x0 - ((jushr x0 1) &&& 1431655765)) &&& 858993459) + ((jushr (x0 - ((jushr x0 1) &&& 1431655765)) 2) &&& 858993459)) 4)) &&& 252645135) + (jushr (((((x0 - ((jushr x0 1) &&& 1431655765)) &&& 858993459) + ((jushr (x0 - ((jushr x0 1) &&& 1431655765)) 2) &&& 858993459)) + (jushr (((x0 - ((jushr x0 1) &&& 1431655765)) &&& 858993459) + ((jushr (x0 - ((jushr x0 1) &&& 1431655765)) 2) &&& 858993459)) 4)) &&& 252645135) 8)))]) cx rfl rfl (by decide) dJ6_bitCount_0f7a4_40 rfl ?_
  refine gw_iload_n (pc' := 42) cx 0 rfl rfl dJ6_bitCount_0f7a4_41 rfl ?_
  refine gw_iload_n (pc' := 43) cx 0 rfl rfl dJ6_bitCount_0f7a4_42 rfl ?_
  refine gw_bipush (pc' := 45) (v := 16) cx cb_16 dJ6_bitCount_0f7a4_43 rfl ?_
  refine gw_iushr (pc' := 46) cx dJ6_bitCount_0f7a4_45 rfl ?_
  refine gw_iadd (pc' := 47) cx dJ6_bitCount_0f7a4_46 rfl ?_
  refine gw_istore_n (pc' := 48) (lv' := [(0, .int (((((((x0 - ((jushr x0 1) &&& 1431655765)) &&& 858993459) + ((jushr (x0 - ((jushr x0 1) &&& 1431655765)) 2) &&& 858993459)) + (jushr (((x0 - ((jushr x0 1) &&& 1431655765)) &&& 858993459) + ((jushr (x0 - ((jushr x0 1) &&& 1431655765)) 2) &&& 858993459)) 4)) &&& 252645135) + (jushr (((((x0 - ((jushr x0 1) &&& 1431655765)) &&& 858993459) + ((jushr (x0 - ((jushr x0 1) &&& 1431655765)) 2) &&& 858993459)) + (jushr (((x0 - ((jushr x0 1) &&& 1431655765)) &&& 858993459) + ((jushr (x0 - ((jushr x0 1) &&& 1431655765)) 2) &&& 858993459)) 4)) &&& 252645135) 8)) + (jushr ((((((x0 - ((jushr x0 1) &&& 1431655765)) &&& 858993459) + ((jushr (x0 - ((jushr x0 1) &&& 1431655765)) 2) &&& 858993459)) + (jushr (((x0 - ((jushr x0 1) &&& 1431655765)) &&& 858993459) + ((jushr (x0 - ((jushr x0 1) &&& 1431655765)) 2) &&& 858993459)) 4)) &&& 252645135) + (jushr (((((x0 - ((jushr x0 1) &&& 1431655765)) &&& 858993459) + ((jushr (x0 - ((jushr x0 1) &&& 1431655765)) 2) &&& 858993459)) + (jushr (((x0 - ((jushr x0 1) &&& 1431655765)) &&& 858993459) + ((jushr (x0 - ((jushr x0 1) &&& 1431655765)) 2) &&& 858993459)) 4)) &&& 252645135) 8)) 16)))]) cx rfl rfl (by decide) dJ6_bitCount_0f7a4_47 rfl ?_
  refine gw_iload_n (pc' := 49) cx 0 rfl rfl dJ6_bitCount_0f7a4_48 rfl ?_
  refine gw_bipush (pc' := 51) (v := 63) cx cb_63 dJ6_bitCount_0f7a4_49 rfl ?_
  refine gw_iand (pc' := 52) cx dJ6_bitCount_0f7a4_51 rfl ?_
  exact gw_iret cx tg (rt0 h) rfl dJ6_bitCount_0f7a4_52
end
