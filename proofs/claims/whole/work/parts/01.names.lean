def lw_okq (q : MethodName × Nat) : Prop := (q.1.cls ≠ "java/lang/invoke/MethodHandle" ∧ q.1.cls ≠ "java/lang/invoke/VarHandle") ∧ Cond.instantiable q.1.cls q.2 ∈ tables_1 ∧ Cond.privateMethod q.1 ∈ tables_1 ∧ Cond.instanceMethod q.1 ∈ tables_1
theorem lw_p0 : lw_okq (⟨"ChronicleWar$Text", "readToken", "()V"⟩, 8) := ⟨⟨by decide +kernel, by decide +kernel⟩, List.mem_of_getElem? (i := 154) (by decide +kernel), List.mem_of_getElem? (i := 276) (by decide +kernel), List.mem_of_getElem? (i := 277) (by decide +kernel)⟩
theorem lw_p1 : lw_okq (⟨"ChronicleWar$Text", "skipBlanks", "()V"⟩, 8) := ⟨⟨by decide +kernel, by decide +kernel⟩, List.mem_of_getElem? (i := 154) (by decide +kernel), List.mem_of_getElem? (i := 280) (by decide +kernel), List.mem_of_getElem? (i := 281) (by decide +kernel)⟩
theorem lw_p2 : lw_okq (⟨"ChronicleWar$Text", "readDigits", "()V"⟩, 8) := ⟨⟨by decide +kernel, by decide +kernel⟩, List.mem_of_getElem? (i := 154) (by decide +kernel), List.mem_of_getElem? (i := 287) (by decide +kernel), List.mem_of_getElem? (i := 288) (by decide +kernel)⟩
theorem lw_p3 : lw_okq (⟨"ChronicleWar$Text", "readItem", "(I)Z"⟩, 8) := ⟨⟨by decide +kernel, by decide +kernel⟩, List.mem_of_getElem? (i := 154) (by decide +kernel), List.mem_of_getElem? (i := 291) (by decide +kernel), List.mem_of_getElem? (i := 292) (by decide +kernel)⟩
theorem lw_p4 : lw_okq (⟨"ChronicleWar$Text", "readFields", "()Z"⟩, 8) := ⟨⟨by decide +kernel, by decide +kernel⟩, List.mem_of_getElem? (i := 154) (by decide +kernel), List.mem_of_getElem? (i := 295) (by decide +kernel), List.mem_of_getElem? (i := 296) (by decide +kernel)⟩
theorem lw_p5 : lw_okq (⟨"ChronicleWar$Text", "readNumber", "(II)Z"⟩, 8) := ⟨⟨by decide +kernel, by decide +kernel⟩, List.mem_of_getElem? (i := 154) (by decide +kernel), List.mem_of_getElem? (i := 299) (by decide +kernel), List.mem_of_getElem? (i := 300) (by decide +kernel)⟩
theorem lw_p6 : lw_okq (⟨"ChronicleWar$Text", "readItemEnd", "()Z"⟩, 8) := ⟨⟨by decide +kernel, by decide +kernel⟩, List.mem_of_getElem? (i := 154) (by decide +kernel), List.mem_of_getElem? (i := 303) (by decide +kernel), List.mem_of_getElem? (i := 304) (by decide +kernel)⟩
theorem lw_p7 : lw_okq (⟨"ChronicleWar$Text", "readRoad", "()Z"⟩, 8) := ⟨⟨by decide +kernel, by decide +kernel⟩, List.mem_of_getElem? (i := 154) (by decide +kernel), List.mem_of_getElem? (i := 307) (by decide +kernel), List.mem_of_getElem? (i := 308) (by decide +kernel)⟩
theorem lw_p8 : lw_okq (⟨"ChronicleWar$Text", "readField", "()Z"⟩, 8) := ⟨⟨by decide +kernel, by decide +kernel⟩, List.mem_of_getElem? (i := 154) (by decide +kernel), List.mem_of_getElem? (i := 311) (by decide +kernel), List.mem_of_getElem? (i := 312) (by decide +kernel)⟩
theorem lw_p9 : lw_okq (⟨"ChronicleWar$Text", "readArmy", "()Z"⟩, 8) := ⟨⟨by decide +kernel, by decide +kernel⟩, List.mem_of_getElem? (i := 154) (by decide +kernel), List.mem_of_getElem? (i := 324) (by decide +kernel), List.mem_of_getElem? (i := 325) (by decide +kernel)⟩
theorem lw_p10 : lw_okq (⟨"ChronicleWar$Text", "readPage", "()Z"⟩, 8) := ⟨⟨by decide +kernel, by decide +kernel⟩, List.mem_of_getElem? (i := 154) (by decide +kernel), List.mem_of_getElem? (i := 332) (by decide +kernel), List.mem_of_getElem? (i := 333) (by decide +kernel)⟩
theorem lw_p11 : lw_okq (⟨"ChronicleWar$Armies", "loseAt", "(III)V"⟩, 4) := ⟨⟨by decide +kernel, by decide +kernel⟩, List.mem_of_getElem? (i := 48) (by decide +kernel), List.mem_of_getElem? (i := 506) (by decide +kernel), List.mem_of_getElem? (i := 507) (by decide +kernel)⟩
theorem lw_p12 : lw_okq (⟨"ChronicleWar$Now", "forgetOrders", "()V"⟩, 5) := ⟨⟨by decide +kernel, by decide +kernel⟩, List.mem_of_getElem? (i := 42) (by decide +kernel), List.mem_of_getElem? (i := 514) (by decide +kernel), List.mem_of_getElem? (i := 515) (by decide +kernel)⟩
theorem lw_p13 : lw_okq (⟨"ChronicleWar$Land", "aDayFurther", "(I)I"⟩, 2) := ⟨⟨by decide +kernel, by decide +kernel⟩, List.mem_of_getElem? (i := 26) (by decide +kernel), List.mem_of_getElem? (i := 622) (by decide +kernel), List.mem_of_getElem? (i := 623) (by decide +kernel)⟩
theorem lw_p14 : lw_okq (⟨"ChronicleWar", "rateTroop", "(I)I"⟩, 6) := ⟨⟨by decide +kernel, by decide +kernel⟩, List.mem_of_getElem? (i := 18) (by decide +kernel), List.mem_of_getElem? (i := 630) (by decide +kernel), List.mem_of_getElem? (i := 631) (by decide +kernel)⟩
theorem lw_p15 : lw_okq (⟨"ChronicleWar", "rateArchers", "(I)I"⟩, 6) := ⟨⟨by decide +kernel, by decide +kernel⟩, List.mem_of_getElem? (i := 18) (by decide +kernel), List.mem_of_getElem? (i := 634) (by decide +kernel), List.mem_of_getElem? (i := 635) (by decide +kernel)⟩
def lw_privs_1 : List (MethodName × Nat) := [(⟨"ChronicleWar$Text", "readToken", "()V"⟩, 8), (⟨"ChronicleWar$Text", "skipBlanks", "()V"⟩, 8), (⟨"ChronicleWar$Text", "readDigits", "()V"⟩, 8), (⟨"ChronicleWar$Text", "readItem", "(I)Z"⟩, 8), (⟨"ChronicleWar$Text", "readFields", "()Z"⟩, 8), (⟨"ChronicleWar$Text", "readNumber", "(II)Z"⟩, 8), (⟨"ChronicleWar$Text", "readItemEnd", "()Z"⟩, 8), (⟨"ChronicleWar$Text", "readRoad", "()Z"⟩, 8), (⟨"ChronicleWar$Text", "readField", "()Z"⟩, 8), (⟨"ChronicleWar$Text", "readArmy", "()Z"⟩, 8), (⟨"ChronicleWar$Text", "readPage", "()Z"⟩, 8), (⟨"ChronicleWar$Armies", "loseAt", "(III)V"⟩, 4), (⟨"ChronicleWar$Now", "forgetOrders", "()V"⟩, 5), (⟨"ChronicleWar$Land", "aDayFurther", "(I)I"⟩, 2), (⟨"ChronicleWar", "rateTroop", "(I)I"⟩, 6), (⟨"ChronicleWar", "rateArchers", "(I)I"⟩, 6)]
theorem lw_r1 : ∀ q ∈ lw_privs_1, lw_okq q := List.forall_mem_cons.mpr ⟨lw_p0, List.forall_mem_cons.mpr ⟨lw_p1, List.forall_mem_cons.mpr ⟨lw_p2, List.forall_mem_cons.mpr ⟨lw_p3, List.forall_mem_cons.mpr ⟨lw_p4, List.forall_mem_cons.mpr ⟨lw_p5, List.forall_mem_cons.mpr ⟨lw_p6, List.forall_mem_cons.mpr ⟨lw_p7, List.forall_mem_cons.mpr ⟨lw_p8, List.forall_mem_cons.mpr ⟨lw_p9, List.forall_mem_cons.mpr ⟨lw_p10, List.forall_mem_cons.mpr ⟨lw_p11, List.forall_mem_cons.mpr ⟨lw_p12, List.forall_mem_cons.mpr ⟨lw_p13, List.forall_mem_cons.mpr ⟨lw_p14, List.forall_mem_cons.mpr ⟨lw_p15, fun _ h => absurd h List.not_mem_nil⟩⟩⟩⟩⟩⟩⟩⟩⟩⟩⟩⟩⟩⟩⟩⟩
theorem lw_p16 : lw_okq (⟨"ChronicleWar", "rateSiege", "(I)I"⟩, 6) := ⟨⟨by decide +kernel, by decide +kernel⟩, List.mem_of_getElem? (i := 18) (by decide +kernel), List.mem_of_getElem? (i := 639) (by decide +kernel), List.mem_of_getElem? (i := 640) (by decide +kernel)⟩
theorem lw_p17 : lw_okq (⟨"ChronicleWar", "rateMarginalArchers", "(I)I"⟩, 6) := ⟨⟨by decide +kernel, by decide +kernel⟩, List.mem_of_getElem? (i := 18) (by decide +kernel), List.mem_of_getElem? (i := 644) (by decide +kernel), List.mem_of_getElem? (i := 645) (by decide +kernel)⟩
theorem lw_p18 : lw_okq (⟨"ChronicleWar", "rateBaggage", "(I)I"⟩, 6) := ⟨⟨by decide +kernel, by decide +kernel⟩, List.mem_of_getElem? (i := 18) (by decide +kernel), List.mem_of_getElem? (i := 649) (by decide +kernel), List.mem_of_getElem? (i := 650) (by decide +kernel)⟩
theorem lw_p19 : lw_okq (⟨"ChronicleWar", "rateMarshal", "(I)I"⟩, 6) := ⟨⟨by decide +kernel, by decide +kernel⟩, List.mem_of_getElem? (i := 18) (by decide +kernel), List.mem_of_getElem? (i := 654) (by decide +kernel), List.mem_of_getElem? (i := 655) (by decide +kernel)⟩
theorem lw_p20 : lw_okq (⟨"ChronicleWarModel", "next", "()V"⟩, 26) := ⟨⟨by decide +kernel, by decide +kernel⟩, List.mem_of_getElem? (i := 685) (by decide +kernel), List.mem_of_getElem? (i := 785) (by decide +kernel), List.mem_of_getElem? (i := 786) (by decide +kernel)⟩
theorem lw_p21 : lw_okq (⟨"ChronicleWarModel", "letterAt", "(I)I"⟩, 26) := ⟨⟨by decide +kernel, by decide +kernel⟩, List.mem_of_getElem? (i := 685) (by decide +kernel), List.mem_of_getElem? (i := 789) (by decide +kernel), List.mem_of_getElem? (i := 790) (by decide +kernel)⟩
theorem lw_p22 : lw_okq (⟨"ChronicleWarModel", "readItem", "(Z)V"⟩, 26) := ⟨⟨by decide +kernel, by decide +kernel⟩, List.mem_of_getElem? (i := 685) (by decide +kernel), List.mem_of_getElem? (i := 793) (by decide +kernel), List.mem_of_getElem? (i := 794) (by decide +kernel)⟩
theorem lw_p23 : lw_okq (⟨"ChronicleWarModel", "readFields", "(Z)V"⟩, 26) := ⟨⟨by decide +kernel, by decide +kernel⟩, List.mem_of_getElem? (i := 685) (by decide +kernel), List.mem_of_getElem? (i := 797) (by decide +kernel), List.mem_of_getElem? (i := 798) (by decide +kernel)⟩
theorem lw_p24 : lw_okq (⟨"ChronicleWarModel", "must", "(Z)V"⟩, 26) := ⟨⟨by decide +kernel, by decide +kernel⟩, List.mem_of_getElem? (i := 685) (by decide +kernel), List.mem_of_getElem? (i := 801) (by decide +kernel), List.mem_of_getElem? (i := 802) (by decide +kernel)⟩
theorem lw_p25 : lw_okq (⟨"ChronicleWarModel", "readInto", "([IIII)I"⟩, 26) := ⟨⟨by decide +kernel, by decide +kernel⟩, List.mem_of_getElem? (i := 685) (by decide +kernel), List.mem_of_getElem? (i := 805) (by decide +kernel), List.mem_of_getElem? (i := 806) (by decide +kernel)⟩
theorem lw_p26 : lw_okq (⟨"ChronicleWarModel", "readRoad", "()V"⟩, 26) := ⟨⟨by decide +kernel, by decide +kernel⟩, List.mem_of_getElem? (i := 685) (by decide +kernel), List.mem_of_getElem? (i := 809) (by decide +kernel), List.mem_of_getElem? (i := 810) (by decide +kernel)⟩
theorem lw_p27 : lw_okq (⟨"ChronicleWarModel", "readArmy", "()V"⟩, 26) := ⟨⟨by decide +kernel, by decide +kernel⟩, List.mem_of_getElem? (i := 685) (by decide +kernel), List.mem_of_getElem? (i := 813) (by decide +kernel), List.mem_of_getElem? (i := 814) (by decide +kernel)⟩
theorem lw_p28 : lw_okq (⟨"ChronicleWarModel", "readPage", "()V"⟩, 26) := ⟨⟨by decide +kernel, by decide +kernel⟩, List.mem_of_getElem? (i := 685) (by decide +kernel), List.mem_of_getElem? (i := 817) (by decide +kernel), List.mem_of_getElem? (i := 818) (by decide +kernel)⟩
theorem lw_p29 : lw_okq (⟨"ChronicleWarModel", "isField", "(I)Z"⟩, 26) := ⟨⟨by decide +kernel, by decide +kernel⟩, List.mem_of_getElem? (i := 685) (by decide +kernel), List.mem_of_getElem? (i := 825) (by decide +kernel), List.mem_of_getElem? (i := 826) (by decide +kernel)⟩
theorem lw_p30 : lw_okq (⟨"ChronicleWarModel", "isArmy", "(I)Z"⟩, 26) := ⟨⟨by decide +kernel, by decide +kernel⟩, List.mem_of_getElem? (i := 685) (by decide +kernel), List.mem_of_getElem? (i := 833) (by decide +kernel), List.mem_of_getElem? (i := 834) (by decide +kernel)⟩
theorem lw_p31 : lw_okq (⟨"ChronicleWarModel", "isPage", "(I)Z"⟩, 26) := ⟨⟨by decide +kernel, by decide +kernel⟩, List.mem_of_getElem? (i := 685) (by decide +kernel), List.mem_of_getElem? (i := 841) (by decide +kernel), List.mem_of_getElem? (i := 842) (by decide +kernel)⟩
def lw_privs_2 : List (MethodName × Nat) := [(⟨"ChronicleWar", "rateSiege", "(I)I"⟩, 6), (⟨"ChronicleWar", "rateMarginalArchers", "(I)I"⟩, 6), (⟨"ChronicleWar", "rateBaggage", "(I)I"⟩, 6), (⟨"ChronicleWar", "rateMarshal", "(I)I"⟩, 6), (⟨"ChronicleWarModel", "next", "()V"⟩, 26), (⟨"ChronicleWarModel", "letterAt", "(I)I"⟩, 26), (⟨"ChronicleWarModel", "readItem", "(Z)V"⟩, 26), (⟨"ChronicleWarModel", "readFields", "(Z)V"⟩, 26), (⟨"ChronicleWarModel", "must", "(Z)V"⟩, 26), (⟨"ChronicleWarModel", "readInto", "([IIII)I"⟩, 26), (⟨"ChronicleWarModel", "readRoad", "()V"⟩, 26), (⟨"ChronicleWarModel", "readArmy", "()V"⟩, 26), (⟨"ChronicleWarModel", "readPage", "()V"⟩, 26), (⟨"ChronicleWarModel", "isField", "(I)Z"⟩, 26), (⟨"ChronicleWarModel", "isArmy", "(I)Z"⟩, 26), (⟨"ChronicleWarModel", "isPage", "(I)Z"⟩, 26)]
theorem lw_r2 : ∀ q ∈ lw_privs_2, lw_okq q := List.forall_mem_cons.mpr ⟨lw_p16, List.forall_mem_cons.mpr ⟨lw_p17, List.forall_mem_cons.mpr ⟨lw_p18, List.forall_mem_cons.mpr ⟨lw_p19, List.forall_mem_cons.mpr ⟨lw_p20, List.forall_mem_cons.mpr ⟨lw_p21, List.forall_mem_cons.mpr ⟨lw_p22, List.forall_mem_cons.mpr ⟨lw_p23, List.forall_mem_cons.mpr ⟨lw_p24, List.forall_mem_cons.mpr ⟨lw_p25, List.forall_mem_cons.mpr ⟨lw_p26, List.forall_mem_cons.mpr ⟨lw_p27, List.forall_mem_cons.mpr ⟨lw_p28, List.forall_mem_cons.mpr ⟨lw_p29, List.forall_mem_cons.mpr ⟨lw_p30, List.forall_mem_cons.mpr ⟨lw_p31, fun _ h => absurd h List.not_mem_nil⟩⟩⟩⟩⟩⟩⟩⟩⟩⟩⟩⟩⟩⟩⟩⟩
theorem lw_p32 : lw_okq (⟨"ChronicleWarModel", "isGone", "(I)Z"⟩, 26) := ⟨⟨by decide +kernel, by decide +kernel⟩, List.mem_of_getElem? (i := 685) (by decide +kernel), List.mem_of_getElem? (i := 845) (by decide +kernel), List.mem_of_getElem? (i := 846) (by decide +kernel)⟩
theorem lw_p33 : lw_okq (⟨"ChronicleWarModel", "isBroken", "(I)Z"⟩, 26) := ⟨⟨by decide +kernel, by decide +kernel⟩, List.mem_of_getElem? (i := 685) (by decide +kernel), List.mem_of_getElem? (i := 849) (by decide +kernel), List.mem_of_getElem? (i := 850) (by decide +kernel)⟩
theorem lw_p34 : lw_okq (⟨"ChronicleWarModel", "isFulfilledBy", "(II)Z"⟩, 26) := ⟨⟨by decide +kernel, by decide +kernel⟩, List.mem_of_getElem? (i := 685) (by decide +kernel), List.mem_of_getElem? (i := 853) (by decide +kernel), List.mem_of_getElem? (i := 854) (by decide +kernel)⟩
theorem lw_p35 : lw_okq (⟨"ChronicleWarModel", "isSo", "(IIII)Z"⟩, 26) := ⟨⟨by decide +kernel, by decide +kernel⟩, List.mem_of_getElem? (i := 685) (by decide +kernel), List.mem_of_getElem? (i := 857) (by decide +kernel), List.mem_of_getElem? (i := 858) (by decide +kernel)⟩
theorem lw_p36 : lw_okq (⟨"ChronicleWarModel", "troopsOf", "(I)I"⟩, 26) := ⟨⟨by decide +kernel, by decide +kernel⟩, List.mem_of_getElem? (i := 685) (by decide +kernel), List.mem_of_getElem? (i := 868) (by decide +kernel), List.mem_of_getElem? (i := 869) (by decide +kernel)⟩
theorem lw_p37 : lw_okq (⟨"ChronicleWarModel", "isOrderNow", "(II)Z"⟩, 26) := ⟨⟨by decide +kernel, by decide +kernel⟩, List.mem_of_getElem? (i := 685) (by decide +kernel), List.mem_of_getElem? (i := 884) (by decide +kernel), List.mem_of_getElem? (i := 885) (by decide +kernel)⟩
theorem lw_p38 : lw_okq (⟨"ChronicleWarModel", "layNow", "()V"⟩, 26) := ⟨⟨by decide +kernel, by decide +kernel⟩, List.mem_of_getElem? (i := 685) (by decide +kernel), List.mem_of_getElem? (i := 888) (by decide +kernel), List.mem_of_getElem? (i := 889) (by decide +kernel)⟩
theorem lw_p39 : lw_okq (⟨"ChronicleWarModel", "isOrder", "(III)Z"⟩, 26) := ⟨⟨by decide +kernel, by decide +kernel⟩, List.mem_of_getElem? (i := 685) (by decide +kernel), List.mem_of_getElem? (i := 892) (by decide +kernel), List.mem_of_getElem? (i := 893) (by decide +kernel)⟩
theorem lw_p40 : lw_okq (⟨"ChronicleWarModel", "isOver", "()Z"⟩, 26) := ⟨⟨by decide +kernel, by decide +kernel⟩, List.mem_of_getElem? (i := 685) (by decide +kernel), List.mem_of_getElem? (i := 896) (by decide +kernel), List.mem_of_getElem? (i := 897) (by decide +kernel)⟩
theorem lw_p41 : lw_okq (⟨"ChronicleWarModel", "remembers", "()V"⟩, 26) := ⟨⟨by decide +kernel, by decide +kernel⟩, List.mem_of_getElem? (i := 685) (by decide +kernel), List.mem_of_getElem? (i := 900) (by decide +kernel), List.mem_of_getElem? (i := 901) (by decide +kernel)⟩
theorem lw_p42 : lw_okq (⟨"ChronicleWarModel", "goes", "(III)I"⟩, 26) := ⟨⟨by decide +kernel, by decide +kernel⟩, List.mem_of_getElem? (i := 685) (by decide +kernel), List.mem_of_getElem? (i := 908) (by decide +kernel), List.mem_of_getElem? (i := 909) (by decide +kernel)⟩
theorem lw_p43 : lw_okq (⟨"ChronicleWarModel", "marches", "(II)V"⟩, 26) := ⟨⟨by decide +kernel, by decide +kernel⟩, List.mem_of_getElem? (i := 685) (by decide +kernel), List.mem_of_getElem? (i := 912) (by decide +kernel), List.mem_of_getElem? (i := 913) (by decide +kernel)⟩
theorem lw_p44 : lw_okq (⟨"ChronicleWarModel", "strength", "(III)I"⟩, 26) := ⟨⟨by decide +kernel, by decide +kernel⟩, List.mem_of_getElem? (i := 685) (by decide +kernel), List.mem_of_getElem? (i := 916) (by decide +kernel), List.mem_of_getElem? (i := 917) (by decide +kernel)⟩
theorem lw_p45 : lw_okq (⟨"ChronicleWarModel", "loses", "(IIII)V"⟩, 26) := ⟨⟨by decide +kernel, by decide +kernel⟩, List.mem_of_getElem? (i := 685) (by decide +kernel), List.mem_of_getElem? (i := 920) (by decide +kernel), List.mem_of_getElem? (i := 921) (by decide +kernel)⟩
theorem lw_p46 : lw_okq (⟨"ChronicleWarModel", "nextOrder", "(III)I"⟩, 26) := ⟨⟨by decide +kernel, by decide +kernel⟩, List.mem_of_getElem? (i := 685) (by decide +kernel), List.mem_of_getElem? (i := 943) (by decide +kernel), List.mem_of_getElem? (i := 944) (by decide +kernel)⟩
theorem lw_p47 : lw_okq (⟨"ChronicleWarModel", "isDutiful", "(III)Z"⟩, 26) := ⟨⟨by decide +kernel, by decide +kernel⟩, List.mem_of_getElem? (i := 685) (by decide +kernel), List.mem_of_getElem? (i := 947) (by decide +kernel), List.mem_of_getElem? (i := 948) (by decide +kernel)⟩
def lw_privs_3 : List (MethodName × Nat) := [(⟨"ChronicleWarModel", "isGone", "(I)Z"⟩, 26), (⟨"ChronicleWarModel", "isBroken", "(I)Z"⟩, 26), (⟨"ChronicleWarModel", "isFulfilledBy", "(II)Z"⟩, 26), (⟨"ChronicleWarModel", "isSo", "(IIII)Z"⟩, 26), (⟨"ChronicleWarModel", "troopsOf", "(I)I"⟩, 26), (⟨"ChronicleWarModel", "isOrderNow", "(II)Z"⟩, 26), (⟨"ChronicleWarModel", "layNow", "()V"⟩, 26), (⟨"ChronicleWarModel", "isOrder", "(III)Z"⟩, 26), (⟨"ChronicleWarModel", "isOver", "()Z"⟩, 26), (⟨"ChronicleWarModel", "remembers", "()V"⟩, 26), (⟨"ChronicleWarModel", "goes", "(III)I"⟩, 26), (⟨"ChronicleWarModel", "marches", "(II)V"⟩, 26), (⟨"ChronicleWarModel", "strength", "(III)I"⟩, 26), (⟨"ChronicleWarModel", "loses", "(IIII)V"⟩, 26), (⟨"ChronicleWarModel", "nextOrder", "(III)I"⟩, 26), (⟨"ChronicleWarModel", "isDutiful", "(III)Z"⟩, 26)]
theorem lw_r3 : ∀ q ∈ lw_privs_3, lw_okq q := List.forall_mem_cons.mpr ⟨lw_p32, List.forall_mem_cons.mpr ⟨lw_p33, List.forall_mem_cons.mpr ⟨lw_p34, List.forall_mem_cons.mpr ⟨lw_p35, List.forall_mem_cons.mpr ⟨lw_p36, List.forall_mem_cons.mpr ⟨lw_p37, List.forall_mem_cons.mpr ⟨lw_p38, List.forall_mem_cons.mpr ⟨lw_p39, List.forall_mem_cons.mpr ⟨lw_p40, List.forall_mem_cons.mpr ⟨lw_p41, List.forall_mem_cons.mpr ⟨lw_p42, List.forall_mem_cons.mpr ⟨lw_p43, List.forall_mem_cons.mpr ⟨lw_p44, List.forall_mem_cons.mpr ⟨lw_p45, List.forall_mem_cons.mpr ⟨lw_p46, List.forall_mem_cons.mpr ⟨lw_p47, fun _ h => absurd h List.not_mem_nil⟩⟩⟩⟩⟩⟩⟩⟩⟩⟩⟩⟩⟩⟩⟩⟩
theorem lw_p48 : lw_okq (⟨"ChronicleWarModel", "more", "(II)I"⟩, 26) := ⟨⟨by decide +kernel, by decide +kernel⟩, List.mem_of_getElem? (i := 685) (by decide +kernel), List.mem_of_getElem? (i := 955) (by decide +kernel), List.mem_of_getElem? (i := 956) (by decide +kernel)⟩
theorem lw_p49 : lw_okq (⟨"ChronicleWarModel", "sureOne", "(II)I"⟩, 26) := ⟨⟨by decide +kernel, by decide +kernel⟩, List.mem_of_getElem? (i := 685) (by decide +kernel), List.mem_of_getElem? (i := 959) (by decide +kernel), List.mem_of_getElem? (i := 960) (by decide +kernel)⟩
theorem lw_p50 : lw_okq (⟨"ChronicleWarModel", "firstOrder", "(II)I"⟩, 26) := ⟨⟨by decide +kernel, by decide +kernel⟩, List.mem_of_getElem? (i := 685) (by decide +kernel), List.mem_of_getElem? (i := 963) (by decide +kernel), List.mem_of_getElem? (i := 964) (by decide +kernel)⟩
theorem lw_p51 : lw_okq (⟨"ChronicleWarModel", "dayOf", "(IIII)I"⟩, 26) := ⟨⟨by decide +kernel, by decide +kernel⟩, List.mem_of_getElem? (i := 685) (by decide +kernel), List.mem_of_getElem? (i := 968) (by decide +kernel), List.mem_of_getElem? (i := 969) (by decide +kernel)⟩
theorem lw_p52 : lw_okq (⟨"ChronicleWarModel", "sureTwo", "(I)I"⟩, 26) := ⟨⟨by decide +kernel, by decide +kernel⟩, List.mem_of_getElem? (i := 685) (by decide +kernel), List.mem_of_getElem? (i := 972) (by decide +kernel), List.mem_of_getElem? (i := 973) (by decide +kernel)⟩
theorem lw_p53 : lw_okq (⟨"ChronicleWarModel", "doClash", "(II)Z"⟩, 26) := ⟨⟨by decide +kernel, by decide +kernel⟩, List.mem_of_getElem? (i := 685) (by decide +kernel), List.mem_of_getElem? (i := 988) (by decide +kernel), List.mem_of_getElem? (i := 989) (by decide +kernel)⟩
theorem lw_p54 : lw_okq (⟨"ChronicleWarModel", "isWellWithout", "(I)Z"⟩, 26) := ⟨⟨by decide +kernel, by decide +kernel⟩, List.mem_of_getElem? (i := 685) (by decide +kernel), List.mem_of_getElem? (i := 996) (by decide +kernel), List.mem_of_getElem? (i := 997) (by decide +kernel)⟩
theorem lw_p55 : lw_okq (⟨"ChronicleWarModel", "troopRate", "(I)I"⟩, 26) := ⟨⟨by decide +kernel, by decide +kernel⟩, List.mem_of_getElem? (i := 685) (by decide +kernel), List.mem_of_getElem? (i := 1008) (by decide +kernel), List.mem_of_getElem? (i := 1009) (by decide +kernel)⟩
theorem lw_p56 : lw_okq (⟨"ChronicleWarModel", "archersRate", "(I)I"⟩, 26) := ⟨⟨by decide +kernel, by decide +kernel⟩, List.mem_of_getElem? (i := 685) (by decide +kernel), List.mem_of_getElem? (i := 1012) (by decide +kernel), List.mem_of_getElem? (i := 1013) (by decide +kernel)⟩
theorem lw_p57 : lw_okq (⟨"ChronicleWarModel", "siegeRate", "(I)I"⟩, 26) := ⟨⟨by decide +kernel, by decide +kernel⟩, List.mem_of_getElem? (i := 685) (by decide +kernel), List.mem_of_getElem? (i := 1017) (by decide +kernel), List.mem_of_getElem? (i := 1018) (by decide +kernel)⟩
def lw_privs_4 : List (MethodName × Nat) := [(⟨"ChronicleWarModel", "more", "(II)I"⟩, 26), (⟨"ChronicleWarModel", "sureOne", "(II)I"⟩, 26), (⟨"ChronicleWarModel", "firstOrder", "(II)I"⟩, 26), (⟨"ChronicleWarModel", "dayOf", "(IIII)I"⟩, 26), (⟨"ChronicleWarModel", "sureTwo", "(I)I"⟩, 26), (⟨"ChronicleWarModel", "doClash", "(II)Z"⟩, 26), (⟨"ChronicleWarModel", "isWellWithout", "(I)Z"⟩, 26), (⟨"ChronicleWarModel", "troopRate", "(I)I"⟩, 26), (⟨"ChronicleWarModel", "archersRate", "(I)I"⟩, 26), (⟨"ChronicleWarModel", "siegeRate", "(I)I"⟩, 26)]
theorem lw_r4 : ∀ q ∈ lw_privs_4, lw_okq q := List.forall_mem_cons.mpr ⟨lw_p48, List.forall_mem_cons.mpr ⟨lw_p49, List.forall_mem_cons.mpr ⟨lw_p50, List.forall_mem_cons.mpr ⟨lw_p51, List.forall_mem_cons.mpr ⟨lw_p52, List.forall_mem_cons.mpr ⟨lw_p53, List.forall_mem_cons.mpr ⟨lw_p54, List.forall_mem_cons.mpr ⟨lw_p55, List.forall_mem_cons.mpr ⟨lw_p56, List.forall_mem_cons.mpr ⟨lw_p57, fun _ h => absurd h List.not_mem_nil⟩⟩⟩⟩⟩⟩⟩⟩⟩⟩
def lw_privs : List (MethodName × Nat) := lw_privs_1 ++ (lw_privs_2 ++ (lw_privs_3 ++ (lw_privs_4)))
def lw_tbl : List Cond := k2_sels lw_privs ++ tables_1
theorem lw_privs_ok : ∀ q ∈ lw_privs, lw_okq q := by
  show ∀ q ∈ lw_privs_1 ++ (lw_privs_2 ++ (lw_privs_3 ++ (lw_privs_4))), lw_okq q
  exact List.forall_mem_append.mpr ⟨lw_r1, List.forall_mem_append.mpr ⟨lw_r2, List.forall_mem_append.mpr ⟨lw_r3, lw_r4⟩⟩⟩

def RX0 : String := "ChronicleWar$Annals"
def TX0 : u_T := fun k => match k with
  | 0 => ("ChronicleWar$Annals", "goals", "[I", true)
  | _ => ("ChronicleWar$Annals", "battles", "[I", true)
def tyX0 : Nat → FieldType := fun k => match k with
  | 0 => .array .int
  | _ => .array .int
theorem nmX0 : ∀ a, a < 2 → ∀ b, b < 2 → a ≠ b → (TX0 a).2.1 ≠ (TX0 b).2.1 := by decide +kernel
theorem tyX0_ok : ∀ k, k < 2 → parseFieldDescriptor (TX0 k).2.2.1 = some (tyX0 k) := by decide +kernel
abbrev cX0_init : ByteArray := prog_2_method_1_code
def yX0_init : MethodName := ⟨RX0, "<init>", "()V"⟩
abbrev cX0_copyFrom : ByteArray := prog_2_method_2_code
def yX0_copyFrom : MethodName := ⟨RX0, "copyFrom", "(LChronicleWar$Annals;)V"⟩
abbrev cX0_putGoal : ByteArray := prog_2_method_3_code
def yX0_putGoal : MethodName := ⟨RX0, "putGoal", "(III)V"⟩
abbrev cX0_putBattles : ByteArray := prog_2_method_4_code
def yX0_putBattles : MethodName := ⟨RX0, "putBattles", "(II)V"⟩
abbrev cX0_goalOf : ByteArray := prog_2_method_5_code
def yX0_goalOf : MethodName := ⟨RX0, "goalOf", "(II)I"⟩
abbrev cX0_battlesOf : ByteArray := prog_2_method_6_code
def yX0_battlesOf : MethodName := ⟨RX0, "battlesOf", "(I)I"⟩
abbrev cX0_confirm : ByteArray := prog_2_method_7_code
def yX0_confirm : MethodName := ⟨RX0, "confirm", "(IIII)Z"⟩
abbrev cX0_isDay : ByteArray := prog_2_method_8_code
def yX0_isDay : MethodName := ⟨RX0, "isDay", "(I)Z"⟩
def RX1 : String := "ChronicleWar$Armies"
def TX1 : u_T := fun k => match k with
  | 0 => ("ChronicleWar$Armies", "size", "I", false)
  | 1 => ("ChronicleWar$Armies", "duke", "[I", true)
  | 2 => ("ChronicleWar$Armies", "field", "[I", true)
  | _ => ("ChronicleWar$Armies", "troops", "[I", true)
def tyX1 : Nat → FieldType := fun k => match k with
  | 0 => .int
  | 1 => .array .int
  | 2 => .array .int
  | _ => .array .int
theorem nmX1 : ∀ a, a < 4 → ∀ b, b < 4 → a ≠ b → (TX1 a).2.1 ≠ (TX1 b).2.1 := by decide +kernel
theorem tyX1_ok : ∀ k, k < 4 → parseFieldDescriptor (TX1 k).2.2.1 = some (tyX1 k) := by decide +kernel
abbrev cX1_init : ByteArray := prog_3_method_1_code
def yX1_init : MethodName := ⟨RX1, "<init>", "()V"⟩
abbrev cX1_copyFrom : ByteArray := prog_3_method_2_code
def yX1_copyFrom : MethodName := ⟨RX1, "copyFrom", "(LChronicleWar$Armies;)V"⟩
abbrev cX1_has : ByteArray := prog_3_method_3_code
def yX1_has : MethodName := ⟨RX1, "has", "(I)Z"⟩
abbrev cX1_add : ByteArray := prog_3_method_4_code
def yX1_add : MethodName := ⟨RX1, "add", "(III)V"⟩
abbrev cX1_moveTo : ByteArray := prog_3_method_5_code
def yX1_moveTo : MethodName := ⟨RX1, "moveTo", "(II)V"⟩
abbrev cX1_troopsOf : ByteArray := prog_3_method_6_code
def yX1_troopsOf : MethodName := ⟨RX1, "troopsOf", "(I)I"⟩
abbrev cX1_troopsAt : ByteArray := prog_3_method_7_code
def yX1_troopsAt : MethodName := ⟨RX1, "troopsAt", "(II)I"⟩
abbrev cX1_fightAt : ByteArray := prog_3_method_8_code
def yX1_fightAt : MethodName := ⟨RX1, "fightAt", "(I)Z"⟩
abbrev cX1_loseAt : ByteArray := prog_3_method_9_code
def yX1_loseAt : MethodName := ⟨RX1, "loseAt", "(III)V"⟩
def RX2 : String := "ChronicleWar$Images"
def TX2 : u_T := fun k => match k with
  | 0 => ("ChronicleWar$Images", "isKept", "[Z", true)
  | _ => ("ChronicleWar$Images", "kept", "[LChronicleWar$Now;", true)
def tyX2 : Nat → FieldType := fun k => match k with
  | 0 => .array .boolean
  | _ => .array (.object "ChronicleWar$Now")
theorem nmX2 : ∀ a, a < 2 → ∀ b, b < 2 → a ≠ b → (TX2 a).2.1 ≠ (TX2 b).2.1 := by decide +kernel
theorem tyX2_ok : ∀ k, k < 2 → parseFieldDescriptor (TX2 k).2.2.1 = some (tyX2 k) := by decide +kernel
abbrev cX2_init : ByteArray := prog_4_method_1_code
def yX2_init : MethodName := ⟨RX2, "<init>", "()V"⟩
abbrev cX2_has : ByteArray := prog_4_method_2_code
def yX2_has : MethodName := ⟨RX2, "has", "(I)Z"⟩
abbrev cX2_put : ByteArray := prog_4_method_3_code
def yX2_put : MethodName := ⟨RX2, "put", "(ILChronicleWar$Now;)V"⟩
abbrev cX2_forgetAll : ByteArray := prog_4_method_4_code
def yX2_forgetAll : MethodName := ⟨RX2, "forgetAll", "()V"⟩
def RX3 : String := "ChronicleWar$Land"
def TX3 : u_T := fun k => match k with
  | 0 => ("ChronicleWar$Land", "fields", "I", false)
  | _ => ("ChronicleWar$Land", "ways", "[I", true)
def tyX3 : Nat → FieldType := fun k => match k with
  | 0 => .int
  | _ => .array .int
theorem nmX3 : ∀ a, a < 2 → ∀ b, b < 2 → a ≠ b → (TX3 a).2.1 ≠ (TX3 b).2.1 := by decide +kernel
theorem tyX3_ok : ∀ k, k < 2 → parseFieldDescriptor (TX3 k).2.2.1 = some (tyX3 k) := by decide +kernel
abbrev cX3_init : ByteArray := prog_5_method_1_code
def yX3_init : MethodName := ⟨RX3, "<init>", "()V"⟩
abbrev cX3_reset : ByteArray := prog_5_method_2_code
def yX3_reset : MethodName := ⟨RX3, "reset", "()V"⟩
abbrev cX3_copyFrom : ByteArray := prog_5_method_3_code
def yX3_copyFrom : MethodName := ⟨RX3, "copyFrom", "(LChronicleWar$Land;)V"⟩
abbrev cX3_has : ByteArray := prog_5_method_4_code
def yX3_has : MethodName := ⟨RX3, "has", "(I)Z"⟩
abbrev cX3_waysFrom : ByteArray := prog_5_method_5_code
def yX3_waysFrom : MethodName := ⟨RX3, "waysFrom", "(I)I"⟩
abbrev cX3_isRoad : ByteArray := prog_5_method_6_code
def yX3_isRoad : MethodName := ⟨RX3, "isRoad", "(II)Z"⟩
abbrev cX3_join : ByteArray := prog_5_method_7_code
def yX3_join : MethodName := ⟨RX3, "join", "(II)V"⟩
abbrev cX3_daysBetween : ByteArray := prog_5_method_8_code
def yX3_daysBetween : MethodName := ⟨RX3, "daysBetween", "(II)I"⟩
abbrev cX3_aDayFurther : ByteArray := prog_5_method_9_code
def yX3_aDayFurther : MethodName := ⟨RX3, "aDayFurther", "(I)I"⟩
def RX4 : String := "ChronicleWar$Monk"
def TX4 : u_T := fun k => match k with
  | _ => ("", "", "", false)
def tyX4 : Nat → FieldType := fun k => match k with
  | _ => .int
theorem nmX4 : ∀ a, a < 0 → ∀ b, b < 0 → a ≠ b → (TX4 a).2.1 ≠ (TX4 b).2.1 := by decide +kernel
theorem tyX4_ok : ∀ k, k < 0 → parseFieldDescriptor (TX4 k).2.2.1 = some (tyX4 k) := by decide +kernel
abbrev cX4_countReadings : ByteArray := prog_6_method_2_code
def yX4_countReadings : MethodName := ⟨RX4, "countReadings", "(LChronicleWar$Now;)I"⟩
abbrev cX4_waysToRead : ByteArray := prog_6_method_3_code
def yX4_waysToRead : MethodName := ⟨RX4, "waysToRead", "(LChronicleWar$Now;I)I"⟩
abbrev cX4_countSentences : ByteArray := prog_6_method_4_code
def yX4_countSentences : MethodName := ⟨RX4, "countSentences", "(LChronicleWar$Annals;II)I"⟩
abbrev cX4_firstClash : ByteArray := prog_6_method_5_code
def yX4_firstClash : MethodName := ⟨RX4, "firstClash", "(LChronicleWar$Pages;)I"⟩
abbrev cX4_leastStruck : ByteArray := prog_6_method_6_code
def yX4_leastStruck : MethodName := ⟨RX4, "leastStruck", "(LChronicleWar$Now;)I"⟩
abbrev cX4_brokenPages : ByteArray := prog_6_method_7_code
def yX4_brokenPages : MethodName := ⟨RX4, "brokenPages", "(LChronicleWar$Now;)I"⟩
abbrev cX4_areAtPeace : ByteArray := prog_6_method_8_code
def yX4_areAtPeace : MethodName := ⟨RX4, "areAtPeace", "(LChronicleWar$Pages;I)Z"⟩
def RX5 : String := "ChronicleWar$Now"
def TX5 : u_T := fun k => match k with
  | 0 => ("ChronicleWar$Now", "day", "I", false)
  | 1 => ("ChronicleWar$Now", "order", "[I", true)
  | 2 => ("ChronicleWar$Now", "armies", "LChronicleWar$Armies;", true)
  | 3 => ("ChronicleWar$Now", "pages", "LChronicleWar$Pages;", true)
  | _ => ("ChronicleWar$Now", "annals", "LChronicleWar$Annals;", true)
def tyX5 : Nat → FieldType := fun k => match k with
  | 0 => .int
  | 1 => .array .int
  | 2 => .object "ChronicleWar$Armies"
  | 3 => .object "ChronicleWar$Pages"
  | _ => .object "ChronicleWar$Annals"
theorem nmX5 : ∀ a, a < 5 → ∀ b, b < 5 → a ≠ b → (TX5 a).2.1 ≠ (TX5 b).2.1 := by decide +kernel
theorem tyX5_ok : ∀ k, k < 5 → parseFieldDescriptor (TX5 k).2.2.1 = some (tyX5 k) := by decide +kernel
abbrev cX5_init : ByteArray := prog_7_method_1_code
def yX5_init : MethodName := ⟨RX5, "<init>", "()V"⟩
abbrev cX5_copyFrom : ByteArray := prog_7_method_2_code
def yX5_copyFrom : MethodName := ⟨RX5, "copyFrom", "(LChronicleWar$Now;)V"⟩
abbrev cX5_isOver : ByteArray := prog_7_method_3_code
def yX5_isOver : MethodName := ⟨RX5, "isOver", "()Z"⟩
abbrev cX5_wentBy : ByteArray := prog_7_method_4_code
def yX5_wentBy : MethodName := ⟨RX5, "wentBy", "(I)Z"⟩
abbrev cX5_stateOf : ByteArray := prog_7_method_5_code
def yX5_stateOf : MethodName := ⟨RX5, "stateOf", "(I)I"⟩
abbrev cX5_stateAsOf : ByteArray := prog_7_method_6_code
def yX5_stateAsOf : MethodName := ⟨RX5, "stateAsOf", "(II)I"⟩
abbrev cX5_passDay : ByteArray := prog_7_method_7_code
def yX5_passDay : MethodName := ⟨RX5, "passDay", "()I"⟩
abbrev cX5_forgetOrders : ByteArray := prog_7_method_8_code
def yX5_forgetOrders : MethodName := ⟨RX5, "forgetOrders", "()V"⟩
def RX6 : String := "ChronicleWar$Orders"
def TX6 : u_T := fun k => match k with
  | _ => ("", "", "", false)
def tyX6 : Nat → FieldType := fun k => match k with
  | _ => .int
theorem nmX6 : ∀ a, a < 0 → ∀ b, b < 0 → a ≠ b → (TX6 a).2.1 ≠ (TX6 b).2.1 := by decide +kernel
theorem tyX6_ok : ∀ k, k < 0 → parseFieldDescriptor (TX6 k).2.2.1 = some (tyX6 k) := by decide +kernel
abbrev cX6_armyOf : ByteArray := prog_8_method_2_code
def yX6_armyOf : MethodName := ⟨RX6, "armyOf", "(I)I"⟩
abbrev cX6_goalOf : ByteArray := prog_8_method_3_code
def yX6_goalOf : MethodName := ⟨RX6, "goalOf", "(I)I"⟩
abbrev cX6_isOne : ByteArray := prog_8_method_4_code
def yX6_isOne : MethodName := ⟨RX6, "isOne", "(LChronicleWar$Land;LChronicleWar$Now;II)Z"⟩
abbrev cX6_howManyDutiful : ByteArray := prog_8_method_5_code
def yX6_howManyDutiful : MethodName := ⟨RX6, "howManyDutiful", "(LChronicleWar$Land;LChronicleWar$Now;I)I"⟩
abbrev cX6_dutifulAt : ByteArray := prog_8_method_6_code
def yX6_dutifulAt : MethodName := ⟨RX6, "dutifulAt", "(LChronicleWar$Land;LChronicleWar$Now;II)I"⟩
abbrev cX6_isDutiful : ByteArray := prog_8_method_7_code
def yX6_isDutiful : MethodName := ⟨RX6, "isDutiful", "(LChronicleWar$Land;LChronicleWar$Now;II)Z"⟩
abbrev cX6_obeys : ByteArray := prog_8_method_8_code
def yX6_obeys : MethodName := ⟨RX6, "obeys", "(III)Z"⟩
def RX7 : String := "ChronicleWar$Pages"
def TX7 : u_T := fun k => match k with
  | 0 => ("ChronicleWar$Pages", "size", "I", false)
  | 1 => ("ChronicleWar$Pages", "day", "[I", true)
  | 2 => ("ChronicleWar$Pages", "who", "[I", true)
  | 3 => ("ChronicleWar$Pages", "deed", "[I", true)
  | _ => ("ChronicleWar$Pages", "field", "[I", true)
def tyX7 : Nat → FieldType := fun k => match k with
  | 0 => .int
  | 1 => .array .int
  | 2 => .array .int
  | 3 => .array .int
  | _ => .array .int
theorem nmX7 : ∀ a, a < 5 → ∀ b, b < 5 → a ≠ b → (TX7 a).2.1 ≠ (TX7 b).2.1 := by decide +kernel
theorem tyX7_ok : ∀ k, k < 5 → parseFieldDescriptor (TX7 k).2.2.1 = some (tyX7 k) := by decide +kernel
abbrev cX7_init : ByteArray := prog_9_method_1_code
def yX7_init : MethodName := ⟨RX7, "<init>", "()V"⟩
abbrev cX7_copyFrom : ByteArray := prog_9_method_2_code
def yX7_copyFrom : MethodName := ⟨RX7, "copyFrom", "(LChronicleWar$Pages;)V"⟩
abbrev cX7_has : ByteArray := prog_9_method_3_code
def yX7_has : MethodName := ⟨RX7, "has", "(I)Z"⟩
abbrev cX7_add : ByteArray := prog_9_method_4_code
def yX7_add : MethodName := ⟨RX7, "add", "(IIII)V"⟩
abbrev cX7_remove : ByteArray := prog_9_method_5_code
def yX7_remove : MethodName := ⟨RX7, "remove", "(I)V"⟩
abbrev cX7_areClashing : ByteArray := prog_9_method_6_code
def yX7_areClashing : MethodName := ⟨RX7, "areClashing", "(II)Z"⟩
def RX8 : String := "ChronicleWar$Past"
def TX8 : u_T := fun k => match k with
  | 0 => ("ChronicleWar$Past", "size", "I", false)
  | 1 => ("ChronicleWar$Past", "next", "I", false)
  | _ => ("ChronicleWar$Past", "steps", "[LChronicleWar$Now;", true)
def tyX8 : Nat → FieldType := fun k => match k with
  | 0 => .int
  | 1 => .int
  | _ => .array (.object "ChronicleWar$Now")
theorem nmX8 : ∀ a, a < 3 → ∀ b, b < 3 → a ≠ b → (TX8 a).2.1 ≠ (TX8 b).2.1 := by decide +kernel
theorem tyX8_ok : ∀ k, k < 3 → parseFieldDescriptor (TX8 k).2.2.1 = some (tyX8 k) := by decide +kernel
abbrev cX8_init : ByteArray := prog_10_method_1_code
def yX8_init : MethodName := ⟨RX8, "<init>", "()V"⟩
abbrev cX8_remember : ByteArray := prog_10_method_2_code
def yX8_remember : MethodName := ⟨RX8, "remember", "(LChronicleWar$Now;)V"⟩
abbrev cX8_takeBack : ByteArray := prog_10_method_3_code
def yX8_takeBack : MethodName := ⟨RX8, "takeBack", "(LChronicleWar$Now;)V"⟩
abbrev cX8_forgetAll : ByteArray := prog_10_method_4_code
def yX8_forgetAll : MethodName := ⟨RX8, "forgetAll", "()V"⟩
def RX9 : String := "ChronicleWar$Text"
def TX9 : u_T := fun k => match k with
  | 0 => ("ChronicleWar$Text", "length", "I", false)
  | 1 => ("ChronicleWar$Text", "toldLand", "LChronicleWar$Land;", true)
  | 2 => ("ChronicleWar$Text", "toldNow", "LChronicleWar$Now;", true)
  | 3 => ("ChronicleWar$Text", "letters", "[I", true)
  | 4 => ("ChronicleWar$Text", "place", "I", false)
  | 5 => ("ChronicleWar$Text", "token", "I", false)
  | 6 => ("ChronicleWar$Text", "tokenPlace", "I", false)
  | _ => ("ChronicleWar$Text", "number", "I", false)
def tyX9 : Nat → FieldType := fun k => match k with
  | 0 => .int
  | 1 => .object "ChronicleWar$Land"
  | 2 => .object "ChronicleWar$Now"
  | 3 => .array .int
  | 4 => .int
  | 5 => .int
  | 6 => .int
  | _ => .int
theorem nmX9 : ∀ a, a < 8 → ∀ b, b < 8 → a ≠ b → (TX9 a).2.1 ≠ (TX9 b).2.1 := by decide +kernel
theorem tyX9_ok : ∀ k, k < 8 → parseFieldDescriptor (TX9 k).2.2.1 = some (tyX9 k) := by decide +kernel
abbrev cX9_init : ByteArray := prog_11_method_1_code
def yX9_init : MethodName := ⟨RX9, "<init>", "()V"⟩
abbrev cX9_add : ByteArray := prog_11_method_2_code
def yX9_add : MethodName := ⟨RX9, "add", "(I)V"⟩
abbrev cX9_readAll : ByteArray := prog_11_method_3_code
def yX9_readAll : MethodName := ⟨RX9, "readAll", "()I"⟩
abbrev cX9_readItem : ByteArray := prog_11_method_4_code
def yX9_readItem : MethodName := ⟨RX9, "readItem", "(I)Z"⟩
abbrev cX9_readFields : ByteArray := prog_11_method_5_code
def yX9_readFields : MethodName := ⟨RX9, "readFields", "()Z"⟩
abbrev cX9_readRoad : ByteArray := prog_11_method_6_code
def yX9_readRoad : MethodName := ⟨RX9, "readRoad", "()Z"⟩
abbrev cX9_readArmy : ByteArray := prog_11_method_7_code
def yX9_readArmy : MethodName := ⟨RX9, "readArmy", "()Z"⟩
abbrev cX9_readPage : ByteArray := prog_11_method_8_code
def yX9_readPage : MethodName := ⟨RX9, "readPage", "()Z"⟩
abbrev cX9_readField : ByteArray := prog_11_method_9_code
def yX9_readField : MethodName := ⟨RX9, "readField", "()Z"⟩
abbrev cX9_readNumber : ByteArray := prog_11_method_10_code
def yX9_readNumber : MethodName := ⟨RX9, "readNumber", "(II)Z"⟩
abbrev cX9_readItemEnd : ByteArray := prog_11_method_11_code
def yX9_readItemEnd : MethodName := ⟨RX9, "readItemEnd", "()Z"⟩
abbrev cX9_readToken : ByteArray := prog_11_method_12_code
def yX9_readToken : MethodName := ⟨RX9, "readToken", "()V"⟩
abbrev cX9_skipBlanks : ByteArray := prog_11_method_13_code
def yX9_skipBlanks : MethodName := ⟨RX9, "skipBlanks", "()V"⟩
abbrev cX9_readDigits : ByteArray := prog_11_method_14_code
def yX9_readDigits : MethodName := ⟨RX9, "readDigits", "()V"⟩
abbrev cX9_isDigit : ByteArray := prog_11_method_15_code
def yX9_isDigit : MethodName := ⟨RX9, "isDigit", "(I)Z"⟩
def RX10 : String := "ChronicleWar"
def TX10 : u_T := fun k => match k with
  | 0 => ("ChronicleWar", "land", "LChronicleWar$Land;", true)
  | 1 => ("ChronicleWar", "now", "LChronicleWar$Now;", true)
  | 2 => ("ChronicleWar", "text", "LChronicleWar$Text;", true)
  | 3 => ("ChronicleWar", "past", "LChronicleWar$Past;", true)
  | 4 => ("ChronicleWar", "images", "LChronicleWar$Images;", true)
  | _ => ("ChronicleWar", "trace", "J", false)
def tyX10 : Nat → FieldType := fun k => match k with
  | 0 => .object "ChronicleWar$Land"
  | 1 => .object "ChronicleWar$Now"
  | 2 => .object "ChronicleWar$Text"
  | 3 => .object "ChronicleWar$Past"
  | 4 => .object "ChronicleWar$Images"
  | _ => .long
theorem nmX10 : ∀ a, a < 6 → ∀ b, b < 6 → a ≠ b → (TX10 a).2.1 ≠ (TX10 b).2.1 := by decide +kernel
theorem tyX10_ok : ∀ k, k < 6 → parseFieldDescriptor (TX10 k).2.2.1 = some (tyX10 k) := by decide +kernel
abbrev cX10_init : ByteArray := prog_1_method_1_code
def yX10_init : MethodName := ⟨RX10, "<init>", "()V"⟩
abbrev cX10_type : ByteArray := prog_1_method_2_code
def yX10_type : MethodName := ⟨RX10, "type", "(I)I"⟩
abbrev cX10_clear : ByteArray := prog_1_method_3_code
def yX10_clear : MethodName := ⟨RX10, "clear", "()I"⟩
abbrev cX10_land : ByteArray := prog_1_method_4_code
def yX10_land : MethodName := ⟨RX10, "land", "()I"⟩
abbrev cX10_roads : ByteArray := prog_1_method_5_code
def yX10_roads : MethodName := ⟨RX10, "roads", "(I)I"⟩
abbrev cX10_army : ByteArray := prog_1_method_6_code
def yX10_army : MethodName := ⟨RX10, "army", "(II)I"⟩
abbrev cX10_page : ByteArray := prog_1_method_7_code
def yX10_page : MethodName := ⟨RX10, "page", "(II)I"⟩
abbrev cX10_now : ByteArray := prog_1_method_8_code
def yX10_now : MethodName := ⟨RX10, "now", "(I)I"⟩
abbrev cX10_written : ByteArray := prog_1_method_9_code
def yX10_written : MethodName := ⟨RX10, "written", "(II)I"⟩
abbrev cX10_orders : ByteArray := prog_1_method_10_code
def yX10_orders : MethodName := ⟨RX10, "orders", "(II)I"⟩
abbrev cX10_day : ByteArray := prog_1_method_11_code
def yX10_day : MethodName := ⟨RX10, "day", "()I"⟩
abbrev cX10_writes : ByteArray := prog_1_method_12_code
def yX10_writes : MethodName := ⟨RX10, "writes", "(IIII)I"⟩
abbrev cX10_strikes : ByteArray := prog_1_method_13_code
def yX10_strikes : MethodName := ⟨RX10, "strikes", "(I)I"⟩
abbrev cX10_undo : ByteArray := prog_1_method_14_code
def yX10_undo : MethodName := ⟨RX10, "undo", "()I"⟩
abbrev cX10_dutiful : ByteArray := prog_1_method_15_code
def yX10_dutiful : MethodName := ⟨RX10, "dutiful", "(II)I"⟩
abbrev cX10_best : ByteArray := prog_1_method_16_code
def yX10_best : MethodName := ⟨RX10, "best", "(III)I"⟩
abbrev cX10_readings : ByteArray := prog_1_method_17_code
def yX10_readings : MethodName := ⟨RX10, "readings", "()I"⟩
abbrev cX10_lost : ByteArray := prog_1_method_18_code
def yX10_lost : MethodName := ⟨RX10, "lost", "(I)I"⟩
abbrev cX10_clash : ByteArray := prog_1_method_19_code
def yX10_clash : MethodName := ⟨RX10, "clash", "()I"⟩
abbrev cX10_least : ByteArray := prog_1_method_20_code
def yX10_least : MethodName := ⟨RX10, "least", "(I)I"⟩
abbrev cX10_march : ByteArray := prog_1_method_21_code
def yX10_march : MethodName := ⟨RX10, "march", "(II)I"⟩
abbrev cX10_rate : ByteArray := prog_1_method_22_code
def yX10_rate : MethodName := ⟨RX10, "rate", "(II)I"⟩
abbrev cX10_keep : ByteArray := prog_1_method_23_code
def yX10_keep : MethodName := ⟨RX10, "keep", "(I)I"⟩
abbrev cX10_back : ByteArray := prog_1_method_24_code
def yX10_back : MethodName := ⟨RX10, "back", "(I)I"⟩
abbrev cX10_count : ByteArray := prog_1_method_25_code
def yX10_count : MethodName := ⟨RX10, "count", "(I)I"⟩
abbrev cX10_trace : ByteArray := prog_1_method_26_code
def yX10_trace : MethodName := ⟨RX10, "trace", "()J"⟩
abbrev cX10_isDuke : ByteArray := prog_1_method_27_code
def yX10_isDuke : MethodName := ⟨RX10, "isDuke", "(I)Z"⟩
abbrev cX10_rateTroop : ByteArray := prog_1_method_28_code
def yX10_rateTroop : MethodName := ⟨RX10, "rateTroop", "(I)I"⟩
abbrev cX10_rateArchers : ByteArray := prog_1_method_29_code
def yX10_rateArchers : MethodName := ⟨RX10, "rateArchers", "(I)I"⟩
abbrev cX10_rateSiege : ByteArray := prog_1_method_30_code
def yX10_rateSiege : MethodName := ⟨RX10, "rateSiege", "(I)I"⟩
abbrev cX10_rateMarginalArchers : ByteArray := prog_1_method_31_code
def yX10_rateMarginalArchers : MethodName := ⟨RX10, "rateMarginalArchers", "(I)I"⟩
abbrev cX10_rateBaggage : ByteArray := prog_1_method_32_code
def yX10_rateBaggage : MethodName := ⟨RX10, "rateBaggage", "(I)I"⟩
abbrev cX10_rateMarshal : ByteArray := prog_1_method_33_code
def yX10_rateMarshal : MethodName := ⟨RX10, "rateMarshal", "(I)I"⟩
def RX11 : String := "ChronicleWarModel"
def TX11 : u_T := fun k => match k with
  | 0 => ("ChronicleWarModel", "fields", "I", false)
  | 1 => ("ChronicleWarModel", "road", "[I", true)
  | 2 => ("ChronicleWarModel", "armies", "I", false)
  | 3 => ("ChronicleWarModel", "whose", "[I", true)
  | 4 => ("ChronicleWarModel", "st", "[I", true)
  | 5 => ("ChronicleWarModel", "was", "[I", true)
  | 6 => ("ChronicleWarModel", "known", "I", false)
  | 7 => ("ChronicleWarModel", "images", "[I", true)
  | 8 => ("ChronicleWarModel", "isKept", "[Z", true)
  | 9 => ("ChronicleWarModel", "trace", "J", false)
  | 10 => ("ChronicleWarModel", "text", "[I", true)
  | 11 => ("ChronicleWarModel", "texted", "I", false)
  | 12 => ("ChronicleWarModel", "cursor", "I", false)
  | 13 => ("ChronicleWarModel", "start", "I", false)
  | 14 => ("ChronicleWarModel", "token", "I", false)
  | 15 => ("ChronicleWarModel", "number", "I", false)
  | 16 => ("ChronicleWarModel", "isWrong", "Z", false)
  | 17 => ("ChronicleWarModel", "saidFields", "I", false)
  | 18 => ("ChronicleWarModel", "saidRoad", "[I", true)
  | 19 => ("ChronicleWarModel", "saidArmies", "I", false)
  | 20 => ("ChronicleWarModel", "saidArmy", "[I", true)
  | 21 => ("ChronicleWarModel", "saidPages", "I", false)
  | 22 => ("ChronicleWarModel", "saidPage", "[I", true)
  | 23 => ("ChronicleWarModel", "few", "[I", true)
  | 24 => ("ChronicleWarModel", "wars", "[I", true)
  | _ => ("ChronicleWarModel", "bestOrder", "I", false)
def tyX11 : Nat → FieldType := fun k => match k with
  | 0 => .int
  | 1 => .array .int
  | 2 => .int
  | 3 => .array .int
  | 4 => .array .int
  | 5 => .array .int
  | 6 => .int
  | 7 => .array .int
  | 8 => .array .boolean
  | 9 => .long
  | 10 => .array .int
  | 11 => .int
  | 12 => .int
  | 13 => .int
  | 14 => .int
  | 15 => .int
  | 16 => .boolean
  | 17 => .int
  | 18 => .array .int
  | 19 => .int
  | 20 => .array .int
  | 21 => .int
  | 22 => .array .int
  | 23 => .array .int
  | 24 => .array .int
  | _ => .int
theorem nmX11 : ∀ a, a < 26 → ∀ b, b < 26 → a ≠ b → (TX11 a).2.1 ≠ (TX11 b).2.1 := by decide +kernel
theorem tyX11_ok : ∀ k, k < 26 → parseFieldDescriptor (TX11 k).2.2.1 = some (tyX11 k) := by decide +kernel
abbrev cX11_init : ByteArray := prog_13_method_1_code
def yX11_init : MethodName := ⟨RX11, "<init>", "()V"⟩
abbrev cX11_in : ByteArray := prog_13_method_3_code
def yX11_in : MethodName := ⟨RX11, "in", "(III)Z"⟩
abbrev cX11_has : ByteArray := prog_13_method_4_code
def yX11_has : MethodName := ⟨RX11, "has", "(II)Z"⟩
abbrev cX11_bits : ByteArray := prog_13_method_5_code
def yX11_bits : MethodName := ⟨RX11, "bits", "(I)I"⟩
abbrev cX11_isDuke : ByteArray := prog_13_method_6_code
def yX11_isDuke : MethodName := ⟨RX11, "isDuke", "(I)Z"⟩
abbrev cX11_isField : ByteArray := prog_13_method_7_code
def yX11_isField : MethodName := ⟨RX11, "isField", "(I)Z"⟩
abbrev cX11_isArmy : ByteArray := prog_13_method_8_code
def yX11_isArmy : MethodName := ⟨RX11, "isArmy", "(I)Z"⟩
abbrev cX11_isPage : ByteArray := prog_13_method_9_code
def yX11_isPage : MethodName := ⟨RX11, "isPage", "(I)Z"⟩
abbrev cX11_isOver : ByteArray := prog_13_method_10_code
def yX11_isOver : MethodName := ⟨RX11, "isOver", "()Z"⟩
abbrev cX11_type : ByteArray := prog_13_method_11_code
def yX11_type : MethodName := ⟨RX11, "type", "(I)I"⟩
abbrev cX11_clear : ByteArray := prog_13_method_12_code
def yX11_clear : MethodName := ⟨RX11, "clear", "()I"⟩
abbrev cX11_letterAt : ByteArray := prog_13_method_13_code
def yX11_letterAt : MethodName := ⟨RX11, "letterAt", "(I)I"⟩
abbrev cX11_next : ByteArray := prog_13_method_14_code
def yX11_next : MethodName := ⟨RX11, "next", "()V"⟩
abbrev cX11_must : ByteArray := prog_13_method_15_code
def yX11_must : MethodName := ⟨RX11, "must", "(Z)V"⟩
abbrev cX11_readInto : ByteArray := prog_13_method_16_code
def yX11_readInto : MethodName := ⟨RX11, "readInto", "([IIII)I"⟩
abbrev cX11_readFields : ByteArray := prog_13_method_17_code
def yX11_readFields : MethodName := ⟨RX11, "readFields", "(Z)V"⟩
abbrev cX11_readRoad : ByteArray := prog_13_method_18_code
def yX11_readRoad : MethodName := ⟨RX11, "readRoad", "()V"⟩
abbrev cX11_readItem : ByteArray := prog_13_method_19_code
def yX11_readItem : MethodName := ⟨RX11, "readItem", "(Z)V"⟩
abbrev cX11_readArmy : ByteArray := prog_13_method_20_code
def yX11_readArmy : MethodName := ⟨RX11, "readArmy", "()V"⟩
abbrev cX11_readPage : ByteArray := prog_13_method_21_code
def yX11_readPage : MethodName := ⟨RX11, "readPage", "()V"⟩
abbrev cX11_land : ByteArray := prog_13_method_22_code
def yX11_land : MethodName := ⟨RX11, "land", "()I"⟩
abbrev cX11_roads : ByteArray := prog_13_method_23_code
def yX11_roads : MethodName := ⟨RX11, "roads", "(I)I"⟩
abbrev cX11_army : ByteArray := prog_13_method_24_code
def yX11_army : MethodName := ⟨RX11, "army", "(II)I"⟩
abbrev cX11_isSo : ByteArray := prog_13_method_25_code
def yX11_isSo : MethodName := ⟨RX11, "isSo", "(IIII)Z"⟩
abbrev cX11_isGone : ByteArray := prog_13_method_26_code
def yX11_isGone : MethodName := ⟨RX11, "isGone", "(I)Z"⟩
abbrev cX11_isFulfilledBy : ByteArray := prog_13_method_27_code
def yX11_isFulfilledBy : MethodName := ⟨RX11, "isFulfilledBy", "(II)Z"⟩
abbrev cX11_isBroken : ByteArray := prog_13_method_28_code
def yX11_isBroken : MethodName := ⟨RX11, "isBroken", "(I)Z"⟩
abbrev cX11_page : ByteArray := prog_13_method_29_code
def yX11_page : MethodName := ⟨RX11, "page", "(II)I"⟩
abbrev cX11_troopsOf : ByteArray := prog_13_method_30_code
def yX11_troopsOf : MethodName := ⟨RX11, "troopsOf", "(I)I"⟩
abbrev cX11_now : ByteArray := prog_13_method_31_code
def yX11_now : MethodName := ⟨RX11, "now", "(I)I"⟩
abbrev cX11_written : ByteArray := prog_13_method_32_code
def yX11_written : MethodName := ⟨RX11, "written", "(II)I"⟩
abbrev cX11_isOrder : ByteArray := prog_13_method_33_code
def yX11_isOrder : MethodName := ⟨RX11, "isOrder", "(III)Z"⟩
abbrev cX11_layNow : ByteArray := prog_13_method_34_code
def yX11_layNow : MethodName := ⟨RX11, "layNow", "()V"⟩
abbrev cX11_strength : ByteArray := prog_13_method_35_code
def yX11_strength : MethodName := ⟨RX11, "strength", "(III)I"⟩
abbrev cX11_loses : ByteArray := prog_13_method_36_code
def yX11_loses : MethodName := ⟨RX11, "loses", "(IIII)V"⟩
abbrev cX11_marches : ByteArray := prog_13_method_37_code
def yX11_marches : MethodName := ⟨RX11, "marches", "(II)V"⟩
abbrev cX11_goes : ByteArray := prog_13_method_38_code
def yX11_goes : MethodName := ⟨RX11, "goes", "(III)I"⟩
abbrev cX11_isOrderNow : ByteArray := prog_13_method_39_code
def yX11_isOrderNow : MethodName := ⟨RX11, "isOrderNow", "(II)Z"⟩
abbrev cX11_remembers : ByteArray := prog_13_method_40_code
def yX11_remembers : MethodName := ⟨RX11, "remembers", "()V"⟩
abbrev cX11_orders : ByteArray := prog_13_method_41_code
def yX11_orders : MethodName := ⟨RX11, "orders", "(II)I"⟩
abbrev cX11_day : ByteArray := prog_13_method_42_code
def yX11_day : MethodName := ⟨RX11, "day", "()I"⟩
abbrev cX11_writes : ByteArray := prog_13_method_43_code
def yX11_writes : MethodName := ⟨RX11, "writes", "(IIII)I"⟩
abbrev cX11_strikes : ByteArray := prog_13_method_44_code
def yX11_strikes : MethodName := ⟨RX11, "strikes", "(I)I"⟩
abbrev cX11_undo : ByteArray := prog_13_method_45_code
def yX11_undo : MethodName := ⟨RX11, "undo", "()I"⟩
abbrev cX11_isDutiful : ByteArray := prog_13_method_46_code
def yX11_isDutiful : MethodName := ⟨RX11, "isDutiful", "(III)Z"⟩
abbrev cX11_nextOrder : ByteArray := prog_13_method_47_code
def yX11_nextOrder : MethodName := ⟨RX11, "nextOrder", "(III)I"⟩
abbrev cX11_firstOrder : ByteArray := prog_13_method_48_code
def yX11_firstOrder : MethodName := ⟨RX11, "firstOrder", "(II)I"⟩
abbrev cX11_dutiful : ByteArray := prog_13_method_49_code
def yX11_dutiful : MethodName := ⟨RX11, "dutiful", "(II)I"⟩
abbrev cX11_more : ByteArray := prog_13_method_50_code
def yX11_more : MethodName := ⟨RX11, "more", "(II)I"⟩
abbrev cX11_dayOf : ByteArray := prog_13_method_51_code
def yX11_dayOf : MethodName := ⟨RX11, "dayOf", "(IIII)I"⟩
abbrev cX11_sureOne : ByteArray := prog_13_method_52_code
def yX11_sureOne : MethodName := ⟨RX11, "sureOne", "(II)I"⟩
abbrev cX11_sureTwo : ByteArray := prog_13_method_53_code
def yX11_sureTwo : MethodName := ⟨RX11, "sureTwo", "(I)I"⟩
abbrev cX11_best : ByteArray := prog_13_method_54_code
def yX11_best : MethodName := ⟨RX11, "best", "(III)I"⟩
abbrev cX11_readings : ByteArray := prog_13_method_55_code
def yX11_readings : MethodName := ⟨RX11, "readings", "()I"⟩
abbrev cX11_lost : ByteArray := prog_13_method_56_code
def yX11_lost : MethodName := ⟨RX11, "lost", "(I)I"⟩
abbrev cX11_doClash : ByteArray := prog_13_method_57_code
def yX11_doClash : MethodName := ⟨RX11, "doClash", "(II)Z"⟩
abbrev cX11_clash : ByteArray := prog_13_method_58_code
def yX11_clash : MethodName := ⟨RX11, "clash", "()I"⟩
abbrev cX11_isWellWithout : ByteArray := prog_13_method_59_code
def yX11_isWellWithout : MethodName := ⟨RX11, "isWellWithout", "(I)Z"⟩
abbrev cX11_least : ByteArray := prog_13_method_60_code
def yX11_least : MethodName := ⟨RX11, "least", "(I)I"⟩
abbrev cX11_march : ByteArray := prog_13_method_61_code
def yX11_march : MethodName := ⟨RX11, "march", "(II)I"⟩
abbrev cX11_troopRate : ByteArray := prog_13_method_62_code
def yX11_troopRate : MethodName := ⟨RX11, "troopRate", "(I)I"⟩
abbrev cX11_archersRate : ByteArray := prog_13_method_63_code
def yX11_archersRate : MethodName := ⟨RX11, "archersRate", "(I)I"⟩
abbrev cX11_siegeRate : ByteArray := prog_13_method_64_code
def yX11_siegeRate : MethodName := ⟨RX11, "siegeRate", "(I)I"⟩
abbrev cX11_rate : ByteArray := prog_13_method_65_code
def yX11_rate : MethodName := ⟨RX11, "rate", "(II)I"⟩
abbrev cX11_keep : ByteArray := prog_13_method_66_code
def yX11_keep : MethodName := ⟨RX11, "keep", "(I)I"⟩
abbrev cX11_back : ByteArray := prog_13_method_67_code
def yX11_back : MethodName := ⟨RX11, "back", "(I)I"⟩
abbrev cX11_count : ByteArray := prog_13_method_68_code
def yX11_count : MethodName := ⟨RX11, "count", "(I)I"⟩
abbrev cX11_trace : ByteArray := prog_13_method_69_code
def yX11_trace : MethodName := ⟨RX11, "trace", "()J"⟩
def RJ6 : String := "java/lang/Integer"
abbrev cJ6_bitCount_0f7a4 : ByteArray := prog_14_method_49_code
def yJ6_bitCount_0f7a4 : MethodName := ⟨RJ6, "bitCount", "(I)I"⟩
def RJ9 : String := "java/lang/Math"
abbrev cJ9_min_7cf53 : ByteArray := prog_15_method_69_code
def yJ9_min_7cf53 : MethodName := ⟨RJ9, "min", "(II)I"⟩
def RJ10 : String := "java/lang/System"
def RJ7 : String := "java/util/Arrays"
abbrev cJ7_fill_53178 : ByteArray := prog_17_method_103_code
def yJ7_fill_53178 : MethodName := ⟨RJ7, "fill", "([II)V"⟩
