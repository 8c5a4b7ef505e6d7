/-! names (the printed ones) -/
/-- a private method of a class that the tables say can be made, by its rows of tables_1 -/
def lw_okq (q : MethodName × Nat) : Prop := (q.1.cls ≠ "java/lang/invoke/MethodHandle" ∧ q.1.cls ≠ "java/lang/invoke/VarHandle") ∧ Cond.instantiable q.1.cls q.2 ∈ tables_1 ∧ Cond.privateMethod q.1 ∈ tables_1 ∧ Cond.instanceMethod q.1 ∈ tables_1
theorem lw_p0 : lw_okq (⟨"OnlyLent", "refuse", "(I)I"⟩, 12) := ⟨⟨by decide +kernel, by decide +kernel⟩, List.mem_of_getElem? (i := 23) (by decide +kernel), List.mem_of_getElem? (i := 406) (by decide +kernel), List.mem_of_getElem? (i := 407) (by decide +kernel)⟩
theorem lw_p1 : lw_okq (⟨"OnlyLent$Text", "addByte", "(I)V"⟩, 2) := ⟨⟨by decide +kernel, by decide +kernel⟩, List.mem_of_getElem? (i := 31) (by decide +kernel), List.mem_of_getElem? (i := 420) (by decide +kernel), List.mem_of_getElem? (i := 421) (by decide +kernel)⟩
theorem lw_p2 : lw_okq (⟨"OnlyLent", "deny", "(I)Z"⟩, 12) := ⟨⟨by decide +kernel, by decide +kernel⟩, List.mem_of_getElem? (i := 23) (by decide +kernel), List.mem_of_getElem? (i := 432) (by decide +kernel), List.mem_of_getElem? (i := 433) (by decide +kernel)⟩
theorem lw_p3 : lw_okq (⟨"OnlyLent$Reader", "step", "()V"⟩, 6) := ⟨⟨by decide +kernel, by decide +kernel⟩, List.mem_of_getElem? (i := 45) (by decide +kernel), List.mem_of_getElem? (i := 452) (by decide +kernel), List.mem_of_getElem? (i := 453) (by decide +kernel)⟩
theorem lw_p4 : lw_okq (⟨"OnlyLent$Reader", "takeWord", "()V"⟩, 6) := ⟨⟨by decide +kernel, by decide +kernel⟩, List.mem_of_getElem? (i := 45) (by decide +kernel), List.mem_of_getElem? (i := 467) (by decide +kernel), List.mem_of_getElem? (i := 468) (by decide +kernel)⟩
theorem lw_p5 : lw_okq (⟨"OnlyLent$Reader", "takeNumber", "()V"⟩, 6) := ⟨⟨by decide +kernel, by decide +kernel⟩, List.mem_of_getElem? (i := 45) (by decide +kernel), List.mem_of_getElem? (i := 476) (by decide +kernel), List.mem_of_getElem? (i := 477) (by decide +kernel)⟩
theorem lw_p6 : lw_okq (⟨"OnlyLent$Reader", "readLine", "(LOnlyLent$Land;)Z"⟩, 6) := ⟨⟨by decide +kernel, by decide +kernel⟩, List.mem_of_getElem? (i := 45) (by decide +kernel), List.mem_of_getElem? (i := 483) (by decide +kernel), List.mem_of_getElem? (i := 484) (by decide +kernel)⟩
theorem lw_p7 : lw_okq (⟨"OnlyLent$Reader", "says", "(Ljava/lang/String;)Z"⟩, 6) := ⟨⟨by decide +kernel, by decide +kernel⟩, List.mem_of_getElem? (i := 45) (by decide +kernel), List.mem_of_getElem? (i := 488) (by decide +kernel), List.mem_of_getElem? (i := 489) (by decide +kernel)⟩
theorem lw_p8 : lw_okq (⟨"OnlyLent$Reader", "readPerson", "(LOnlyLent$Land;)Z"⟩, 6) := ⟨⟨by decide +kernel, by decide +kernel⟩, List.mem_of_getElem? (i := 45) (by decide +kernel), List.mem_of_getElem? (i := 544) (by decide +kernel), List.mem_of_getElem? (i := 545) (by decide +kernel)⟩
theorem lw_p9 : lw_okq (⟨"OnlyLent$Reader", "isNewName", "(LOnlyLent$Land;)Z"⟩, 6) := ⟨⟨by decide +kernel, by decide +kernel⟩, List.mem_of_getElem? (i := 45) (by decide +kernel), List.mem_of_getElem? (i := 548) (by decide +kernel), List.mem_of_getElem? (i := 549) (by decide +kernel)⟩
theorem lw_p10 : lw_okq (⟨"OnlyLent$Reader", "isKept", "()Z"⟩, 6) := ⟨⟨by decide +kernel, by decide +kernel⟩, List.mem_of_getElem? (i := 45) (by decide +kernel), List.mem_of_getElem? (i := 552) (by decide +kernel), List.mem_of_getElem? (i := 553) (by decide +kernel)⟩
theorem lw_p11 : lw_okq (⟨"OnlyLent$Reader", "isNumber", "(II)Z"⟩, 6) := ⟨⟨by decide +kernel, by decide +kernel⟩, List.mem_of_getElem? (i := 45) (by decide +kernel), List.mem_of_getElem? (i := 573) (by decide +kernel), List.mem_of_getElem? (i := 574) (by decide +kernel)⟩
theorem lw_p12 : lw_okq (⟨"OnlyLent$Reader", "closes", "()Z"⟩, 6) := ⟨⟨by decide +kernel, by decide +kernel⟩, List.mem_of_getElem? (i := 45) (by decide +kernel), List.mem_of_getElem? (i := 577) (by decide +kernel), List.mem_of_getElem? (i := 578) (by decide +kernel)⟩
theorem lw_p13 : lw_okq (⟨"OnlyLent$Reader", "readSort", "(LOnlyLent$Land;)Z"⟩, 6) := ⟨⟨by decide +kernel, by decide +kernel⟩, List.mem_of_getElem? (i := 45) (by decide +kernel), List.mem_of_getElem? (i := 593) (by decide +kernel), List.mem_of_getElem? (i := 594) (by decide +kernel)⟩
theorem lw_p14 : lw_okq (⟨"OnlyLent$Reader", "readThing", "(LOnlyLent$Land;)Z"⟩, 6) := ⟨⟨by decide +kernel, by decide +kernel⟩, List.mem_of_getElem? (i := 45) (by decide +kernel), List.mem_of_getElem? (i := 605) (by decide +kernel), List.mem_of_getElem? (i := 606) (by decide +kernel)⟩
theorem lw_p15 : lw_okq (⟨"OnlyLent$Reader", "sortHere", "(LOnlyLent$Land;)I"⟩, 6) := ⟨⟨by decide +kernel, by decide +kernel⟩, List.mem_of_getElem? (i := 45) (by decide +kernel), List.mem_of_getElem? (i := 609) (by decide +kernel), List.mem_of_getElem? (i := 610) (by decide +kernel)⟩
def lw_privs_1 : List (MethodName × Nat) := [(⟨"OnlyLent", "refuse", "(I)I"⟩, 12), (⟨"OnlyLent$Text", "addByte", "(I)V"⟩, 2), (⟨"OnlyLent", "deny", "(I)Z"⟩, 12), (⟨"OnlyLent$Reader", "step", "()V"⟩, 6), (⟨"OnlyLent$Reader", "takeWord", "()V"⟩, 6), (⟨"OnlyLent$Reader", "takeNumber", "()V"⟩, 6), (⟨"OnlyLent$Reader", "readLine", "(LOnlyLent$Land;)Z"⟩, 6), (⟨"OnlyLent$Reader", "says", "(Ljava/lang/String;)Z"⟩, 6), (⟨"OnlyLent$Reader", "readPerson", "(LOnlyLent$Land;)Z"⟩, 6), (⟨"OnlyLent$Reader", "isNewName", "(LOnlyLent$Land;)Z"⟩, 6), (⟨"OnlyLent$Reader", "isKept", "()Z"⟩, 6), (⟨"OnlyLent$Reader", "isNumber", "(II)Z"⟩, 6), (⟨"OnlyLent$Reader", "closes", "()Z"⟩, 6), (⟨"OnlyLent$Reader", "readSort", "(LOnlyLent$Land;)Z"⟩, 6), (⟨"OnlyLent$Reader", "readThing", "(LOnlyLent$Land;)Z"⟩, 6), (⟨"OnlyLent$Reader", "sortHere", "(LOnlyLent$Land;)I"⟩, 6)]
theorem lw_r1 : ∀ q ∈ lw_privs_1, lw_okq q := List.forall_mem_cons.mpr ⟨lw_p0, List.forall_mem_cons.mpr ⟨lw_p1, List.forall_mem_cons.mpr ⟨lw_p2, List.forall_mem_cons.mpr ⟨lw_p3, List.forall_mem_cons.mpr ⟨lw_p4, List.forall_mem_cons.mpr ⟨lw_p5, List.forall_mem_cons.mpr ⟨lw_p6, List.forall_mem_cons.mpr ⟨lw_p7, List.forall_mem_cons.mpr ⟨lw_p8, List.forall_mem_cons.mpr ⟨lw_p9, List.forall_mem_cons.mpr ⟨lw_p10, List.forall_mem_cons.mpr ⟨lw_p11, List.forall_mem_cons.mpr ⟨lw_p12, List.forall_mem_cons.mpr ⟨lw_p13, List.forall_mem_cons.mpr ⟨lw_p14, List.forall_mem_cons.mpr ⟨lw_p15, fun _ h => absurd h List.not_mem_nil⟩⟩⟩⟩⟩⟩⟩⟩⟩⟩⟩⟩⟩⟩⟩⟩
theorem lw_p16 : lw_okq (⟨"OnlyLent$Reader", "personHere", "(LOnlyLent$Land;)I"⟩, 6) := ⟨⟨by decide +kernel, by decide +kernel⟩, List.mem_of_getElem? (i := 45) (by decide +kernel), List.mem_of_getElem? (i := 625) (by decide +kernel), List.mem_of_getElem? (i := 626) (by decide +kernel)⟩
theorem lw_p17 : lw_okq (⟨"OnlyLent$Reader", "readWant", "(LOnlyLent$Land;)Z"⟩, 6) := ⟨⟨by decide +kernel, by decide +kernel⟩, List.mem_of_getElem? (i := 45) (by decide +kernel), List.mem_of_getElem? (i := 637) (by decide +kernel), List.mem_of_getElem? (i := 638) (by decide +kernel)⟩
theorem lw_p18 : lw_okq (⟨"OnlyLent$Land", "orderByFrom", "(II)V"⟩, 19) := ⟨⟨by decide +kernel, by decide +kernel⟩, List.mem_of_getElem? (i := 297) (by decide +kernel), List.mem_of_getElem? (i := 659) (by decide +kernel), List.mem_of_getElem? (i := 660) (by decide +kernel)⟩
theorem lw_p19 : lw_okq (⟨"OnlyLent$Reader", "readHands", "(LOnlyLent$Land;)Z"⟩, 6) := ⟨⟨by decide +kernel, by decide +kernel⟩, List.mem_of_getElem? (i := 45) (by decide +kernel), List.mem_of_getElem? (i := 671) (by decide +kernel), List.mem_of_getElem? (i := 672) (by decide +kernel)⟩
theorem lw_p20 : lw_okq (⟨"OnlyLent$Reader", "readRoad", "(LOnlyLent$Land;)Z"⟩, 6) := ⟨⟨by decide +kernel, by decide +kernel⟩, List.mem_of_getElem? (i := 45) (by decide +kernel), List.mem_of_getElem? (i := 683) (by decide +kernel), List.mem_of_getElem? (i := 684) (by decide +kernel)⟩
theorem lw_p21 : lw_okq (⟨"OnlyLent$Reader", "readHeir", "(LOnlyLent$Land;)Z"⟩, 6) := ⟨⟨by decide +kernel, by decide +kernel⟩, List.mem_of_getElem? (i := 45) (by decide +kernel), List.mem_of_getElem? (i := 691) (by decide +kernel), List.mem_of_getElem? (i := 692) (by decide +kernel)⟩
theorem lw_p22 : lw_okq (⟨"OnlyLent$Holdings", "push", "(III)V"⟩, 8) := ⟨⟨by decide +kernel, by decide +kernel⟩, List.mem_of_getElem? (i := 70) (by decide +kernel), List.mem_of_getElem? (i := 717) (by decide +kernel), List.mem_of_getElem? (i := 718) (by decide +kernel)⟩
theorem lw_p23 : lw_okq (⟨"OnlyLent", "dropImages", "()V"⟩, 12) := ⟨⟨by decide +kernel, by decide +kernel⟩, List.mem_of_getElem? (i := 23) (by decide +kernel), List.mem_of_getElem? (i := 726) (by decide +kernel), List.mem_of_getElem? (i := 727) (by decide +kernel)⟩
theorem lw_p24 : lw_okq (⟨"OnlyLent$Holdings", "isInChain", "(II)Z"⟩, 8) := ⟨⟨by decide +kernel, by decide +kernel⟩, List.mem_of_getElem? (i := 70) (by decide +kernel), List.mem_of_getElem? (i := 830) (by decide +kernel), List.mem_of_getElem? (i := 831) (by decide +kernel)⟩
theorem lw_p25 : lw_okq (⟨"OnlyLent$Holdings", "endLoans", "(LOnlyLent$Land;I)I"⟩, 8) := ⟨⟨by decide +kernel, by decide +kernel⟩, List.mem_of_getElem? (i := 70) (by decide +kernel), List.mem_of_getElem? (i := 866) (by decide +kernel), List.mem_of_getElem? (i := 867) (by decide +kernel)⟩
theorem lw_p26 : lw_okq (⟨"OnlyLent$Holdings", "owesFor", "(III)Z"⟩, 8) := ⟨⟨by decide +kernel, by decide +kernel⟩, List.mem_of_getElem? (i := 70) (by decide +kernel), List.mem_of_getElem? (i := 894) (by decide +kernel), List.mem_of_getElem? (i := 895) (by decide +kernel)⟩
theorem lw_p27 : lw_okq (⟨"OnlyLent", "prepare", "()V"⟩, 12) := ⟨⟨by decide +kernel, by decide +kernel⟩, List.mem_of_getElem? (i := 23) (by decide +kernel), List.mem_of_getElem? (i := 912) (by decide +kernel), List.mem_of_getElem? (i := 913) (by decide +kernel)⟩
theorem lw_p28 : lw_okq (⟨"OnlyLent$Plan", "makeSort", "(LOnlyLent$Land;I)V"⟩, 9) := ⟨⟨by decide +kernel, by decide +kernel⟩, List.mem_of_getElem? (i := 152) (by decide +kernel), List.mem_of_getElem? (i := 928) (by decide +kernel), List.mem_of_getElem? (i := 929) (by decide +kernel)⟩
theorem lw_p29 : lw_okq (⟨"OnlyLent$Choice", "load", "(LOnlyLent$Land;I)V"⟩, 14) := ⟨⟨by decide +kernel, by decide +kernel⟩, List.mem_of_getElem? (i := 103) (by decide +kernel), List.mem_of_getElem? (i := 938) (by decide +kernel), List.mem_of_getElem? (i := 939) (by decide +kernel)⟩
theorem lw_p30 : lw_okq (⟨"OnlyLent$Choice", "loadWant", "(IIII)V"⟩, 14) := ⟨⟨by decide +kernel, by decide +kernel⟩, List.mem_of_getElem? (i := 103) (by decide +kernel), List.mem_of_getElem? (i := 951) (by decide +kernel), List.mem_of_getElem? (i := 952) (by decide +kernel)⟩
theorem lw_p31 : lw_okq (⟨"OnlyLent$Choice", "fits", "(II)Z"⟩, 14) := ⟨⟨by decide +kernel, by decide +kernel⟩, List.mem_of_getElem? (i := 103) (by decide +kernel), List.mem_of_getElem? (i := 960) (by decide +kernel), List.mem_of_getElem? (i := 961) (by decide +kernel)⟩
def lw_privs_2 : List (MethodName × Nat) := [(⟨"OnlyLent$Reader", "personHere", "(LOnlyLent$Land;)I"⟩, 6), (⟨"OnlyLent$Reader", "readWant", "(LOnlyLent$Land;)Z"⟩, 6), (⟨"OnlyLent$Land", "orderByFrom", "(II)V"⟩, 19), (⟨"OnlyLent$Reader", "readHands", "(LOnlyLent$Land;)Z"⟩, 6), (⟨"OnlyLent$Reader", "readRoad", "(LOnlyLent$Land;)Z"⟩, 6), (⟨"OnlyLent$Reader", "readHeir", "(LOnlyLent$Land;)Z"⟩, 6), (⟨"OnlyLent$Holdings", "push", "(III)V"⟩, 8), (⟨"OnlyLent", "dropImages", "()V"⟩, 12), (⟨"OnlyLent$Holdings", "isInChain", "(II)Z"⟩, 8), (⟨"OnlyLent$Holdings", "endLoans", "(LOnlyLent$Land;I)I"⟩, 8), (⟨"OnlyLent$Holdings", "owesFor", "(III)Z"⟩, 8), (⟨"OnlyLent", "prepare", "()V"⟩, 12), (⟨"OnlyLent$Plan", "makeSort", "(LOnlyLent$Land;I)V"⟩, 9), (⟨"OnlyLent$Choice", "load", "(LOnlyLent$Land;I)V"⟩, 14), (⟨"OnlyLent$Choice", "loadWant", "(IIII)V"⟩, 14), (⟨"OnlyLent$Choice", "fits", "(II)Z"⟩, 14)]
theorem lw_r2 : ∀ q ∈ lw_privs_2, lw_okq q := List.forall_mem_cons.mpr ⟨lw_p16, List.forall_mem_cons.mpr ⟨lw_p17, List.forall_mem_cons.mpr ⟨lw_p18, List.forall_mem_cons.mpr ⟨lw_p19, List.forall_mem_cons.mpr ⟨lw_p20, List.forall_mem_cons.mpr ⟨lw_p21, List.forall_mem_cons.mpr ⟨lw_p22, List.forall_mem_cons.mpr ⟨lw_p23, List.forall_mem_cons.mpr ⟨lw_p24, List.forall_mem_cons.mpr ⟨lw_p25, List.forall_mem_cons.mpr ⟨lw_p26, List.forall_mem_cons.mpr ⟨lw_p27, List.forall_mem_cons.mpr ⟨lw_p28, List.forall_mem_cons.mpr ⟨lw_p29, List.forall_mem_cons.mpr ⟨lw_p30, List.forall_mem_cons.mpr ⟨lw_p31, fun _ h => absurd h List.not_mem_nil⟩⟩⟩⟩⟩⟩⟩⟩⟩⟩⟩⟩⟩⟩⟩⟩
theorem lw_p32 : lw_okq (⟨"OnlyLent$Choice", "roomOn", "(I)I"⟩, 14) := ⟨⟨by decide +kernel, by decide +kernel⟩, List.mem_of_getElem? (i := 103) (by decide +kernel), List.mem_of_getElem? (i := 965) (by decide +kernel), List.mem_of_getElem? (i := 966) (by decide +kernel)⟩
theorem lw_p33 : lw_okq (⟨"OnlyLent$Giving", "load", "(LOnlyLent$Land;I)V"⟩, 5) := ⟨⟨by decide +kernel, by decide +kernel⟩, List.mem_of_getElem? (i := 171) (by decide +kernel), List.mem_of_getElem? (i := 984) (by decide +kernel), List.mem_of_getElem? (i := 985) (by decide +kernel)⟩
theorem lw_p34 : lw_okq (⟨"OnlyLent$Giving", "costOf", "(LOnlyLent$Land;IIII)J"⟩, 5) := ⟨⟨by decide +kernel, by decide +kernel⟩, List.mem_of_getElem? (i := 171) (by decide +kernel), List.mem_of_getElem? (i := 1003) (by decide +kernel), List.mem_of_getElem? (i := 1004) (by decide +kernel)⟩
theorem lw_p35 : lw_okq (⟨"OnlyLent$Giving", "addThing", "()V"⟩, 5) := ⟨⟨by decide +kernel, by decide +kernel⟩, List.mem_of_getElem? (i := 171) (by decide +kernel), List.mem_of_getElem? (i := 1033) (by decide +kernel), List.mem_of_getElem? (i := 1034) (by decide +kernel)⟩
theorem lw_p36 : lw_okq (⟨"OnlyLent$Plan", "thingAt", "(LOnlyLent$Land;II)I"⟩, 9) := ⟨⟨by decide +kernel, by decide +kernel⟩, List.mem_of_getElem? (i := 152) (by decide +kernel), List.mem_of_getElem? (i := 1046) (by decide +kernel), List.mem_of_getElem? (i := 1047) (by decide +kernel)⟩
theorem lw_p37 : lw_okq (⟨"OnlyLent$Plan", "addTrips", "(LOnlyLent$Land;I)V"⟩, 9) := ⟨⟨by decide +kernel, by decide +kernel⟩, List.mem_of_getElem? (i := 152) (by decide +kernel), List.mem_of_getElem? (i := 1058) (by decide +kernel), List.mem_of_getElem? (i := 1059) (by decide +kernel)⟩
theorem lw_p38 : lw_okq (⟨"OnlyLent", "metOfSort", "(I)I"⟩, 12) := ⟨⟨by decide +kernel, by decide +kernel⟩, List.mem_of_getElem? (i := 23) (by decide +kernel), List.mem_of_getElem? (i := 1123) (by decide +kernel), List.mem_of_getElem? (i := 1124) (by decide +kernel)⟩
theorem lw_p39 : lw_okq (⟨"OnlyLent$Trips", "isOf", "(III)Z"⟩, 8) := ⟨⟨by decide +kernel, by decide +kernel⟩, List.mem_of_getElem? (i := 194) (by decide +kernel), List.mem_of_getElem? (i := 1170) (by decide +kernel), List.mem_of_getElem? (i := 1171) (by decide +kernel)⟩
theorem lw_p40 : lw_okq (⟨"OnlyLent$Lateness", "freeBehind", "(LOnlyLent$Land;III)I"⟩, 2) := ⟨⟨by decide +kernel, by decide +kernel⟩, List.mem_of_getElem? (i := 253) (by decide +kernel), List.mem_of_getElem? (i := 1208) (by decide +kernel), List.mem_of_getElem? (i := 1209) (by decide +kernel)⟩
theorem lw_p41 : lw_okq (⟨"OnlyLent", "lostByDeath", "(II)I"⟩, 12) := ⟨⟨by decide +kernel, by decide +kernel⟩, List.mem_of_getElem? (i := 23) (by decide +kernel), List.mem_of_getElem? (i := 1240) (by decide +kernel), List.mem_of_getElem? (i := 1241) (by decide +kernel)⟩
theorem lw_p42 : lw_okq (⟨"OnlyLent", "freedByDeath", "(I)I"⟩, 12) := ⟨⟨by decide +kernel, by decide +kernel⟩, List.mem_of_getElem? (i := 23) (by decide +kernel), List.mem_of_getElem? (i := 1251) (by decide +kernel), List.mem_of_getElem? (i := 1252) (by decide +kernel)⟩
theorem lw_p43 : lw_okq (⟨"OnlyLent$Book", "mostTrue", "(I)I"⟩, 8) := ⟨⟨by decide +kernel, by decide +kernel⟩, List.mem_of_getElem? (i := 266) (by decide +kernel), List.mem_of_getElem? (i := 1284) (by decide +kernel), List.mem_of_getElem? (i := 1285) (by decide +kernel)⟩
theorem lw_p44 : lw_okq (⟨"OnlyLent$Book", "areTrue", "(II)Z"⟩, 8) := ⟨⟨by decide +kernel, by decide +kernel⟩, List.mem_of_getElem? (i := 266) (by decide +kernel), List.mem_of_getElem? (i := 1289) (by decide +kernel), List.mem_of_getElem? (i := 1290) (by decide +kernel)⟩
theorem lw_p45 : lw_okq (⟨"OnlyLent$Book", "placeInRow", "(II)I"⟩, 8) := ⟨⟨by decide +kernel, by decide +kernel⟩, List.mem_of_getElem? (i := 266) (by decide +kernel), List.mem_of_getElem? (i := 1295) (by decide +kernel), List.mem_of_getElem? (i := 1296) (by decide +kernel)⟩
theorem lw_p46 : lw_okq (⟨"OnlyLent", "imageOf", "(I)LOnlyLent$Holdings;"⟩, 12) := ⟨⟨by decide +kernel, by decide +kernel⟩, List.mem_of_getElem? (i := 23) (by decide +kernel), List.mem_of_getElem? (i := 1330) (by decide +kernel), List.mem_of_getElem? (i := 1331) (by decide +kernel)⟩
theorem lw_p47 : lw_okq (⟨"OnlyLent", "countInLand", "(I)I"⟩, 12) := ⟨⟨by decide +kernel, by decide +kernel⟩, List.mem_of_getElem? (i := 23) (by decide +kernel), List.mem_of_getElem? (i := 1357) (by decide +kernel), List.mem_of_getElem? (i := 1358) (by decide +kernel)⟩
def lw_privs_3 : List (MethodName × Nat) := [(⟨"OnlyLent$Choice", "roomOn", "(I)I"⟩, 14), (⟨"OnlyLent$Giving", "load", "(LOnlyLent$Land;I)V"⟩, 5), (⟨"OnlyLent$Giving", "costOf", "(LOnlyLent$Land;IIII)J"⟩, 5), (⟨"OnlyLent$Giving", "addThing", "()V"⟩, 5), (⟨"OnlyLent$Plan", "thingAt", "(LOnlyLent$Land;II)I"⟩, 9), (⟨"OnlyLent$Plan", "addTrips", "(LOnlyLent$Land;I)V"⟩, 9), (⟨"OnlyLent", "metOfSort", "(I)I"⟩, 12), (⟨"OnlyLent$Trips", "isOf", "(III)Z"⟩, 8), (⟨"OnlyLent$Lateness", "freeBehind", "(LOnlyLent$Land;III)I"⟩, 2), (⟨"OnlyLent", "lostByDeath", "(II)I"⟩, 12), (⟨"OnlyLent", "freedByDeath", "(I)I"⟩, 12), (⟨"OnlyLent$Book", "mostTrue", "(I)I"⟩, 8), (⟨"OnlyLent$Book", "areTrue", "(II)Z"⟩, 8), (⟨"OnlyLent$Book", "placeInRow", "(II)I"⟩, 8), (⟨"OnlyLent", "imageOf", "(I)LOnlyLent$Holdings;"⟩, 12), (⟨"OnlyLent", "countInLand", "(I)I"⟩, 12)]
theorem lw_r3 : ∀ q ∈ lw_privs_3, lw_okq q := List.forall_mem_cons.mpr ⟨lw_p32, List.forall_mem_cons.mpr ⟨lw_p33, List.forall_mem_cons.mpr ⟨lw_p34, List.forall_mem_cons.mpr ⟨lw_p35, List.forall_mem_cons.mpr ⟨lw_p36, List.forall_mem_cons.mpr ⟨lw_p37, List.forall_mem_cons.mpr ⟨lw_p38, List.forall_mem_cons.mpr ⟨lw_p39, List.forall_mem_cons.mpr ⟨lw_p40, List.forall_mem_cons.mpr ⟨lw_p41, List.forall_mem_cons.mpr ⟨lw_p42, List.forall_mem_cons.mpr ⟨lw_p43, List.forall_mem_cons.mpr ⟨lw_p44, List.forall_mem_cons.mpr ⟨lw_p45, List.forall_mem_cons.mpr ⟨lw_p46, List.forall_mem_cons.mpr ⟨lw_p47, fun _ h => absurd h List.not_mem_nil⟩⟩⟩⟩⟩⟩⟩⟩⟩⟩⟩⟩⟩⟩⟩⟩
theorem lw_p48 : lw_okq (⟨"OnlyLentModel", "refuse", "(I)I"⟩, 60) := ⟨⟨by decide +kernel, by decide +kernel⟩, List.mem_of_getElem? (i := 1369) (by decide +kernel), List.mem_of_getElem? (i := 1580) (by decide +kernel), List.mem_of_getElem? (i := 1581) (by decide +kernel)⟩
theorem lw_p49 : lw_okq (⟨"OnlyLentModel", "feeds", "(I)V"⟩, 60) := ⟨⟨by decide +kernel, by decide +kernel⟩, List.mem_of_getElem? (i := 1369) (by decide +kernel), List.mem_of_getElem? (i := 1584) (by decide +kernel), List.mem_of_getElem? (i := 1585) (by decide +kernel)⟩
theorem lw_p50 : lw_okq (⟨"OnlyLentModel", "deny", "(I)Z"⟩, 60) := ⟨⟨by decide +kernel, by decide +kernel⟩, List.mem_of_getElem? (i := 1369) (by decide +kernel), List.mem_of_getElem? (i := 1592) (by decide +kernel), List.mem_of_getElem? (i := 1593) (by decide +kernel)⟩
theorem lw_p51 : lw_okq (⟨"OnlyLentModel", "reads", "()V"⟩, 60) := ⟨⟨by decide +kernel, by decide +kernel⟩, List.mem_of_getElem? (i := 1369) (by decide +kernel), List.mem_of_getElem? (i := 1600) (by decide +kernel), List.mem_of_getElem? (i := 1601) (by decide +kernel)⟩
theorem lw_p52 : lw_okq (⟨"OnlyLentModel", "next", "()V"⟩, 60) := ⟨⟨by decide +kernel, by decide +kernel⟩, List.mem_of_getElem? (i := 1369) (by decide +kernel), List.mem_of_getElem? (i := 1604) (by decide +kernel), List.mem_of_getElem? (i := 1605) (by decide +kernel)⟩
theorem lw_p53 : lw_okq (⟨"OnlyLentModel", "between", "(III)Z"⟩, 60) := ⟨⟨by decide +kernel, by decide +kernel⟩, List.mem_of_getElem? (i := 1369) (by decide +kernel), List.mem_of_getElem? (i := 1608) (by decide +kernel), List.mem_of_getElem? (i := 1609) (by decide +kernel)⟩
theorem lw_p54 : lw_okq (⟨"OnlyLentModel", "line", "()Z"⟩, 60) := ⟨⟨by decide +kernel, by decide +kernel⟩, List.mem_of_getElem? (i := 1369) (by decide +kernel), List.mem_of_getElem? (i := 1612) (by decide +kernel), List.mem_of_getElem? (i := 1613) (by decide +kernel)⟩
theorem lw_p55 : lw_okq (⟨"OnlyLentModel", "wordHere", "()I"⟩, 60) := ⟨⟨by decide +kernel, by decide +kernel⟩, List.mem_of_getElem? (i := 1369) (by decide +kernel), List.mem_of_getElem? (i := 1616) (by decide +kernel), List.mem_of_getElem? (i := 1617) (by decide +kernel)⟩
theorem lw_p56 : lw_okq (⟨"OnlyLentModel", "passes", "(Z)Z"⟩, 60) := ⟨⟨by decide +kernel, by decide +kernel⟩, List.mem_of_getElem? (i := 1369) (by decide +kernel), List.mem_of_getElem? (i := 1622) (by decide +kernel), List.mem_of_getElem? (i := 1623) (by decide +kernel)⟩
theorem lw_p57 : lw_okq (⟨"OnlyLentModel", "isNew", "(I)Z"⟩, 60) := ⟨⟨by decide +kernel, by decide +kernel⟩, List.mem_of_getElem? (i := 1369) (by decide +kernel), List.mem_of_getElem? (i := 1626) (by decide +kernel), List.mem_of_getElem? (i := 1627) (by decide +kernel)⟩
theorem lw_p58 : lw_okq (⟨"OnlyLentModel", "nameHere", "()J"⟩, 60) := ⟨⟨by decide +kernel, by decide +kernel⟩, List.mem_of_getElem? (i := 1369) (by decide +kernel), List.mem_of_getElem? (i := 1630) (by decide +kernel), List.mem_of_getElem? (i := 1631) (by decide +kernel)⟩
theorem lw_p59 : lw_okq (⟨"OnlyLentModel", "found", "(Z)I"⟩, 60) := ⟨⟨by decide +kernel, by decide +kernel⟩, List.mem_of_getElem? (i := 1369) (by decide +kernel), List.mem_of_getElem? (i := 1637) (by decide +kernel), List.mem_of_getElem? (i := 1638) (by decide +kernel)⟩
theorem lw_p60 : lw_okq (⟨"OnlyLentModel", "into", "([IIII)Z"⟩, 60) := ⟨⟨by decide +kernel, by decide +kernel⟩, List.mem_of_getElem? (i := 1369) (by decide +kernel), List.mem_of_getElem? (i := 1641) (by decide +kernel), List.mem_of_getElem? (i := 1642) (by decide +kernel)⟩
theorem lw_p61 : lw_okq (⟨"OnlyLentModel", "closes", "()Z"⟩, 60) := ⟨⟨by decide +kernel, by decide +kernel⟩, List.mem_of_getElem? (i := 1369) (by decide +kernel), List.mem_of_getElem? (i := 1645) (by decide +kernel), List.mem_of_getElem? (i := 1646) (by decide +kernel)⟩
theorem lw_p62 : lw_okq (⟨"OnlyLentModel", "thingRead", "()Z"⟩, 60) := ⟨⟨by decide +kernel, by decide +kernel⟩, List.mem_of_getElem? (i := 1369) (by decide +kernel), List.mem_of_getElem? (i := 1649) (by decide +kernel), List.mem_of_getElem? (i := 1650) (by decide +kernel)⟩
theorem lw_p63 : lw_okq (⟨"OnlyLentModel", "ofSort", "([III)I"⟩, 60) := ⟨⟨by decide +kernel, by decide +kernel⟩, List.mem_of_getElem? (i := 1369) (by decide +kernel), List.mem_of_getElem? (i := 1653) (by decide +kernel), List.mem_of_getElem? (i := 1654) (by decide +kernel)⟩
def lw_privs_4 : List (MethodName × Nat) := [(⟨"OnlyLentModel", "refuse", "(I)I"⟩, 60), (⟨"OnlyLentModel", "feeds", "(I)V"⟩, 60), (⟨"OnlyLentModel", "deny", "(I)Z"⟩, 60), (⟨"OnlyLentModel", "reads", "()V"⟩, 60), (⟨"OnlyLentModel", "next", "()V"⟩, 60), (⟨"OnlyLentModel", "between", "(III)Z"⟩, 60), (⟨"OnlyLentModel", "line", "()Z"⟩, 60), (⟨"OnlyLentModel", "wordHere", "()I"⟩, 60), (⟨"OnlyLentModel", "passes", "(Z)Z"⟩, 60), (⟨"OnlyLentModel", "isNew", "(I)Z"⟩, 60), (⟨"OnlyLentModel", "nameHere", "()J"⟩, 60), (⟨"OnlyLentModel", "found", "(Z)I"⟩, 60), (⟨"OnlyLentModel", "into", "([IIII)Z"⟩, 60), (⟨"OnlyLentModel", "closes", "()Z"⟩, 60), (⟨"OnlyLentModel", "thingRead", "()Z"⟩, 60), (⟨"OnlyLentModel", "ofSort", "([III)I"⟩, 60)]
theorem lw_r4 : ∀ q ∈ lw_privs_4, lw_okq q := List.forall_mem_cons.mpr ⟨lw_p48, List.forall_mem_cons.mpr ⟨lw_p49, List.forall_mem_cons.mpr ⟨lw_p50, List.forall_mem_cons.mpr ⟨lw_p51, List.forall_mem_cons.mpr ⟨lw_p52, List.forall_mem_cons.mpr ⟨lw_p53, List.forall_mem_cons.mpr ⟨lw_p54, List.forall_mem_cons.mpr ⟨lw_p55, List.forall_mem_cons.mpr ⟨lw_p56, List.forall_mem_cons.mpr ⟨lw_p57, List.forall_mem_cons.mpr ⟨lw_p58, List.forall_mem_cons.mpr ⟨lw_p59, List.forall_mem_cons.mpr ⟨lw_p60, List.forall_mem_cons.mpr ⟨lw_p61, List.forall_mem_cons.mpr ⟨lw_p62, List.forall_mem_cons.mpr ⟨lw_p63, fun _ h => absurd h List.not_mem_nil⟩⟩⟩⟩⟩⟩⟩⟩⟩⟩⟩⟩⟩⟩⟩⟩
theorem lw_p64 : lw_okq (⟨"OnlyLentModel", "wantRead", "()Z"⟩, 60) := ⟨⟨by decide +kernel, by decide +kernel⟩, List.mem_of_getElem? (i := 1369) (by decide +kernel), List.mem_of_getElem? (i := 1657) (by decide +kernel), List.mem_of_getElem? (i := 1658) (by decide +kernel)⟩
theorem lw_p65 : lw_okq (⟨"OnlyLentModel", "heirRead", "()Z"⟩, 60) := ⟨⟨by decide +kernel, by decide +kernel⟩, List.mem_of_getElem? (i := 1369) (by decide +kernel), List.mem_of_getElem? (i := 1661) (by decide +kernel), List.mem_of_getElem? (i := 1662) (by decide +kernel)⟩
theorem lw_p66 : lw_okq (⟨"OnlyLentModel", "things", "()I"⟩, 60) := ⟨⟨by decide +kernel, by decide +kernel⟩, List.mem_of_getElem? (i := 1369) (by decide +kernel), List.mem_of_getElem? (i := 1672) (by decide +kernel), List.mem_of_getElem? (i := 1673) (by decide +kernel)⟩
theorem lw_p67 : lw_okq (⟨"OnlyLentModel", "people", "()I"⟩, 60) := ⟨⟨by decide +kernel, by decide +kernel⟩, List.mem_of_getElem? (i := 1369) (by decide +kernel), List.mem_of_getElem? (i := 1676) (by decide +kernel), List.mem_of_getElem? (i := 1677) (by decide +kernel)⟩
theorem lw_p68 : lw_okq (⟨"OnlyLentModel", "isPerson", "(I)Z"⟩, 60) := ⟨⟨by decide +kernel, by decide +kernel⟩, List.mem_of_getElem? (i := 1369) (by decide +kernel), List.mem_of_getElem? (i := 1684) (by decide +kernel), List.mem_of_getElem? (i := 1685) (by decide +kernel)⟩
theorem lw_p69 : lw_okq (⟨"OnlyLentModel", "holder", "(I)I"⟩, 60) := ⟨⟨by decide +kernel, by decide +kernel⟩, List.mem_of_getElem? (i := 1369) (by decide +kernel), List.mem_of_getElem? (i := 1688) (by decide +kernel), List.mem_of_getElem? (i := 1689) (by decide +kernel)⟩
theorem lw_p70 : lw_okq (⟨"OnlyLentModel", "isWant", "(I)Z"⟩, 60) := ⟨⟨by decide +kernel, by decide +kernel⟩, List.mem_of_getElem? (i := 1369) (by decide +kernel), List.mem_of_getElem? (i := 1696) (by decide +kernel), List.mem_of_getElem? (i := 1697) (by decide +kernel)⟩
theorem lw_p71 : lw_okq (⟨"OnlyLentModel", "wants", "()I"⟩, 60) := ⟨⟨by decide +kernel, by decide +kernel⟩, List.mem_of_getElem? (i := 1369) (by decide +kernel), List.mem_of_getElem? (i := 1700) (by decide +kernel), List.mem_of_getElem? (i := 1701) (by decide +kernel)⟩
theorem lw_p72 : lw_okq (⟨"OnlyLentModel", "isThing", "(I)Z"⟩, 60) := ⟨⟨by decide +kernel, by decide +kernel⟩, List.mem_of_getElem? (i := 1369) (by decide +kernel), List.mem_of_getElem? (i := 1708) (by decide +kernel), List.mem_of_getElem? (i := 1709) (by decide +kernel)⟩
theorem lw_p73 : lw_okq (⟨"OnlyLentModel", "till", "(I)I"⟩, 60) := ⟨⟨by decide +kernel, by decide +kernel⟩, List.mem_of_getElem? (i := 1369) (by decide +kernel), List.mem_of_getElem? (i := 1712) (by decide +kernel), List.mem_of_getElem? (i := 1713) (by decide +kernel)⟩
theorem lw_p74 : lw_okq (⟨"OnlyLentModel", "far", "(II)I"⟩, 60) := ⟨⟨by decide +kernel, by decide +kernel⟩, List.mem_of_getElem? (i := 1369) (by decide +kernel), List.mem_of_getElem? (i := 1725) (by decide +kernel), List.mem_of_getElem? (i := 1726) (by decide +kernel)⟩
theorem lw_p75 : lw_okq (⟨"OnlyLentModel", "owedOf", "(II)I"⟩, 60) := ⟨⟨by decide +kernel, by decide +kernel⟩, List.mem_of_getElem? (i := 1369) (by decide +kernel), List.mem_of_getElem? (i := 1750) (by decide +kernel), List.mem_of_getElem? (i := 1751) (by decide +kernel)⟩
theorem lw_p76 : lw_okq (⟨"OnlyLentModel", "metBits", "()I"⟩, 60) := ⟨⟨by decide +kernel, by decide +kernel⟩, List.mem_of_getElem? (i := 1369) (by decide +kernel), List.mem_of_getElem? (i := 1763) (by decide +kernel), List.mem_of_getElem? (i := 1764) (by decide +kernel)⟩
theorem lw_p77 : lw_okq (⟨"OnlyLentModel", "sorts", "()I"⟩, 60) := ⟨⟨by decide +kernel, by decide +kernel⟩, List.mem_of_getElem? (i := 1369) (by decide +kernel), List.mem_of_getElem? (i := 1767) (by decide +kernel), List.mem_of_getElem? (i := 1768) (by decide +kernel)⟩
theorem lw_p78 : lw_okq (⟨"OnlyLentModel", "bestOf", "(I)I"⟩, 60) := ⟨⟨by decide +kernel, by decide +kernel⟩, List.mem_of_getElem? (i := 1369) (by decide +kernel), List.mem_of_getElem? (i := 1771) (by decide +kernel), List.mem_of_getElem? (i := 1772) (by decide +kernel)⟩
theorem lw_p79 : lw_okq (⟨"OnlyLentModel", "bitsOf", "(I)I"⟩, 60) := ⟨⟨by decide +kernel, by decide +kernel⟩, List.mem_of_getElem? (i := 1369) (by decide +kernel), List.mem_of_getElem? (i := 1775) (by decide +kernel), List.mem_of_getElem? (i := 1776) (by decide +kernel)⟩
def lw_privs_5 : List (MethodName × Nat) := [(⟨"OnlyLentModel", "wantRead", "()Z"⟩, 60), (⟨"OnlyLentModel", "heirRead", "()Z"⟩, 60), (⟨"OnlyLentModel", "things", "()I"⟩, 60), (⟨"OnlyLentModel", "people", "()I"⟩, 60), (⟨"OnlyLentModel", "isPerson", "(I)Z"⟩, 60), (⟨"OnlyLentModel", "holder", "(I)I"⟩, 60), (⟨"OnlyLentModel", "isWant", "(I)Z"⟩, 60), (⟨"OnlyLentModel", "wants", "()I"⟩, 60), (⟨"OnlyLentModel", "isThing", "(I)Z"⟩, 60), (⟨"OnlyLentModel", "till", "(I)I"⟩, 60), (⟨"OnlyLentModel", "far", "(II)I"⟩, 60), (⟨"OnlyLentModel", "owedOf", "(II)I"⟩, 60), (⟨"OnlyLentModel", "metBits", "()I"⟩, 60), (⟨"OnlyLentModel", "sorts", "()I"⟩, 60), (⟨"OnlyLentModel", "bestOf", "(I)I"⟩, 60), (⟨"OnlyLentModel", "bitsOf", "(I)I"⟩, 60)]
theorem lw_r5 : ∀ q ∈ lw_privs_5, lw_okq q := List.forall_mem_cons.mpr ⟨lw_p64, List.forall_mem_cons.mpr ⟨lw_p65, List.forall_mem_cons.mpr ⟨lw_p66, List.forall_mem_cons.mpr ⟨lw_p67, List.forall_mem_cons.mpr ⟨lw_p68, List.forall_mem_cons.mpr ⟨lw_p69, List.forall_mem_cons.mpr ⟨lw_p70, List.forall_mem_cons.mpr ⟨lw_p71, List.forall_mem_cons.mpr ⟨lw_p72, List.forall_mem_cons.mpr ⟨lw_p73, List.forall_mem_cons.mpr ⟨lw_p74, List.forall_mem_cons.mpr ⟨lw_p75, List.forall_mem_cons.mpr ⟨lw_p76, List.forall_mem_cons.mpr ⟨lw_p77, List.forall_mem_cons.mpr ⟨lw_p78, List.forall_mem_cons.mpr ⟨lw_p79, fun _ h => absurd h List.not_mem_nil⟩⟩⟩⟩⟩⟩⟩⟩⟩⟩⟩⟩⟩⟩⟩⟩
theorem lw_p80 : lw_okq (⟨"OnlyLentModel", "thingsOf", "(I)I"⟩, 60) := ⟨⟨by decide +kernel, by decide +kernel⟩, List.mem_of_getElem? (i := 1369) (by decide +kernel), List.mem_of_getElem? (i := 1779) (by decide +kernel), List.mem_of_getElem? (i := 1780) (by decide +kernel)⟩
theorem lw_p81 : lw_okq (⟨"OnlyLentModel", "bestHeap", "(III)I"⟩, 60) := ⟨⟨by decide +kernel, by decide +kernel⟩, List.mem_of_getElem? (i := 1369) (by decide +kernel), List.mem_of_getElem? (i := 1783) (by decide +kernel), List.mem_of_getElem? (i := 1784) (by decide +kernel)⟩
theorem lw_p82 : lw_okq (⟨"OnlyLentModel", "worthOf", "(I)I"⟩, 60) := ⟨⟨by decide +kernel, by decide +kernel⟩, List.mem_of_getElem? (i := 1369) (by decide +kernel), List.mem_of_getElem? (i := 1787) (by decide +kernel), List.mem_of_getElem? (i := 1788) (by decide +kernel)⟩
theorem lw_p83 : lw_okq (⟨"OnlyLentModel", "canMeet", "(II)Z"⟩, 60) := ⟨⟨by decide +kernel, by decide +kernel⟩, List.mem_of_getElem? (i := 1369) (by decide +kernel), List.mem_of_getElem? (i := 1792) (by decide +kernel), List.mem_of_getElem? (i := 1793) (by decide +kernel)⟩
theorem lw_p84 : lw_okq (⟨"OnlyLentModel", "endOf", "(I)I"⟩, 60) := ⟨⟨by decide +kernel, by decide +kernel⟩, List.mem_of_getElem? (i := 1369) (by decide +kernel), List.mem_of_getElem? (i := 1796) (by decide +kernel), List.mem_of_getElem? (i := 1797) (by decide +kernel)⟩
theorem lw_p85 : lw_okq (⟨"OnlyLentModel", "isSort", "(I)Z"⟩, 60) := ⟨⟨by decide +kernel, by decide +kernel⟩, List.mem_of_getElem? (i := 1369) (by decide +kernel), List.mem_of_getElem? (i := 1808) (by decide +kernel), List.mem_of_getElem? (i := 1809) (by decide +kernel)⟩
theorem lw_p86 : lw_okq (⟨"OnlyLentModel", "gives", "(II)V"⟩, 60) := ⟨⟨by decide +kernel, by decide +kernel⟩, List.mem_of_getElem? (i := 1369) (by decide +kernel), List.mem_of_getElem? (i := 1825) (by decide +kernel), List.mem_of_getElem? (i := 1826) (by decide +kernel)⟩
theorem lw_p87 : lw_okq (⟨"OnlyLentModel", "givesFrom", "(III)V"⟩, 60) := ⟨⟨by decide +kernel, by decide +kernel⟩, List.mem_of_getElem? (i := 1369) (by decide +kernel), List.mem_of_getElem? (i := 1829) (by decide +kernel), List.mem_of_getElem? (i := 1830) (by decide +kernel)⟩
theorem lw_p88 : lw_okq (⟨"OnlyLentModel", "laysRow", "(I[I)V"⟩, 60) := ⟨⟨by decide +kernel, by decide +kernel⟩, List.mem_of_getElem? (i := 1369) (by decide +kernel), List.mem_of_getElem? (i := 1833) (by decide +kernel), List.mem_of_getElem? (i := 1834) (by decide +kernel)⟩
theorem lw_p89 : lw_okq (⟨"OnlyLentModel", "wayOf", "(II)I"⟩, 60) := ⟨⟨by decide +kernel, by decide +kernel⟩, List.mem_of_getElem? (i := 1369) (by decide +kernel), List.mem_of_getElem? (i := 1837) (by decide +kernel), List.mem_of_getElem? (i := 1838) (by decide +kernel)⟩
theorem lw_p90 : lw_okq (⟨"OnlyLentModel", "whoAt", "(I)I"⟩, 60) := ⟨⟨by decide +kernel, by decide +kernel⟩, List.mem_of_getElem? (i := 1369) (by decide +kernel), List.mem_of_getElem? (i := 1841) (by decide +kernel), List.mem_of_getElem? (i := 1842) (by decide +kernel)⟩
theorem lw_p91 : lw_okq (⟨"OnlyLentModel", "isFree", "(II)Z"⟩, 60) := ⟨⟨by decide +kernel, by decide +kernel⟩, List.mem_of_getElem? (i := 1369) (by decide +kernel), List.mem_of_getElem? (i := 1845) (by decide +kernel), List.mem_of_getElem? (i := 1846) (by decide +kernel)⟩
theorem lw_p92 : lw_okq (⟨"OnlyLentModel", "laysMoves", "()V"⟩, 60) := ⟨⟨by decide +kernel, by decide +kernel⟩, List.mem_of_getElem? (i := 1369) (by decide +kernel), List.mem_of_getElem? (i := 1858) (by decide +kernel), List.mem_of_getElem? (i := 1859) (by decide +kernel)⟩
theorem lw_p93 : lw_okq (⟨"OnlyLentModel", "givesAll", "()V"⟩, 60) := ⟨⟨by decide +kernel, by decide +kernel⟩, List.mem_of_getElem? (i := 1369) (by decide +kernel), List.mem_of_getElem? (i := 1862) (by decide +kernel), List.mem_of_getElem? (i := 1863) (by decide +kernel)⟩
theorem lw_p94 : lw_okq (⟨"OnlyLentModel", "moves", "(IIIII)V"⟩, 60) := ⟨⟨by decide +kernel, by decide +kernel⟩, List.mem_of_getElem? (i := 1369) (by decide +kernel), List.mem_of_getElem? (i := 1866) (by decide +kernel), List.mem_of_getElem? (i := 1867) (by decide +kernel)⟩
theorem lw_p95 : lw_okq (⟨"OnlyLentModel", "hurts", "(II)V"⟩, 60) := ⟨⟨by decide +kernel, by decide +kernel⟩, List.mem_of_getElem? (i := 1369) (by decide +kernel), List.mem_of_getElem? (i := 1879) (by decide +kernel), List.mem_of_getElem? (i := 1880) (by decide +kernel)⟩
def lw_privs_6 : List (MethodName × Nat) := [(⟨"OnlyLentModel", "thingsOf", "(I)I"⟩, 60), (⟨"OnlyLentModel", "bestHeap", "(III)I"⟩, 60), (⟨"OnlyLentModel", "worthOf", "(I)I"⟩, 60), (⟨"OnlyLentModel", "canMeet", "(II)Z"⟩, 60), (⟨"OnlyLentModel", "endOf", "(I)I"⟩, 60), (⟨"OnlyLentModel", "isSort", "(I)Z"⟩, 60), (⟨"OnlyLentModel", "gives", "(II)V"⟩, 60), (⟨"OnlyLentModel", "givesFrom", "(III)V"⟩, 60), (⟨"OnlyLentModel", "laysRow", "(I[I)V"⟩, 60), (⟨"OnlyLentModel", "wayOf", "(II)I"⟩, 60), (⟨"OnlyLentModel", "whoAt", "(I)I"⟩, 60), (⟨"OnlyLentModel", "isFree", "(II)Z"⟩, 60), (⟨"OnlyLentModel", "laysMoves", "()V"⟩, 60), (⟨"OnlyLentModel", "givesAll", "()V"⟩, 60), (⟨"OnlyLentModel", "moves", "(IIIII)V"⟩, 60), (⟨"OnlyLentModel", "hurts", "(II)V"⟩, 60)]
theorem lw_r6 : ∀ q ∈ lw_privs_6, lw_okq q := List.forall_mem_cons.mpr ⟨lw_p80, List.forall_mem_cons.mpr ⟨lw_p81, List.forall_mem_cons.mpr ⟨lw_p82, List.forall_mem_cons.mpr ⟨lw_p83, List.forall_mem_cons.mpr ⟨lw_p84, List.forall_mem_cons.mpr ⟨lw_p85, List.forall_mem_cons.mpr ⟨lw_p86, List.forall_mem_cons.mpr ⟨lw_p87, List.forall_mem_cons.mpr ⟨lw_p88, List.forall_mem_cons.mpr ⟨lw_p89, List.forall_mem_cons.mpr ⟨lw_p90, List.forall_mem_cons.mpr ⟨lw_p91, List.forall_mem_cons.mpr ⟨lw_p92, List.forall_mem_cons.mpr ⟨lw_p93, List.forall_mem_cons.mpr ⟨lw_p94, List.forall_mem_cons.mpr ⟨lw_p95, fun _ h => absurd h List.not_mem_nil⟩⟩⟩⟩⟩⟩⟩⟩⟩⟩⟩⟩⟩⟩⟩⟩
theorem lw_p96 : lw_okq (⟨"OnlyLentModel", "trueBits", "(I)I"⟩, 60) := ⟨⟨by decide +kernel, by decide +kernel⟩, List.mem_of_getElem? (i := 1369) (by decide +kernel), List.mem_of_getElem? (i := 1907) (by decide +kernel), List.mem_of_getElem? (i := 1908) (by decide +kernel)⟩
theorem lw_p97 : lw_okq (⟨"OnlyLentModel", "areTrue", "(II)Z"⟩, 60) := ⟨⟨by decide +kernel, by decide +kernel⟩, List.mem_of_getElem? (i := 1369) (by decide +kernel), List.mem_of_getElem? (i := 1911) (by decide +kernel), List.mem_of_getElem? (i := 1912) (by decide +kernel)⟩
theorem lw_p98 : lw_okq (⟨"OnlyLentModel", "lot", "(I)I"⟩, 60) := ⟨⟨by decide +kernel, by decide +kernel⟩, List.mem_of_getElem? (i := 1369) (by decide +kernel), List.mem_of_getElem? (i := 1922) (by decide +kernel), List.mem_of_getElem? (i := 1923) (by decide +kernel)⟩
theorem lw_p99 : lw_okq (⟨"OnlyLentModel", "moveAll", "([IZ)V"⟩, 60) := ⟨⟨by decide +kernel, by decide +kernel⟩, List.mem_of_getElem? (i := 1369) (by decide +kernel), List.mem_of_getElem? (i := 1934) (by decide +kernel), List.mem_of_getElem? (i := 1935) (by decide +kernel)⟩
theorem lw_p100 : lw_okq (⟨"OnlyLentModel", "move", "([I[IZ)V"⟩, 60) := ⟨⟨by decide +kernel, by decide +kernel⟩, List.mem_of_getElem? (i := 1369) (by decide +kernel), List.mem_of_getElem? (i := 1938) (by decide +kernel), List.mem_of_getElem? (i := 1939) (by decide +kernel)⟩
def lw_privs_7 : List (MethodName × Nat) := [(⟨"OnlyLentModel", "trueBits", "(I)I"⟩, 60), (⟨"OnlyLentModel", "areTrue", "(II)Z"⟩, 60), (⟨"OnlyLentModel", "lot", "(I)I"⟩, 60), (⟨"OnlyLentModel", "moveAll", "([IZ)V"⟩, 60), (⟨"OnlyLentModel", "move", "([I[IZ)V"⟩, 60)]
theorem lw_r7 : ∀ q ∈ lw_privs_7, lw_okq q := List.forall_mem_cons.mpr ⟨lw_p96, List.forall_mem_cons.mpr ⟨lw_p97, List.forall_mem_cons.mpr ⟨lw_p98, List.forall_mem_cons.mpr ⟨lw_p99, List.forall_mem_cons.mpr ⟨lw_p100, fun _ h => absurd h List.not_mem_nil⟩⟩⟩⟩⟩
def lw_privs : List (MethodName × Nat) := lw_privs_1 ++ (lw_privs_2 ++ (lw_privs_3 ++ (lw_privs_4 ++ (lw_privs_5 ++ (lw_privs_6 ++ (lw_privs_7))))))
def lw_tbl : List Cond := k2_sels lw_privs ++ tables_1
theorem lw_privs_ok : ∀ q ∈ lw_privs, lw_okq q := by
  show ∀ q ∈ lw_privs_1 ++ (lw_privs_2 ++ (lw_privs_3 ++ (lw_privs_4 ++ (lw_privs_5 ++ (lw_privs_6 ++ (lw_privs_7)))))), lw_okq q
  exact List.forall_mem_append.mpr ⟨lw_r1, List.forall_mem_append.mpr ⟨lw_r2, List.forall_mem_append.mpr ⟨lw_r3, List.forall_mem_append.mpr ⟨lw_r4, List.forall_mem_append.mpr ⟨lw_r5, List.forall_mem_append.mpr ⟨lw_r6, lw_r7⟩⟩⟩⟩⟩⟩
def RX0 : String := "OnlyLent$Book"
def TX0 : u_T := fun k => match k with
  | 0 => ("OnlyLent$Book", "givers", "[I", true)
  | 1 => ("OnlyLent$Book", "takers", "[I", true)
  | 2 => ("OnlyLent$Book", "row", "[I", true)
  | 3 => ("OnlyLent$Book", "size", "I", false)
  | 4 => ("OnlyLent$Book", "searched", "Z", false)
  | 5 => ("OnlyLent$Book", "first", "I", false)
  | 6 => ("OnlyLent$Book", "trueBits", "I", false)
  | _ => ("OnlyLent$Book", "rivals", "I", false)
def tyX0 : Nat → FieldType := fun k => match k with
  | 0 => .array .int
  | 1 => .array .int
  | 2 => .array .int
  | 3 => .int
  | 4 => .boolean
  | 5 => .int
  | 6 => .int
  | _ => .int
abbrev wsX00 : List Cond := u_ws RX0 TX0 8
theorem nmX0 : ∀ a, a < 8 → ∀ b, b < 8 → a ≠ b → (TX0 a).2.1 ≠ (TX0 b).2.1 := by decide +kernel
theorem tyX0_ok : ∀ k, k < 8 → parseFieldDescriptor (TX0 k).2.2.1 = some (tyX0 k) := by decide +kernel
abbrev cX0_init : ByteArray := prog_2_method_1_code
def yX0_init : MethodName := ⟨RX0, "<init>", "()V"⟩
abbrev cX0_clear : ByteArray := prog_2_method_2_code
def yX0_clear : MethodName := ⟨RX0, "clear", "()V"⟩
abbrev cX0_entries : ByteArray := prog_2_method_3_code
def yX0_entries : MethodName := ⟨RX0, "entries", "()I"⟩
abbrev cX0_write : ByteArray := prog_2_method_4_code
def yX0_write : MethodName := ⟨RX0, "write", "(II)V"⟩
abbrev cX0_strike : ByteArray := prog_2_method_5_code
def yX0_strike : MethodName := ⟨RX0, "strike", "()V"⟩
abbrev cX0_seek : ByteArray := prog_2_method_6_code
def yX0_seek : MethodName := ⟨RX0, "seek", "(I)V"⟩
abbrev cX0_mostTrue : ByteArray := prog_2_method_7_code
def yX0_mostTrue : MethodName := ⟨RX0, "mostTrue", "(I)I"⟩
abbrev cX0_areTrue : ByteArray := prog_2_method_8_code
def yX0_areTrue : MethodName := ⟨RX0, "areTrue", "(II)Z"⟩
abbrev cX0_placeInRow : ByteArray := prog_2_method_9_code
def yX0_placeInRow : MethodName := ⟨RX0, "placeInRow", "(II)I"⟩
abbrev cX0_first : ByteArray := prog_2_method_10_code
def yX0_first : MethodName := ⟨RX0, "first", "()I"⟩
abbrev cX0_trueBits : ByteArray := prog_2_method_11_code
def yX0_trueBits : MethodName := ⟨RX0, "trueBits", "()I"⟩
abbrev cX0_rivalBits : ByteArray := prog_2_method_12_code
def yX0_rivalBits : MethodName := ⟨RX0, "rivalBits", "()I"⟩
def RX1 : String := "OnlyLent$Choice"
def TX1 : u_T := fun k => match k with
  | 0 => ("OnlyLent$Choice", "wants", "[I", true)
  | 1 => ("OnlyLent$Choice", "froms", "[I", true)
  | 2 => ("OnlyLent$Choice", "tills", "[I", true)
  | 3 => ("OnlyLent$Choice", "values", "[I", true)
  | 4 => ("OnlyLent$Choice", "rests", "[I", true)
  | 5 => ("OnlyLent$Choice", "onFirst", "[I", true)
  | 6 => ("OnlyLent$Choice", "onNext", "[I", true)
  | 7 => ("OnlyLent$Choice", "size", "I", false)
  | 8 => ("OnlyLent$Choice", "room", "I", false)
  | 9 => ("OnlyLent$Choice", "moreOn", "I", false)
  | 10 => ("OnlyLent$Choice", "must", "I", false)
  | 11 => ("OnlyLent$Choice", "later", "I", false)
  | 12 => ("OnlyLent$Choice", "best", "I", false)
  | _ => ("OnlyLent$Choice", "bestBits", "I", false)
def tyX1 : Nat → FieldType := fun k => match k with
  | 0 => .array .int
  | 1 => .array .int
  | 2 => .array .int
  | 3 => .array .int
  | 4 => .array .int
  | 5 => .array .int
  | 6 => .array .int
  | 7 => .int
  | 8 => .int
  | 9 => .int
  | 10 => .int
  | 11 => .int
  | 12 => .int
  | _ => .int
abbrev wsX10 : List Cond := u_ws RX1 TX1 14
theorem nmX1 : ∀ a, a < 14 → ∀ b, b < 14 → a ≠ b → (TX1 a).2.1 ≠ (TX1 b).2.1 := by decide +kernel
theorem tyX1_ok : ∀ k, k < 14 → parseFieldDescriptor (TX1 k).2.2.1 = some (tyX1 k) := by decide +kernel
abbrev cX1_init : ByteArray := prog_3_method_1_code
def yX1_init : MethodName := ⟨RX1, "<init>", "()V"⟩
abbrev cX1_setMoreOn : ByteArray := prog_3_method_2_code
def yX1_setMoreOn : MethodName := ⟨RX1, "setMoreOn", "(I)V"⟩
abbrev cX1_setLonger : ByteArray := prog_3_method_3_code
def yX1_setLonger : MethodName := ⟨RX1, "setLonger", "(II)V"⟩
abbrev cX1_most : ByteArray := prog_3_method_4_code
def yX1_most : MethodName := ⟨RX1, "most", "(LOnlyLent$Land;II)I"⟩
abbrev cX1_chosenBits : ByteArray := prog_3_method_5_code
def yX1_chosenBits : MethodName := ⟨RX1, "chosenBits", "()I"⟩
abbrev cX1_load : ByteArray := prog_3_method_6_code
def yX1_load : MethodName := ⟨RX1, "load", "(LOnlyLent$Land;I)V"⟩
abbrev cX1_loadWant : ByteArray := prog_3_method_7_code
def yX1_loadWant : MethodName := ⟨RX1, "loadWant", "(IIII)V"⟩
abbrev cX1_search : ByteArray := prog_3_method_8_code
def yX1_search : MethodName := ⟨RX1, "search", "(LOnlyLent$Choice;III)V"⟩
abbrev cX1_fits : ByteArray := prog_3_method_9_code
def yX1_fits : MethodName := ⟨RX1, "fits", "(II)Z"⟩
abbrev cX1_roomOn : ByteArray := prog_3_method_10_code
def yX1_roomOn : MethodName := ⟨RX1, "roomOn", "(I)I"⟩
def RX2 : String := "OnlyLent$Giving"
def TX2 : u_T := fun k => match k with
  | 0 => ("OnlyLent$Giving", "ways", "LOnlyLent$Ways;", true)
  | 1 => ("OnlyLent$Giving", "wants", "[I", true)
  | 2 => ("OnlyLent$Giving", "bests", "[J", true)
  | 3 => ("OnlyLent$Giving", "costs", "[J", true)
  | _ => ("OnlyLent$Giving", "size", "I", false)
def tyX2 : Nat → FieldType := fun k => match k with
  | 0 => .object "OnlyLent$Ways"
  | 1 => .array .int
  | 2 => .array .long
  | 3 => .array .long
  | _ => .int
abbrev wsX20 : List Cond := u_ws RX2 TX2 5
theorem nmX2 : ∀ a, a < 5 → ∀ b, b < 5 → a ≠ b → (TX2 a).2.1 ≠ (TX2 b).2.1 := by decide +kernel
theorem tyX2_ok : ∀ k, k < 5 → parseFieldDescriptor (TX2 k).2.2.1 = some (tyX2 k) := by decide +kernel
abbrev cX2_init : ByteArray := prog_4_method_1_code
def yX2_init : MethodName := ⟨RX2, "<init>", "(LOnlyLent$Ways;)V"⟩
abbrev cX2_leastGiven : ByteArray := prog_4_method_2_code
def yX2_leastGiven : MethodName := ⟨RX2, "leastGiven", "(LOnlyLent$Land;IIII)J"⟩
abbrev cX2_farOf : ByteArray := prog_4_method_3_code
def yX2_farOf : MethodName := ⟨RX2, "farOf", "(J)I"⟩
abbrev cX2_indexFor : ByteArray := prog_4_method_4_code
def yX2_indexFor : MethodName := ⟨RX2, "indexFor", "(JI)I"⟩
abbrev cX2_shiftOf : ByteArray := prog_4_method_5_code
def yX2_shiftOf : MethodName := ⟨RX2, "shiftOf", "(I)I"⟩
abbrev cX2_load : ByteArray := prog_4_method_6_code
def yX2_load : MethodName := ⟨RX2, "load", "(LOnlyLent$Land;I)V"⟩
abbrev cX2_costOf : ByteArray := prog_4_method_7_code
def yX2_costOf : MethodName := ⟨RX2, "costOf", "(LOnlyLent$Land;IIII)J"⟩
abbrev cX2_addThing : ByteArray := prog_4_method_8_code
def yX2_addThing : MethodName := ⟨RX2, "addThing", "()V"⟩
def RX3 : String := "OnlyLent$Holdings"
def TX3 : u_T := fun k => match k with
  | 0 => ("OnlyLent$Holdings", "depths", "[I", true)
  | 1 => ("OnlyLent$Holdings", "holders", "[I", true)
  | 2 => ("OnlyLent$Holdings", "dues", "[I", true)
  | 3 => ("OnlyLent$Holdings", "day", "I", false)
  | 4 => ("OnlyLent$Holdings", "carried", "I", false)
  | 5 => ("OnlyLent$Holdings", "lost", "I", false)
  | 6 => ("OnlyLent$Holdings", "lawful", "I", false)
  | _ => ("OnlyLent$Holdings", "kept", "Z", false)
def tyX3 : Nat → FieldType := fun k => match k with
  | 0 => .array .int
  | 1 => .array .int
  | 2 => .array .int
  | 3 => .int
  | 4 => .int
  | 5 => .int
  | 6 => .int
  | _ => .boolean
abbrev wsX30 : List Cond := u_ws RX3 TX3 8
theorem nmX3 : ∀ a, a < 8 → ∀ b, b < 8 → a ≠ b → (TX3 a).2.1 ≠ (TX3 b).2.1 := by decide +kernel
theorem tyX3_ok : ∀ k, k < 8 → parseFieldDescriptor (TX3 k).2.2.1 = some (tyX3 k) := by decide +kernel
abbrev cX3_init : ByteArray := prog_5_method_1_code
def yX3_init : MethodName := ⟨RX3, "<init>", "()V"⟩
abbrev cX3_begin : ByteArray := prog_5_method_2_code
def yX3_begin : MethodName := ⟨RX3, "begin", "(LOnlyLent$Land;)V"⟩
abbrev cX3_copyOf : ByteArray := prog_5_method_3_code
def yX3_copyOf : MethodName := ⟨RX3, "copyOf", "(LOnlyLent$Holdings;)V"⟩
abbrev cX3_isKept : ByteArray := prog_5_method_4_code
def yX3_isKept : MethodName := ⟨RX3, "isKept", "()Z"⟩
abbrev cX3_setKept : ByteArray := prog_5_method_5_code
def yX3_setKept : MethodName := ⟨RX3, "setKept", "(Z)V"⟩
abbrev cX3_today : ByteArray := prog_5_method_6_code
def yX3_today : MethodName := ⟨RX3, "today", "()I"⟩
abbrev cX3_carriedSoFar : ByteArray := prog_5_method_7_code
def yX3_carriedSoFar : MethodName := ⟨RX3, "carriedSoFar", "()I"⟩
abbrev cX3_lostBits : ByteArray := prog_5_method_8_code
def yX3_lostBits : MethodName := ⟨RX3, "lostBits", "()I"⟩
abbrev cX3_lawNow : ByteArray := prog_5_method_9_code
def yX3_lawNow : MethodName := ⟨RX3, "lawNow", "()I"⟩
abbrev cX3_setLaw : ByteArray := prog_5_method_10_code
def yX3_setLaw : MethodName := ⟨RX3, "setLaw", "(I)V"⟩
abbrev cX3_isLost : ByteArray := prog_5_method_11_code
def yX3_isLost : MethodName := ⟨RX3, "isLost", "(I)Z"⟩
abbrev cX3_setLost : ByteArray := prog_5_method_12_code
def yX3_setLost : MethodName := ⟨RX3, "setLost", "(I)V"⟩
abbrev cX3_depthOf : ByteArray := prog_5_method_13_code
def yX3_depthOf : MethodName := ⟨RX3, "depthOf", "(I)I"⟩
abbrev cX3_whoAt : ByteArray := prog_5_method_14_code
def yX3_whoAt : MethodName := ⟨RX3, "whoAt", "(II)I"⟩
abbrev cX3_tillAt : ByteArray := prog_5_method_15_code
def yX3_tillAt : MethodName := ⟨RX3, "tillAt", "(II)I"⟩
abbrev cX3_holderOf : ByteArray := prog_5_method_16_code
def yX3_holderOf : MethodName := ⟨RX3, "holderOf", "(I)I"⟩
abbrev cX3_heldBy : ByteArray := prog_5_method_17_code
def yX3_heldBy : MethodName := ⟨RX3, "heldBy", "(LOnlyLent$Land;I)I"⟩
abbrev cX3_mayLend : ByteArray := prog_5_method_18_code
def yX3_mayLend : MethodName := ⟨RX3, "mayLend", "(IIII)Z"⟩
abbrev cX3_isInChain : ByteArray := prog_5_method_19_code
def yX3_isInChain : MethodName := ⟨RX3, "isInChain", "(II)Z"⟩
abbrev cX3_hand : ByteArray := prog_5_method_20_code
def yX3_hand : MethodName := ⟨RX3, "hand", "(LOnlyLent$Land;III)I"⟩
abbrev cX3_push : ByteArray := prog_5_method_21_code
def yX3_push : MethodName := ⟨RX3, "push", "(III)V"⟩
abbrev cX3_giveBack : ByteArray := prog_5_method_22_code
def yX3_giveBack : MethodName := ⟨RX3, "giveBack", "(LOnlyLent$Land;I)I"⟩
abbrev cX3_passDay : ByteArray := prog_5_method_23_code
def yX3_passDay : MethodName := ⟨RX3, "passDay", "(LOnlyLent$Land;)I"⟩
abbrev cX3_endLoans : ByteArray := prog_5_method_24_code
def yX3_endLoans : MethodName := ⟨RX3, "endLoans", "(LOnlyLent$Land;I)I"⟩
abbrev cX3_debt : ByteArray := prog_5_method_25_code
def yX3_debt : MethodName := ⟨RX3, "debt", "(LOnlyLent$Land;II)I"⟩
abbrev cX3_owesFor : ByteArray := prog_5_method_26_code
def yX3_owesFor : MethodName := ⟨RX3, "owesFor", "(III)Z"⟩
def RX4 : String := "OnlyLent$Land"
def TX4 : u_T := fun k => match k with
  | 0 => ("OnlyLent$Land", "personNames", "[J", true)
  | 1 => ("OnlyLent$Land", "places", "[I", true)
  | 2 => ("OnlyLent$Land", "heirs", "[I", true)
  | 3 => ("OnlyLent$Land", "sortNames", "[J", true)
  | 4 => ("OnlyLent$Land", "worths", "[I", true)
  | 5 => ("OnlyLent$Land", "thingSorts", "[I", true)
  | 6 => ("OnlyLent$Land", "owners", "[I", true)
  | 7 => ("OnlyLent$Land", "wanters", "[I", true)
  | 8 => ("OnlyLent$Land", "wantSorts", "[I", true)
  | 9 => ("OnlyLent$Land", "froms", "[I", true)
  | 10 => ("OnlyLent$Land", "tills", "[I", true)
  | 11 => ("OnlyLent$Land", "weights", "[I", true)
  | 12 => ("OnlyLent$Land", "byFrom", "[I", true)
  | 13 => ("OnlyLent$Land", "people", "I", false)
  | 14 => ("OnlyLent$Land", "sorts", "I", false)
  | 15 => ("OnlyLent$Land", "things", "I", false)
  | 16 => ("OnlyLent$Land", "wants", "I", false)
  | 17 => ("OnlyLent$Land", "hands", "I", false)
  | _ => ("OnlyLent$Land", "road", "I", false)
def tyX4 : Nat → FieldType := fun k => match k with
  | 0 => .array .long
  | 1 => .array .int
  | 2 => .array .int
  | 3 => .array .long
  | 4 => .array .int
  | 5 => .array .int
  | 6 => .array .int
  | 7 => .array .int
  | 8 => .array .int
  | 9 => .array .int
  | 10 => .array .int
  | 11 => .array .int
  | 12 => .array .int
  | 13 => .int
  | 14 => .int
  | 15 => .int
  | 16 => .int
  | 17 => .int
  | _ => .int
abbrev wsX40 : List Cond := u_ws RX4 TX4 19
theorem nmX4 : ∀ a, a < 19 → ∀ b, b < 19 → a ≠ b → (TX4 a).2.1 ≠ (TX4 b).2.1 := by decide +kernel
theorem tyX4_ok : ∀ k, k < 19 → parseFieldDescriptor (TX4 k).2.2.1 = some (tyX4 k) := by decide +kernel
abbrev cX4_init : ByteArray := prog_6_method_1_code
def yX4_init : MethodName := ⟨RX4, "<init>", "()V"⟩
abbrev cX4_clear : ByteArray := prog_6_method_2_code
def yX4_clear : MethodName := ⟨RX4, "clear", "()V"⟩
abbrev cX4_addPerson : ByteArray := prog_6_method_3_code
def yX4_addPerson : MethodName := ⟨RX4, "addPerson", "(JI)V"⟩
abbrev cX4_addSort : ByteArray := prog_6_method_4_code
def yX4_addSort : MethodName := ⟨RX4, "addSort", "(JI)V"⟩
abbrev cX4_addThing : ByteArray := prog_6_method_5_code
def yX4_addThing : MethodName := ⟨RX4, "addThing", "(II)V"⟩
abbrev cX4_addWant : ByteArray := prog_6_method_6_code
def yX4_addWant : MethodName := ⟨RX4, "addWant", "(IIIII)V"⟩
abbrev cX4_orderByFrom : ByteArray := prog_6_method_7_code
def yX4_orderByFrom : MethodName := ⟨RX4, "orderByFrom", "(II)V"⟩
abbrev cX4_tellHands : ByteArray := prog_6_method_8_code
def yX4_tellHands : MethodName := ⟨RX4, "tellHands", "(I)V"⟩
abbrev cX4_tellRoad : ByteArray := prog_6_method_9_code
def yX4_tellRoad : MethodName := ⟨RX4, "tellRoad", "(I)V"⟩
abbrev cX4_tellHeir : ByteArray := prog_6_method_10_code
def yX4_tellHeir : MethodName := ⟨RX4, "tellHeir", "(II)V"⟩
abbrev cX4_people : ByteArray := prog_6_method_11_code
def yX4_people : MethodName := ⟨RX4, "people", "()I"⟩
abbrev cX4_sorts : ByteArray := prog_6_method_12_code
def yX4_sorts : MethodName := ⟨RX4, "sorts", "()I"⟩
abbrev cX4_things : ByteArray := prog_6_method_13_code
def yX4_things : MethodName := ⟨RX4, "things", "()I"⟩
abbrev cX4_wants : ByteArray := prog_6_method_14_code
def yX4_wants : MethodName := ⟨RX4, "wants", "()I"⟩
abbrev cX4_handsTold : ByteArray := prog_6_method_15_code
def yX4_handsTold : MethodName := ⟨RX4, "handsTold", "()Z"⟩
abbrev cX4_roadTold : ByteArray := prog_6_method_16_code
def yX4_roadTold : MethodName := ⟨RX4, "roadTold", "()Z"⟩
abbrev cX4_hands : ByteArray := prog_6_method_17_code
def yX4_hands : MethodName := ⟨RX4, "hands", "()I"⟩
abbrev cX4_road : ByteArray := prog_6_method_18_code
def yX4_road : MethodName := ⟨RX4, "road", "()I"⟩
abbrev cX4_isPerson : ByteArray := prog_6_method_19_code
def yX4_isPerson : MethodName := ⟨RX4, "isPerson", "(I)Z"⟩
abbrev cX4_isSort : ByteArray := prog_6_method_20_code
def yX4_isSort : MethodName := ⟨RX4, "isSort", "(I)Z"⟩
abbrev cX4_isThing : ByteArray := prog_6_method_21_code
def yX4_isThing : MethodName := ⟨RX4, "isThing", "(I)Z"⟩
abbrev cX4_isWant : ByteArray := prog_6_method_22_code
def yX4_isWant : MethodName := ⟨RX4, "isWant", "(I)Z"⟩
abbrev cX4_personNamed : ByteArray := prog_6_method_23_code
def yX4_personNamed : MethodName := ⟨RX4, "personNamed", "(J)I"⟩
abbrev cX4_sortNamed : ByteArray := prog_6_method_24_code
def yX4_sortNamed : MethodName := ⟨RX4, "sortNamed", "(J)I"⟩
abbrev cX4_placeOf : ByteArray := prog_6_method_25_code
def yX4_placeOf : MethodName := ⟨RX4, "placeOf", "(I)I"⟩
abbrev cX4_heirOf : ByteArray := prog_6_method_26_code
def yX4_heirOf : MethodName := ⟨RX4, "heirOf", "(I)I"⟩
abbrev cX4_worthOf : ByteArray := prog_6_method_27_code
def yX4_worthOf : MethodName := ⟨RX4, "worthOf", "(I)I"⟩
abbrev cX4_sortOfThing : ByteArray := prog_6_method_28_code
def yX4_sortOfThing : MethodName := ⟨RX4, "sortOfThing", "(I)I"⟩
abbrev cX4_ownerOf : ByteArray := prog_6_method_29_code
def yX4_ownerOf : MethodName := ⟨RX4, "ownerOf", "(I)I"⟩
abbrev cX4_homeOf : ByteArray := prog_6_method_30_code
def yX4_homeOf : MethodName := ⟨RX4, "homeOf", "(I)I"⟩
abbrev cX4_whoWants : ByteArray := prog_6_method_31_code
def yX4_whoWants : MethodName := ⟨RX4, "whoWants", "(I)I"⟩
abbrev cX4_placeOfWant : ByteArray := prog_6_method_32_code
def yX4_placeOfWant : MethodName := ⟨RX4, "placeOfWant", "(I)I"⟩
abbrev cX4_sortOfWant : ByteArray := prog_6_method_33_code
def yX4_sortOfWant : MethodName := ⟨RX4, "sortOfWant", "(I)I"⟩
abbrev cX4_fromOf : ByteArray := prog_6_method_34_code
def yX4_fromOf : MethodName := ⟨RX4, "fromOf", "(I)I"⟩
abbrev cX4_tillOf : ByteArray := prog_6_method_35_code
def yX4_tillOf : MethodName := ⟨RX4, "tillOf", "(I)I"⟩
abbrev cX4_weightOf : ByteArray := prog_6_method_36_code
def yX4_weightOf : MethodName := ⟨RX4, "weightOf", "(I)I"⟩
abbrev cX4_byFirstDay : ByteArray := prog_6_method_37_code
def yX4_byFirstDay : MethodName := ⟨RX4, "byFirstDay", "(I)I"⟩
abbrev cX4_apart : ByteArray := prog_6_method_38_code
def yX4_apart : MethodName := ⟨RX4, "apart", "(II)I"⟩
abbrev cX4_partOf : ByteArray := prog_6_method_39_code
def yX4_partOf : MethodName := ⟨RX4, "partOf", "(II)I"⟩
abbrev cX4_weightOfAll : ByteArray := prog_6_method_40_code
def yX4_weightOfAll : MethodName := ⟨RX4, "weightOfAll", "(I)I"⟩
abbrev cX4_wantsOfSort : ByteArray := prog_6_method_41_code
def yX4_wantsOfSort : MethodName := ⟨RX4, "wantsOfSort", "(I)I"⟩
abbrev cX4_wantsOfPerson : ByteArray := prog_6_method_42_code
def yX4_wantsOfPerson : MethodName := ⟨RX4, "wantsOfPerson", "(I)I"⟩
abbrev cX4_wantsOn : ByteArray := prog_6_method_43_code
def yX4_wantsOn : MethodName := ⟨RX4, "wantsOn", "(II)I"⟩
abbrev cX4_thingsLeft : ByteArray := prog_6_method_44_code
def yX4_thingsLeft : MethodName := ⟨RX4, "thingsLeft", "(II)I"⟩
def RX5 : String := "OnlyLent$Lateness"
def TX5 : u_T := fun k => match k with
  | 0 => ("OnlyLent$Lateness", "hurt", "I", false)
  | _ => ("OnlyLent$Lateness", "weight", "I", false)
def tyX5 : Nat → FieldType := fun k => match k with
  | 0 => .int
  | _ => .int
abbrev wsX50 : List Cond := u_ws RX5 TX5 2
theorem nmX5 : ∀ a, a < 2 → ∀ b, b < 2 → a ≠ b → (TX5 a).2.1 ≠ (TX5 b).2.1 := by decide +kernel
theorem tyX5_ok : ∀ k, k < 2 → parseFieldDescriptor (TX5 k).2.2.1 = some (tyX5 k) := by decide +kernel
abbrev cX5_init : ByteArray := prog_7_method_1_code
def yX5_init : MethodName := ⟨RX5, "<init>", "()V"⟩
abbrev cX5_reckon : ByteArray := prog_7_method_2_code
def yX5_reckon : MethodName := ⟨RX5, "reckon", "(LOnlyLent$Land;LOnlyLent$Plan;II)V"⟩
abbrev cX5_freeBehind : ByteArray := prog_7_method_3_code
def yX5_freeBehind : MethodName := ⟨RX5, "freeBehind", "(LOnlyLent$Land;III)I"⟩
abbrev cX5_hurtBits : ByteArray := prog_7_method_4_code
def yX5_hurtBits : MethodName := ⟨RX5, "hurtBits", "()I"⟩
abbrev cX5_lostWeight : ByteArray := prog_7_method_5_code
def yX5_lostWeight : MethodName := ⟨RX5, "lostWeight", "()I"⟩
abbrev cX5_mostBorne : ByteArray := prog_7_method_6_code
def yX5_mostBorne : MethodName := ⟨RX5, "mostBorne", "(LOnlyLent$Land;LOnlyLent$Plan;I)I"⟩
def RX6 : String := "OnlyLent$Plan"
def TX6 : u_T := fun k => match k with
  | 0 => ("OnlyLent$Plan", "choice", "LOnlyLent$Choice;", true)
  | 1 => ("OnlyLent$Plan", "ways", "LOnlyLent$Ways;", true)
  | 2 => ("OnlyLent$Plan", "giving", "LOnlyLent$Giving;", true)
  | 3 => ("OnlyLent$Plan", "trips", "LOnlyLent$Trips;", true)
  | 4 => ("OnlyLent$Plan", "things", "[I", true)
  | 5 => ("OnlyLent$Plan", "line", "[I", true)
  | 6 => ("OnlyLent$Plan", "made", "Z", false)
  | 7 => ("OnlyLent$Plan", "lost", "I", false)
  | _ => ("OnlyLent$Plan", "metBits", "I", false)
def tyX6 : Nat → FieldType := fun k => match k with
  | 0 => .object "OnlyLent$Choice"
  | 1 => .object "OnlyLent$Ways"
  | 2 => .object "OnlyLent$Giving"
  | 3 => .object "OnlyLent$Trips"
  | 4 => .array .int
  | 5 => .array .int
  | 6 => .boolean
  | 7 => .int
  | _ => .int
abbrev wsX60 : List Cond := u_ws RX6 TX6 9
theorem nmX6 : ∀ a, a < 9 → ∀ b, b < 9 → a ≠ b → (TX6 a).2.1 ≠ (TX6 b).2.1 := by decide +kernel
theorem tyX6_ok : ∀ k, k < 9 → parseFieldDescriptor (TX6 k).2.2.1 = some (tyX6 k) := by decide +kernel
abbrev cX6_init : ByteArray := prog_8_method_1_code
def yX6_init : MethodName := ⟨RX6, "<init>", "(LOnlyLent$Choice;)V"⟩
abbrev cX6_forget : ByteArray := prog_8_method_2_code
def yX6_forget : MethodName := ⟨RX6, "forget", "()V"⟩
abbrev cX6_make : ByteArray := prog_8_method_3_code
def yX6_make : MethodName := ⟨RX6, "make", "(LOnlyLent$Land;I)V"⟩
abbrev cX6_makeSort : ByteArray := prog_8_method_4_code
def yX6_makeSort : MethodName := ⟨RX6, "makeSort", "(LOnlyLent$Land;I)V"⟩
abbrev cX6_thingAt : ByteArray := prog_8_method_5_code
def yX6_thingAt : MethodName := ⟨RX6, "thingAt", "(LOnlyLent$Land;II)I"⟩
abbrev cX6_addTrips : ByteArray := prog_8_method_6_code
def yX6_addTrips : MethodName := ⟨RX6, "addTrips", "(LOnlyLent$Land;I)V"⟩
abbrev cX6_lineUp : ByteArray := prog_8_method_7_code
def yX6_lineUp : MethodName := ⟨RX6, "lineUp", "(LOnlyLent$Land;I)I"⟩
abbrev cX6_lined : ByteArray := prog_8_method_8_code
def yX6_lined : MethodName := ⟨RX6, "lined", "(I)I"⟩
abbrev cX6_metBits : ByteArray := prog_8_method_9_code
def yX6_metBits : MethodName := ⟨RX6, "metBits", "()I"⟩
abbrev cX6_thingFor : ByteArray := prog_8_method_10_code
def yX6_thingFor : MethodName := ⟨RX6, "thingFor", "(I)I"⟩
abbrev cX6_allTrips : ByteArray := prog_8_method_11_code
def yX6_allTrips : MethodName := ⟨RX6, "allTrips", "()LOnlyLent$Trips;"⟩
abbrev cX6_waysOf : ByteArray := prog_8_method_12_code
def yX6_waysOf : MethodName := ⟨RX6, "waysOf", "(LOnlyLent$Land;II)I"⟩
abbrev cX6_metInYears : ByteArray := prog_8_method_13_code
def yX6_metInYears : MethodName := ⟨RX6, "metInYears", "(LOnlyLent$Land;III)I"⟩
def RX7 : String := "OnlyLent$Reader"
def TX7 : u_T := fun k => match k with
  | 0 => ("OnlyLent$Reader", "text", "LOnlyLent$Text;", true)
  | 1 => ("OnlyLent$Reader", "place", "I", false)
  | 2 => ("OnlyLent$Reader", "start", "I", false)
  | 3 => ("OnlyLent$Reader", "kind", "I", false)
  | 4 => ("OnlyLent$Reader", "number", "I", false)
  | _ => ("OnlyLent$Reader", "name", "J", false)
def tyX7 : Nat → FieldType := fun k => match k with
  | 0 => .object "OnlyLent$Text"
  | 1 => .int
  | 2 => .int
  | 3 => .int
  | 4 => .int
  | _ => .long
abbrev wsX70 : List Cond := u_ws RX7 TX7 6
theorem nmX7 : ∀ a, a < 6 → ∀ b, b < 6 → a ≠ b → (TX7 a).2.1 ≠ (TX7 b).2.1 := by decide +kernel
theorem tyX7_ok : ∀ k, k < 6 → parseFieldDescriptor (TX7 k).2.2.1 = some (tyX7 k) := by decide +kernel
abbrev cX7_init : ByteArray := prog_9_method_1_code
def yX7_init : MethodName := ⟨RX7, "<init>", "(LOnlyLent$Text;)V"⟩
abbrev cX7_read : ByteArray := prog_9_method_2_code
def yX7_read : MethodName := ⟨RX7, "read", "(LOnlyLent$Land;)I"⟩
abbrev cX7_readLine : ByteArray := prog_9_method_3_code
def yX7_readLine : MethodName := ⟨RX7, "readLine", "(LOnlyLent$Land;)Z"⟩
abbrev cX7_readPerson : ByteArray := prog_9_method_4_code
def yX7_readPerson : MethodName := ⟨RX7, "readPerson", "(LOnlyLent$Land;)Z"⟩
abbrev cX7_readSort : ByteArray := prog_9_method_5_code
def yX7_readSort : MethodName := ⟨RX7, "readSort", "(LOnlyLent$Land;)Z"⟩
abbrev cX7_readThing : ByteArray := prog_9_method_6_code
def yX7_readThing : MethodName := ⟨RX7, "readThing", "(LOnlyLent$Land;)Z"⟩
abbrev cX7_readWant : ByteArray := prog_9_method_7_code
def yX7_readWant : MethodName := ⟨RX7, "readWant", "(LOnlyLent$Land;)Z"⟩
abbrev cX7_readHands : ByteArray := prog_9_method_8_code
def yX7_readHands : MethodName := ⟨RX7, "readHands", "(LOnlyLent$Land;)Z"⟩
abbrev cX7_readRoad : ByteArray := prog_9_method_9_code
def yX7_readRoad : MethodName := ⟨RX7, "readRoad", "(LOnlyLent$Land;)Z"⟩
abbrev cX7_readHeir : ByteArray := prog_9_method_10_code
def yX7_readHeir : MethodName := ⟨RX7, "readHeir", "(LOnlyLent$Land;)Z"⟩
abbrev cX7_isNewName : ByteArray := prog_9_method_11_code
def yX7_isNewName : MethodName := ⟨RX7, "isNewName", "(LOnlyLent$Land;)Z"⟩
abbrev cX7_isKept : ByteArray := prog_9_method_12_code
def yX7_isKept : MethodName := ⟨RX7, "isKept", "()Z"⟩
abbrev cX7_isNumber : ByteArray := prog_9_method_13_code
def yX7_isNumber : MethodName := ⟨RX7, "isNumber", "(II)Z"⟩
abbrev cX7_personHere : ByteArray := prog_9_method_14_code
def yX7_personHere : MethodName := ⟨RX7, "personHere", "(LOnlyLent$Land;)I"⟩
abbrev cX7_sortHere : ByteArray := prog_9_method_15_code
def yX7_sortHere : MethodName := ⟨RX7, "sortHere", "(LOnlyLent$Land;)I"⟩
abbrev cX7_closes : ByteArray := prog_9_method_16_code
def yX7_closes : MethodName := ⟨RX7, "closes", "()Z"⟩
abbrev cX7_says : ByteArray := prog_9_method_17_code
def yX7_says : MethodName := ⟨RX7, "says", "(Ljava/lang/String;)Z"⟩
abbrev cX7_step : ByteArray := prog_9_method_18_code
def yX7_step : MethodName := ⟨RX7, "step", "()V"⟩
abbrev cX7_takeWord : ByteArray := prog_9_method_19_code
def yX7_takeWord : MethodName := ⟨RX7, "takeWord", "()V"⟩
abbrev cX7_takeNumber : ByteArray := prog_9_method_20_code
def yX7_takeNumber : MethodName := ⟨RX7, "takeNumber", "()V"⟩
abbrev cX7_isBlank : ByteArray := prog_9_method_21_code
def yX7_isBlank : MethodName := ⟨RX7, "isBlank", "(I)Z"⟩
abbrev cX7_isLetter : ByteArray := prog_9_method_22_code
def yX7_isLetter : MethodName := ⟨RX7, "isLetter", "(I)Z"⟩
abbrev cX7_isDigit : ByteArray := prog_9_method_23_code
def yX7_isDigit : MethodName := ⟨RX7, "isDigit", "(I)Z"⟩
def RX8 : String := "OnlyLent$Text"
def TX8 : u_T := fun k => match k with
  | 0 => ("OnlyLent$Text", "bytes", "[B", true)
  | _ => ("OnlyLent$Text", "size", "I", false)
def tyX8 : Nat → FieldType := fun k => match k with
  | 0 => .array .byte
  | _ => .int
abbrev wsX80 : List Cond := u_ws RX8 TX8 2
theorem nmX8 : ∀ a, a < 2 → ∀ b, b < 2 → a ≠ b → (TX8 a).2.1 ≠ (TX8 b).2.1 := by decide +kernel
theorem tyX8_ok : ∀ k, k < 2 → parseFieldDescriptor (TX8 k).2.2.1 = some (tyX8 k) := by decide +kernel
abbrev cX8_init : ByteArray := prog_10_method_1_code
def yX8_init : MethodName := ⟨RX8, "<init>", "()V"⟩
abbrev cX8_size : ByteArray := prog_10_method_2_code
def yX8_size : MethodName := ⟨RX8, "size", "()I"⟩
abbrev cX8_hasRoom : ByteArray := prog_10_method_3_code
def yX8_hasRoom : MethodName := ⟨RX8, "hasRoom", "(I)Z"⟩
abbrev cX8_addNumber : ByteArray := prog_10_method_4_code
def yX8_addNumber : MethodName := ⟨RX8, "addNumber", "(I)V"⟩
abbrev cX8_addByte : ByteArray := prog_10_method_5_code
def yX8_addByte : MethodName := ⟨RX8, "addByte", "(I)V"⟩
abbrev cX8_cut : ByteArray := prog_10_method_6_code
def yX8_cut : MethodName := ⟨RX8, "cut", "(I)V"⟩
abbrev cX8_byteAt : ByteArray := prog_10_method_7_code
def yX8_byteAt : MethodName := ⟨RX8, "byteAt", "(I)I"⟩
def RX9 : String := "OnlyLent$Trips"
def TX9 : u_T := fun k => match k with
  | 0 => ("OnlyLent$Trips", "sorts", "[I", true)
  | 1 => ("OnlyLent$Trips", "days", "[I", true)
  | 2 => ("OnlyLent$Trips", "starts", "[I", true)
  | 3 => ("OnlyLent$Trips", "goals", "[I", true)
  | 4 => ("OnlyLent$Trips", "stretches", "[I", true)
  | 5 => ("OnlyLent$Trips", "fixedOn", "[I", true)
  | 6 => ("OnlyLent$Trips", "freeFrom", "[I", true)
  | _ => ("OnlyLent$Trips", "size", "I", false)
def tyX9 : Nat → FieldType := fun k => match k with
  | 0 => .array .int
  | 1 => .array .int
  | 2 => .array .int
  | 3 => .array .int
  | 4 => .array .int
  | 5 => .array .int
  | 6 => .array .int
  | _ => .int
abbrev wsX90 : List Cond := u_ws RX9 TX9 8
theorem nmX9 : ∀ a, a < 8 → ∀ b, b < 8 → a ≠ b → (TX9 a).2.1 ≠ (TX9 b).2.1 := by decide +kernel
theorem tyX9_ok : ∀ k, k < 8 → parseFieldDescriptor (TX9 k).2.2.1 = some (tyX9 k) := by decide +kernel
abbrev cX9_init : ByteArray := prog_11_method_1_code
def yX9_init : MethodName := ⟨RX9, "<init>", "()V"⟩
abbrev cX9_clear : ByteArray := prog_11_method_2_code
def yX9_clear : MethodName := ⟨RX9, "clear", "()V"⟩
abbrev cX9_add : ByteArray := prog_11_method_3_code
def yX9_add : MethodName := ⟨RX9, "add", "(IIIIZ)V"⟩
abbrev cX9_isOf : ByteArray := prog_11_method_4_code
def yX9_isOf : MethodName := ⟨RX9, "isOf", "(III)Z"⟩
abbrev cX9_howMany : ByteArray := prog_11_method_5_code
def yX9_howMany : MethodName := ⟨RX9, "howMany", "(II)I"⟩
abbrev cX9_howFar : ByteArray := prog_11_method_6_code
def yX9_howFar : MethodName := ⟨RX9, "howFar", "(II)I"⟩
abbrev cX9_exchanged : ByteArray := prog_11_method_7_code
def yX9_exchanged : MethodName := ⟨RX9, "exchanged", "(II)I"⟩
abbrev cX9_daysLater : ByteArray := prog_11_method_8_code
def yX9_daysLater : MethodName := ⟨RX9, "daysLater", "(I)I"⟩
def RX10 : String := "OnlyLent$Ways"
def TX10 : u_T := fun k => match k with
  | 0 => ("OnlyLent$Ways", "places", "[I", true)
  | _ => ("OnlyLent$Ways", "leasts", "[I", true)
def tyX10 : Nat → FieldType := fun k => match k with
  | 0 => .array .int
  | _ => .array .int
abbrev wsX100 : List Cond := u_ws RX10 TX10 2
theorem nmX10 : ∀ a, a < 2 → ∀ b, b < 2 → a ≠ b → (TX10 a).2.1 ≠ (TX10 b).2.1 := by decide +kernel
theorem tyX10_ok : ∀ k, k < 2 → parseFieldDescriptor (TX10 k).2.2.1 = some (tyX10 k) := by decide +kernel
abbrev cX10_init : ByteArray := prog_12_method_1_code
def yX10_init : MethodName := ⟨RX10, "<init>", "()V"⟩
abbrev cX10_setPlace : ByteArray := prog_12_method_2_code
def yX10_setPlace : MethodName := ⟨RX10, "setPlace", "(II)V"⟩
abbrev cX10_leastWay : ByteArray := prog_12_method_3_code
def yX10_leastWay : MethodName := ⟨RX10, "leastWay", "(III)I"⟩
abbrev cX10_farOf : ByteArray := prog_12_method_4_code
def yX10_farOf : MethodName := ⟨RX10, "farOf", "(I)I"⟩
abbrev cX10_isHomeBehind : ByteArray := prog_12_method_5_code
def yX10_isHomeBehind : MethodName := ⟨RX10, "isHomeBehind", "(II)Z"⟩
def RX11 : String := "OnlyLent"
def TX11 : u_T := fun k => match k with
  | 0 => ("OnlyLent", "text", "LOnlyLent$Text;", true)
  | 1 => ("OnlyLent", "reader", "LOnlyLent$Reader;", true)
  | 2 => ("OnlyLent", "now", "LOnlyLent$Holdings;", true)
  | 3 => ("OnlyLent", "images", "[LOnlyLent$Holdings;", true)
  | 4 => ("OnlyLent", "choice", "LOnlyLent$Choice;", true)
  | 5 => ("OnlyLent", "plan", "LOnlyLent$Plan;", true)
  | 6 => ("OnlyLent", "lateness", "LOnlyLent$Lateness;", true)
  | 7 => ("OnlyLent", "book", "LOnlyLent$Book;", true)
  | 8 => ("OnlyLent", "refused", "[I", true)
  | 9 => ("OnlyLent", "told", "LOnlyLent$Land;", false)
  | 10 => ("OnlyLent", "spare", "LOnlyLent$Land;", false)
  | _ => ("OnlyLent", "hasLand", "Z", false)
def tyX11 : Nat → FieldType := fun k => match k with
  | 0 => .object "OnlyLent$Text"
  | 1 => .object "OnlyLent$Reader"
  | 2 => .object "OnlyLent$Holdings"
  | 3 => .array (.object "OnlyLent$Holdings")
  | 4 => .object "OnlyLent$Choice"
  | 5 => .object "OnlyLent$Plan"
  | 6 => .object "OnlyLent$Lateness"
  | 7 => .object "OnlyLent$Book"
  | 8 => .array .int
  | 9 => .object "OnlyLent$Land"
  | 10 => .object "OnlyLent$Land"
  | _ => .boolean
abbrev wsX110 : List Cond := u_ws RX11 TX11 12
theorem nmX11 : ∀ a, a < 12 → ∀ b, b < 12 → a ≠ b → (TX11 a).2.1 ≠ (TX11 b).2.1 := by decide +kernel
theorem tyX11_ok : ∀ k, k < 12 → parseFieldDescriptor (TX11 k).2.2.1 = some (tyX11 k) := by decide +kernel
abbrev cX11_init : ByteArray := prog_1_method_1_code
def yX11_init : MethodName := ⟨RX11, "<init>", "()V"⟩
abbrev cX11_feed : ByteArray := prog_1_method_2_code
def yX11_feed : MethodName := ⟨RX11, "feed", "(IIIII)I"⟩
abbrev cX11_end : ByteArray := prog_1_method_3_code
def yX11_end : MethodName := ⟨RX11, "end", "(I)Z"⟩
abbrev cX11_fault : ByteArray := prog_1_method_4_code
def yX11_fault : MethodName := ⟨RX11, "fault", "()I"⟩
abbrev cX11_land : ByteArray := prog_1_method_5_code
def yX11_land : MethodName := ⟨RX11, "land", "()I"⟩
abbrev cX11_person : ByteArray := prog_1_method_6_code
def yX11_person : MethodName := ⟨RX11, "person", "(II)I"⟩
abbrev cX11_want : ByteArray := prog_1_method_7_code
def yX11_want : MethodName := ⟨RX11, "want", "(II)I"⟩
abbrev cX11_thing : ByteArray := prog_1_method_8_code
def yX11_thing : MethodName := ⟨RX11, "thing", "(II)I"⟩
abbrev cX11_chain : ByteArray := prog_1_method_9_code
def yX11_chain : MethodName := ⟨RX11, "chain", "(III)I"⟩
abbrev cX11_lend : ByteArray := prog_1_method_10_code
def yX11_lend : MethodName := ⟨RX11, "lend", "(III)I"⟩
abbrev cX11_back : ByteArray := prog_1_method_11_code
def yX11_back : MethodName := ⟨RX11, "back", "(I)I"⟩
abbrev cX11_go : ByteArray := prog_1_method_12_code
def yX11_go : MethodName := ⟨RX11, "go", "(I)I"⟩
abbrev cX11_lose : ByteArray := prog_1_method_13_code
def yX11_lose : MethodName := ⟨RX11, "lose", "(I)Z"⟩
abbrev cX11_law : ByteArray := prog_1_method_14_code
def yX11_law : MethodName := ⟨RX11, "law", "(I)Z"⟩
abbrev cX11_owes : ByteArray := prog_1_method_15_code
def yX11_owes : MethodName := ⟨RX11, "owes", "(II)I"⟩
abbrev cX11_balance : ByteArray := prog_1_method_16_code
def yX11_balance : MethodName := ⟨RX11, "balance", "(I)I"⟩
abbrev cX11_met : ByteArray := prog_1_method_17_code
def yX11_met : MethodName := ⟨RX11, "met", "(I)I"⟩
abbrev cX11_shorts : ByteArray := prog_1_method_18_code
def yX11_shorts : MethodName := ⟨RX11, "shorts", "(I)I"⟩
abbrev cX11_price : ByteArray := prog_1_method_19_code
def yX11_price : MethodName := ⟨RX11, "price", "(II)I"⟩
abbrev cX11_longer : ByteArray := prog_1_method_20_code
def yX11_longer : MethodName := ⟨RX11, "longer", "(II)I"⟩
abbrev cX11_other : ByteArray := prog_1_method_21_code
def yX11_other : MethodName := ⟨RX11, "other", "()I"⟩
abbrev cX11_given : ByteArray := prog_1_method_22_code
def yX11_given : MethodName := ⟨RX11, "given", "(I)I"⟩
abbrev cX11_carry : ByteArray := prog_1_method_23_code
def yX11_carry : MethodName := ⟨RX11, "carry", "(II)I"⟩
abbrev cX11_moves : ByteArray := prog_1_method_24_code
def yX11_moves : MethodName := ⟨RX11, "moves", "(III)I"⟩
abbrev cX11_spread : ByteArray := prog_1_method_25_code
def yX11_spread : MethodName := ⟨RX11, "spread", "()I"⟩
abbrev cX11_late : ByteArray := prog_1_method_26_code
def yX11_late : MethodName := ⟨RX11, "late", "(III)I"⟩
abbrev cX11_bears : ByteArray := prog_1_method_27_code
def yX11_bears : MethodName := ⟨RX11, "bears", "(I)I"⟩
abbrev cX11_dies : ByteArray := prog_1_method_28_code
def yX11_dies : MethodName := ⟨RX11, "dies", "(III)I"⟩
abbrev cX11_entry : ByteArray := prog_1_method_29_code
def yX11_entry : MethodName := ⟨RX11, "entry", "(II)I"⟩
abbrev cX11_undo : ByteArray := prog_1_method_30_code
def yX11_undo : MethodName := ⟨RX11, "undo", "()I"⟩
abbrev cX11_earth : ByteArray := prog_1_method_31_code
def yX11_earth : MethodName := ⟨RX11, "earth", "(I)I"⟩
abbrev cX11_years : ByteArray := prog_1_method_32_code
def yX11_years : MethodName := ⟨RX11, "years", "(III)I"⟩
abbrev cX11_image : ByteArray := prog_1_method_33_code
def yX11_image : MethodName := ⟨RX11, "image", "(I)Z"⟩
abbrev cX11_on : ByteArray := prog_1_method_34_code
def yX11_on : MethodName := ⟨RX11, "on", "(I)Z"⟩
abbrev cX11_status : ByteArray := prog_1_method_35_code
def yX11_status : MethodName := ⟨RX11, "status", "(I)I"⟩
abbrev cX11_count : ByteArray := prog_1_method_36_code
def yX11_count : MethodName := ⟨RX11, "count", "(I)I"⟩
abbrev cX11_countInLand : ByteArray := prog_1_method_37_code
def yX11_countInLand : MethodName := ⟨RX11, "countInLand", "(I)I"⟩
abbrev cX11_refuse : ByteArray := prog_1_method_38_code
def yX11_refuse : MethodName := ⟨RX11, "refuse", "(I)I"⟩
abbrev cX11_deny : ByteArray := prog_1_method_39_code
def yX11_deny : MethodName := ⟨RX11, "deny", "(I)Z"⟩
abbrev cX11_imageOf : ByteArray := prog_1_method_40_code
def yX11_imageOf : MethodName := ⟨RX11, "imageOf", "(I)LOnlyLent$Holdings;"⟩
abbrev cX11_dropImages : ByteArray := prog_1_method_41_code
def yX11_dropImages : MethodName := ⟨RX11, "dropImages", "()V"⟩
abbrev cX11_prepare : ByteArray := prog_1_method_42_code
def yX11_prepare : MethodName := ⟨RX11, "prepare", "()V"⟩
abbrev cX11_metOfSort : ByteArray := prog_1_method_43_code
def yX11_metOfSort : MethodName := ⟨RX11, "metOfSort", "(I)I"⟩
abbrev cX11_lostByDeath : ByteArray := prog_1_method_44_code
def yX11_lostByDeath : MethodName := ⟨RX11, "lostByDeath", "(II)I"⟩
abbrev cX11_freedByDeath : ByteArray := prog_1_method_45_code
def yX11_freedByDeath : MethodName := ⟨RX11, "freedByDeath", "(I)I"⟩
abbrev cX11_at : ByteArray := prog_1_method_46_code
def yX11_at : MethodName := ⟨RX11, "at", "([II)I"⟩
abbrev cX11_put : ByteArray := prog_1_method_47_code
def yX11_put : MethodName := ⟨RX11, "put", "([III)V"⟩
abbrev cX11_at_ : ByteArray := prog_1_method_48_code
def yX11_at_ : MethodName := ⟨RX11, "at", "([JI)J"⟩
abbrev cX11_put_ : ByteArray := prog_1_method_49_code
def yX11_put_ : MethodName := ⟨RX11, "put", "([JIJ)V"⟩
abbrev cX11_hasBit : ByteArray := prog_1_method_50_code
def yX11_hasBit : MethodName := ⟨RX11, "hasBit", "(II)Z"⟩
def RX12 : String := "OnlyLentModel"
def TX12 : u_T := fun k => match k with
  | 0 => ("OnlyLentModel", "refused", "[I", true)
  | 1 => ("OnlyLentModel", "text", "[B", true)
  | 2 => ("OnlyLentModel", "textMany", "I", false)
  | 3 => ("OnlyLentModel", "at", "I", false)
  | 4 => ("OnlyLentModel", "to", "I", false)
  | 5 => ("OnlyLentModel", "faultAt", "I", false)
  | 6 => ("OnlyLentModel", "value", "I", false)
  | 7 => ("OnlyLentModel", "placeX", "[[I", true)
  | 8 => ("OnlyLentModel", "heir", "[[I", true)
  | 9 => ("OnlyLentModel", "worth", "[[I", true)
  | 10 => ("OnlyLentModel", "thingSort", "[[I", true)
  | 11 => ("OnlyLentModel", "thingOwner", "[[I", true)
  | 12 => ("OnlyLentModel", "wantWho", "[[I", true)
  | 13 => ("OnlyLentModel", "wantSort", "[[I", true)
  | 14 => ("OnlyLentModel", "wantFrom", "[[I", true)
  | 15 => ("OnlyLentModel", "wantTo", "[[I", true)
  | 16 => ("OnlyLentModel", "wantWorth", "[[I", true)
  | 17 => ("OnlyLentModel", "head", "[[I", true)
  | 18 => ("OnlyLentModel", "names", "[J", true)
  | 19 => ("OnlyLentModel", "hasLand", "Z", false)
  | 20 => ("OnlyLentModel", "hasHands", "Z", false)
  | 21 => ("OnlyLentModel", "hasRoad", "Z", false)
  | 22 => ("OnlyLentModel", "words", "[Ljava/lang/String;", true)
  | 23 => ("OnlyLentModel", "chainWho", "[I", true)
  | 24 => ("OnlyLentModel", "chainTill", "[I", true)
  | 25 => ("OnlyLentModel", "chainMany", "[I", true)
  | 26 => ("OnlyLentModel", "isLost", "[I", true)
  | 27 => ("OnlyLentModel", "day", "I", false)
  | 28 => ("OnlyLentModel", "carried", "I", false)
  | 29 => ("OnlyLentModel", "lawNow", "I", false)
  | 30 => ("OnlyLentModel", "moreDay", "I", false)
  | 31 => ("OnlyLentModel", "longWant", "I", false)
  | 32 => ("OnlyLentModel", "longBy", "I", false)
  | 33 => ("OnlyLentModel", "without", "I", false)
  | 34 => ("OnlyLentModel", "givenTo", "[I", true)
  | 35 => ("OnlyLentModel", "bestTo", "[I", true)
  | 36 => ("OnlyLentModel", "listed", "[I", true)
  | 37 => ("OnlyLentModel", "row", "[I", true)
  | 38 => ("OnlyLentModel", "listedMany", "I", false)
  | 39 => ("OnlyLentModel", "rowMany", "I", false)
  | 40 => ("OnlyLentModel", "bestWays", "I", false)
  | 41 => ("OnlyLentModel", "wayBits", "I", false)
  | 42 => ("OnlyLentModel", "moveFrom", "[I", true)
  | 43 => ("OnlyLentModel", "moveTo", "[I", true)
  | 44 => ("OnlyLentModel", "moveDay", "[I", true)
  | 45 => ("OnlyLentModel", "moveSort", "[I", true)
  | 46 => ("OnlyLentModel", "moveIsLast", "[I", true)
  | 47 => ("OnlyLentModel", "moveMany", "I", false)
  | 48 => ("OnlyLentModel", "sources", "[I", true)
  | 49 => ("OnlyLentModel", "goals", "[I", true)
  | 50 => ("OnlyLentModel", "hurtBits", "I", false)
  | 51 => ("OnlyLentModel", "hurtWorth", "I", false)
  | 52 => ("OnlyLentModel", "entryFrom", "[I", true)
  | 53 => ("OnlyLentModel", "entryTo", "[I", true)
  | 54 => ("OnlyLentModel", "line", "[I", true)
  | 55 => ("OnlyLentModel", "entries", "I", false)
  | 56 => ("OnlyLentModel", "lots", "J", false)
  | 57 => ("OnlyLentModel", "kept", "[[I", true)
  | 58 => ("OnlyLentModel", "hasImage", "[Z", true)
  | _ => ("OnlyLentModel", "cursor", "I", false)
def tyX12 : Nat → FieldType := fun k => match k with
  | 0 => .array .int
  | 1 => .array .byte
  | 2 => .int
  | 3 => .int
  | 4 => .int
  | 5 => .int
  | 6 => .int
  | 7 => .array (.array .int)
  | 8 => .array (.array .int)
  | 9 => .array (.array .int)
  | 10 => .array (.array .int)
  | 11 => .array (.array .int)
  | 12 => .array (.array .int)
  | 13 => .array (.array .int)
  | 14 => .array (.array .int)
  | 15 => .array (.array .int)
  | 16 => .array (.array .int)
  | 17 => .array (.array .int)
  | 18 => .array .long
  | 19 => .boolean
  | 20 => .boolean
  | 21 => .boolean
  | 22 => .array (.object "java/lang/String")
  | 23 => .array .int
  | 24 => .array .int
  | 25 => .array .int
  | 26 => .array .int
  | 27 => .int
  | 28 => .int
  | 29 => .int
  | 30 => .int
  | 31 => .int
  | 32 => .int
  | 33 => .int
  | 34 => .array .int
  | 35 => .array .int
  | 36 => .array .int
  | 37 => .array .int
  | 38 => .int
  | 39 => .int
  | 40 => .int
  | 41 => .int
  | 42 => .array .int
  | 43 => .array .int
  | 44 => .array .int
  | 45 => .array .int
  | 46 => .array .int
  | 47 => .int
  | 48 => .array .int
  | 49 => .array .int
  | 50 => .int
  | 51 => .int
  | 52 => .array .int
  | 53 => .array .int
  | 54 => .array .int
  | 55 => .int
  | 56 => .long
  | 57 => .array (.array .int)
  | 58 => .array .boolean
  | _ => .int
abbrev wsX120 : List Cond := u_ws RX12 TX12 60
theorem nmX12 : ∀ a, a < 60 → ∀ b, b < 60 → a ≠ b → (TX12 a).2.1 ≠ (TX12 b).2.1 := by decide +kernel
theorem tyX12_ok : ∀ k, k < 60 → parseFieldDescriptor (TX12 k).2.2.1 = some (tyX12 k) := by decide +kernel
abbrev cX12_init : ByteArray := prog_14_method_1_code
def yX12_init : MethodName := ⟨RX12, "<init>", "()V"⟩
abbrev cX12_in : ByteArray := prog_14_method_2_code
def yX12_in : MethodName := ⟨RX12, "in", "(JJJ)Z"⟩
abbrev cX12_refuse : ByteArray := prog_14_method_3_code
def yX12_refuse : MethodName := ⟨RX12, "refuse", "(I)I"⟩
abbrev cX12_deny : ByteArray := prog_14_method_4_code
def yX12_deny : MethodName := ⟨RX12, "deny", "(I)Z"⟩
abbrev cX12_status : ByteArray := prog_14_method_5_code
def yX12_status : MethodName := ⟨RX12, "status", "(I)I"⟩
abbrev cX12_feeds : ByteArray := prog_14_method_6_code
def yX12_feeds : MethodName := ⟨RX12, "feeds", "(I)V"⟩
abbrev cX12_feed : ByteArray := prog_14_method_7_code
def yX12_feed : MethodName := ⟨RX12, "feed", "(IIIII)I"⟩
abbrev cX12_end : ByteArray := prog_14_method_8_code
def yX12_end : MethodName := ⟨RX12, "end", "(I)Z"⟩
abbrev cX12_between : ByteArray := prog_14_method_9_code
def yX12_between : MethodName := ⟨RX12, "between", "(III)Z"⟩
abbrev cX12_next : ByteArray := prog_14_method_10_code
def yX12_next : MethodName := ⟨RX12, "next", "()V"⟩
abbrev cX12_passes : ByteArray := prog_14_method_11_code
def yX12_passes : MethodName := ⟨RX12, "passes", "(Z)Z"⟩
abbrev cX12_wordHere : ByteArray := prog_14_method_12_code
def yX12_wordHere : MethodName := ⟨RX12, "wordHere", "()I"⟩
abbrev cX12_closes : ByteArray := prog_14_method_13_code
def yX12_closes : MethodName := ⟨RX12, "closes", "()Z"⟩
abbrev cX12_into : ByteArray := prog_14_method_14_code
def yX12_into : MethodName := ⟨RX12, "into", "([IIII)Z"⟩
abbrev cX12_nameHere : ByteArray := prog_14_method_15_code
def yX12_nameHere : MethodName := ⟨RX12, "nameHere", "()J"⟩
abbrev cX12_found : ByteArray := prog_14_method_16_code
def yX12_found : MethodName := ⟨RX12, "found", "(Z)I"⟩
abbrev cX12_isNew : ByteArray := prog_14_method_17_code
def yX12_isNew : MethodName := ⟨RX12, "isNew", "(I)Z"⟩
abbrev cX12_ofSort : ByteArray := prog_14_method_18_code
def yX12_ofSort : MethodName := ⟨RX12, "ofSort", "([III)I"⟩
abbrev cX12_thingRead : ByteArray := prog_14_method_19_code
def yX12_thingRead : MethodName := ⟨RX12, "thingRead", "()Z"⟩
abbrev cX12_wantRead : ByteArray := prog_14_method_20_code
def yX12_wantRead : MethodName := ⟨RX12, "wantRead", "()Z"⟩
abbrev cX12_heirRead : ByteArray := prog_14_method_21_code
def yX12_heirRead : MethodName := ⟨RX12, "heirRead", "()Z"⟩
abbrev cX12_line : ByteArray := prog_14_method_22_code
def yX12_line : MethodName := ⟨RX12, "line", "()Z"⟩
abbrev cX12_reads : ByteArray := prog_14_method_23_code
def yX12_reads : MethodName := ⟨RX12, "reads", "()V"⟩
abbrev cX12_fault : ByteArray := prog_14_method_24_code
def yX12_fault : MethodName := ⟨RX12, "fault", "()I"⟩
abbrev cX12_copies : ByteArray := prog_14_method_25_code
def yX12_copies : MethodName := ⟨RX12, "copies", "([[I)V"⟩
abbrev cX12_land : ByteArray := prog_14_method_26_code
def yX12_land : MethodName := ⟨RX12, "land", "()I"⟩
abbrev cX12_people : ByteArray := prog_14_method_27_code
def yX12_people : MethodName := ⟨RX12, "people", "()I"⟩
abbrev cX12_sorts : ByteArray := prog_14_method_28_code
def yX12_sorts : MethodName := ⟨RX12, "sorts", "()I"⟩
abbrev cX12_things : ByteArray := prog_14_method_29_code
def yX12_things : MethodName := ⟨RX12, "things", "()I"⟩
abbrev cX12_wants : ByteArray := prog_14_method_30_code
def yX12_wants : MethodName := ⟨RX12, "wants", "()I"⟩
abbrev cX12_isPerson : ByteArray := prog_14_method_31_code
def yX12_isPerson : MethodName := ⟨RX12, "isPerson", "(I)Z"⟩
abbrev cX12_isSort : ByteArray := prog_14_method_32_code
def yX12_isSort : MethodName := ⟨RX12, "isSort", "(I)Z"⟩
abbrev cX12_isThing : ByteArray := prog_14_method_33_code
def yX12_isThing : MethodName := ⟨RX12, "isThing", "(I)Z"⟩
abbrev cX12_isWant : ByteArray := prog_14_method_34_code
def yX12_isWant : MethodName := ⟨RX12, "isWant", "(I)Z"⟩
abbrev cX12_far : ByteArray := prog_14_method_35_code
def yX12_far : MethodName := ⟨RX12, "far", "(II)I"⟩
abbrev cX12_holder : ByteArray := prog_14_method_36_code
def yX12_holder : MethodName := ⟨RX12, "holder", "(I)I"⟩
abbrev cX12_till : ByteArray := prog_14_method_37_code
def yX12_till : MethodName := ⟨RX12, "till", "(I)I"⟩
abbrev cX12_person : ByteArray := prog_14_method_38_code
def yX12_person : MethodName := ⟨RX12, "person", "(II)I"⟩
abbrev cX12_want : ByteArray := prog_14_method_39_code
def yX12_want : MethodName := ⟨RX12, "want", "(II)I"⟩
abbrev cX12_thing : ByteArray := prog_14_method_40_code
def yX12_thing : MethodName := ⟨RX12, "thing", "(II)I"⟩
abbrev cX12_chain : ByteArray := prog_14_method_41_code
def yX12_chain : MethodName := ⟨RX12, "chain", "(III)I"⟩
abbrev cX12_lend : ByteArray := prog_14_method_42_code
def yX12_lend : MethodName := ⟨RX12, "lend", "(III)I"⟩
abbrev cX12_back : ByteArray := prog_14_method_43_code
def yX12_back : MethodName := ⟨RX12, "back", "(I)I"⟩
abbrev cX12_go : ByteArray := prog_14_method_44_code
def yX12_go : MethodName := ⟨RX12, "go", "(I)I"⟩
abbrev cX12_lose : ByteArray := prog_14_method_45_code
def yX12_lose : MethodName := ⟨RX12, "lose", "(I)Z"⟩
abbrev cX12_law : ByteArray := prog_14_method_46_code
def yX12_law : MethodName := ⟨RX12, "law", "(I)Z"⟩
abbrev cX12_owedOf : ByteArray := prog_14_method_47_code
def yX12_owedOf : MethodName := ⟨RX12, "owedOf", "(II)I"⟩
abbrev cX12_owes : ByteArray := prog_14_method_48_code
def yX12_owes : MethodName := ⟨RX12, "owes", "(II)I"⟩
abbrev cX12_balance : ByteArray := prog_14_method_49_code
def yX12_balance : MethodName := ⟨RX12, "balance", "(I)I"⟩
abbrev cX12_thingsOf : ByteArray := prog_14_method_50_code
def yX12_thingsOf : MethodName := ⟨RX12, "thingsOf", "(I)I"⟩
abbrev cX12_endOf : ByteArray := prog_14_method_51_code
def yX12_endOf : MethodName := ⟨RX12, "endOf", "(I)I"⟩
abbrev cX12_canMeet : ByteArray := prog_14_method_52_code
def yX12_canMeet : MethodName := ⟨RX12, "canMeet", "(II)Z"⟩
abbrev cX12_worthOf : ByteArray := prog_14_method_53_code
def yX12_worthOf : MethodName := ⟨RX12, "worthOf", "(I)I"⟩
abbrev cX12_bitsOf : ByteArray := prog_14_method_54_code
def yX12_bitsOf : MethodName := ⟨RX12, "bitsOf", "(I)I"⟩
abbrev cX12_bestHeap : ByteArray := prog_14_method_55_code
def yX12_bestHeap : MethodName := ⟨RX12, "bestHeap", "(III)I"⟩
abbrev cX12_bestOf : ByteArray := prog_14_method_56_code
def yX12_bestOf : MethodName := ⟨RX12, "bestOf", "(I)I"⟩
abbrev cX12_metBits : ByteArray := prog_14_method_57_code
def yX12_metBits : MethodName := ⟨RX12, "metBits", "()I"⟩
abbrev cX12_met : ByteArray := prog_14_method_58_code
def yX12_met : MethodName := ⟨RX12, "met", "(I)I"⟩
abbrev cX12_shorts : ByteArray := prog_14_method_59_code
def yX12_shorts : MethodName := ⟨RX12, "shorts", "(I)I"⟩
abbrev cX12_price : ByteArray := prog_14_method_60_code
def yX12_price : MethodName := ⟨RX12, "price", "(II)I"⟩
abbrev cX12_longer : ByteArray := prog_14_method_61_code
def yX12_longer : MethodName := ⟨RX12, "longer", "(II)I"⟩
abbrev cX12_other : ByteArray := prog_14_method_62_code
def yX12_other : MethodName := ⟨RX12, "other", "()I"⟩
abbrev cX12_laysRow : ByteArray := prog_14_method_63_code
def yX12_laysRow : MethodName := ⟨RX12, "laysRow", "(I[I)V"⟩
abbrev cX12_whoAt : ByteArray := prog_14_method_64_code
def yX12_whoAt : MethodName := ⟨RX12, "whoAt", "(I)I"⟩
abbrev cX12_wayOf : ByteArray := prog_14_method_65_code
def yX12_wayOf : MethodName := ⟨RX12, "wayOf", "(II)I"⟩
abbrev cX12_isFree : ByteArray := prog_14_method_66_code
def yX12_isFree : MethodName := ⟨RX12, "isFree", "(II)Z"⟩
abbrev cX12_givesFrom : ByteArray := prog_14_method_67_code
def yX12_givesFrom : MethodName := ⟨RX12, "givesFrom", "(III)V"⟩
abbrev cX12_gives : ByteArray := prog_14_method_68_code
def yX12_gives : MethodName := ⟨RX12, "gives", "(II)V"⟩
abbrev cX12_givesAll : ByteArray := prog_14_method_69_code
def yX12_givesAll : MethodName := ⟨RX12, "givesAll", "()V"⟩
abbrev cX12_given : ByteArray := prog_14_method_70_code
def yX12_given : MethodName := ⟨RX12, "given", "(I)I"⟩
abbrev cX12_carry : ByteArray := prog_14_method_71_code
def yX12_carry : MethodName := ⟨RX12, "carry", "(II)I"⟩
abbrev cX12_moves : ByteArray := prog_14_method_72_code
def yX12_moves : MethodName := ⟨RX12, "moves", "(IIIII)V"⟩
abbrev cX12_laysMoves : ByteArray := prog_14_method_73_code
def yX12_laysMoves : MethodName := ⟨RX12, "laysMoves", "()V"⟩
abbrev cX12_moves_ : ByteArray := prog_14_method_74_code
def yX12_moves_ : MethodName := ⟨RX12, "moves", "(III)I"⟩
abbrev cX12_spread : ByteArray := prog_14_method_75_code
def yX12_spread : MethodName := ⟨RX12, "spread", "()I"⟩
abbrev cX12_hurts : ByteArray := prog_14_method_76_code
def yX12_hurts : MethodName := ⟨RX12, "hurts", "(II)V"⟩
abbrev cX12_late : ByteArray := prog_14_method_77_code
def yX12_late : MethodName := ⟨RX12, "late", "(III)I"⟩
abbrev cX12_bears : ByteArray := prog_14_method_78_code
def yX12_bears : MethodName := ⟨RX12, "bears", "(I)I"⟩
abbrev cX12_dies : ByteArray := prog_14_method_79_code
def yX12_dies : MethodName := ⟨RX12, "dies", "(III)I"⟩
abbrev cX12_entry : ByteArray := prog_14_method_80_code
def yX12_entry : MethodName := ⟨RX12, "entry", "(II)I"⟩
abbrev cX12_undo : ByteArray := prog_14_method_81_code
def yX12_undo : MethodName := ⟨RX12, "undo", "()I"⟩
abbrev cX12_areTrue : ByteArray := prog_14_method_82_code
def yX12_areTrue : MethodName := ⟨RX12, "areTrue", "(II)Z"⟩
abbrev cX12_trueBits : ByteArray := prog_14_method_83_code
def yX12_trueBits : MethodName := ⟨RX12, "trueBits", "(I)I"⟩
abbrev cX12_earth : ByteArray := prog_14_method_84_code
def yX12_earth : MethodName := ⟨RX12, "earth", "(I)I"⟩
abbrev cX12_lot : ByteArray := prog_14_method_85_code
def yX12_lot : MethodName := ⟨RX12, "lot", "(I)I"⟩
abbrev cX12_years : ByteArray := prog_14_method_86_code
def yX12_years : MethodName := ⟨RX12, "years", "(III)I"⟩
abbrev cX12_move : ByteArray := prog_14_method_87_code
def yX12_move : MethodName := ⟨RX12, "move", "([I[IZ)V"⟩
abbrev cX12_moveAll : ByteArray := prog_14_method_88_code
def yX12_moveAll : MethodName := ⟨RX12, "moveAll", "([IZ)V"⟩
abbrev cX12_image : ByteArray := prog_14_method_89_code
def yX12_image : MethodName := ⟨RX12, "image", "(I)Z"⟩
abbrev cX12_on : ByteArray := prog_14_method_90_code
def yX12_on : MethodName := ⟨RX12, "on", "(I)Z"⟩
abbrev cX12_count : ByteArray := prog_14_method_91_code
def yX12_count : MethodName := ⟨RX12, "count", "(I)I"⟩
def RJ6 : String := "java/lang/Integer"
abbrev cJ6_bitCount_0f7a4 : ByteArray := prog_15_method_49_code
def yJ6_bitCount_0f7a4 : MethodName := ⟨RJ6, "bitCount", "(I)I"⟩
def RJ9 : String := "java/lang/Math"
def RJ0 : String := "java/lang/String"
abbrev cJ0_length_8abf5 : ByteArray := prog_17_method_54_code
def yJ0_length_8abf5 : MethodName := ⟨RJ0, "length", "()I"⟩
abbrev cJ0_charAt_5068e : ByteArray := prog_17_method_56_code
def yJ0_charAt_5068e : MethodName := ⟨RJ0, "charAt", "(I)C"⟩
abbrev cJ0_coder_7d493 : ByteArray := prog_17_method_152_code
def yJ0_coder_7d493 : MethodName := ⟨RJ0, "coder", "()B"⟩
abbrev cJ0_isLatin1_aae02 : ByteArray := prog_17_method_154_code
def yJ0_isLatin1_aae02 : MethodName := ⟨RJ0, "isLatin1", "()Z"⟩
abbrev cJ0_checkIndex_df160 : ByteArray := prog_17_method_155_code
def yJ0_checkIndex_df160 : MethodName := ⟨RJ0, "checkIndex", "(II)V"⟩
def RJ1 : String := "java/lang/StringLatin1"
abbrev cJ1_charAt_3b067 : ByteArray := prog_18_method_2_code
def yJ1_charAt_3b067 : MethodName := ⟨RJ1, "charAt", "([BI)C"⟩
def RJ10 : String := "java/lang/System"
def RJ7 : String := "java/util/Arrays"
abbrev cJ7_fill_d0a16 : ByteArray := prog_21_method_101_code
def yJ7_fill_d0a16 : MethodName := ⟨RJ7, "fill", "([JJ)V"⟩
abbrev cJ7_fill_53178 : ByteArray := prog_21_method_103_code
def yJ7_fill_53178 : MethodName := ⟨RJ7, "fill", "([II)V"⟩
def RJ3 : String := "jdk/internal/util/Preconditions"
abbrev cJ3_checkIndex_8e157 : ByteArray := prog_22_method_11_code
def yJ3_checkIndex_8e157 : MethodName := ⟨RJ3, "checkIndex", "(IILjava/util/function/BiFunction;)I"⟩
def RL : String := "OnlyLentLaw"
abbrev cL_law : ByteArray := code
def yL_law : MethodName := ⟨RL, "law", "([I)Z"⟩
abbrev vwCl : List vw_C := [(RX0, TX0, 8), (RX1, TX1, 14), (RX2, TX2, 5), (RX3, TX3, 8), (RX4, TX4, 19), (RX5, TX5, 2), (RX6, TX6, 9), (RX7, TX7, 6), (RX8, TX8, 2), (RX9, TX9, 8), (RX10, TX10, 2), (RX11, TX11, 12), (RX12, TX12, 60)]
