section
-- ===== PART A: goes FIRST, ahead of the names: the tables' words, and 'selects' of the private methods out of them =====
/-- a private method of a class that the tables say can be made, by its rows of tables_1 -/
def lw_okq (q : MethodName × Nat) : Prop := (q.1.cls ≠ "java/lang/invoke/MethodHandle" ∧ q.1.cls ≠ "java/lang/invoke/VarHandle") ∧ Cond.instantiable q.1.cls q.2 ∈ tables_1 ∧ Cond.privateMethod q.1 ∈ tables_1 ∧ Cond.instanceMethod q.1 ∈ tables_1
theorem lw_p0 : lw_okq (⟨"DrumRope$Reader", "rewind", "()V"⟩, 8) := ⟨⟨by decide +kernel, by decide +kernel⟩, List.mem_of_getElem? (i := 28) (by decide +kernel), List.mem_of_getElem? (i := 359) (by decide +kernel), List.mem_of_getElem? (i := 360) (by decide +kernel)⟩
theorem lw_p1 : lw_okq (⟨"DrumRope$Reader", "readStatement", "(LDrumRope$Shop;)V"⟩, 8) := ⟨⟨by decide +kernel, by decide +kernel⟩, List.mem_of_getElem? (i := 28) (by decide +kernel), List.mem_of_getElem? (i := 363) (by decide +kernel), List.mem_of_getElem? (i := 364) (by decide +kernel)⟩
theorem lw_p2 : lw_okq (⟨"DrumRope$Reader", "skipSpaces", "()V"⟩, 8) := ⟨⟨by decide +kernel, by decide +kernel⟩, List.mem_of_getElem? (i := 28) (by decide +kernel), List.mem_of_getElem? (i := 367) (by decide +kernel), List.mem_of_getElem? (i := 368) (by decide +kernel)⟩
theorem lw_p3 : lw_okq (⟨"DrumRope$Reader", "isLetter", "()Z"⟩, 8) := ⟨⟨by decide +kernel, by decide +kernel⟩, List.mem_of_getElem? (i := 28) (by decide +kernel), List.mem_of_getElem? (i := 371) (by decide +kernel), List.mem_of_getElem? (i := 372) (by decide +kernel)⟩
theorem lw_p4 : lw_okq (⟨"DrumRope$Reader", "isWord", "(ILjava/lang/String;)Z"⟩, 8) := ⟨⟨by decide +kernel, by decide +kernel⟩, List.mem_of_getElem? (i := 28) (by decide +kernel), List.mem_of_getElem? (i := 376) (by decide +kernel), List.mem_of_getElem? (i := 377) (by decide +kernel)⟩
theorem lw_p5 : lw_okq (⟨"DrumRope$Reader", "fail", "(II)V"⟩, 8) := ⟨⟨by decide +kernel, by decide +kernel⟩, List.mem_of_getElem? (i := 28) (by decide +kernel), List.mem_of_getElem? (i := 428) (by decide +kernel), List.mem_of_getElem? (i := 429) (by decide +kernel)⟩
theorem lw_p6 : lw_okq (⟨"DrumRope$Reader", "readStations", "(LDrumRope$Shop;)V"⟩, 8) := ⟨⟨by decide +kernel, by decide +kernel⟩, List.mem_of_getElem? (i := 28) (by decide +kernel), List.mem_of_getElem? (i := 432) (by decide +kernel), List.mem_of_getElem? (i := 433) (by decide +kernel)⟩
theorem lw_p7 : lw_okq (⟨"DrumRope$Reader", "readNumber", "(II)I"⟩, 8) := ⟨⟨by decide +kernel, by decide +kernel⟩, List.mem_of_getElem? (i := 28) (by decide +kernel), List.mem_of_getElem? (i := 436) (by decide +kernel), List.mem_of_getElem? (i := 437) (by decide +kernel)⟩
theorem lw_p8 : lw_okq (⟨"DrumRope$Reader", "isDigit", "()Z"⟩, 8) := ⟨⟨by decide +kernel, by decide +kernel⟩, List.mem_of_getElem? (i := 28) (by decide +kernel), List.mem_of_getElem? (i := 440) (by decide +kernel), List.mem_of_getElem? (i := 441) (by decide +kernel)⟩
theorem lw_p9 : lw_okq (⟨"DrumRope$Reader", "readProduct", "(LDrumRope$Shop;I)V"⟩, 8) := ⟨⟨by decide +kernel, by decide +kernel⟩, List.mem_of_getElem? (i := 28) (by decide +kernel), List.mem_of_getElem? (i := 449) (by decide +kernel), List.mem_of_getElem? (i := 450) (by decide +kernel)⟩
theorem lw_p10 : lw_okq (⟨"DrumRope$Reader", "readStep", "(LDrumRope$Shop;LDrumRope$Product;)V"⟩, 8) := ⟨⟨by decide +kernel, by decide +kernel⟩, List.mem_of_getElem? (i := 28) (by decide +kernel), List.mem_of_getElem? (i := 457) (by decide +kernel), List.mem_of_getElem? (i := 458) (by decide +kernel)⟩
theorem lw_p11 : lw_okq (⟨"DrumRope$Reader", "readOrder", "(LDrumRope$Shop;I)V"⟩, 8) := ⟨⟨by decide +kernel, by decide +kernel⟩, List.mem_of_getElem? (i := 28) (by decide +kernel), List.mem_of_getElem? (i := 462) (by decide +kernel), List.mem_of_getElem? (i := 463) (by decide +kernel)⟩
theorem lw_p12 : lw_okq (⟨"DrumRope$Reader", "readSetting", "(LDrumRope$Shop;I)V"⟩, 8) := ⟨⟨by decide +kernel, by decide +kernel⟩, List.mem_of_getElem? (i := 28) (by decide +kernel), List.mem_of_getElem? (i := 479) (by decide +kernel), List.mem_of_getElem? (i := 480) (by decide +kernel)⟩
theorem lw_p13 : lw_okq (⟨"DrumRope$Reader", "readSetup", "(LDrumRope$Shop;)V"⟩, 8) := ⟨⟨by decide +kernel, by decide +kernel⟩, List.mem_of_getElem? (i := 28) (by decide +kernel), List.mem_of_getElem? (i := 488) (by decide +kernel), List.mem_of_getElem? (i := 489) (by decide +kernel)⟩
theorem lw_p14 : lw_okq (⟨"DrumRope$Reader", "checkDrumWorks", "(LDrumRope$Shop;)V"⟩, 8) := ⟨⟨by decide +kernel, by decide +kernel⟩, List.mem_of_getElem? (i := 28) (by decide +kernel), List.mem_of_getElem? (i := 492) (by decide +kernel), List.mem_of_getElem? (i := 493) (by decide +kernel)⟩
theorem lw_p15 : lw_okq (⟨"DrumRope$Schedule", "collectByDue", "(LDrumRope$Shop;)V"⟩, 3) := ⟨⟨by decide +kernel, by decide +kernel⟩, List.mem_of_getElem? (i := 75) (by decide +kernel), List.mem_of_getElem? (i := 549) (by decide +kernel), List.mem_of_getElem? (i := 550) (by decide +kernel)⟩
def lw_privs_1 : List (MethodName × Nat) := [(⟨"DrumRope$Reader", "rewind", "()V"⟩, 8), (⟨"DrumRope$Reader", "readStatement", "(LDrumRope$Shop;)V"⟩, 8), (⟨"DrumRope$Reader", "skipSpaces", "()V"⟩, 8), (⟨"DrumRope$Reader", "isLetter", "()Z"⟩, 8), (⟨"DrumRope$Reader", "isWord", "(ILjava/lang/String;)Z"⟩, 8), (⟨"DrumRope$Reader", "fail", "(II)V"⟩, 8), (⟨"DrumRope$Reader", "readStations", "(LDrumRope$Shop;)V"⟩, 8), (⟨"DrumRope$Reader", "readNumber", "(II)I"⟩, 8), (⟨"DrumRope$Reader", "isDigit", "()Z"⟩, 8), (⟨"DrumRope$Reader", "readProduct", "(LDrumRope$Shop;I)V"⟩, 8), (⟨"DrumRope$Reader", "readStep", "(LDrumRope$Shop;LDrumRope$Product;)V"⟩, 8), (⟨"DrumRope$Reader", "readOrder", "(LDrumRope$Shop;I)V"⟩, 8), (⟨"DrumRope$Reader", "readSetting", "(LDrumRope$Shop;I)V"⟩, 8), (⟨"DrumRope$Reader", "readSetup", "(LDrumRope$Shop;)V"⟩, 8), (⟨"DrumRope$Reader", "checkDrumWorks", "(LDrumRope$Shop;)V"⟩, 8), (⟨"DrumRope$Schedule", "collectByDue", "(LDrumRope$Shop;)V"⟩, 3)]
theorem lw_r1 : ∀ q ∈ lw_privs_1, lw_okq q := List.forall_mem_cons.mpr ⟨lw_p0, List.forall_mem_cons.mpr ⟨lw_p1, List.forall_mem_cons.mpr ⟨lw_p2, List.forall_mem_cons.mpr ⟨lw_p3, List.forall_mem_cons.mpr ⟨lw_p4, List.forall_mem_cons.mpr ⟨lw_p5, List.forall_mem_cons.mpr ⟨lw_p6, List.forall_mem_cons.mpr ⟨lw_p7, List.forall_mem_cons.mpr ⟨lw_p8, List.forall_mem_cons.mpr ⟨lw_p9, List.forall_mem_cons.mpr ⟨lw_p10, List.forall_mem_cons.mpr ⟨lw_p11, List.forall_mem_cons.mpr ⟨lw_p12, List.forall_mem_cons.mpr ⟨lw_p13, List.forall_mem_cons.mpr ⟨lw_p14, List.forall_mem_cons.mpr ⟨lw_p15, fun _ h => absurd h List.not_mem_nil⟩⟩⟩⟩⟩⟩⟩⟩⟩⟩⟩⟩⟩⟩⟩⟩
theorem lw_p16 : lw_okq (⟨"DrumRope$Schedule", "planBackward", "(LDrumRope$Shop;)V"⟩, 3) := ⟨⟨by decide +kernel, by decide +kernel⟩, List.mem_of_getElem? (i := 75) (by decide +kernel), List.mem_of_getElem? (i := 553) (by decide +kernel), List.mem_of_getElem? (i := 554) (by decide +kernel)⟩
theorem lw_p17 : lw_okq (⟨"DrumRope$Schedule", "planForward", "(LDrumRope$Shop;I)V"⟩, 3) := ⟨⟨by decide +kernel, by decide +kernel⟩, List.mem_of_getElem? (i := 75) (by decide +kernel), List.mem_of_getElem? (i := 561) (by decide +kernel), List.mem_of_getElem? (i := 562) (by decide +kernel)⟩
theorem lw_p18 : lw_okq (⟨"DrumRope", "tardinessByRule", "(I)I"⟩, 5) := ⟨⟨by decide +kernel, by decide +kernel⟩, List.mem_of_getElem? (i := 20) (by decide +kernel), List.mem_of_getElem? (i := 601) (by decide +kernel), List.mem_of_getElem? (i := 602) (by decide +kernel)⟩
theorem lw_p19 : lw_okq (⟨"DrumRope$Shop", "quietTicks", "(I)I"⟩, 15) := ⟨⟨by decide +kernel, by decide +kernel⟩, List.mem_of_getElem? (i := 63) (by decide +kernel), List.mem_of_getElem? (i := 609) (by decide +kernel), List.mem_of_getElem? (i := 610) (by decide +kernel)⟩
theorem lw_p20 : lw_okq (⟨"DrumRope$Shop", "ticksWithoutRelease", "(I)I"⟩, 15) := ⟨⟨by decide +kernel, by decide +kernel⟩, List.mem_of_getElem? (i := 63) (by decide +kernel), List.mem_of_getElem? (i := 618) (by decide +kernel), List.mem_of_getElem? (i := 619) (by decide +kernel)⟩
theorem lw_p21 : lw_okq (⟨"DrumRope$Shop", "releaseOrders", "()V"⟩, 15) := ⟨⟨by decide +kernel, by decide +kernel⟩, List.mem_of_getElem? (i := 63) (by decide +kernel), List.mem_of_getElem? (i := 628) (by decide +kernel), List.mem_of_getElem? (i := 629) (by decide +kernel)⟩
theorem lw_p22 : lw_okq (⟨"DrumRope$Shop", "arrive", "(LDrumRope$Order;I)V"⟩, 15) := ⟨⟨by decide +kernel, by decide +kernel⟩, List.mem_of_getElem? (i := 63) (by decide +kernel), List.mem_of_getElem? (i := 632) (by decide +kernel), List.mem_of_getElem? (i := 633) (by decide +kernel)⟩
theorem lw_p23 : lw_okq (⟨"DrumRope$Shop", "beginSteps", "()V"⟩, 15) := ⟨⟨by decide +kernel, by decide +kernel⟩, List.mem_of_getElem? (i := 63) (by decide +kernel), List.mem_of_getElem? (i := 640) (by decide +kernel), List.mem_of_getElem? (i := 641) (by decide +kernel)⟩
theorem lw_p24 : lw_okq (⟨"DrumRope$Shop", "keyByRule", "(LDrumRope$Order;I)I"⟩, 15) := ⟨⟨by decide +kernel, by decide +kernel⟩, List.mem_of_getElem? (i := 63) (by decide +kernel), List.mem_of_getElem? (i := 661) (by decide +kernel), List.mem_of_getElem? (i := 662) (by decide +kernel)⟩
theorem lw_p25 : lw_okq (⟨"DrumRope$Shop", "beginStep", "(II)V"⟩, 15) := ⟨⟨by decide +kernel, by decide +kernel⟩, List.mem_of_getElem? (i := 63) (by decide +kernel), List.mem_of_getElem? (i := 672) (by decide +kernel), List.mem_of_getElem? (i := 673) (by decide +kernel)⟩
theorem lw_p26 : lw_okq (⟨"DrumRope$Shop", "work", "(I)V"⟩, 15) := ⟨⟨by decide +kernel, by decide +kernel⟩, List.mem_of_getElem? (i := 63) (by decide +kernel), List.mem_of_getElem? (i := 679) (by decide +kernel), List.mem_of_getElem? (i := 680) (by decide +kernel)⟩
theorem lw_p27 : lw_okq (⟨"DrumRope$Shop", "isStarved", "()Z"⟩, 15) := ⟨⟨by decide +kernel, by decide +kernel⟩, List.mem_of_getElem? (i := 63) (by decide +kernel), List.mem_of_getElem? (i := 683) (by decide +kernel), List.mem_of_getElem? (i := 684) (by decide +kernel)⟩
theorem lw_p28 : lw_okq (⟨"DrumRope$Shop", "finishSteps", "()V"⟩, 15) := ⟨⟨by decide +kernel, by decide +kernel⟩, List.mem_of_getElem? (i := 63) (by decide +kernel), List.mem_of_getElem? (i := 691) (by decide +kernel), List.mem_of_getElem? (i := 692) (by decide +kernel)⟩
theorem lw_p29 : lw_okq (⟨"DrumRope$Shop", "leaveStation", "(LDrumRope$Order;)V"⟩, 15) := ⟨⟨by decide +kernel, by decide +kernel⟩, List.mem_of_getElem? (i := 63) (by decide +kernel), List.mem_of_getElem? (i := 695) (by decide +kernel), List.mem_of_getElem? (i := 696) (by decide +kernel)⟩
theorem lw_p30 : lw_okq (⟨"DrumRope$Shop", "markReds", "()V"⟩, 15) := ⟨⟨by decide +kernel, by decide +kernel⟩, List.mem_of_getElem? (i := 63) (by decide +kernel), List.mem_of_getElem? (i := 699) (by decide +kernel), List.mem_of_getElem? (i := 700) (by decide +kernel)⟩
theorem lw_p31 : lw_okq (⟨"DrumRope", "tardinessByRope", "(I)I"⟩, 5) := ⟨⟨by decide +kernel, by decide +kernel⟩, List.mem_of_getElem? (i := 20) (by decide +kernel), List.mem_of_getElem? (i := 712) (by decide +kernel), List.mem_of_getElem? (i := 713) (by decide +kernel)⟩
def lw_privs_2 : List (MethodName × Nat) := [(⟨"DrumRope$Schedule", "planBackward", "(LDrumRope$Shop;)V"⟩, 3), (⟨"DrumRope$Schedule", "planForward", "(LDrumRope$Shop;I)V"⟩, 3), (⟨"DrumRope", "tardinessByRule", "(I)I"⟩, 5), (⟨"DrumRope$Shop", "quietTicks", "(I)I"⟩, 15), (⟨"DrumRope$Shop", "ticksWithoutRelease", "(I)I"⟩, 15), (⟨"DrumRope$Shop", "releaseOrders", "()V"⟩, 15), (⟨"DrumRope$Shop", "arrive", "(LDrumRope$Order;I)V"⟩, 15), (⟨"DrumRope$Shop", "beginSteps", "()V"⟩, 15), (⟨"DrumRope$Shop", "keyByRule", "(LDrumRope$Order;I)I"⟩, 15), (⟨"DrumRope$Shop", "beginStep", "(II)V"⟩, 15), (⟨"DrumRope$Shop", "work", "(I)V"⟩, 15), (⟨"DrumRope$Shop", "isStarved", "()Z"⟩, 15), (⟨"DrumRope$Shop", "finishSteps", "()V"⟩, 15), (⟨"DrumRope$Shop", "leaveStation", "(LDrumRope$Order;)V"⟩, 15), (⟨"DrumRope$Shop", "markReds", "()V"⟩, 15), (⟨"DrumRope", "tardinessByRope", "(I)I"⟩, 5)]
theorem lw_r2 : ∀ q ∈ lw_privs_2, lw_okq q := List.forall_mem_cons.mpr ⟨lw_p16, List.forall_mem_cons.mpr ⟨lw_p17, List.forall_mem_cons.mpr ⟨lw_p18, List.forall_mem_cons.mpr ⟨lw_p19, List.forall_mem_cons.mpr ⟨lw_p20, List.forall_mem_cons.mpr ⟨lw_p21, List.forall_mem_cons.mpr ⟨lw_p22, List.forall_mem_cons.mpr ⟨lw_p23, List.forall_mem_cons.mpr ⟨lw_p24, List.forall_mem_cons.mpr ⟨lw_p25, List.forall_mem_cons.mpr ⟨lw_p26, List.forall_mem_cons.mpr ⟨lw_p27, List.forall_mem_cons.mpr ⟨lw_p28, List.forall_mem_cons.mpr ⟨lw_p29, List.forall_mem_cons.mpr ⟨lw_p30, List.forall_mem_cons.mpr ⟨lw_p31, fun _ h => absurd h List.not_mem_nil⟩⟩⟩⟩⟩⟩⟩⟩⟩⟩⟩⟩⟩⟩⟩⟩
theorem lw_p32 : lw_okq (⟨"DrumRope$Shop", "workAheadOf", "(LDrumRope$Order;I)I"⟩, 15) := ⟨⟨by decide +kernel, by decide +kernel⟩, List.mem_of_getElem? (i := 63) (by decide +kernel), List.mem_of_getElem? (i := 740) (by decide +kernel), List.mem_of_getElem? (i := 741) (by decide +kernel)⟩
theorem lw_p33 : lw_okq (⟨"DrumRope", "tardinessIfExpedited", "(I)I"⟩, 5) := ⟨⟨by decide +kernel, by decide +kernel⟩, List.mem_of_getElem? (i := 20) (by decide +kernel), List.mem_of_getElem? (i := 749) (by decide +kernel), List.mem_of_getElem? (i := 750) (by decide +kernel)⟩
theorem lw_p34 : lw_okq (⟨"java/lang/Throwable", "fillInStackTrace", "(I)Ljava/lang/Throwable;"⟩, 6) := ⟨⟨by decide +kernel, by decide +kernel⟩, List.mem_of_getElem? (i := 801) (by decide +kernel), List.mem_of_getElem? (i := 799) (by decide +kernel), List.mem_of_getElem? (i := 800) (by decide +kernel)⟩
theorem lw_p35 : lw_okq (⟨"DrumRope", "findProduct", "(I)LDrumRope$Product;"⟩, 5) := ⟨⟨by decide +kernel, by decide +kernel⟩, List.mem_of_getElem? (i := 20) (by decide +kernel), List.mem_of_getElem? (i := 842) (by decide +kernel), List.mem_of_getElem? (i := 843) (by decide +kernel)⟩
theorem lw_p36 : lw_okq (⟨"DrumRope", "findOrder", "(I)LDrumRope$Order;"⟩, 5) := ⟨⟨by decide +kernel, by decide +kernel⟩, List.mem_of_getElem? (i := 20) (by decide +kernel), List.mem_of_getElem? (i := 911) (by decide +kernel), List.mem_of_getElem? (i := 912) (by decide +kernel)⟩
theorem lw_p37 : lw_okq (⟨"DrumRope", "findStation", "(I)LDrumRope$Station;"⟩, 5) := ⟨⟨by decide +kernel, by decide +kernel⟩, List.mem_of_getElem? (i := 20) (by decide +kernel), List.mem_of_getElem? (i := 951) (by decide +kernel), List.mem_of_getElem? (i := 952) (by decide +kernel)⟩
theorem lw_p38 : lw_okq (⟨"DrumRopeModel", "isThrown", "(ZI)Z"⟩, 20) := ⟨⟨by decide +kernel, by decide +kernel⟩, List.mem_of_getElem? (i := 1193) (by decide +kernel), List.mem_of_getElem? (i := 1274) (by decide +kernel), List.mem_of_getElem? (i := 1275) (by decide +kernel)⟩
theorem lw_p39 : lw_okq (⟨"DrumRopeModel", "reads", "()V"⟩, 20) := ⟨⟨by decide +kernel, by decide +kernel⟩, List.mem_of_getElem? (i := 1193) (by decide +kernel), List.mem_of_getElem? (i := 1282) (by decide +kernel), List.mem_of_getElem? (i := 1283) (by decide +kernel)⟩
theorem lw_p40 : lw_okq (⟨"DrumRopeModel", "next", "()I"⟩, 20) := ⟨⟨by decide +kernel, by decide +kernel⟩, List.mem_of_getElem? (i := 1193) (by decide +kernel), List.mem_of_getElem? (i := 1286) (by decide +kernel), List.mem_of_getElem? (i := 1287) (by decide +kernel)⟩
theorem lw_p41 : lw_okq (⟨"DrumRopeModel", "here", "()I"⟩, 20) := ⟨⟨by decide +kernel, by decide +kernel⟩, List.mem_of_getElem? (i := 1193) (by decide +kernel), List.mem_of_getElem? (i := 1290) (by decide +kernel), List.mem_of_getElem? (i := 1291) (by decide +kernel)⟩
theorem lw_p42 : lw_okq (⟨"DrumRopeModel", "isWord", "(Ljava/lang/String;)Z"⟩, 20) := ⟨⟨by decide +kernel, by decide +kernel⟩, List.mem_of_getElem? (i := 1193) (by decide +kernel), List.mem_of_getElem? (i := 1295) (by decide +kernel), List.mem_of_getElem? (i := 1296) (by decide +kernel)⟩
theorem lw_p43 : lw_okq (⟨"DrumRopeModel", "fails", "(II)V"⟩, 20) := ⟨⟨by decide +kernel, by decide +kernel⟩, List.mem_of_getElem? (i := 1193) (by decide +kernel), List.mem_of_getElem? (i := 1301) (by decide +kernel), List.mem_of_getElem? (i := 1302) (by decide +kernel)⟩
theorem lw_p44 : lw_okq (⟨"DrumRopeModel", "number", "(II)I"⟩, 20) := ⟨⟨by decide +kernel, by decide +kernel⟩, List.mem_of_getElem? (i := 1193) (by decide +kernel), List.mem_of_getElem? (i := 1305) (by decide +kernel), List.mem_of_getElem? (i := 1306) (by decide +kernel)⟩
theorem lw_p45 : lw_okq (⟨"DrumRopeModel", "isMore", "()Z"⟩, 20) := ⟨⟨by decide +kernel, by decide +kernel⟩, List.mem_of_getElem? (i := 1193) (by decide +kernel), List.mem_of_getElem? (i := 1311) (by decide +kernel), List.mem_of_getElem? (i := 1312) (by decide +kernel)⟩
theorem lw_p46 : lw_okq (⟨"DrumRopeModel", "statement", "()V"⟩, 20) := ⟨⟨by decide +kernel, by decide +kernel⟩, List.mem_of_getElem? (i := 1193) (by decide +kernel), List.mem_of_getElem? (i := 1315) (by decide +kernel), List.mem_of_getElem? (i := 1316) (by decide +kernel)⟩
theorem lw_p47 : lw_okq (⟨"DrumRopeModel", "setupPart", "()V"⟩, 20) := ⟨⟨by decide +kernel, by decide +kernel⟩, List.mem_of_getElem? (i := 1193) (by decide +kernel), List.mem_of_getElem? (i := 1324) (by decide +kernel), List.mem_of_getElem? (i := 1325) (by decide +kernel)⟩
def lw_privs_3 : List (MethodName × Nat) := [(⟨"DrumRope$Shop", "workAheadOf", "(LDrumRope$Order;I)I"⟩, 15), (⟨"DrumRope", "tardinessIfExpedited", "(I)I"⟩, 5), (⟨"java/lang/Throwable", "fillInStackTrace", "(I)Ljava/lang/Throwable;"⟩, 6), (⟨"DrumRope", "findProduct", "(I)LDrumRope$Product;"⟩, 5), (⟨"DrumRope", "findOrder", "(I)LDrumRope$Order;"⟩, 5), (⟨"DrumRope", "findStation", "(I)LDrumRope$Station;"⟩, 5), (⟨"DrumRopeModel", "isThrown", "(ZI)Z"⟩, 20), (⟨"DrumRopeModel", "reads", "()V"⟩, 20), (⟨"DrumRopeModel", "next", "()I"⟩, 20), (⟨"DrumRopeModel", "here", "()I"⟩, 20), (⟨"DrumRopeModel", "isWord", "(Ljava/lang/String;)Z"⟩, 20), (⟨"DrumRopeModel", "fails", "(II)V"⟩, 20), (⟨"DrumRopeModel", "number", "(II)I"⟩, 20), (⟨"DrumRopeModel", "isMore", "()Z"⟩, 20), (⟨"DrumRopeModel", "statement", "()V"⟩, 20), (⟨"DrumRopeModel", "setupPart", "()V"⟩, 20)]
theorem lw_r3 : ∀ q ∈ lw_privs_3, lw_okq q := List.forall_mem_cons.mpr ⟨lw_p32, List.forall_mem_cons.mpr ⟨lw_p33, List.forall_mem_cons.mpr ⟨lw_p34, List.forall_mem_cons.mpr ⟨lw_p35, List.forall_mem_cons.mpr ⟨lw_p36, List.forall_mem_cons.mpr ⟨lw_p37, List.forall_mem_cons.mpr ⟨lw_p38, List.forall_mem_cons.mpr ⟨lw_p39, List.forall_mem_cons.mpr ⟨lw_p40, List.forall_mem_cons.mpr ⟨lw_p41, List.forall_mem_cons.mpr ⟨lw_p42, List.forall_mem_cons.mpr ⟨lw_p43, List.forall_mem_cons.mpr ⟨lw_p44, List.forall_mem_cons.mpr ⟨lw_p45, List.forall_mem_cons.mpr ⟨lw_p46, List.forall_mem_cons.mpr ⟨lw_p47, fun _ h => absurd h List.not_mem_nil⟩⟩⟩⟩⟩⟩⟩⟩⟩⟩⟩⟩⟩⟩⟩⟩
theorem lw_p48 : lw_okq (⟨"DrumRopeModel", "productPart", "()V"⟩, 20) := ⟨⟨by decide +kernel, by decide +kernel⟩, List.mem_of_getElem? (i := 1193) (by decide +kernel), List.mem_of_getElem? (i := 1329) (by decide +kernel), List.mem_of_getElem? (i := 1330) (by decide +kernel)⟩
theorem lw_p49 : lw_okq (⟨"DrumRopeModel", "stepPart", "(I)V"⟩, 20) := ⟨⟨by decide +kernel, by decide +kernel⟩, List.mem_of_getElem? (i := 1193) (by decide +kernel), List.mem_of_getElem? (i := 1333) (by decide +kernel), List.mem_of_getElem? (i := 1334) (by decide +kernel)⟩
theorem lw_p50 : lw_okq (⟨"DrumRopeModel", "orderPart", "()V"⟩, 20) := ⟨⟨by decide +kernel, by decide +kernel⟩, List.mem_of_getElem? (i := 1193) (by decide +kernel), List.mem_of_getElem? (i := 1344) (by decide +kernel), List.mem_of_getElem? (i := 1345) (by decide +kernel)⟩
theorem lw_p51 : lw_okq (⟨"DrumRopeModel", "checksOrders", "()V"⟩, 20) := ⟨⟨by decide +kernel, by decide +kernel⟩, List.mem_of_getElem? (i := 1193) (by decide +kernel), List.mem_of_getElem? (i := 1351) (by decide +kernel), List.mem_of_getElem? (i := 1352) (by decide +kernel)⟩
theorem lw_p52 : lw_okq (⟨"DrumRopeModel", "isProduct", "(I)Z"⟩, 20) := ⟨⟨by decide +kernel, by decide +kernel⟩, List.mem_of_getElem? (i := 1193) (by decide +kernel), List.mem_of_getElem? (i := 1391) (by decide +kernel), List.mem_of_getElem? (i := 1392) (by decide +kernel)⟩
theorem lw_p53 : lw_okq (⟨"DrumRopeModel", "isWork", "(II)Z"⟩, 20) := ⟨⟨by decide +kernel, by decide +kernel⟩, List.mem_of_getElem? (i := 1193) (by decide +kernel), List.mem_of_getElem? (i := 1403) (by decide +kernel), List.mem_of_getElem? (i := 1404) (by decide +kernel)⟩
theorem lw_p54 : lw_okq (⟨"DrumRopeModel", "passes", "()I"⟩, 20) := ⟨⟨by decide +kernel, by decide +kernel⟩, List.mem_of_getElem? (i := 1193) (by decide +kernel), List.mem_of_getElem? (i := 1419) (by decide +kernel), List.mem_of_getElem? (i := 1420) (by decide +kernel)⟩
theorem lw_p55 : lw_okq (⟨"DrumRopeModel", "releases", "()V"⟩, 20) := ⟨⟨by decide +kernel, by decide +kernel⟩, List.mem_of_getElem? (i := 1193) (by decide +kernel), List.mem_of_getElem? (i := 1423) (by decide +kernel), List.mem_of_getElem? (i := 1424) (by decide +kernel)⟩
theorem lw_p56 : lw_okq (⟨"DrumRopeModel", "laysSchedule", "()V"⟩, 20) := ⟨⟨by decide +kernel, by decide +kernel⟩, List.mem_of_getElem? (i := 1193) (by decide +kernel), List.mem_of_getElem? (i := 1427) (by decide +kernel), List.mem_of_getElem? (i := 1428) (by decide +kernel)⟩
theorem lw_p57 : lw_okq (⟨"DrumRopeModel", "isBeforeDrum", "(I)Z"⟩, 20) := ⟨⟨by decide +kernel, by decide +kernel⟩, List.mem_of_getElem? (i := 1193) (by decide +kernel), List.mem_of_getElem? (i := 1431) (by decide +kernel), List.mem_of_getElem? (i := 1432) (by decide +kernel)⟩
theorem lw_p58 : lw_okq (⟨"DrumRopeModel", "isOpen", "(I)Z"⟩, 20) := ⟨⟨by decide +kernel, by decide +kernel⟩, List.mem_of_getElem? (i := 1193) (by decide +kernel), List.mem_of_getElem? (i := 1435) (by decide +kernel), List.mem_of_getElem? (i := 1436) (by decide +kernel)⟩
theorem lw_p59 : lw_okq (⟨"DrumRopeModel", "order", "(II)I"⟩, 20) := ⟨⟨by decide +kernel, by decide +kernel⟩, List.mem_of_getElem? (i := 1193) (by decide +kernel), List.mem_of_getElem? (i := 1439) (by decide +kernel), List.mem_of_getElem? (i := 1440) (by decide +kernel)⟩
theorem lw_p60 : lw_okq (⟨"DrumRopeModel", "workAtDrum", "(I)I"⟩, 20) := ⟨⟨by decide +kernel, by decide +kernel⟩, List.mem_of_getElem? (i := 1193) (by decide +kernel), List.mem_of_getElem? (i := 1443) (by decide +kernel), List.mem_of_getElem? (i := 1444) (by decide +kernel)⟩
theorem lw_p61 : lw_okq (⟨"DrumRopeModel", "earliest", "()I"⟩, 20) := ⟨⟨by decide +kernel, by decide +kernel⟩, List.mem_of_getElem? (i := 1193) (by decide +kernel), List.mem_of_getElem? (i := 1447) (by decide +kernel), List.mem_of_getElem? (i := 1448) (by decide +kernel)⟩
theorem lw_p62 : lw_okq (⟨"DrumRopeModel", "station", "(II)I"⟩, 20) := ⟨⟨by decide +kernel, by decide +kernel⟩, List.mem_of_getElem? (i := 1193) (by decide +kernel), List.mem_of_getElem? (i := 1451) (by decide +kernel), List.mem_of_getElem? (i := 1452) (by decide +kernel)⟩
theorem lw_p63 : lw_okq (⟨"DrumRopeModel", "ropeNow", "()I"⟩, 20) := ⟨⟨by decide +kernel, by decide +kernel⟩, List.mem_of_getElem? (i := 1193) (by decide +kernel), List.mem_of_getElem? (i := 1455) (by decide +kernel), List.mem_of_getElem? (i := 1456) (by decide +kernel)⟩
def lw_privs_4 : List (MethodName × Nat) := [(⟨"DrumRopeModel", "productPart", "()V"⟩, 20), (⟨"DrumRopeModel", "stepPart", "(I)V"⟩, 20), (⟨"DrumRopeModel", "orderPart", "()V"⟩, 20), (⟨"DrumRopeModel", "checksOrders", "()V"⟩, 20), (⟨"DrumRopeModel", "isProduct", "(I)Z"⟩, 20), (⟨"DrumRopeModel", "isWork", "(II)Z"⟩, 20), (⟨"DrumRopeModel", "passes", "()I"⟩, 20), (⟨"DrumRopeModel", "releases", "()V"⟩, 20), (⟨"DrumRopeModel", "laysSchedule", "()V"⟩, 20), (⟨"DrumRopeModel", "isBeforeDrum", "(I)Z"⟩, 20), (⟨"DrumRopeModel", "isOpen", "(I)Z"⟩, 20), (⟨"DrumRopeModel", "order", "(II)I"⟩, 20), (⟨"DrumRopeModel", "workAtDrum", "(I)I"⟩, 20), (⟨"DrumRopeModel", "earliest", "()I"⟩, 20), (⟨"DrumRopeModel", "station", "(II)I"⟩, 20), (⟨"DrumRopeModel", "ropeNow", "()I"⟩, 20)]
theorem lw_r4 : ∀ q ∈ lw_privs_4, lw_okq q := List.forall_mem_cons.mpr ⟨lw_p48, List.forall_mem_cons.mpr ⟨lw_p49, List.forall_mem_cons.mpr ⟨lw_p50, List.forall_mem_cons.mpr ⟨lw_p51, List.forall_mem_cons.mpr ⟨lw_p52, List.forall_mem_cons.mpr ⟨lw_p53, List.forall_mem_cons.mpr ⟨lw_p54, List.forall_mem_cons.mpr ⟨lw_p55, List.forall_mem_cons.mpr ⟨lw_p56, List.forall_mem_cons.mpr ⟨lw_p57, List.forall_mem_cons.mpr ⟨lw_p58, List.forall_mem_cons.mpr ⟨lw_p59, List.forall_mem_cons.mpr ⟨lw_p60, List.forall_mem_cons.mpr ⟨lw_p61, List.forall_mem_cons.mpr ⟨lw_p62, List.forall_mem_cons.mpr ⟨lw_p63, fun _ h => absurd h List.not_mem_nil⟩⟩⟩⟩⟩⟩⟩⟩⟩⟩⟩⟩⟩⟩⟩⟩
theorem lw_p64 : lw_okq (⟨"DrumRopeModel", "isPastDrum", "(I)Z"⟩, 20) := ⟨⟨by decide +kernel, by decide +kernel⟩, List.mem_of_getElem? (i := 1193) (by decide +kernel), List.mem_of_getElem? (i := 1459) (by decide +kernel), List.mem_of_getElem? (i := 1460) (by decide +kernel)⟩
theorem lw_p65 : lw_okq (⟨"DrumRopeModel", "release", "(II)V"⟩, 20) := ⟨⟨by decide +kernel, by decide +kernel⟩, List.mem_of_getElem? (i := 1193) (by decide +kernel), List.mem_of_getElem? (i := 1463) (by decide +kernel), List.mem_of_getElem? (i := 1464) (by decide +kernel)⟩
theorem lw_p66 : lw_okq (⟨"DrumRopeModel", "setsOrder", "(III)V"⟩, 20) := ⟨⟨by decide +kernel, by decide +kernel⟩, List.mem_of_getElem? (i := 1193) (by decide +kernel), List.mem_of_getElem? (i := 1467) (by decide +kernel), List.mem_of_getElem? (i := 1468) (by decide +kernel)⟩
theorem lw_p67 : lw_okq (⟨"DrumRopeModel", "begins", "(I)V"⟩, 20) := ⟨⟨by decide +kernel, by decide +kernel⟩, List.mem_of_getElem? (i := 1193) (by decide +kernel), List.mem_of_getElem? (i := 1471) (by decide +kernel), List.mem_of_getElem? (i := 1472) (by decide +kernel)⟩
theorem lw_p68 : lw_okq (⟨"DrumRopeModel", "isDown", "(I)Z"⟩, 20) := ⟨⟨by decide +kernel, by decide +kernel⟩, List.mem_of_getElem? (i := 1193) (by decide +kernel), List.mem_of_getElem? (i := 1475) (by decide +kernel), List.mem_of_getElem? (i := 1476) (by decide +kernel)⟩
theorem lw_p69 : lw_okq (⟨"DrumRopeModel", "choice", "(I)I"⟩, 20) := ⟨⟨by decide +kernel, by decide +kernel⟩, List.mem_of_getElem? (i := 1193) (by decide +kernel), List.mem_of_getElem? (i := 1479) (by decide +kernel), List.mem_of_getElem? (i := 1480) (by decide +kernel)⟩
theorem lw_p70 : lw_okq (⟨"DrumRopeModel", "waitsAt", "(II)Z"⟩, 20) := ⟨⟨by decide +kernel, by decide +kernel⟩, List.mem_of_getElem? (i := 1193) (by decide +kernel), List.mem_of_getElem? (i := 1483) (by decide +kernel), List.mem_of_getElem? (i := 1484) (by decide +kernel)⟩
theorem lw_p71 : lw_okq (⟨"DrumRopeModel", "isBetter", "(II)Z"⟩, 20) := ⟨⟨by decide +kernel, by decide +kernel⟩, List.mem_of_getElem? (i := 1193) (by decide +kernel), List.mem_of_getElem? (i := 1487) (by decide +kernel), List.mem_of_getElem? (i := 1488) (by decide +kernel)⟩
theorem lw_p72 : lw_okq (⟨"DrumRopeModel", "isUrgent", "(I)Z"⟩, 20) := ⟨⟨by decide +kernel, by decide +kernel⟩, List.mem_of_getElem? (i := 1193) (by decide +kernel), List.mem_of_getElem? (i := 1491) (by decide +kernel), List.mem_of_getElem? (i := 1492) (by decide +kernel)⟩
theorem lw_p73 : lw_okq (⟨"DrumRopeModel", "zoneOf", "(I)I"⟩, 20) := ⟨⟨by decide +kernel, by decide +kernel⟩, List.mem_of_getElem? (i := 1193) (by decide +kernel), List.mem_of_getElem? (i := 1495) (by decide +kernel), List.mem_of_getElem? (i := 1496) (by decide +kernel)⟩
theorem lw_p74 : lw_okq (⟨"DrumRopeModel", "penetrationOf", "(I)I"⟩, 20) := ⟨⟨by decide +kernel, by decide +kernel⟩, List.mem_of_getElem? (i := 1193) (by decide +kernel), List.mem_of_getElem? (i := 1499) (by decide +kernel), List.mem_of_getElem? (i := 1500) (by decide +kernel)⟩
theorem lw_p75 : lw_okq (⟨"DrumRopeModel", "worth", "(I)I"⟩, 20) := ⟨⟨by decide +kernel, by decide +kernel⟩, List.mem_of_getElem? (i := 1193) (by decide +kernel), List.mem_of_getElem? (i := 1504) (by decide +kernel), List.mem_of_getElem? (i := 1505) (by decide +kernel)⟩
theorem lw_p76 : lw_okq (⟨"DrumRopeModel", "workHere", "(I)I"⟩, 20) := ⟨⟨by decide +kernel, by decide +kernel⟩, List.mem_of_getElem? (i := 1193) (by decide +kernel), List.mem_of_getElem? (i := 1508) (by decide +kernel), List.mem_of_getElem? (i := 1509) (by decide +kernel)⟩
theorem lw_p77 : lw_okq (⟨"DrumRopeModel", "setsStation", "(III)V"⟩, 20) := ⟨⟨by decide +kernel, by decide +kernel⟩, List.mem_of_getElem? (i := 1193) (by decide +kernel), List.mem_of_getElem? (i := 1512) (by decide +kernel), List.mem_of_getElem? (i := 1513) (by decide +kernel)⟩
theorem lw_p78 : lw_okq (⟨"DrumRopeModel", "isStarved", "()Z"⟩, 20) := ⟨⟨by decide +kernel, by decide +kernel⟩, List.mem_of_getElem? (i := 1193) (by decide +kernel), List.mem_of_getElem? (i := 1516) (by decide +kernel), List.mem_of_getElem? (i := 1517) (by decide +kernel)⟩
theorem lw_p79 : lw_okq (⟨"DrumRopeModel", "works", "(I)V"⟩, 20) := ⟨⟨by decide +kernel, by decide +kernel⟩, List.mem_of_getElem? (i := 1193) (by decide +kernel), List.mem_of_getElem? (i := 1520) (by decide +kernel), List.mem_of_getElem? (i := 1521) (by decide +kernel)⟩
def lw_privs_5 : List (MethodName × Nat) := [(⟨"DrumRopeModel", "isPastDrum", "(I)Z"⟩, 20), (⟨"DrumRopeModel", "release", "(II)V"⟩, 20), (⟨"DrumRopeModel", "setsOrder", "(III)V"⟩, 20), (⟨"DrumRopeModel", "begins", "(I)V"⟩, 20), (⟨"DrumRopeModel", "isDown", "(I)Z"⟩, 20), (⟨"DrumRopeModel", "choice", "(I)I"⟩, 20), (⟨"DrumRopeModel", "waitsAt", "(II)Z"⟩, 20), (⟨"DrumRopeModel", "isBetter", "(II)Z"⟩, 20), (⟨"DrumRopeModel", "isUrgent", "(I)Z"⟩, 20), (⟨"DrumRopeModel", "zoneOf", "(I)I"⟩, 20), (⟨"DrumRopeModel", "penetrationOf", "(I)I"⟩, 20), (⟨"DrumRopeModel", "worth", "(I)I"⟩, 20), (⟨"DrumRopeModel", "workHere", "(I)I"⟩, 20), (⟨"DrumRopeModel", "setsStation", "(III)V"⟩, 20), (⟨"DrumRopeModel", "isStarved", "()Z"⟩, 20), (⟨"DrumRopeModel", "works", "(I)V"⟩, 20)]
theorem lw_r5 : ∀ q ∈ lw_privs_5, lw_okq q := List.forall_mem_cons.mpr ⟨lw_p64, List.forall_mem_cons.mpr ⟨lw_p65, List.forall_mem_cons.mpr ⟨lw_p66, List.forall_mem_cons.mpr ⟨lw_p67, List.forall_mem_cons.mpr ⟨lw_p68, List.forall_mem_cons.mpr ⟨lw_p69, List.forall_mem_cons.mpr ⟨lw_p70, List.forall_mem_cons.mpr ⟨lw_p71, List.forall_mem_cons.mpr ⟨lw_p72, List.forall_mem_cons.mpr ⟨lw_p73, List.forall_mem_cons.mpr ⟨lw_p74, List.forall_mem_cons.mpr ⟨lw_p75, List.forall_mem_cons.mpr ⟨lw_p76, List.forall_mem_cons.mpr ⟨lw_p77, List.forall_mem_cons.mpr ⟨lw_p78, List.forall_mem_cons.mpr ⟨lw_p79, fun _ h => absurd h List.not_mem_nil⟩⟩⟩⟩⟩⟩⟩⟩⟩⟩⟩⟩⟩⟩⟩⟩
theorem lw_p80 : lw_okq (⟨"DrumRopeModel", "finishes", "(I)Z"⟩, 20) := ⟨⟨by decide +kernel, by decide +kernel⟩, List.mem_of_getElem? (i := 1193) (by decide +kernel), List.mem_of_getElem? (i := 1524) (by decide +kernel), List.mem_of_getElem? (i := 1525) (by decide +kernel)⟩
theorem lw_p81 : lw_okq (⟨"DrumRopeModel", "sees", "(I)V"⟩, 20) := ⟨⟨by decide +kernel, by decide +kernel⟩, List.mem_of_getElem? (i := 1193) (by decide +kernel), List.mem_of_getElem? (i := 1528) (by decide +kernel), List.mem_of_getElem? (i := 1529) (by decide +kernel)⟩
theorem lw_p82 : lw_okq (⟨"DrumRopeModel", "isNewOrder", "(III)Z"⟩, 20) := ⟨⟨by decide +kernel, by decide +kernel⟩, List.mem_of_getElem? (i := 1193) (by decide +kernel), List.mem_of_getElem? (i := 1536) (by decide +kernel), List.mem_of_getElem? (i := 1537) (by decide +kernel)⟩
theorem lw_p83 : lw_okq (⟨"DrumRopeModel", "noAdding", "(II)I"⟩, 20) := ⟨⟨by decide +kernel, by decide +kernel⟩, List.mem_of_getElem? (i := 1193) (by decide +kernel), List.mem_of_getElem? (i := 1540) (by decide +kernel), List.mem_of_getElem? (i := 1541) (by decide +kernel)⟩
theorem lw_p84 : lw_okq (⟨"DrumRopeModel", "isOrder", "(I)Z"⟩, 20) := ⟨⟨by decide +kernel, by decide +kernel⟩, List.mem_of_getElem? (i := 1193) (by decide +kernel), List.mem_of_getElem? (i := 1548) (by decide +kernel), List.mem_of_getElem? (i := 1549) (by decide +kernel)⟩
theorem lw_p85 : lw_okq (⟨"DrumRopeModel", "greatestWaiting", "()I"⟩, 20) := ⟨⟨by decide +kernel, by decide +kernel⟩, List.mem_of_getElem? (i := 1193) (by decide +kernel), List.mem_of_getElem? (i := 1568) (by decide +kernel), List.mem_of_getElem? (i := 1569) (by decide +kernel)⟩
theorem lw_p86 : lw_okq (⟨"DrumRopeModel", "isStation", "(I)Z"⟩, 20) := ⟨⟨by decide +kernel, by decide +kernel⟩, List.mem_of_getElem? (i := 1193) (by decide +kernel), List.mem_of_getElem? (i := 1580) (by decide +kernel), List.mem_of_getElem? (i := 1581) (by decide +kernel)⟩
theorem lw_p87 : lw_okq (⟨"DrumRopeModel", "told", "(II)I"⟩, 20) := ⟨⟨by decide +kernel, by decide +kernel⟩, List.mem_of_getElem? (i := 1193) (by decide +kernel), List.mem_of_getElem? (i := 1588) (by decide +kernel), List.mem_of_getElem? (i := 1589) (by decide +kernel)⟩
theorem lw_p88 : lw_okq (⟨"DrumRopeModel", "startOf", "(I)I"⟩, 20) := ⟨⟨by decide +kernel, by decide +kernel⟩, List.mem_of_getElem? (i := 1193) (by decide +kernel), List.mem_of_getElem? (i := 1628) (by decide +kernel), List.mem_of_getElem? (i := 1629) (by decide +kernel)⟩
theorem lw_p89 : lw_okq (⟨"DrumRopeModel", "placeOf", "(I)I"⟩, 20) := ⟨⟨by decide +kernel, by decide +kernel⟩, List.mem_of_getElem? (i := 1193) (by decide +kernel), List.mem_of_getElem? (i := 1633) (by decide +kernel), List.mem_of_getElem? (i := 1634) (by decide +kernel)⟩
theorem lw_p90 : lw_okq (⟨"DrumRopeModel", "flowOf", "(I)I"⟩, 20) := ⟨⟨by decide +kernel, by decide +kernel⟩, List.mem_of_getElem? (i := 1193) (by decide +kernel), List.mem_of_getElem? (i := 1673) (by decide +kernel), List.mem_of_getElem? (i := 1674) (by decide +kernel)⟩
theorem lw_p91 : lw_okq (⟨"DrumRopeModel", "lateOf", "(II)I"⟩, 20) := ⟨⟨by decide +kernel, by decide +kernel⟩, List.mem_of_getElem? (i := 1193) (by decide +kernel), List.mem_of_getElem? (i := 1685) (by decide +kernel), List.mem_of_getElem? (i := 1686) (by decide +kernel)⟩
theorem lw_p92 : lw_okq (⟨"DrumRopeModel", "toldOf", "(II)I"⟩, 20) := ⟨⟨by decide +kernel, by decide +kernel⟩, List.mem_of_getElem? (i := 1193) (by decide +kernel), List.mem_of_getElem? (i := 1697) (by decide +kernel), List.mem_of_getElem? (i := 1698) (by decide +kernel)⟩
theorem lw_p93 : lw_okq (⟨"DrumRopeModel", "loadAt", "(I)I"⟩, 20) := ⟨⟨by decide +kernel, by decide +kernel⟩, List.mem_of_getElem? (i := 1193) (by decide +kernel), List.mem_of_getElem? (i := 1737) (by decide +kernel), List.mem_of_getElem? (i := 1738) (by decide +kernel)⟩
theorem lw_p94 : lw_okq (⟨"DrumRopeModel", "isFree", "(II)Z"⟩, 20) := ⟨⟨by decide +kernel, by decide +kernel⟩, List.mem_of_getElem? (i := 1193) (by decide +kernel), List.mem_of_getElem? (i := 1749) (by decide +kernel), List.mem_of_getElem? (i := 1750) (by decide +kernel)⟩
theorem lw_p95 : lw_okq (⟨"DrumRopeModel", "leaves", "()V"⟩, 20) := ⟨⟨by decide +kernel, by decide +kernel⟩, List.mem_of_getElem? (i := 1193) (by decide +kernel), List.mem_of_getElem? (i := 1758) (by decide +kernel), List.mem_of_getElem? (i := 1759) (by decide +kernel)⟩
def lw_privs_6 : List (MethodName × Nat) := [(⟨"DrumRopeModel", "finishes", "(I)Z"⟩, 20), (⟨"DrumRopeModel", "sees", "(I)V"⟩, 20), (⟨"DrumRopeModel", "isNewOrder", "(III)Z"⟩, 20), (⟨"DrumRopeModel", "noAdding", "(II)I"⟩, 20), (⟨"DrumRopeModel", "isOrder", "(I)Z"⟩, 20), (⟨"DrumRopeModel", "greatestWaiting", "()I"⟩, 20), (⟨"DrumRopeModel", "isStation", "(I)Z"⟩, 20), (⟨"DrumRopeModel", "told", "(II)I"⟩, 20), (⟨"DrumRopeModel", "startOf", "(I)I"⟩, 20), (⟨"DrumRopeModel", "placeOf", "(I)I"⟩, 20), (⟨"DrumRopeModel", "flowOf", "(I)I"⟩, 20), (⟨"DrumRopeModel", "lateOf", "(II)I"⟩, 20), (⟨"DrumRopeModel", "toldOf", "(II)I"⟩, 20), (⟨"DrumRopeModel", "loadAt", "(I)I"⟩, 20), (⟨"DrumRopeModel", "isFree", "(II)Z"⟩, 20), (⟨"DrumRopeModel", "leaves", "()V"⟩, 20)]
theorem lw_r6 : ∀ q ∈ lw_privs_6, lw_okq q := List.forall_mem_cons.mpr ⟨lw_p80, List.forall_mem_cons.mpr ⟨lw_p81, List.forall_mem_cons.mpr ⟨lw_p82, List.forall_mem_cons.mpr ⟨lw_p83, List.forall_mem_cons.mpr ⟨lw_p84, List.forall_mem_cons.mpr ⟨lw_p85, List.forall_mem_cons.mpr ⟨lw_p86, List.forall_mem_cons.mpr ⟨lw_p87, List.forall_mem_cons.mpr ⟨lw_p88, List.forall_mem_cons.mpr ⟨lw_p89, List.forall_mem_cons.mpr ⟨lw_p90, List.forall_mem_cons.mpr ⟨lw_p91, List.forall_mem_cons.mpr ⟨lw_p92, List.forall_mem_cons.mpr ⟨lw_p93, List.forall_mem_cons.mpr ⟨lw_p94, List.forall_mem_cons.mpr ⟨lw_p95, fun _ h => absurd h List.not_mem_nil⟩⟩⟩⟩⟩⟩⟩⟩⟩⟩⟩⟩⟩⟩⟩⟩
theorem lw_p96 : lw_okq (⟨"DrumRopeModel", "endOf", "(I)I"⟩, 20) := ⟨⟨by decide +kernel, by decide +kernel⟩, List.mem_of_getElem? (i := 1193) (by decide +kernel), List.mem_of_getElem? (i := 1762) (by decide +kernel), List.mem_of_getElem? (i := 1763) (by decide +kernel)⟩
theorem lw_p97 : lw_okq (⟨"DrumRopeModel", "comesBack", "()V"⟩, 20) := ⟨⟨by decide +kernel, by decide +kernel⟩, List.mem_of_getElem? (i := 1193) (by decide +kernel), List.mem_of_getElem? (i := 1766) (by decide +kernel), List.mem_of_getElem? (i := 1767) (by decide +kernel)⟩
theorem lw_p98 : lw_okq (⟨"DrumRopeModel", "lateBy", "(I)I"⟩, 20) := ⟨⟨by decide +kernel, by decide +kernel⟩, List.mem_of_getElem? (i := 1193) (by decide +kernel), List.mem_of_getElem? (i := 1778) (by decide +kernel), List.mem_of_getElem? (i := 1779) (by decide +kernel)⟩
theorem lw_p99 : lw_okq (⟨"DrumRopeModel", "lateAhead", "()I"⟩, 20) := ⟨⟨by decide +kernel, by decide +kernel⟩, List.mem_of_getElem? (i := 1193) (by decide +kernel), List.mem_of_getElem? (i := 1782) (by decide +kernel), List.mem_of_getElem? (i := 1783) (by decide +kernel)⟩
theorem lw_p100 : lw_okq (⟨"DrumRopeModel", "isAnyOpen", "()Z"⟩, 20) := ⟨⟨by decide +kernel, by decide +kernel⟩, List.mem_of_getElem? (i := 1193) (by decide +kernel), List.mem_of_getElem? (i := 1786) (by decide +kernel), List.mem_of_getElem? (i := 1787) (by decide +kernel)⟩
theorem lw_p101 : lw_okq (⟨"DrumRopeModel", "lateByRope", "(I)I"⟩, 20) := ⟨⟨by decide +kernel, by decide +kernel⟩, List.mem_of_getElem? (i := 1193) (by decide +kernel), List.mem_of_getElem? (i := 1798) (by decide +kernel), List.mem_of_getElem? (i := 1799) (by decide +kernel)⟩
def lw_privs_7 : List (MethodName × Nat) := [(⟨"DrumRopeModel", "endOf", "(I)I"⟩, 20), (⟨"DrumRopeModel", "comesBack", "()V"⟩, 20), (⟨"DrumRopeModel", "lateBy", "(I)I"⟩, 20), (⟨"DrumRopeModel", "lateAhead", "()I"⟩, 20), (⟨"DrumRopeModel", "isAnyOpen", "()Z"⟩, 20), (⟨"DrumRopeModel", "lateByRope", "(I)I"⟩, 20)]
theorem lw_r7 : ∀ q ∈ lw_privs_7, lw_okq q := List.forall_mem_cons.mpr ⟨lw_p96, List.forall_mem_cons.mpr ⟨lw_p97, List.forall_mem_cons.mpr ⟨lw_p98, List.forall_mem_cons.mpr ⟨lw_p99, List.forall_mem_cons.mpr ⟨lw_p100, List.forall_mem_cons.mpr ⟨lw_p101, fun _ h => absurd h List.not_mem_nil⟩⟩⟩⟩⟩⟩
def lw_privs : List (MethodName × Nat) := lw_privs_1 ++ (lw_privs_2 ++ (lw_privs_3 ++ (lw_privs_4 ++ (lw_privs_5 ++ (lw_privs_6 ++ (lw_privs_7))))))
def lw_tbl : List Cond := k2_sels lw_privs ++ tables_1
theorem lw_privs_ok : ∀ q ∈ lw_privs, lw_okq q := by
  show ∀ q ∈ lw_privs_1 ++ (lw_privs_2 ++ (lw_privs_3 ++ (lw_privs_4 ++ (lw_privs_5 ++ (lw_privs_6 ++ (lw_privs_7)))))), lw_okq q
  exact List.forall_mem_append.mpr ⟨lw_r1, List.forall_mem_append.mpr ⟨lw_r2, List.forall_mem_append.mpr ⟨lw_r3, List.forall_mem_append.mpr ⟨lw_r4, List.forall_mem_append.mpr ⟨lw_r5, List.forall_mem_append.mpr ⟨lw_r6, lw_r7⟩⟩⟩⟩⟩⟩
end
section
/-! ===== BEGIN words of one list among another's, by their places ===== -/
theorem goodIn_r {big : List Cond} (ws : List Cond) (ps : List Nat) (hp : ws = ps.filterMap (fun i => big[i]?)) (h : ws.all goodWord = true) : GoodIn big ws := by
  intro w hw
  have h1 := List.all_eq_true.mp h w hw
  rw [hp] at hw
  obtain ⟨i, -, hi⟩ := List.mem_filterMap.mp hw
  have hm : w ∈ big := by first | exact List.mem_of_getElem? hi | exact List.getElem?_mem hi
  exact ⟨hm, good_of_word h1⟩
theorem goodIn_app {big a b : List Cond} (ha : GoodIn big a) (hb : GoodIn big b) : GoodIn big (a ++ b) := fun w h => (List.mem_append.mp h).elim (ha w) (hb w)
theorem goodIn_ca {big a b : List Cond} {c : Cond} (ha : GoodIn big (c :: a)) (hb : GoodIn big b) : GoodIn big (c :: (a ++ b)) := fun w h => (List.mem_cons.mp h).elim (fun e => ha w (List.mem_cons.mpr (Or.inl e))) (fun h => (List.mem_append.mp h).elim (fun h => ha w (List.mem_cons.mpr (Or.inr h))) (hb w))
theorem goodIn_sub {big ws : List Cond} (hm : ∀ w ∈ ws, w ∈ big) (h : ws.all goodWord = true) : GoodIn big ws := fun w hw => ⟨hm w hw, good_of_word (List.all_eq_true.mp h w hw)⟩
/-! ===== END ===== -/

/-! ===== BEGIN exceptions that leave a method, and their catching by the caller (launches without stack traces) ===== -/
section VXA
/-! The laws vx_back, vx_callV, vx_callS, vx_callSW, vx_throw0, vx_throwS follow proofs of the library, with one case more: JvmDerived/Free/Laws.lean (Back.of_free), Shelf42/LK1.lean (callV, callS), Shelf/KitTraced.lean (throwNew0V, throwNewS). -/
/-- where a method has thrown q: the class by its name, the cell, what was written, the world -/
def vx_T (XC : String → State → State → Prop) (st : State) (q : Addr) (t : State) (mc ms : Nat) (free : Addr → Prop) : Prop :=
  ∃ (E : String) (ce : Cell) (L : List Loc), XC E st t ∧ t.heap[q]? = some ce ∧ ce.vm = .none ∧ st.vm.findClass E = some ce.cls ∧ st.WarmedH t.vm ∧ st.sameButNew ({ t with vm := st.vm } : State) L mc ms ∧ ∀ z ∈ L, free z.base
def vx_Q (Qc : Array Value → State → Outcome → State → Prop) (XC : String → State → State → Prop) (mc ms : Nat) (free : Addr → Prop) : Array Value → State → Outcome → State → Prop := fun a st o t =>
  (Qc a st o t ∧ ∃ L, FrameEnd st o t L mc ms ∧ ∀ q ∈ L, free q.base) ∨ ∃ q, o = .threw q ∧ vx_T XC st q t mc ms free
/-- a callee that returns or throws -/
def vx_Met (l : Launch) (y : MethodName) (ws : List Cond) (rm : Room) (Pc : Array Value → State → Prop) (Qc : Array Value → State → Outcome → State → Prop) (XC : String → State → State → Prop) (mc ms : Nat) (free : Addr → Prop) : Prop :=
  MetFree l y (headSpec ws rm) Pc (fun _ _ _ _ _ => True) (vx_Q Qc XC mc ms free)
def vx_Post (XC : String → State → State → Prop) (mc ms : Nat) (free : Addr → Prop) : Pt → Array Value → Addr → Pt → Prop := fun A a q B =>
  ∃ (g : JFrame) (mk : MethodId) (t : State) (L : List Loc) (E : String) (ce : Cell), B.U.heap = t.heap ∧ B.U.vm = t.vm ∧ XC E (A.U.calling g mk a) t ∧ t.heap[q]? = some ce ∧ ce.vm = .none ∧ A.U.vm.findClass E = some ce.cls ∧ B.locs = A.locs ++ L ∧ (∀ z ∈ L, free z.base) ∧ B.cells = A.cells + mc ∧ B.slots = A.slots + ms
def vx_Back (l : Launch) (R : Room) (p : Program) (e : Env) (below : List Frame) (s : State) (sargs : Array Value) (y : MethodName) (len W9 : Nat)
    (Pre : Pt → Array Value → Prop) (Post : Pt → Array Value → Option Value → Pt → Prop) (PostX : Pt → Array Value → Addr → Pt → Prop) : Prop :=
  ∀ (m : MethodId) (meth : Method) (c : Code) (A : Pt) (g : JFrame) (ig : Instr) (mk : MethodId) (a : Array Value),
    Stand p l e R s m sargs below meth c A.U A.locs A.cells A.slots → g.method = m → g.locals.size = c.maxLocals → decode c.code g.pc = .ok (ig, len) →
    2 * g.monitorRoom + (g.stack.map fun v => v.category).sum ≤ W9 → A.U.methodNamed? y = some mk → Pre A a →
    (∃ (v : Option Value) (B : Pt), Stand p l e R s m sargs below meth c B.U B.locs B.cells B.slots ∧ Post A a v B ∧
      Steps p.tables e below (doInvoke e (A.U.setTop g) [] mk a).1 (B.U.setTop { g with pc := g.pc + len, stack := v.toList ++ g.stack })) ∨
    (∃ (q : Addr) (B : Pt), Stand p l e R s m sargs below meth c B.U B.locs B.cells B.slots ∧ PostX A a q B ∧
      Steps p.tables e below (doInvoke e (A.U.setTop g) [] mk a).1 ((B.U.setTop g).pushFrame (.throwing q)))
section Payer
variable {l : Launch} {R : Room} {p : Program} {e : Env} {below : List Frame} {s : State} {sargs : Array Value} {y : MethodName} {len W9 : Nat}
theorem vx_back {ws : List Cond} {rm : Room} {Pc : Array Value → State → Prop} {Qc : Array Value → State → Outcome → State → Prop} {XC : String → State → State → Prop} {mc ms : Nat} {free : Addr → Prop} {bytes : ByteArray} {maxL : Nat} {ret : Option FieldType}
    (hM : vx_Met l y ws rm Pc Qc XC mc ms free) (hblind : FrameBlind Pc) (hrc : rm.cells = mc) (hrs : rm.slots = ms)
    (hframes : rm.frames + 1 ≤ R.frames) (hlocals : W9 + (maxL + 11) + rm.locals ≤ R.locals)
    (hws : ∀ w ∈ ws, ∀ a' U, s.WarmedH U.vm → w.before a' U = true) (hcode : Cond.code y bytes maxL ret ∈ ws) (hinit : ∀ a' U, s.WarmedH U.vm → (Cond.initialized y.cls).before a' U = true) :
    vx_Back l R p e below s sargs y len W9 (PreOf R mc ms Pc) (PostOf Qc mc ms free) (vx_Post XC mc ms free) := by
  intro m meth c A g ig mk a X hg hsize hdg hW hn hp
  have h1 : (headSpec ws rm).pre.before a A.U = true := atoms_intro fun w hw => hws w hw _ _ X.warmed
  have h2 : (Cond.code y bytes maxL ret).before a A.U = true := hws _ hcode _ _ X.warmed
  have h3 : (Cond.initialized y.cls).before a A.U = true := hinit _ _ X.warmed
  have h4 : A.cells + (headSpec ws rm).room.cells ≤ R.cells := by rw [show (headSpec ws rm).room.cells = mc from hrc]; exact hp.1
  have h5 : A.slots + (headSpec ws rm).room.slots ≤ R.slots := by rw [show (headSpec ws rm).room.slots = ms from hrs]; exact hp.2.1
  have hPc : Pc a (A.U.calling g mk a) := hblind _ _ _ _ hp.2.2
  obtain ⟨U, Ls, c0, s0⟩ := A
  dsimp only [Pt.U, Pt.locs, Pt.cells, Pt.slots] at h1 h2 h3 h4 h5 X hn hPc ⊢
  obtain ⟨methY, cY, hmY, hcY, -, hlY, -, -, -, -⟩ := Cond.code_spec hn h2
  obtain ⟨kY, hkY, -⟩ := className_of_methodNamed hn
  have hinitY : kY.init = .initialized := Cond.initialized_spec (findClass_of_methodNamed hn) hkY h3
  have h : At U g.method c below := by rw [hg]; exact X.here
  have hlocals9 : W9 + (maxL + 11) + (headSpec ws rm).room.locals ≤ R.locals := hlocals
  have happ : (headSpec ws rm).appliesLoose y e.platform (U.calling g mk a) = true :=
    Spec.appliesLoose_calling (g := g) h hdg hn hkY hinitY
      (X.room_calling (g := g) (R' := (headSpec ws rm).room) hsize hmY hcY hframes (by rw [hlY]; omega) h4 h5) h1
  obtain ⟨mid, hmid⟩ := h.above
  have hfr : (U.setTop g).frames = (.java g :: mid) ++ below := by rw [State.frames_setTop' g h.top, hmid]; rfl
  obtain ⟨o, s₂, hsteps, -, hend, hq⟩ := Steps.callFree hM p X.admits X.cas X.clock (acts := []) hfr happ hPc trivial
  have hq' : vx_Q Qc XC mc ms free a (U.calling g mk a) o s₂ := hq
  rw [State.frames_setTop' g h.top] at hend
  obtain ⟨g₀, hg0⟩ := Option.isSome_iff_exists.mp h.top
  obtain ⟨r, hr⟩ := State.topJava?_eq_some.mp hg0
  have hr' : (({ U with heap := s₂.heap, slotsUsed := s₂.slotsUsed } : State).setVm s₂.vm).frames = .java g₀ :: r := hr
  rcases hq' with ⟨hqc, L, hfe, hL⟩ | ⟨q, rfl, E, ce, L, hx, hce, hcv, hcl, hW₂, hsm, hL⟩
  · obtain ⟨⟨v, rfl⟩, hW₂, e2, q2, q3, q4, q5, q6⟩ := id hfe
    have e3 : s₂ = ({ (U.calling g mk a).setFrames s₂.frames with heap := s₂.heap, slotsUsed := s₂.slotsUsed } : State).setVm s₂.vm := by
      have : s₂ = ({ s₂ with vm := (U.calling g mk a).vm } : State).setVm s₂.vm := rfl
      rw [e2] at this
      exact this
    obtain ⟨c₂, i₂, len₂, hc₂, hd₂, hf₂⟩ := hend
    have hW' : U.WarmedH s₂.vm := hW₂
    have hcc : c₂ = c := by
      have h1 : s₂.code? g.method = U.code? g.method := by
        rw [State.code?_eq, State.code?_eq, hW'.alike.method?]
      exact Option.some.inj (hc₂.symm.trans (h1.trans h.code))
    subst hcc
    have hlen : len₂ = len := by rw [hdg] at hd₂; cases hd₂; rfl
    subst hlen
    have hs₂ : s₂ = (({ U with heap := s₂.heap, slotsUsed := s₂.slotsUsed } : State).setVm s₂.vm).setTop { g with pc := g.pc + len₂, stack := v.toList ++ g.stack } := by
      refine e3.trans ?_
      rw [hf₂, State.calling_eq h.top, State.setFrames_setFrames, State.setTop_of_frames _ hr', hr]
      rfl
    have hsame : U.sameButNew ({ U with heap := s₂.heap, slotsUsed := s₂.slotsUsed } : State) L mc ms := by
      refine ⟨?_, q2, q3, q4, q5, q6⟩
      obtain ⟨t, ht, -⟩ := State.frames_cons hr
      show ({ U with heap := s₂.heap, slotsUsed := s₂.slotsUsed } : State) = { U.setFrames U.frames with heap := s₂.heap, slotsUsed := s₂.slotsUsed }
      rw [State.setFrames_self ht]
    subst hg
    refine Or.inl ⟨v, ⟨(({ U with heap := s₂.heap, slotsUsed := s₂.slotsUsed } : State).setVm s₂.vm), Ls ++ L, c0 + mc, s0 + ms⟩,
      ⟨X.admits, X.cas, X.clock, X.frames, X.room, X.hears, X.method, X.code, (X.here.setHeapUsed s₂.heap s₂.slotsUsed).setVm hW'.alike, X.tail, State.WarmedH.trans X.warmed hW', X.limits, X.bytes, X.same.trans (hsame.setVm s.vm)⟩,
      ⟨g, mk, s₂, L, rfl, rfl, hqc, rfl, hL, rfl, rfl⟩, ?_⟩
    show Steps p.tables e below _ ((({ U with heap := s₂.heap, slotsUsed := s₂.slotsUsed } : State).setVm s₂.vm).setTop { g with pc := g.pc + len₂, stack := v.toList ++ g.stack })
    rw [← hs₂]
    exact hsteps
  · obtain ⟨e2, q2, q3, q4, q5, q6⟩ := id hsm
    have e3 : s₂ = ({ (U.calling g mk a).setFrames s₂.frames with heap := s₂.heap, slotsUsed := s₂.slotsUsed } : State).setVm s₂.vm := by
      have : s₂ = ({ s₂ with vm := (U.calling g mk a).vm } : State).setVm s₂.vm := rfl
      rw [e2] at this
      exact this
    have hf₂ : s₂.frames = .throwing q :: .java g :: U.frames.tail := hend
    have hW' : U.WarmedH s₂.vm := hW₂
    have hs₂ : s₂ = ((({ U with heap := s₂.heap, slotsUsed := s₂.slotsUsed } : State).setVm s₂.vm).setTop g).pushFrame (.throwing q) := by
      refine e3.trans ?_
      rw [hf₂, State.calling_eq h.top, State.setFrames_setFrames, State.pushFrame, State.frames_setTop _ hr', State.setTop_of_frames _ hr', State.setFrames_setFrames, hr]
      rfl
    have hsame : U.sameButNew ({ U with heap := s₂.heap, slotsUsed := s₂.slotsUsed } : State) L mc ms := by
      refine ⟨?_, q2, q3, q4, q5, q6⟩
      obtain ⟨t, ht, -⟩ := State.frames_cons hr
      show ({ U with heap := s₂.heap, slotsUsed := s₂.slotsUsed } : State) = { U.setFrames U.frames with heap := s₂.heap, slotsUsed := s₂.slotsUsed }
      rw [State.setFrames_self ht]
    subst hg
    refine Or.inr ⟨q, ⟨(({ U with heap := s₂.heap, slotsUsed := s₂.slotsUsed } : State).setVm s₂.vm), Ls ++ L, c0 + mc, s0 + ms⟩,
      ⟨X.admits, X.cas, X.clock, X.frames, X.room, X.hears, X.method, X.code, (X.here.setHeapUsed s₂.heap s₂.slotsUsed).setVm hW'.alike, X.tail, State.WarmedH.trans X.warmed hW', X.limits, X.bytes, X.same.trans (hsame.setVm s.vm)⟩,
      ⟨g, mk, s₂, L, E, ce, rfl, rfl, hx, hce, hcv, hcl, rfl, hL, rfl, rfl⟩, ?_⟩
    show Steps p.tables e below _ (((({ U with heap := s₂.heap, slotsUsed := s₂.slotsUsed } : State).setVm s₂.vm).setTop g).pushFrame (.throwing q))
    rw [← hs₂]
    exact hsteps
end Payer
section Calls
variable {p : Program} {l : Launch} {e : Env} {R : Room} {s : State} {m : MethodId} {args : Array Value} {below : List Frame} {meth : Method} {c : Code} {T : State} {locs : List Loc} {cells slots : Nat}
theorem vx_callV (X : Stand p l e R s m args below meth c T locs cells slots) (hexec : p.tables.exec = Jvm.exec) {own C : String} {index : Nat} {y : MethodName} {bytes : ByteArray} {maxL : Nat} {ret : Option FieldType}
    (hown : s.vm.findClass own = some m.cls) (hlink : (Cond.methodLink own index y).before args s = true) (hinst : (Cond.instanceMethod y).before args s = true) (hsel : (Cond.selects C y y).before args s = true)
    (hcode : (Cond.code y bytes maxL ret).before args s = true) (hy : y.cls ≠ "java/lang/invoke/MethodHandle" ∧ y.cls ≠ "java/lang/invoke/VarHandle")
    {W9 : Nat} {Pre : Pt → Array Value → Prop} {Post : Pt → Array Value → Option Value → Pt → Prop} {PostX : Pt → Array Value → Addr → Pt → Prop} (hK : vx_Back l R p e below s args y 3 W9 Pre Post PostX)
    {b : Addr} {cellB : Cell} (hcell : T.heap[b]? = some cellB) (hobj : cellB.vm.isStatics = false) (hcls : s.vm.findClass C = some cellB.cls)
    {g : JFrame} (hg : g.method = m) (hsize : g.locals.size = c.maxLocals) {argsL rest : List Value} (hlen : ∀ sig, parseMethodDescriptor y.desc = some sig → argsL.length = sig.parameters.length)
    (hstack : g.stack = argsL.reverse ++ .ref b :: rest) (hW : 2 * g.monitorRoom + (rest.map fun v => v.category).sum ≤ W9) (hdg : decode c.code g.pc = .ok (.invokevirtual index, 3))
    (hpre : ∀ vm₁, s.WarmedH vm₁ → Pre ⟨T.setVm vm₁, locs, cells, slots⟩ (Value.ref b :: argsL).toArray) :
    (∃ (v : Option Value) (vm₁ : Vm) (B : Pt), s.WarmedH vm₁ ∧ Stand p l e R s m args below meth c B.U B.locs B.cells B.slots ∧ Post ⟨T.setVm vm₁, locs, cells, slots⟩ (Value.ref b :: argsL).toArray v B ∧
      ∀ target, Steps p.tables e below (B.U.setTop { g with pc := g.pc + 3, stack := v.toList ++ rest }) target → Steps p.tables e below (T.setTop g) target) ∨
    (∃ (q : Addr) (vm₁ : Vm) (B : Pt), s.WarmedH vm₁ ∧ Stand p l e R s m args below meth c B.U B.locs B.cells B.slots ∧ PostX ⟨T.setVm vm₁, locs, cells, slots⟩ (Value.ref b :: argsL).toArray q B ∧
      Steps p.tables e below (T.setTop g) ((B.U.setTop { g with stack := rest }).pushFrame (.throwing q))) := by
  obtain ⟨mk, methM, hnamed, hmethM, hstM, habM⟩ := Cond.instanceMethod_spec hinst
  obtain ⟨methM', cM, hmethM', -, -, -, -, -, -, hsigM⟩ := Cond.code_spec hnamed hcode
  cases hmethM.symm.trans hmethM'
  obtain ⟨c2, r2, m2, q1, q2, q3, q4, kP, hkP, hkPi⟩ := Cond.selects_spec hsel
  cases hcls.symm.trans q1
  cases (State.methodFound?_of_named hnamed hy).symm.trans q2
  cases hnamed.symm.trans q3
  have hselP : selectMethod e.platform s.vm cellB.cls mk = .method mk := by rw [Launch.admits_selectMethod X.admits]; exact q4
  obtain ⟨vm₁, X₁, hstep₁⟩ := X.invokevirtual hexec hown hlink hnamed hmethM hstM hkP hkPi hy (a := b) (cell := cellB) hcell
    (fun z h => by rw [h] at hobj; cases hobj) hselP hmethM habM hkP hkPi (g := g) hg (argsL := argsL) (rest := rest) (hlen _ hsigM) hstack hdg
  rcases hK m meth c ⟨T.setVm vm₁, locs, cells, slots⟩ { g with stack := rest } (.invokevirtual index) mk (Value.ref b :: argsL).toArray X₁ hg hsize hdg hW (X₁.named hnamed) (hpre vm₁ X₁.warmed) with ⟨v, B, X', hpost, hsteps⟩ | ⟨q, B, X', hpost, hsteps⟩
  · exact Or.inl ⟨v, vm₁, B, X₁.warmed, X', hpost, fun target h => hstep₁ _ fun acts => by rw [doInvoke_state]; exact hsteps.trans h⟩
  · exact Or.inr ⟨q, vm₁, B, X₁.warmed, X', hpost, hstep₁ _ fun acts => by rw [doInvoke_state]; exact hsteps⟩
theorem vx_callS (X : Stand p l e R s m args below meth c T locs cells slots) (hexec : p.tables.exec = Jvm.exec) {own : String} {index : Nat} {y : MethodName} {bytes : ByteArray} {maxL : Nat} {ret : Option FieldType}
    (hown : s.vm.findClass own = some m.cls) (hlink : (Cond.methodLink own index y).before args s = true) (hstat : (Cond.static y).before args s = true) (hinit : (Cond.initialized y.cls).before args s = true)
    (hcode : (Cond.code y bytes maxL ret).before args s = true) (hy : y.cls ≠ "java/lang/invoke/MethodHandle" ∧ y.cls ≠ "java/lang/invoke/VarHandle")
    {W9 : Nat} {Pre : Pt → Array Value → Prop} {Post : Pt → Array Value → Option Value → Pt → Prop} {PostX : Pt → Array Value → Addr → Pt → Prop} (hK : vx_Back l R p e below s args y 3 W9 Pre Post PostX)
    {g : JFrame} (hg : g.method = m) (hsize : g.locals.size = c.maxLocals) {argsL rest : List Value} (hlen : ∀ sig, parseMethodDescriptor y.desc = some sig → argsL.length = sig.parameters.length)
    (hstack : g.stack = argsL.reverse ++ rest) (hW : 2 * g.monitorRoom + (rest.map fun v => v.category).sum ≤ W9) (hdg : decode c.code g.pc = .ok (.invokestatic index, 3))
    (hpre : ∀ vm₁, s.WarmedH vm₁ → Pre ⟨T.setVm vm₁, locs, cells, slots⟩ argsL.toArray) :
    (∃ (v : Option Value) (vm₁ : Vm) (B : Pt), s.WarmedH vm₁ ∧ Stand p l e R s m args below meth c B.U B.locs B.cells B.slots ∧ Post ⟨T.setVm vm₁, locs, cells, slots⟩ argsL.toArray v B ∧
      ∀ target, Steps p.tables e below (B.U.setTop { g with pc := g.pc + 3, stack := v.toList ++ rest }) target → Steps p.tables e below (T.setTop g) target) ∨
    (∃ (q : Addr) (vm₁ : Vm) (B : Pt), s.WarmedH vm₁ ∧ Stand p l e R s m args below meth c B.U B.locs B.cells B.slots ∧ PostX ⟨T.setVm vm₁, locs, cells, slots⟩ argsL.toArray q B ∧
      Steps p.tables e below (T.setTop g) ((B.U.setTop { g with stack := rest }).pushFrame (.throwing q))) := by
  obtain ⟨mk, hnamed⟩ := Cond.code_named hcode
  obtain ⟨methM, cM, hmethM, -, -, -, -, -, -, hsigM⟩ := Cond.code_spec hnamed hcode
  have hstatic : methM.isStatic = true := Cond.static_spec hnamed hmethM hstat
  obtain ⟨kP, hkP, -⟩ := className_of_methodNamed hnamed
  have hinitP : kP.init = .initialized := Cond.initialized_spec (findClass_of_methodNamed hnamed) hkP hinit
  obtain ⟨vm₁, X₁, hstep₁⟩ := X.invokestatic hexec hown hlink hnamed hmethM hstatic hkP hinitP hy (g := g) hg (argsL := argsL) (rest := rest) (hlen _ hsigM) hstack hdg
  rcases hK m meth c ⟨T.setVm vm₁, locs, cells, slots⟩ { g with stack := rest } (.invokestatic index) mk argsL.toArray X₁ hg hsize hdg hW (X₁.named hnamed) (hpre vm₁ X₁.warmed) with ⟨v, B, X', hpost, hsteps⟩ | ⟨q, B, X', hpost, hsteps⟩
  · exact Or.inl ⟨v, vm₁, B, X₁.warmed, X', hpost, fun target h => hstep₁ _ fun acts => by rw [doInvoke_state]; exact hsteps.trans h⟩
  · exact Or.inr ⟨q, vm₁, B, X₁.warmed, X', hpost, hstep₁ _ fun acts => by rw [doInvoke_state]; exact hsteps⟩
end Calls
theorem vx_cls {s : State} {T : State} {vm₁ : Vm} {E : String} {k : ClassId} (hW : s.WarmedH vm₁) (h : (T.setVm vm₁).vm.findClass E = some k) : s.vm.findClass E = some k := by
  have h1 : vm₁.findClass E = some k := h
  rw [hW.alike.findClass] at h1
  exact h1
/-- the method's frame g, with q thrown over it -/
def vx_W (p : Program) (l : Launch) (e : Env) (R : Room) (s : State) (m : MethodId) (args : Array Value) (below : List Frame) (meth : Method) (c : Code) (H : Heap) (locs : List Loc) (cells slots : Nat) (Q : State → Prop) (g : JFrame) (q : Addr) : Prop :=
  ∀ T : State, T.heap = H → Stand p l e R s m args below meth c T locs cells slots → ∃ t, Steps p.tables e below ((T.setTop g).pushFrame (.throwing q)) t ∧ Q t
def vx_Run (p : Program) (l : Launch) (e : Env) (R : Room) (s : State) (m : MethodId) (args : Array Value) (below : List Frame) (meth : Method) (c : Code) (H : Heap) (locs : List Loc) (cells slots mc ms : Nat) (g : JFrame) (rest : List Value) (Qa : State → Outcome → State → Prop) (XC : String → State → State → Prop) (free : Addr → Prop) : Prop :=
  ∀ T : State, T.heap = H → Stand p l e R s m args below meth c T locs cells slots →
    (∃ (v : Option Value) (st₀ t T' : State) (L : List Loc), st₀.heap = H ∧ Stand p l e R s m args below meth c T' (locs ++ L) (cells + mc) (slots + ms) ∧ (∀ q ∈ L, free q.base) ∧ T'.heap = t.heap ∧ T'.vm = t.vm ∧ Qa st₀ (.returned v) t ∧
      Goes p e below T g T' { g with pc := g.pc + 3, stack := v.toList ++ rest }) ∨
    (∃ (q : Addr) (st₀ t T' : State) (L : List Loc) (E : String) (ce : Cell), st₀.heap = H ∧ Stand p l e R s m args below meth c T' (locs ++ L) (cells + mc) (slots + ms) ∧ (∀ z ∈ L, free z.base) ∧ T'.heap = t.heap ∧ T'.vm = t.vm ∧ XC E st₀ t ∧ t.heap[q]? = some ce ∧ ce.vm = .none ∧ s.vm.findClass E = some ce.cls ∧
      Steps p.tables e below (T.setTop g) ((T'.setTop { g with stack := rest }).pushFrame (.throwing q)))
def vx_X {S : Type} (px : S → Prop) (B : String → S → State → Prop) (A : Nat → Prop) : String → State → State → Prop := fun E st t => ∃ u : S, px u ∧ B E u t ∧ va_F A st t
section Runs
variable {p : Program} {l : Launch} {e : Env} {R : Room} {s : State} {m : MethodId} {args : Array Value} {below : List Frame} {meth : Method} {c : Code} {H : Heap} {locs : List Loc} {cells slots : Nat}
variable {y : MethodName} {bytes cc : ByteArray} {maxL nL mc ms n index : Nat} {ret : Option FieldType} {ws : List Cond} {rm : Room} {Pc : Array Value → State → Prop} {Qc : Array Value → State → Outcome → State → Prop} {XC : String → State → State → Prop} {free : Addr → Prop} {Ts : List Cond} {own C : String} {b : Addr} {As rest : List Value} {g : JFrame}
theorem vx_callBack (cb : CallB R s args own index y bytes maxL ret ws rm mc ms n) (hM : vx_Met l y ws rm Pc Qc XC mc ms free) (hbl : FrameBlind Pc) : vx_Back l R p e below s args y 3 8 (PreOf R mc ms Pc) (PostOf Qc mc ms free) (vx_Post XC mc ms free) := by
  obtain ⟨hrc, hrs, hfr, hlo, hws, hcw, -, hini, -⟩ := cb
  exact vx_back (bytes := bytes) (maxL := maxL) (ret := ret) hM hbl hrc hrs hfr hlo hws hcw (fun a' U hW => word_at hW (Or.inl (by first | rfl | simp [Cond.onTables, Cond.keeps, Cond.steady])) hini)
theorem vx_runV (S : CallFix p m c cc nL s args Ts own) (hM : vx_Met l y ws rm Pc Qc XC mc ms free) (cw : CallW R s args own C index y bytes maxL ret ws rm mc ms n) (hp : PreV s H C b Pc As)
    (hg : g.method = m) (hn : As.length = n) (hsize : g.locals.size = nL) (hstack : g.stack = As.reverse ++ .ref b :: rest) (hW : 2 * g.monitorRoom + (rest.map fun v => v.category).sum ≤ 8) (hdg : decode cc g.pc = .ok (.invokevirtual index, 3)) (hf : cells + mc ≤ R.cells ∧ slots + ms ≤ R.slots) :
    vx_Run p l e R s m args below meth c H locs cells slots mc ms g rest (Qc (Value.ref b :: As).toArray) XC free := by
  have hK : vx_Back l R p e below s args y 3 8 (PreOf R mc ms Pc) (PostOf Qc mc ms free) (vx_Post XC mc ms free) := vx_callBack cw.1 hM hp.1
  obtain ⟨⟨-, -, -, -, -, -, hcode, -, hy, hlen, hl⟩, hin, hse⟩ := cw
  obtain ⟨hx, hb, hml, ho, -⟩ := S
  obtain ⟨-, ⟨cellB, hcB, hoB, hclB⟩, hPc⟩ := hp
  intro T hT X
  rcases vx_callV X hx (C := C) (bytes := bytes) (maxL := maxL) (ret := ret) ho hl hin hse hcode hy hK (by rw [hT]; exact hcB) hoB hclB hg (hsize.trans hml.symm) (argsL := As) (rest := rest) (fun sig h => hn.trans (hlen sig h)) hstack hW (by rw [hb]; exact hdg)
    (fun vm₁ hW₁ => ⟨hf.1, hf.2, hPc (T.setVm vm₁) hT hW₁⟩) with ⟨v, vm₁, ⟨U', l2, c2, s2⟩, hW₁, X', ⟨g', mk, t, L, e1, e2, hq, h1, hL, h2, h3⟩, st⟩ | ⟨q, vm₁, ⟨U', l2, c2, s2⟩, hW₁, X', ⟨g', mk, t, L, E, ce, e1, e2, hq, hce, hcv, hcl, h1, hL, h2, h3⟩, st⟩
  · dsimp only [Pt.U, Pt.locs, Pt.cells, Pt.slots] at X' e1 e2 h1 h2 h3 st
    subst h1; subst h2; subst h3
    exact Or.inl ⟨v, (T.setVm vm₁).calling g' mk (Value.ref b :: As).toArray, t, U', L, hT, X', hL, e1, e2, hq, st⟩
  · dsimp only [Pt.U, Pt.locs, Pt.cells, Pt.slots] at X' e1 e2 h1 h2 h3 st hcl
    subst h1; subst h2; subst h3
    exact Or.inr ⟨q, (T.setVm vm₁).calling g' mk (Value.ref b :: As).toArray, t, U', L, E, ce, hT, X', hL, e1, e2, hq, hce, hcv, vx_cls hW₁ hcl, st⟩
theorem vx_runS (S : CallFix p m c cc nL s args Ts own) (hM : vx_Met l y ws rm Pc Qc XC mc ms free) (cw : CallB R s args own index y bytes maxL ret ws rm mc ms n ∧ (Cond.static y).before args s = true) (hp : PreS s H Pc As)
    (hg : g.method = m) (hn : As.length = n) (hsize : g.locals.size = nL) (hstack : g.stack = As.reverse ++ rest) (hW : 2 * g.monitorRoom + (rest.map fun v => v.category).sum ≤ 8) (hdg : decode cc g.pc = .ok (.invokestatic index, 3)) (hf : cells + mc ≤ R.cells ∧ slots + ms ≤ R.slots) :
    vx_Run p l e R s m args below meth c H locs cells slots mc ms g rest (Qc As.toArray) XC free := by
  have hK : vx_Back l R p e below s args y 3 8 (PreOf R mc ms Pc) (PostOf Qc mc ms free) (vx_Post XC mc ms free) := vx_callBack cw.1 hM hp.1
  obtain ⟨⟨-, -, -, -, -, -, hcode, hini, hy, hlen, hl⟩, hstt⟩ := cw
  obtain ⟨hx, hb, hml, ho, -⟩ := S
  intro T hT X
  rcases vx_callS X hx (bytes := bytes) (maxL := maxL) (ret := ret) ho hl hstt hini hcode hy hK hg (hsize.trans hml.symm) (argsL := As) (rest := rest) (fun sig h => hn.trans (hlen sig h)) hstack hW (by rw [hb]; exact hdg)
    (fun vm₁ hW₁ => ⟨hf.1, hf.2, hp.2 (T.setVm vm₁) hT hW₁⟩) with ⟨v, vm₁, ⟨U', l2, c2, s2⟩, hW₁, X', ⟨g', mk, t, L, e1, e2, hq, h1, hL, h2, h3⟩, st⟩ | ⟨q, vm₁, ⟨U', l2, c2, s2⟩, hW₁, X', ⟨g', mk, t, L, E, ce, e1, e2, hq, hce, hcv, hcl, h1, hL, h2, h3⟩, st⟩
  · dsimp only [Pt.U, Pt.locs, Pt.cells, Pt.slots] at X' e1 e2 h1 h2 h3 st
    subst h1; subst h2; subst h3
    exact Or.inl ⟨v, (T.setVm vm₁).calling g' mk As.toArray, t, U', L, hT, X', hL, e1, e2, hq, st⟩
  · dsimp only [Pt.U, Pt.locs, Pt.cells, Pt.slots] at X' e1 e2 h1 h2 h3 st hcl
    subst h1; subst h2; subst h3
    exact Or.inr ⟨q, (T.setVm vm₁).calling g' mk As.toArray, t, U', L, E, ce, hT, X', hL, e1, e2, hq, hce, hcv, vx_cls hW₁ hcl, st⟩
end Runs
section Rows
variable {p : Program} {l : Launch} {e : Env} {R : Room} {s : State} {m : MethodId} {args : Array Value} {below : List Frame} {meth : Method} {c : Code} {H : Heap} {locs : List Loc} {cells slots : Nat} {Q : State → Prop}
variable {mc ms : Nat} {free : Addr → Prop} {A0 A1 : Nat → Prop} {H0 : Heap} {a : Array Value} {pc : Nat} {ls : Array Slot} {st0 rest : List Value}
theorem vx_keep {st₀ t T' : State} {L : List Loc} (h0 : st₀.heap = H) (e1 : T'.heap = t.heap) (hS : va_S A0 H0 H locs) (hA : ∀ q, q < H.size → A1 q → A0 q) (hf : ∀ q, free q → A0 q) (hL : ∀ q ∈ L, free q.base) (hF : va_F A1 st₀ t) :
    H.size ≤ T'.heap.size ∧ (∀ q : Nat, q < H.size → ¬ A1 q → T'.heap[q]? = H[q]?) ∧ va_S A0 H0 T'.heap (locs ++ L) := by
  obtain ⟨hz, hk⟩ := hF
  rw [h0] at hz hk
  exact ⟨by rw [e1]; exact hz, fun q h1 h2 => by rw [e1]; exact hk q h1 h2,
    ⟨Nat.le_trans hS.1 (by rw [e1]; exact hz), fun q h1 h2 => by rw [e1, hk q (Nat.lt_of_lt_of_le h1 hS.1) (fun z => h2 (hA q (Nat.lt_of_lt_of_le h1 hS.1) z))]; exact hS.2.1 q h1 h2, fun q hq => by
      rcases List.mem_append.mp hq with h | h
      · exact hS.2.2 q h
      · exact hf _ (hL q h)⟩⟩
theorem vx_calli {S SX : Type} {post : Int32 → S → Prop} {px : SX → Prop} {B : S → State → Prop} {BX : String → SX → State → Prop} {AX : Nat → Prop} (hr : vx_Run p l e R s m args below meth c H locs cells slots mc ms (F0 m pc ls st0) rest (va_Qi post B A1 a) (vx_X px BX AX) free) (hS : va_S A0 H0 H locs) (hA : ∀ q, q < H.size → A1 q → A0 q) (hf : ∀ q, free q → A0 q) (hAX : ∀ q, q < H.size → AX q → A0 q)
    (kx : ∀ (E : String) (ce : Cell) (q9 : Addr) (u : SX) (t : State) (H1 : Heap) (locs1 : List Loc), t.heap = H1 → s.vm.Alike t.vm → px u → BX E u t → H.size ≤ H1.size → (∀ q : Nat, q < H.size → ¬ AX q → H1[q]? = H[q]?) → va_S A0 H0 H1 locs1 → H1[q9]? = some ce → ce.vm = .none → s.vm.findClass E = some ce.cls → vx_W p l e R s m args below meth c H1 locs1 (cells + mc) (slots + ms) Q (F0 m pc ls rest) q9)
    (kk : ∀ (r : Int32) (u : S) (t : State) (H1 : Heap) (locs1 : List Loc), t.heap = H1 → s.vm.Alike t.vm → post r u → B u t → H.size ≤ H1.size → (∀ q : Nat, q < H.size → ¬ A1 q → H1[q]? = H[q]?) → va_S A0 H0 H1 locs1 → W p l e R s m args below meth c H1 locs1 (cells + mc) (slots + ms) Q (F0 m (pc + 3) ls (.int r :: rest))) : W p l e R s m args below meth c H locs cells slots Q (F0 m pc ls st0) := by
  intro T hT X
  rcases hr T hT X with ⟨v, st₀, t, T', L, h0, X', hL, e1, e2, ⟨⟨r, u, hv, hp, hb⟩, hF⟩, st⟩ | ⟨q, st₀, t, T', L, E, ce, h0, X', hL, e1, e2, ⟨u, hp, hb, hF⟩, hce, hcv, hcl, st⟩
  · cases hv
    obtain ⟨k1, k2, k3⟩ := vx_keep h0 e1 hS hA hf hL hF
    obtain ⟨t2, a1, b1⟩ := kk r u t T'.heap (locs ++ L) e1.symm (by rw [← e2]; exact X'.warmed.alike) hp hb k1 k2 k3 T' rfl X'
    exact ⟨t2, st t2 a1, b1⟩
  · obtain ⟨k1, k2, k3⟩ := vx_keep h0 e1 hS hAX hf hL hF
    obtain ⟨t2, a1, b1⟩ := kx E ce q u t T'.heap (locs ++ L) e1.symm (by rw [← e2]; exact X'.warmed.alike) hp hb k1 k2 k3 (by rw [e1]; exact hce) hcv hcl T' rfl X'
    exact ⟨t2, st.trans a1, b1⟩
theorem vx_calll {S SX : Type} {post : Int64 → S → Prop} {px : SX → Prop} {B : S → State → Prop} {BX : String → SX → State → Prop} {AX : Nat → Prop} (hr : vx_Run p l e R s m args below meth c H locs cells slots mc ms (F0 m pc ls st0) rest (va_Ql post B A1 a) (vx_X px BX AX) free) (hS : va_S A0 H0 H locs) (hA : ∀ q, q < H.size → A1 q → A0 q) (hf : ∀ q, free q → A0 q) (hAX : ∀ q, q < H.size → AX q → A0 q)
    (kx : ∀ (E : String) (ce : Cell) (q9 : Addr) (u : SX) (t : State) (H1 : Heap) (locs1 : List Loc), t.heap = H1 → s.vm.Alike t.vm → px u → BX E u t → H.size ≤ H1.size → (∀ q : Nat, q < H.size → ¬ AX q → H1[q]? = H[q]?) → va_S A0 H0 H1 locs1 → H1[q9]? = some ce → ce.vm = .none → s.vm.findClass E = some ce.cls → vx_W p l e R s m args below meth c H1 locs1 (cells + mc) (slots + ms) Q (F0 m pc ls rest) q9)
    (kk : ∀ (r : Int64) (u : S) (t : State) (H1 : Heap) (locs1 : List Loc), t.heap = H1 → s.vm.Alike t.vm → post r u → B u t → H.size ≤ H1.size → (∀ q : Nat, q < H.size → ¬ A1 q → H1[q]? = H[q]?) → va_S A0 H0 H1 locs1 → W p l e R s m args below meth c H1 locs1 (cells + mc) (slots + ms) Q (F0 m (pc + 3) ls (.long r :: rest))) : W p l e R s m args below meth c H locs cells slots Q (F0 m pc ls st0) := by
  intro T hT X
  rcases hr T hT X with ⟨v, st₀, t, T', L, h0, X', hL, e1, e2, ⟨⟨r, u, hv, hp, hb⟩, hF⟩, st⟩ | ⟨q, st₀, t, T', L, E, ce, h0, X', hL, e1, e2, ⟨u, hp, hb, hF⟩, hce, hcv, hcl, st⟩
  · cases hv
    obtain ⟨k1, k2, k3⟩ := vx_keep h0 e1 hS hA hf hL hF
    obtain ⟨t2, a1, b1⟩ := kk r u t T'.heap (locs ++ L) e1.symm (by rw [← e2]; exact X'.warmed.alike) hp hb k1 k2 k3 T' rfl X'
    exact ⟨t2, st t2 a1, b1⟩
  · obtain ⟨k1, k2, k3⟩ := vx_keep h0 e1 hS hAX hf hL hF
    obtain ⟨t2, a1, b1⟩ := kx E ce q u t T'.heap (locs ++ L) e1.symm (by rw [← e2]; exact X'.warmed.alike) hp hb k1 k2 k3 (by rw [e1]; exact hce) hcv hcl T' rfl X'
    exact ⟨t2, st.trans a1, b1⟩
theorem vx_callf {S SX : Type} {post : UInt32 → S → Prop} {px : SX → Prop} {B : S → State → Prop} {BX : String → SX → State → Prop} {AX : Nat → Prop} (hr : vx_Run p l e R s m args below meth c H locs cells slots mc ms (F0 m pc ls st0) rest (va_Qf post B A1 a) (vx_X px BX AX) free) (hS : va_S A0 H0 H locs) (hA : ∀ q, q < H.size → A1 q → A0 q) (hf : ∀ q, free q → A0 q) (hAX : ∀ q, q < H.size → AX q → A0 q)
    (kx : ∀ (E : String) (ce : Cell) (q9 : Addr) (u : SX) (t : State) (H1 : Heap) (locs1 : List Loc), t.heap = H1 → s.vm.Alike t.vm → px u → BX E u t → H.size ≤ H1.size → (∀ q : Nat, q < H.size → ¬ AX q → H1[q]? = H[q]?) → va_S A0 H0 H1 locs1 → H1[q9]? = some ce → ce.vm = .none → s.vm.findClass E = some ce.cls → vx_W p l e R s m args below meth c H1 locs1 (cells + mc) (slots + ms) Q (F0 m pc ls rest) q9)
    (kk : ∀ (r : UInt32) (u : S) (t : State) (H1 : Heap) (locs1 : List Loc), t.heap = H1 → s.vm.Alike t.vm → post r u → B u t → H.size ≤ H1.size → (∀ q : Nat, q < H.size → ¬ A1 q → H1[q]? = H[q]?) → va_S A0 H0 H1 locs1 → W p l e R s m args below meth c H1 locs1 (cells + mc) (slots + ms) Q (F0 m (pc + 3) ls (.float r :: rest))) : W p l e R s m args below meth c H locs cells slots Q (F0 m pc ls st0) := by
  intro T hT X
  rcases hr T hT X with ⟨v, st₀, t, T', L, h0, X', hL, e1, e2, ⟨⟨r, u, hv, hp, hb⟩, hF⟩, st⟩ | ⟨q, st₀, t, T', L, E, ce, h0, X', hL, e1, e2, ⟨u, hp, hb, hF⟩, hce, hcv, hcl, st⟩
  · cases hv
    obtain ⟨k1, k2, k3⟩ := vx_keep h0 e1 hS hA hf hL hF
    obtain ⟨t2, a1, b1⟩ := kk r u t T'.heap (locs ++ L) e1.symm (by rw [← e2]; exact X'.warmed.alike) hp hb k1 k2 k3 T' rfl X'
    exact ⟨t2, st t2 a1, b1⟩
  · obtain ⟨k1, k2, k3⟩ := vx_keep h0 e1 hS hAX hf hL hF
    obtain ⟨t2, a1, b1⟩ := kx E ce q u t T'.heap (locs ++ L) e1.symm (by rw [← e2]; exact X'.warmed.alike) hp hb k1 k2 k3 (by rw [e1]; exact hce) hcv hcl T' rfl X'
    exact ⟨t2, st.trans a1, b1⟩
theorem vx_calld {S SX : Type} {post : UInt64 → S → Prop} {px : SX → Prop} {B : S → State → Prop} {BX : String → SX → State → Prop} {AX : Nat → Prop} (hr : vx_Run p l e R s m args below meth c H locs cells slots mc ms (F0 m pc ls st0) rest (va_Qd post B A1 a) (vx_X px BX AX) free) (hS : va_S A0 H0 H locs) (hA : ∀ q, q < H.size → A1 q → A0 q) (hf : ∀ q, free q → A0 q) (hAX : ∀ q, q < H.size → AX q → A0 q)
    (kx : ∀ (E : String) (ce : Cell) (q9 : Addr) (u : SX) (t : State) (H1 : Heap) (locs1 : List Loc), t.heap = H1 → s.vm.Alike t.vm → px u → BX E u t → H.size ≤ H1.size → (∀ q : Nat, q < H.size → ¬ AX q → H1[q]? = H[q]?) → va_S A0 H0 H1 locs1 → H1[q9]? = some ce → ce.vm = .none → s.vm.findClass E = some ce.cls → vx_W p l e R s m args below meth c H1 locs1 (cells + mc) (slots + ms) Q (F0 m pc ls rest) q9)
    (kk : ∀ (r : UInt64) (u : S) (t : State) (H1 : Heap) (locs1 : List Loc), t.heap = H1 → s.vm.Alike t.vm → post r u → B u t → H.size ≤ H1.size → (∀ q : Nat, q < H.size → ¬ A1 q → H1[q]? = H[q]?) → va_S A0 H0 H1 locs1 → W p l e R s m args below meth c H1 locs1 (cells + mc) (slots + ms) Q (F0 m (pc + 3) ls (.double r :: rest))) : W p l e R s m args below meth c H locs cells slots Q (F0 m pc ls st0) := by
  intro T hT X
  rcases hr T hT X with ⟨v, st₀, t, T', L, h0, X', hL, e1, e2, ⟨⟨r, u, hv, hp, hb⟩, hF⟩, st⟩ | ⟨q, st₀, t, T', L, E, ce, h0, X', hL, e1, e2, ⟨u, hp, hb, hF⟩, hce, hcv, hcl, st⟩
  · cases hv
    obtain ⟨k1, k2, k3⟩ := vx_keep h0 e1 hS hA hf hL hF
    obtain ⟨t2, a1, b1⟩ := kk r u t T'.heap (locs ++ L) e1.symm (by rw [← e2]; exact X'.warmed.alike) hp hb k1 k2 k3 T' rfl X'
    exact ⟨t2, st t2 a1, b1⟩
  · obtain ⟨k1, k2, k3⟩ := vx_keep h0 e1 hS hAX hf hL hF
    obtain ⟨t2, a1, b1⟩ := kx E ce q u t T'.heap (locs ++ L) e1.symm (by rw [← e2]; exact X'.warmed.alike) hp hb k1 k2 k3 (by rw [e1]; exact hce) hcv hcl T' rfl X'
    exact ⟨t2, st.trans a1, b1⟩
theorem vx_callv {S SX : Type} {post : S → Prop} {px : SX → Prop} {B : S → State → Prop} {BX : String → SX → State → Prop} {AX : Nat → Prop} (hr : vx_Run p l e R s m args below meth c H locs cells slots mc ms (F0 m pc ls st0) rest (va_Qv post B A1 a) (vx_X px BX AX) free) (hS : va_S A0 H0 H locs) (hA : ∀ q, q < H.size → A1 q → A0 q) (hf : ∀ q, free q → A0 q) (hAX : ∀ q, q < H.size → AX q → A0 q)
    (kx : ∀ (E : String) (ce : Cell) (q9 : Addr) (u : SX) (t : State) (H1 : Heap) (locs1 : List Loc), t.heap = H1 → s.vm.Alike t.vm → px u → BX E u t → H.size ≤ H1.size → (∀ q : Nat, q < H.size → ¬ AX q → H1[q]? = H[q]?) → va_S A0 H0 H1 locs1 → H1[q9]? = some ce → ce.vm = .none → s.vm.findClass E = some ce.cls → vx_W p l e R s m args below meth c H1 locs1 (cells + mc) (slots + ms) Q (F0 m pc ls rest) q9)
    (kk : ∀ (u : S) (t : State) (H1 : Heap) (locs1 : List Loc), t.heap = H1 → s.vm.Alike t.vm → post u → B u t → H.size ≤ H1.size → (∀ q : Nat, q < H.size → ¬ A1 q → H1[q]? = H[q]?) → va_S A0 H0 H1 locs1 → W p l e R s m args below meth c H1 locs1 (cells + mc) (slots + ms) Q (F0 m (pc + 3) ls (rest))) : W p l e R s m args below meth c H locs cells slots Q (F0 m pc ls st0) := by
  intro T hT X
  rcases hr T hT X with ⟨v, st₀, t, T', L, h0, X', hL, e1, e2, ⟨⟨u, hv, hp, hb⟩, hF⟩, st⟩ | ⟨q, st₀, t, T', L, E, ce, h0, X', hL, e1, e2, ⟨u, hp, hb, hF⟩, hce, hcv, hcl, st⟩
  · cases hv
    obtain ⟨k1, k2, k3⟩ := vx_keep h0 e1 hS hA hf hL hF
    obtain ⟨t2, a1, b1⟩ := kk u t T'.heap (locs ++ L) e1.symm (by rw [← e2]; exact X'.warmed.alike) hp hb k1 k2 k3 T' rfl X'
    exact ⟨t2, st t2 a1, b1⟩
  · obtain ⟨k1, k2, k3⟩ := vx_keep h0 e1 hS hAX hf hL hF
    obtain ⟨t2, a1, b1⟩ := kx E ce q u t T'.heap (locs ++ L) e1.symm (by rw [← e2]; exact X'.warmed.alike) hp hb k1 k2 k3 (by rw [e1]; exact hce) hcv hcl T' rfl X'
    exact ⟨t2, st.trans a1, b1⟩
/-- caught by the row x of this method's table; the rows ahead don't take it -/
theorem vx_catch {own name : String} {E : String} {ce : Cell} {q : Addr} (hown : s.vm.findClass own = some m.cls) (pre : List ExceptionTableEntry) (x : ExceptionTableEntry) (suf : List ExceptionTableEntry) (hsplit : c.exceptionTable.toList = pre ++ x :: suf)
    (hpass : ∀ z ∈ pre, covers z pc = false ∨ (z.catchType ≠ 0 ∧ ∃ nm : String, (Cond.classLink own z.catchType nm).before args s = true ∧ va_Nc E nm s)) (hx : covers x pc = true) (h0 : x.catchType ≠ 0)
    (hlink : (Cond.classLink own x.catchType name).before args s = true) (hcast : (Cond.castable E name).before args s = true) (hcell : H[q]? = some ce) (hv : ce.vm = .none) (hcl : s.vm.findClass E = some ce.cls)
    (kk : W p l e R s m args below meth c H locs cells slots Q (F0 m x.handlerPc ls [.ref q])) : vx_W p l e R s m args below meth c H locs cells slots Q (F0 m pc ls rest) q := by
  intro T hT X
  have hpl : e.platform.magicAccessors = ({} : Platform).magicAccessors := by rw [X.admits.platform]
  obtain ⟨c3, c4, hc3, hc4, hasg⟩ := Cond.castable_spec hcast
  cases Option.some.inj (hc3.symm.trans hcl)
  obtain ⟨c5, hc5, hcl5⟩ := Cond.classLink_spec hown hlink e.platform hpl
  cases Option.some.inj (hc4.symm.trans hc5)
  obtain ⟨vm', X', st⟩ := X.thenCaughtThrough q (g := F0 m pc ls rest) rfl (Steps.refl _) (by rw [hT]; exact hcell) (by rw [hv]; rfl) (by obtain ⟨k9, h9, -⟩ := Vm.findClass_spec hcl; exact ⟨k9, h9⟩) pre x suf hsplit
    (fun z hz => by
      rcases hpass z hz with h | ⟨hz0, nm, hl1, hn1⟩
      · exact Or.inl h
      · obtain ⟨c6, hc6, hcl6⟩ := Cond.classLink_spec hown hl1 e.platform hpl
        obtain ⟨a8, b8, h1, h2, h3⟩ := hn1
        cases Option.some.inj (h1.symm.trans hcl)
        cases Option.some.inj (h2.symm.trans hc6)
        exact Or.inr ⟨hz0, _, hcl6, h3⟩) hx (Or.inr ⟨h0, c4, hcl5, hasg⟩)
  obtain ⟨t, a1, b1⟩ := kk (T.setVm vm') hT X'
  exact ⟨t, st.trans a1, b1⟩
end Rows
section Ends
variable {p : Program} {l : Launch} {e : Env} {R : Room} {s : State} {m : MethodId} {args : Array Value} {below : List Frame} {meth : Method} {c : Code} {H : Heap} {locs : List Loc} {cells slots : Nat} {Q : State → Prop}
variable {mc ms : Nat} {free : Addr → Prop} {A0 A1 : Nat → Prop} {H0 : Heap} {a : Array Value} {ls : Array Slot} {st0 rest : List Value}
variable {Qc : Array Value → State → Outcome → State → Prop} {XC : String → State → State → Prop}
/-- what a body that may throw owes at its end -/
def vx_MQ (below : List Frame) (Qc : Array Value → State → Outcome → State → Prop) (XC : String → State → State → Prop) (a : Array Value) (s : State) (mc ms : Nat) (free : Addr → Prop) : State → Prop := fun t =>
  ∃ o, t.status = .running ∧ Ended t below o ∧ vx_Q Qc XC mc ms free a s o t
theorem vx_ret {g : JFrame} {mc ms : Nat} (k : W p l e R s m args below meth c H locs cells slots (MQ below Qc args s mc ms free) g) : W p l e R s m args below meth c H locs cells slots (vx_MQ below Qc XC args s mc ms free) g := by
  intro T hT X
  obtain ⟨t, a1, o, b1, b2, b3, b4⟩ := k T hT X
  exact ⟨t, a1, o, b1, b2, Or.inl ⟨b3, b4⟩⟩
/-- not caught here: it goes on to the caller -/
theorem vx_widen {g : JFrame} {q : Addr} {k n : Nat} (h1 : cells ≤ k) (h2 : slots ≤ n) (kk : vx_W p l e R s m args below meth c H locs k n Q g q) : vx_W p l e R s m args below meth c H locs cells slots Q g q := fun T hT X => kk T hT (stand_widen X h1 h2)
theorem vx_out {pc : Nat} {E : String} {ce : Cell} {q : Addr} {mc ms : Nat} (hout : ∀ x ∈ c.exceptionTable.toList, covers x pc = false) (hlocks : meth.locks = false) (hcell : H[q]? = some ce) (hv : ce.vm = .none) (hcl : s.vm.findClass E = some ce.cls)
    (hx : ∀ t : State, t.heap = H → s.vm.Alike t.vm → XC E s t) (hf : ∀ z ∈ locs, free z.base) (hc : cells ≤ mc) (hs : slots ≤ ms) :
    vx_W p l e R s m args below meth c H locs cells slots (vx_MQ below Qc XC args s mc ms free) (F0 m pc ls rest) q := by
  intro T hT X
  obtain ⟨st1, hrun, hend, hW, hsm⟩ := X.leaveThrown q (g := F0 m pc ls rest) rfl rfl rfl hout hlocks
  have hcell9 : (T.setFrames (.throwing q :: below)).heap[q]? = some ce := by
    show T.heap[q]? = some ce
    rw [hT]; exact hcell
  exact ⟨_, st1, .threw q, hrun, hend, Or.inr ⟨q, rfl, E, ce, locs, hx _ hT hW.alike, hcell9, hv, hcl, hW, hsm.mono hc hs, hf⟩⟩
theorem vx_frame {U : State} {k n : Nat} (h : s.sameButNew ({ U with vm := s.vm } : State) locs k n) : s.heap.size ≤ U.heap.size ∧ ∀ q : Nat, q < s.heap.size → (∀ z ∈ locs, z.base ≠ q) → U.heap[q]? = s.heap[q]? := by
  obtain ⟨-, h2, -, -, -, h6⟩ := h
  refine ⟨h2, fun q hq hz => ?_⟩
  obtain ⟨c9, e1, e2, e3, e4⟩ := h6 q _ (Array.getElem?_eq_getElem hq)
  have hs : c9.slots = (s.heap[q]).slots := Array.ext_getElem? fun i => e4 i fun hm => hz _ hm rfl
  have h9 : c9 = s.heap[q] := by
    rw [hs] at e2
    exact e2
  have e5 : U.heap[q]? = some c9 := e1
  rw [e5, h9, Array.getElem?_eq_getElem hq]
/-- the words of a throw but the four that speak of the heap -/
def vx_no (w : Cond) : Bool := decide (w ≠ .isRef (.static Bundle.tN "UNASSIGNED_STACK" Bundle.steD)) && decide (w ≠ .isRef (.static Bundle.tN "SUPPRESSED_SENTINEL" Bundle.listD)) && decide (w ≠ .laysStatic Bundle.tN "UNASSIGNED_STACK" Bundle.steD) && decide (w ≠ .laysStatic Bundle.tN "SUPPRESSED_SENTINEL" Bundle.listD)
def vx_at0 (own : String) (ic : Nat) (X : String) (names : List String) : List Cond := (Bundle.ownAtoms0 own ic X names).filter vx_no
def vx_atS (own : String) (ic : Nat) (X : String) (names : List String) : List Cond := (Bundle.ownAtoms own ic X names).filter vx_no
/-- a word that the tables alone decide, or a good one -/
def vx_ot (w : Cond) : Bool := w.onTables || goodWord w
theorem vx_ot_at {args a' : Array Value} {s U : State} {w : Cond} (hW : s.WarmedH U.vm) (hvm : s.vm = U.vm) (hg : vx_ot w = true) (h : w.before args s = true) : w.before a' U = true := by
  simp only [vx_ot, Bool.or_eq_true] at hg
  rcases hg with hg | hg
  · exact va_tabs hg hvm h
  · exact word_at hW (good_of_word hg) h
/-- a list's words: the good ones out of the method's own list, the others by premises of their own -/
theorem vx_hat {args : Array Value} {s : State} {L B : List Cond} (h1 : ∀ w ∈ L.filter goodWord, w.before args s = true) (h2 : ∀ w ∈ L.filter (fun w => !goodWord w), w ∈ B) (h3 : ∀ w ∈ B, w.before args s = true) : ∀ w ∈ L, w.before args s = true := by
  intro w hw
  by_cases g : goodWord w = true
  · exact h1 w (List.mem_filter.mpr ⟨hw, g⟩)
  · refine h3 w (h2 w (List.mem_filter.mpr ⟨hw, ?_⟩))
    show (!goodWord w) = true
    cases hgw : goodWord w
    · rfl
    · exact absurd hgw g
theorem vx_c {args : Array Value} {s : State} {w : Cond} {B : List Cond} (h : w.before args s = true) (t : ∀ w ∈ B, w.before args s = true) : ∀ w' ∈ w :: B, w'.before args s = true := fun w' h' => (List.mem_cons.mp h').elim (fun e => by rw [e]; exact h) (t w')
theorem vx_n {args : Array Value} {s : State} : ∀ w ∈ ([] : List Cond), w.before args s = true := fun _ h => nomatch h
theorem vx_own {args : Array Value} {s : State} {L : List Cond} (h1 : ∀ w ∈ L.filter vx_no, w.before args s = true)
    (hU : (Cond.isRef (.static Bundle.tN "UNASSIGNED_STACK" Bundle.steD)).before args s = true) (hN : (Cond.isRef (.static Bundle.tN "SUPPRESSED_SENTINEL" Bundle.listD)).before args s = true)
    (lU : (Cond.laysStatic Bundle.tN "UNASSIGNED_STACK" Bundle.steD).before args s = true) (lN : (Cond.laysStatic Bundle.tN "SUPPRESSED_SENTINEL" Bundle.listD).before args s = true) : ∀ w ∈ L, w.before args s = true := by
  intro w hw
  by_cases e1 : w = .isRef (.static Bundle.tN "UNASSIGNED_STACK" Bundle.steD)
  · rw [e1]; exact hU
  · by_cases e2 : w = .isRef (.static Bundle.tN "SUPPRESSED_SENTINEL" Bundle.listD)
    · rw [e2]; exact hN
    · by_cases e3 : w = .laysStatic Bundle.tN "UNASSIGNED_STACK" Bundle.steD
      · rw [e3]; exact lU
      · by_cases e4 : w = .laysStatic Bundle.tN "SUPPRESSED_SENTINEL" Bundle.listD
        · rw [e4]; exact lN
        · exact h1 w (List.mem_filter.mpr ⟨hw, by unfold vx_no; rw [decide_eq_true e1, decide_eq_true e2, decide_eq_true e3, decide_eq_true e4]; rfl⟩)
/-- where a static field lies, its class's statics cell in H -/
def vx_L (C n d : String) (A : Nat → Prop) (U : State) (H : Heap) : Prop := ∃ (c : ClassId) (k : Class) (i : Nat) (f : Field) (a : Nat) (cell : Cell), U.vm.findClass C = some c ∧ U.fieldFound? C n d = some (c, k, i, f) ∧ f.isStatic = true ∧ k.statics = some a ∧ H[a]? = some cell ∧ cell.vm.isStatics = true ∧ cell.cls = c ∧ f.slot < cell.slots.size ∧ k.staticTypes[f.slot]? = some f.type ∧ ¬ A a
theorem vx_L.moved {C n d : String} {A : Nat → Prop} {u U : State} {H : Heap} (hvm : u.vm.Alike U.vm) (h : vx_L C n d A u H) : vx_L C n d A U H := by
  obtain ⟨c, k, i, f, a, cell, h1, h2, h3, h4, h5, h6, h7, h8, h9, h10⟩ := h
  obtain ⟨k', hi', he⟩ := State.fieldFound?_setVm hvm h2
  exact ⟨c, k', i, f, a, cell, by rw [hvm.findClass]; exact h1, hi', h3, by rw [he]; exact h4, h5, h6, h7, h8, by rw [he]; exact h9, h10⟩
theorem vx_L.kept {C n d : String} {A : Nat → Prop} {U : State} {H H1 : Heap} (h : vx_L C n d A U H) (hq : ∀ a : Nat, a < H.size → ¬ A a → H1[a]? = H[a]?) : vx_L C n d A U H1 := by
  obtain ⟨c, k, i, f, a, cell, h1, h2, h3, h4, h5, h6, h7, h8, h9, h10⟩ := h
  exact ⟨c, k, i, f, a, cell, h1, h2, h3, h4, by rw [hq a (Array.getElem?_eq_some_iff.mp h5).1 h10]; exact h5, h6, h7, h8, h9, h10⟩
theorem vx_L.narrow {C n d : String} {A B : Nat → Prop} {U : State} {H : Heap} (h : vx_L C n d A U H) (hAB : ∀ q, B q → A q) : vx_L C n d B U H := by
  obtain ⟨c, k, i, f, a, cell, h1, h2, h3, h4, h5, h6, h7, h8, h9, h10⟩ := h
  exact ⟨c, k, i, f, a, cell, h1, h2, h3, h4, h5, h6, h7, h8, h9, fun z => h10 (hAB _ z)⟩
theorem vx_L.word {C n d : String} {A : Nat → Prop} {s : State} {args : Array Value} (h : vx_L C n d A s s.heap) : (Cond.laysStatic C n d).before args s = true := by
  obtain ⟨c, k, i, f, a, cell, h1, h2, h3, h4, h5, h6, h7, h8, h9, -⟩ := h
  show (Cond.laysStatic C n d).holds args s none s [] = true
  exact Cond.laysStatic_of h1 h2 h3 h4 h5 h6 h7 h8 h9
/-- .. and what it holds: null or some reference -/
def vx_Zq (C n d : String) (A : Nat → Prop) (U : State) (H : Heap) : Prop := va_Zq C n d A U H ∧ vx_L C n d A U H
theorem vx_Zq.moved {C n d : String} {A : Nat → Prop} {u U : State} {H : Heap} (hvm : u.vm.Alike U.vm) (h : vx_Zq C n d A u H) : vx_Zq C n d A U H := ⟨va_Zq.moved hvm h.1, vx_L.moved hvm h.2⟩
theorem vx_Zq.kept {C n d : String} {A : Nat → Prop} {U : State} {H H1 : Heap} (h : vx_Zq C n d A U H) (hq : ∀ a : Nat, a < H.size → ¬ A a → H1[a]? = H[a]?) : vx_Zq C n d A U H1 := ⟨va_Zq.kept h.1 hq, vx_L.kept h.2 hq⟩
theorem vx_Zq.narrow {C n d : String} {A B : Nat → Prop} {U : State} {H : Heap} (h : vx_Zq C n d A U H) (hAB : ∀ q, B q → A q) : vx_Zq C n d B U H := ⟨va_Zq.narrow h.1 hAB, vx_L.narrow h.2 hAB⟩
theorem vx_Zqof {args : Array Value} {s : State} {C n d : String} {A : Nat → Prop} (hl : (Cond.laysStatic C n d).before args s = true) (hini : (Cond.initialized C).before args s = true) (h : (Cond.isRef (.static C n d)).before args s = true) (hA : ∀ a : Nat, a < s.heap.size → ¬ A a) : vx_Zq C n d A s s.heap := by
  refine ⟨va_Zqof hl hini h hA, ?_⟩
  obtain ⟨c, k, i, f, a, cell, h1, h2, h3, h4, h5, h6, h7, h8, h9⟩ := Cond.laysStatic_spec hl
  exact ⟨c, k, i, f, a, cell, h1, h2, h3, h4, h5, h6, h7, h8, h9, hA a (Array.getElem?_eq_some_iff.mp h5).1⟩
theorem vx_isRef {C n d : String} {v : Value} {A : Nat → Prop} {s : State} {args : Array Value} (h : va_Z C n d v A s s.heap) (hv : v.isRef = true) : (Cond.isRef (.static C n d)).before args s = true := by
  obtain ⟨cf, kf, fi, f, a, cell, h1, h2, h3, h4, h5, h6, h7, -⟩ := h
  have he : (Term.static C n d).eval args s none [] s = some v := by
    simp [Term.eval, State.fieldNamed?, h1, h2, h4, h5, h6, h7]
  simp only [Cond.before, Cond.holds, Cond.value, he]
  cases v <;> simp_all [Value.isRef]
theorem vx_isRefq {C n d : String} {A : Nat → Prop} {s : State} {args : Array Value} (h : va_Zq C n d A s s.heap) : (Cond.isRef (.static C n d)).before args s = true := by
  rcases h with h | ⟨t, h⟩
  · exact vx_isRef h rfl
  · exact vx_isRef h rfl
/-- the same frame, seen from here: as if the method were called anew in this heap -/
theorem vx_rebase {T : State} (X : Stand p l e R s m args below meth c T locs cells slots) {R' : Room} (hf : R'.frames ≤ R.frames) (hl : R'.locals ≤ R.locals) (hc : cells + R'.cells ≤ R.cells) (hs : slots + R'.slots ≤ R.slots) :
    Stand p l e R' ((T.setVm s.vm).setFrames (.invoking m args :: below)) m args below meth c T [] 0 0 := by
  have htop : (T.setVm s.vm).topJava?.isSome := X.here.top
  have hF : ((T.setVm s.vm).setFrames (.invoking m args :: below)).frames = .invoking m args :: below := State.frames_setFrames _ (State.cur_lt_of_top htop)
  obtain ⟨g₀, hg0⟩ := Option.isSome_iff_exists.mp htop
  obtain ⟨r, hr⟩ := State.topJava?_eq_some.mp hg0
  have hl9 : e.platform.stackLimits (T.setVm s.vm).me = e.platform.stackLimits s.me := X.limits
  have hb9 : (T.setVm s.vm).me.stackBytes = s.me.stackBytes := X.bytes
  refine ⟨X.admits, X.cas, X.clock, hF, ?_, X.hears, X.method, X.code, X.here, X.tail, X.warmed, ?_, ?_, ?_⟩
  · have h := X.room
    have hU : ((T.setVm s.vm).setFrames (.invoking m args :: below)).localsInUse = s.localsInUse := by
      rw [State.localsInUse_invoking hF (meth := meth) (c := c) X.method X.code, State.localsInUse_invoking X.frames X.method X.code]
    simp only [State.hasRoom, Bool.and_eq_true, decide_eq_true_eq] at h ⊢
    obtain ⟨⟨⟨⟨h1, h2, h3, h4, h5, h6⟩, h7⟩, h8⟩, h9⟩ := h
    rw [X.frames, List.length_cons] at h2 h3
    have q1 := X.heapSize
    have q2 := X.used
    simp only [hF, hU, List.length_cons, State.stackLimits_setFrames, State.stackBytes_setFrames, hl9, hb9]
    refine ⟨⟨⟨⟨by omega, by omega, by omega, by omega, by omega, h6⟩, ?_⟩, ?_⟩, X.book⟩
    · show T.heap.size + R'.cells ≤ e.platform.maxCells
      omega
    · show T.slotsUsed + R'.slots ≤ e.platform.maxSlots
      omega
  · rw [State.stackLimits_setFrames]; rfl
  · rw [State.stackBytes_setFrames]; rfl
  · refine ⟨?_, Nat.le_refl _, Nat.le_refl _, ?_, ?_, fun a c9 h9 => ⟨c9, h9, rfl, rfl, fun _ _ => rfl⟩⟩
    · obtain ⟨t, ht, -⟩ := State.frames_cons hr
      show T.setVm s.vm = { ((T.setVm s.vm).setFrames (.invoking m args :: below)).setFrames (T.setVm s.vm).frames with heap := T.heap, slotsUsed := T.slotsUsed }
      rw [State.setFrames_setFrames, State.setFrames_self ht]
      rfl
    · show T.slotsUsed = T.slotsUsed + ((T.heap.toList.drop T.heap.size).map (·.slots.size)).sum
      rw [List.drop_eq_nil_of_le (Nat.le_of_eq Array.length_toList)]
      rfl
    · show ((T.heap.toList.drop T.heap.size).map (·.slots.size)).sum ≤ 0
      rw [List.drop_eq_nil_of_le (Nat.le_of_eq Array.length_toList)]
      exact Nat.le_refl _
/-- 'throw new E()': new; dup; invokespecial; athrow -/
theorem vx_throw0 {cc : ByteArray} {pc : Nat} (hexec : p.tables.exec = Jvm.exec) (hb : c.code = cc) (hl : l.stackTraces = false) {own cls : String} {names : List String} {ik ic mc ms : Nat} {A : Nat → Prop}
    (hown : s.vm.findClass own = some m.cls) (hcls : Bundle.fit cls = true) (hnames : ∀ n ∈ names, Bundle.fit n = true)
    (hk : (Cond.classLink own ik cls).before args s = true) (hini : (Cond.initialized cls).before args s = true) (hat : ∀ w ∈ vx_at0 own ic cls names, w.before args s = true)
    (hgood : ∀ w ∈ Cond.classLink own ik cls :: Cond.initialized cls :: vx_at0 own ic cls names, vx_ot w = true)
    (hU : vx_Zq Bundle.tN "UNASSIGNED_STACK" Bundle.steD A s s.heap) (hN : vx_Zq Bundle.tN "SUPPRESSED_SENTINEL" Bundle.listD A s s.heap) (hS : va_S A s.heap H locs) (hsize : ls.size = c.maxLocals)
    (d0 : decode cc pc = .ok (.new ik, 3)) (d3 : decode cc (pc + 3) = .ok (.dup, 1)) (d4 : decode cc (pc + 4) = .ok (.invokespecial ic, 3)) (d7 : decode cc (pc + 7) = .ok (.athrow, 1))
    (hout : ∀ x ∈ c.exceptionTable.toList, covers x (pc + 7) = false)
    (hRframes : names.length + 3 < R.frames) (hRlocals : (rest.map fun v => v.category).sum + (13 * (names.length + 1) + 42) ≤ R.locals) (hRcells : cells + 1 ≤ R.cells) (hRslots : slots + 6 ≤ R.slots) (hlocks : meth.locks = false)
    (hx : ∀ t : State, s.vm.Alike t.vm → H.size ≤ t.heap.size → (∀ q : Nat, q < H.size → t.heap[q]? = H[q]?) → XC cls s t)
    (hf : ∀ z ∈ locs, free z.base) (hc : cells + 1 ≤ mc) (hs : slots + 6 ≤ ms) :
    W p l e R s m args below meth c H locs cells slots (vx_MQ below Qc XC args s mc ms free) (F0 m pc ls rest) := by
  intro T hT X
  have htr : e.platform.stackTraces = false := (show e.platform.stackTraces = l.stackTraces by rw [X.admits.platform]).trans hl
  have Y := vx_rebase X (R' := { frames := R.frames, locals := R.locals, cells := 1, slots := 6 }) (Nat.le_refl _) (Nat.le_refl _) hRcells hRslots
  obtain ⟨s', hA⟩ : ∃ z, z = (T.setVm s.vm).setFrames (.invoking m args :: below) := ⟨_, rfl⟩
  rw [← hA] at Y
  have hvm : s'.vm = s.vm := by rw [hA]; rfl
  have hhp : s'.heap = H := by rw [hA]; exact hT
  have hW0 : s.WarmedH s'.vm := by rw [hvm]; exact State.WarmedH.refl s
  have hat' : ∀ w ∈ vx_at0 own ic cls names, w.before args s' = true := fun w hw => vx_ot_at hW0 hvm.symm (hgood w (List.mem_cons_of_mem _ (List.mem_cons_of_mem _ hw))) (hat w hw)
  have hk' : (Cond.classLink own ik cls).before args s' = true := vx_ot_at hW0 hvm.symm (hgood _ List.mem_cons_self) hk
  have hini' : (Cond.initialized cls).before args s' = true := vx_ot_at hW0 hvm.symm (hgood _ (List.mem_cons_of_mem _ List.mem_cons_self)) hini
  have hU' : vx_Zq Bundle.tN "UNASSIGNED_STACK" Bundle.steD A s' s'.heap := by rw [hhp]; exact vx_Zq.moved hW0.alike (hU.kept hS.2.1)
  have hN' : vx_Zq Bundle.tN "SUPPRESSED_SENTINEL" Bundle.listD A s' s'.heap := by rw [hhp]; exact vx_Zq.moved hW0.alike (hN.kept hS.2.1)
  have h : ∀ w ∈ Bundle.ownAtoms0 own ic cls names, w.before args s' = true := vx_own hat' (vx_isRefq hU'.1) (vx_isRefq hN'.1) hU'.2.word hN'.2.word
  have hown' : s'.vm.findClass own = some m.cls := by rw [hvm]; exact hown
  have hins : (Cond.instantiable cls 6).before args s' = true := h _ (by simp [Bundle.ownAtoms0])
  obtain ⟨vm₁, cX, kX, hfX, hkX, -, -, X₁, st1⟩ := Y.newCold hexec (own := own) (C := cls) (index := ik) (n := 6) hown' hk' hins hini'
    (g := F0 m pc ls rest) rfl (by rw [hb]; exact d0) (Nat.le_refl _) (Nat.le_refl _)
  generalize hT1 : (T.setVm vm₁).pushCell { cls := cX, slots := kX.instanceTypes.map defaultValue, vm := .none } = T1 at X₁ st1
  have hcat : (Value.ref T.heap.size).category = 1 := rfl
  have hcellA : T1.heap[T.heap.size]? = some (freshCell cX kX) := by rw [← hT1]; exact State.heap_pushCell_size _ _
  have d3' : decode c.code (pc + 3) = .ok (.dup, 1) := by rw [hb]; exact d3
  obtain ⟨U, hsteps, hrun, hend, hW, hsame, ce, hce, hO⟩ := X₁.ctorThrow0 hexec htr (own := own) (cls := cls) (names := names) (ic := ic) hown' hcls hnames h (fun x hx => nomatch hx) hfX hkX hcellA (by rw [hhp, hT]; exact Nat.le_refl _)
    (g := { method := m, pc := pc + 4, locals := ls, stack := .ref T.heap.size :: .ref T.heap.size :: rest, locked := none }) rfl hsize rfl rfl (rest := rest) rfl
    (by rw [hb]; exact d4) (by rw [hb]; exact d7) hout hRframes (by simp only [List.map_cons, List.sum_cons, hcat]; omega) hlocks
  obtain ⟨f1, f2⟩ := vx_frame hsame
  rw [hhp] at f1 f2
  have hWs : s.WarmedH U.vm := State.WarmedH.trans hW0 hW
  have hcl : s.vm.findClass cls = some ce.cls := by
    have h9 := hO.cls
    rw [hvm] at h9
    exact h9
  have hall : s.sameButNew ({ U with vm := s.vm } : State) locs mc ms := by
    subst hA
    obtain ⟨e1, e2⟩ := hsame
    rw [State.setFrames_setFrames] at e1
    have h2 : (T.setVm s.vm).sameButNew ({ U with vm := s.vm } : State) [] (0 + 1) (0 + 6) := ⟨e1, e2⟩
    have h3 := X.same.trans h2
    rw [List.append_nil] at h3
    exact h3.mono hc hs
  refine ⟨U, ?_, .threw T.heap.size, hrun, hend, Or.inr ⟨T.heap.size, rfl, cls, ce, locs, hx U hWs.alike f1 (fun q hq => f2 q hq (fun z hz => nomatch hz)), hce, hO.vm, hcl, hWs, hall, hf⟩⟩
  refine st1 _ ?_
  show Steps p.tables e below (T1.setTop { method := m, pc := pc + 3, locals := ls, stack := .ref T.heap.size :: rest, locked := none }) _
  jvm_step X₁.here [X₁.here.top, hexec, d3', Value.category]
  exact hsteps
/-- 'throw new E("text")': new; dup; ldc; invokespecial; athrow -/
theorem vx_throwS {cc : ByteArray} {pc : Nat} (hexec : p.tables.exec = Jvm.exec) (hb : c.code = cc) (hl : l.stackTraces = false) {own cls text : String} {names : List String} {ik is ic mc ms sa : Nat} {A : Nat → Prop}
    (hown : s.vm.findClass own = some m.cls) (hcls : Bundle.fit cls = true) (hnames : ∀ n ∈ names, Bundle.fit n = true)
    (hk : (Cond.classLink own ik cls).before args s = true) (hini : (Cond.initialized cls).before args s = true) (hstr : vk_R own is text sa s) (hat : ∀ w ∈ vx_atS own ic cls names, w.before args s = true)
    (hgood : ∀ w ∈ Cond.classLink own ik cls :: Cond.initialized cls :: vx_atS own ic cls names, vx_ot w = true)
    (hU : vx_Zq Bundle.tN "UNASSIGNED_STACK" Bundle.steD A s s.heap) (hN : vx_Zq Bundle.tN "SUPPRESSED_SENTINEL" Bundle.listD A s s.heap) (hS : va_S A s.heap H locs) (hsize : ls.size = c.maxLocals)
    (d0 : decode cc pc = .ok (.new ik, 3)) (d3 : decode cc (pc + 3) = .ok (.dup, 1)) (d4 : decode cc (pc + 4) = .ok (.ldc is, 2)) (d6 : decode cc (pc + 6) = .ok (.invokespecial ic, 3)) (d9 : decode cc (pc + 9) = .ok (.athrow, 1))
    (hout : ∀ x ∈ c.exceptionTable.toList, covers x (pc + 9) = false)
    (hRframes : names.length + 3 < R.frames) (hRlocals : (rest.map fun v => v.category).sum + (13 * (names.length + 1) + 43) ≤ R.locals) (hRcells : cells + 1 ≤ R.cells) (hRslots : slots + 6 ≤ R.slots) (hlocks : meth.locks = false)
    (hx : ∀ t : State, s.vm.Alike t.vm → H.size ≤ t.heap.size → (∀ q : Nat, q < H.size → t.heap[q]? = H[q]?) → XC cls s t)
    (hf : ∀ z ∈ locs, free z.base) (hc : cells + 1 ≤ mc) (hs : slots + 6 ≤ ms) :
    W p l e R s m args below meth c H locs cells slots (vx_MQ below Qc XC args s mc ms free) (F0 m pc ls rest) := by
  intro T hT X
  have htr : e.platform.stackTraces = false := (show e.platform.stackTraces = l.stackTraces by rw [X.admits.platform]).trans hl
  have Y := vx_rebase X (R' := { frames := R.frames, locals := R.locals, cells := 1, slots := 6 }) (Nat.le_refl _) (Nat.le_refl _) hRcells hRslots
  obtain ⟨s', hA⟩ : ∃ z, z = (T.setVm s.vm).setFrames (.invoking m args :: below) := ⟨_, rfl⟩
  rw [← hA] at Y
  have hvm : s'.vm = s.vm := by rw [hA]; rfl
  have hhp : s'.heap = H := by rw [hA]; exact hT
  have hW0 : s.WarmedH s'.vm := by rw [hvm]; exact State.WarmedH.refl s
  have hat' : ∀ w ∈ vx_atS own ic cls names, w.before args s' = true := fun w hw => vx_ot_at hW0 hvm.symm (hgood w (List.mem_cons_of_mem _ (List.mem_cons_of_mem _ hw))) (hat w hw)
  have hk' : (Cond.classLink own ik cls).before args s' = true := vx_ot_at hW0 hvm.symm (hgood _ List.mem_cons_self) hk
  have hini' : (Cond.initialized cls).before args s' = true := vx_ot_at hW0 hvm.symm (hgood _ (List.mem_cons_of_mem _ List.mem_cons_self)) hini
  have hU' : vx_Zq Bundle.tN "UNASSIGNED_STACK" Bundle.steD A s' s'.heap := by rw [hhp]; exact vx_Zq.moved hW0.alike (hU.kept hS.2.1)
  have hN' : vx_Zq Bundle.tN "SUPPRESSED_SENTINEL" Bundle.listD A s' s'.heap := by rw [hhp]; exact vx_Zq.moved hW0.alike (hN.kept hS.2.1)
  have h : ∀ w ∈ Bundle.ownAtoms own ic cls names, w.before args s' = true := vx_own hat' (vx_isRefq hU'.1) (vx_isRefq hN'.1) hU'.2.word hN'.2.word
  have hown' : s'.vm.findClass own = some m.cls := by rw [hvm]; exact hown
  have hins : (Cond.instantiable cls 6).before args s' = true := h _ (by simp [Bundle.ownAtoms])
  obtain ⟨vm₁, cX, kX, hfX, hkX, -, -, X₁, st1⟩ := Y.newCold hexec (own := own) (C := cls) (index := ik) (n := 6) hown' hk' hins hini'
    (g := F0 m pc ls rest) rfl (by rw [hb]; exact d0) (Nat.le_refl _) (Nat.le_refl _)
  generalize hT1 : (T.setVm vm₁).pushCell { cls := cX, slots := kX.instanceTypes.map defaultValue, vm := .none } = T1 at X₁ st1
  have hcat : (Value.ref T.heap.size).category = 1 := rfl
  have hcellA : T1.heap[T.heap.size]? = some (freshCell cX kX) := by rw [← hT1]; exact State.heap_pushCell_size _ _
  have d3' : decode c.code (pc + 3) = .ok (.dup, 1) := by rw [hb]; exact d3
  have d4' : decode c.code (pc + 4) = .ok (.ldc is, 2) := by rw [hb]; exact d4
  have hstr' : vk_R own is text sa s' := vk_R.warm hW0 hstr
  obtain ⟨U, hsteps, hrun, hend, hW, hsame, ce, hce, hO⟩ := X₁.ctorThrowS hexec htr (own := own) (cls := cls) (names := names) (ic := ic) hown' hcls hnames h (fun x hx => nomatch hx) hfX hkX hcellA (by rw [hhp, hT]; exact Nat.le_refl _) (msg := .ref sa) rfl
    (g := { method := m, pc := pc + 6, locals := ls, stack := .ref sa :: .ref T.heap.size :: .ref T.heap.size :: rest, locked := none }) rfl hsize rfl rfl (rest := rest) rfl
    (by rw [hb]; exact d6) (by rw [hb]; exact d9) hout hRframes (by simp only [List.map_cons, List.sum_cons, hcat]; omega) hlocks
  obtain ⟨f1, f2⟩ := vx_frame hsame
  rw [hhp] at f1 f2
  have hWs : s.WarmedH U.vm := State.WarmedH.trans hW0 hW
  have hcl : s.vm.findClass cls = some ce.cls := by
    have h9 := hO.cls
    rw [hvm] at h9
    exact h9
  have hall : s.sameButNew ({ U with vm := s.vm } : State) locs mc ms := by
    subst hA
    obtain ⟨e1, e2⟩ := hsame
    rw [State.setFrames_setFrames] at e1
    have h2 : (T.setVm s.vm).sameButNew ({ U with vm := s.vm } : State) [] (0 + 1) (0 + 6) := ⟨e1, e2⟩
    have h3 := X.same.trans h2
    rw [List.append_nil] at h3
    exact h3.mono hc hs
  refine ⟨U, ?_, .threw T.heap.size, hrun, hend, Or.inr ⟨T.heap.size, rfl, cls, ce, locs, hx U hWs.alike f1 (fun q hq => f2 q hq (fun z hz => nomatch hz)), hce, hO.vm, hcl, hWs, hall, hf⟩⟩
  refine st1 _ ?_
  show Steps p.tables e below (T1.setTop { method := m, pc := pc + 3, locals := ls, stack := .ref T.heap.size :: rest, locked := none }) _
  jvm_step X₁.here [X₁.here.top, hexec, d3', Value.category]
  exact X₁.ldcString hexec (own := own) (text := text) (index := is) (a := sa) hown' hstr'.1 hstr'.2
    (g := { method := m, pc := pc + 4, locals := ls, stack := .ref T.heap.size :: .ref T.heap.size :: rest, locked := none }) rfl d4' _ hsteps
/-- 'throw new E("text")', the text by a wide index -/
theorem vx_throwSW {cc : ByteArray} {pc : Nat} (hexec : p.tables.exec = Jvm.exec) (hb : c.code = cc) (hl : l.stackTraces = false) {own cls text : String} {names : List String} {ik is ic mc ms sa : Nat} {A : Nat → Prop}
    (hown : s.vm.findClass own = some m.cls) (hcls : Bundle.fit cls = true) (hnames : ∀ n ∈ names, Bundle.fit n = true)
    (hk : (Cond.classLink own ik cls).before args s = true) (hini : (Cond.initialized cls).before args s = true) (hstr : vk_R own is text sa s) (hat : ∀ w ∈ vx_atS own ic cls names, w.before args s = true)
    (hgood : ∀ w ∈ Cond.classLink own ik cls :: Cond.initialized cls :: vx_atS own ic cls names, vx_ot w = true)
    (hU : vx_Zq Bundle.tN "UNASSIGNED_STACK" Bundle.steD A s s.heap) (hN : vx_Zq Bundle.tN "SUPPRESSED_SENTINEL" Bundle.listD A s s.heap) (hS : va_S A s.heap H locs) (hsize : ls.size = c.maxLocals)
    (d0 : decode cc pc = .ok (.new ik, 3)) (d3 : decode cc (pc + 3) = .ok (.dup, 1)) (d4 : decode cc (pc + 4) = .ok (.ldc_w is, 3)) (d7 : decode cc (pc + 7) = .ok (.invokespecial ic, 3)) (d10 : decode cc (pc + 10) = .ok (.athrow, 1))
    (hout : ∀ x ∈ c.exceptionTable.toList, covers x (pc + 10) = false)
    (hRframes : names.length + 3 < R.frames) (hRlocals : (rest.map fun v => v.category).sum + (13 * (names.length + 1) + 43) ≤ R.locals) (hRcells : cells + 1 ≤ R.cells) (hRslots : slots + 6 ≤ R.slots) (hlocks : meth.locks = false)
    (hx : ∀ t : State, s.vm.Alike t.vm → H.size ≤ t.heap.size → (∀ q : Nat, q < H.size → t.heap[q]? = H[q]?) → XC cls s t)
    (hf : ∀ z ∈ locs, free z.base) (hc : cells + 1 ≤ mc) (hs : slots + 6 ≤ ms) :
    W p l e R s m args below meth c H locs cells slots (vx_MQ below Qc XC args s mc ms free) (F0 m pc ls rest) := by
  intro T hT X
  have htr : e.platform.stackTraces = false := (show e.platform.stackTraces = l.stackTraces by rw [X.admits.platform]).trans hl
  have Y := vx_rebase X (R' := { frames := R.frames, locals := R.locals, cells := 1, slots := 6 }) (Nat.le_refl _) (Nat.le_refl _) hRcells hRslots
  obtain ⟨s', hA⟩ : ∃ z, z = (T.setVm s.vm).setFrames (.invoking m args :: below) := ⟨_, rfl⟩
  rw [← hA] at Y
  have hvm : s'.vm = s.vm := by rw [hA]; rfl
  have hhp : s'.heap = H := by rw [hA]; exact hT
  have hW0 : s.WarmedH s'.vm := by rw [hvm]; exact State.WarmedH.refl s
  have hat' : ∀ w ∈ vx_atS own ic cls names, w.before args s' = true := fun w hw => vx_ot_at hW0 hvm.symm (hgood w (List.mem_cons_of_mem _ (List.mem_cons_of_mem _ hw))) (hat w hw)
  have hk' : (Cond.classLink own ik cls).before args s' = true := vx_ot_at hW0 hvm.symm (hgood _ List.mem_cons_self) hk
  have hini' : (Cond.initialized cls).before args s' = true := vx_ot_at hW0 hvm.symm (hgood _ (List.mem_cons_of_mem _ List.mem_cons_self)) hini
  have hU' : vx_Zq Bundle.tN "UNASSIGNED_STACK" Bundle.steD A s' s'.heap := by rw [hhp]; exact vx_Zq.moved hW0.alike (hU.kept hS.2.1)
  have hN' : vx_Zq Bundle.tN "SUPPRESSED_SENTINEL" Bundle.listD A s' s'.heap := by rw [hhp]; exact vx_Zq.moved hW0.alike (hN.kept hS.2.1)
  have h : ∀ w ∈ Bundle.ownAtoms own ic cls names, w.before args s' = true := vx_own hat' (vx_isRefq hU'.1) (vx_isRefq hN'.1) hU'.2.word hN'.2.word
  have hown' : s'.vm.findClass own = some m.cls := by rw [hvm]; exact hown
  have hins : (Cond.instantiable cls 6).before args s' = true := h _ (by simp [Bundle.ownAtoms])
  obtain ⟨vm₁, cX, kX, hfX, hkX, -, -, X₁, st1⟩ := Y.newCold hexec (own := own) (C := cls) (index := ik) (n := 6) hown' hk' hins hini'
    (g := F0 m pc ls rest) rfl (by rw [hb]; exact d0) (Nat.le_refl _) (Nat.le_refl _)
  generalize hT1 : (T.setVm vm₁).pushCell { cls := cX, slots := kX.instanceTypes.map defaultValue, vm := .none } = T1 at X₁ st1
  have hcat : (Value.ref T.heap.size).category = 1 := rfl
  have hcellA : T1.heap[T.heap.size]? = some (freshCell cX kX) := by rw [← hT1]; exact State.heap_pushCell_size _ _
  have d3' : decode c.code (pc + 3) = .ok (.dup, 1) := by rw [hb]; exact d3
  have d4' : decode c.code (pc + 4) = .ok (.ldc_w is, 3) := by rw [hb]; exact d4
  have hstr' : vk_R own is text sa s' := vk_R.warm hW0 hstr
  obtain ⟨U, hsteps, hrun, hend, hW, hsame, ce, hce, hO⟩ := X₁.ctorThrowS hexec htr (own := own) (cls := cls) (names := names) (ic := ic) hown' hcls hnames h (fun x hx => nomatch hx) hfX hkX hcellA (by rw [hhp, hT]; exact Nat.le_refl _) (msg := .ref sa) rfl
    (g := { method := m, pc := pc + 7, locals := ls, stack := .ref sa :: .ref T.heap.size :: .ref T.heap.size :: rest, locked := none }) rfl hsize rfl rfl (rest := rest) rfl
    (by rw [hb]; exact d7) (by rw [hb]; exact d10) hout hRframes (by simp only [List.map_cons, List.sum_cons, hcat]; omega) hlocks
  obtain ⟨f1, f2⟩ := vx_frame hsame
  rw [hhp] at f1 f2
  have hWs : s.WarmedH U.vm := State.WarmedH.trans hW0 hW
  have hcl : s.vm.findClass cls = some ce.cls := by
    have h9 := hO.cls
    rw [hvm] at h9
    exact h9
  have hall : s.sameButNew ({ U with vm := s.vm } : State) locs mc ms := by
    subst hA
    obtain ⟨e1, e2⟩ := hsame
    rw [State.setFrames_setFrames] at e1
    have h2 : (T.setVm s.vm).sameButNew ({ U with vm := s.vm } : State) [] (0 + 1) (0 + 6) := ⟨e1, e2⟩
    have h3 := X.same.trans h2
    rw [List.append_nil] at h3
    exact h3.mono hc hs
  refine ⟨U, ?_, .threw T.heap.size, hrun, hend, Or.inr ⟨T.heap.size, rfl, cls, ce, locs, hx U hWs.alike f1 (fun q hq => f2 q hq (fun z hz => nomatch hz)), hce, hO.vm, hcl, hWs, hall, hf⟩⟩
  refine st1 _ ?_
  show Steps p.tables e below (T1.setTop { method := m, pc := pc + 3, locals := ls, stack := .ref T.heap.size :: rest, locked := none }) _
  jvm_step X₁.here [X₁.here.top, hexec, d3', Value.category]
  exact X₁.ldcStringW hexec (own := own) (text := text) (index := is) (a := sa) hown' hstr'.1 hstr'.2
    (g := { method := m, pc := pc + 4, locals := ls, stack := .ref T.heap.size :: .ref T.heap.size :: rest, locked := none }) rfl d4' _ hsteps
end Ends
section Bodies
variable {l : Launch}
theorem vx_ofW {y : MethodName} {ws ws' : List Cond} {rm : Room} {Pc : Array Value → State → Prop} {Qc : Array Value → State → Outcome → State → Prop} {XC : String → State → State → Prop} {mc ms : Nat} {free : Addr → Prop} {cc : ByteArray} {maxL : Nat} {ret : Option FieldType}
    (hy : plainName y.cls = true) (hw : ws = Cond.code y cc maxL ret :: ws')
    (body : ∀ p e s m args below meth c s₁, BodyLoose p l y (headSpec ws rm) cc maxL ret e s m args below meth c s₁ → c.maxLocals = maxL → (∀ x ∈ c.exceptionTable.toList, False) → Pc args s →
      W p l e (headSpec ws rm).room s m args below meth c s.heap [] 0 0 (vx_MQ below Qc XC args s mc ms free) (entryFrame m args maxL)) : vx_Met l y ws rm Pc Qc XC mc ms free := by
  refine MetFree.of_bodyS (code := cc) (maxLocals := maxL) (ret := ret) hy ?_ ?_
  · intro args s m h hn
    obtain ⟨meth, c, h1, h2, h3, h4, h5, h6, -, -⟩ := Cond.code_spec hn (atoms_spec (ws := ws) h _ (by rw [hw]; exact List.mem_cons_self))
    exact ⟨meth, c, h1, h2, h3, h4, h5, h6⟩
  · intro p e s m args below meth c s₁ B hml hP _
    have hh0 : s₁.heap = s.heap := by rw [B.state]; rfl
    have ht : ∀ x ∈ c.exceptionTable.toList, False := by
      obtain ⟨meth9, c9, h1, h2, -, -, -, -, h7, -⟩ := Cond.code_spec B.named (atoms_spec (ws := ws) B.pre _ (by rw [hw]; exact List.mem_cons_self))
      cases Option.some.inj (h1.symm.trans B.method)
      cases Option.some.inj (h2.symm.trans (Stand.of_body B).code)
      intro x hx
      rw [Array.isEmpty_iff.mp h7] at hx
      cases hx
    obtain ⟨t, a1, o, b1, b2, b3⟩ := body p e s m args below meth c s₁ B hml ht hP s₁ hh0 (Stand.of_body B)
    exact ⟨t, o, a1, b1, b2, b3⟩
/-- the table of a body with handlers -/
theorem vx_table {p : Program} {x y : MethodName} {S : Spec} {cc bytes : ByteArray} {maxL maxL' : Nat} {ret ret' : Option FieldType} {e : Env} {s s₁ : State} {m : MethodId} {args : Array Value} {below : List Frame} {meth : Method} {c : Code} {hh : List (Nat × Nat × Nat × Nat)}
    (B : BodyLoose p l y S cc maxL ret e s m args below meth c s₁) (h : (Cond.codeWith y bytes maxL' ret' hh).before args s = true) : c.exceptionTable.toList = tableOf hh := by
  obtain ⟨m9, meth9, c9, hn9, h1, h2, -, -, h6, -⟩ := Cond.codeWith_spec h
  cases Option.some.inj (hn9.symm.trans B.named)
  cases Option.some.inj (h1.symm.trans B.method)
  cases Option.some.inj (h2.symm.trans (Stand.of_body B).code)
  rw [← h6, table_eq]
end Bodies
end VXA
/-! ===== END ===== -/
/-! ===== BEGIN a static call of a method with an exception table ===== -/
section VXS
variable {p : Program} {l : Launch} {e : Env} {R : Room} {s : State} {m : MethodId} {args : Array Value} {below : List Frame} {meth : Method} {c : Code} {T : State} {H : Heap} {locs : List Loc} {cells slots : Nat}
abbrev vx_CSW (R : Room) (s : State) (args : Array Value) (own : String) (index : Nat) (y : MethodName) (bytes : ByteArray) (maxL : Nat) (ret : Option FieldType) (hh : List (Nat × Nat × Nat × Nat)) (ws : List Cond) (rm : Room) (mc ms n : Nat) : Prop :=
  (rm.cells = mc ∧ rm.slots = ms ∧ rm.frames + 1 ≤ R.frames ∧ 8 + (maxL + 11) + rm.locals ≤ R.locals ∧ (∀ w ∈ ws, ∀ (a' : Array Value) (U : State), s.WarmedH U.vm → w.before a' U = true) ∧ Cond.codeWith y bytes maxL ret hh ∈ ws) ∧
  (Cond.codeWith y bytes maxL ret hh).before args s = true ∧ (Cond.initialized y.cls).before args s = true ∧ (y.cls ≠ "java/lang/invoke/MethodHandle" ∧ y.cls ≠ "java/lang/invoke/VarHandle") ∧
  (∀ sig, parseMethodDescriptor y.desc = some sig → n = sig.parameters.length) ∧ (Cond.methodLink own index y).before args s = true ∧ (Cond.static y).before args s = true
theorem vx_cwSW {own : String} {index maxL mc ms : Nat} {y : MethodName} {bytes : ByteArray} {ret : Option FieldType} {hh : List (Nat × Nat × Nat × Nat)} {Ts ws ws' : List Cond} {rm : Room} (n : Nat) (ht : ∀ w ∈ Ts, w.before args s = true) (hT : GoodIn Ts (va_wsS own index y ws)) (hw : ws = Cond.codeWith y bytes maxL ret hh :: ws') (hrc : rm.cells = mc) (hrs : rm.slots = ms)
    (hd : y.cls ≠ "java/lang/invoke/MethodHandle" ∧ y.cls ≠ "java/lang/invoke/VarHandle" ∧ (parseMethodDescriptor y.desc).map (fun d => d.parameters.length) = some n) (hR : rm.frames + 1 ≤ R.frames ∧ 8 + (maxL + 11) + rm.locals ≤ R.locals) :
    vx_CSW R s args own index y bytes maxL ret hh ws rm mc ms n := by
  have ok : ∀ w ∈ va_wsS own index y ws, w.before args s = true := fun w h => ht w (hT w h).1
  have hG : GoodIn Ts ws := fun w h => hT w (by unfold va_wsS; exact List.mem_append_right _ h)
  have hc : Cond.codeWith y bytes maxL ret hh ∈ ws := by rw [hw]; exact List.mem_cons_self
  refine ⟨⟨hrc, hrs, hR.1, hR.2, pay_in ht hG, hc⟩, ht _ (hG _ hc).1, ok _ (by simp [va_wsS]), ⟨hd.1, hd.2.1⟩, fun sig h => ?_, ok _ (by simp [va_wsS]), ok _ (by simp [va_wsS])⟩
  have h2 := hd.2.2
  rw [h] at h2
  exact (Option.some.inj h2).symm
theorem vx_callSW (X : Stand p l e R s m args below meth c T locs cells slots) (hexec : p.tables.exec = Jvm.exec) {own : String} {index : Nat} {y : MethodName} {bytes : ByteArray} {maxL : Nat} {ret : Option FieldType} {hh : List (Nat × Nat × Nat × Nat)}
    (hown : s.vm.findClass own = some m.cls) (hlink : (Cond.methodLink own index y).before args s = true) (hstat : (Cond.static y).before args s = true) (hinit : (Cond.initialized y.cls).before args s = true)
    (hcode : (Cond.codeWith y bytes maxL ret hh).before args s = true) (hy : y.cls ≠ "java/lang/invoke/MethodHandle" ∧ y.cls ≠ "java/lang/invoke/VarHandle")
    {W9 : Nat} {Pre : Pt → Array Value → Prop} {Post : Pt → Array Value → Option Value → Pt → Prop} (hK : Back l R p e below s args y 3 W9 Pre Post)
    {g : JFrame} (hg : g.method = m) (hsize : g.locals.size = c.maxLocals) {argsL rest : List Value} (hlen : ∀ sig, parseMethodDescriptor y.desc = some sig → argsL.length = sig.parameters.length)
    (hstack : g.stack = argsL.reverse ++ rest) (hW : 2 * g.monitorRoom + (rest.map fun v => v.category).sum ≤ W9) (hdg : decode c.code g.pc = .ok (.invokestatic index, 3))
    (hpre : ∀ vm₁, s.WarmedH vm₁ → Pre ⟨T.setVm vm₁, locs, cells, slots⟩ argsL.toArray) :
    ∃ (v : Option Value) (vm₁ : Vm) (B : Pt), s.WarmedH vm₁ ∧ Stand p l e R s m args below meth c B.U B.locs B.cells B.slots ∧ Post ⟨T.setVm vm₁, locs, cells, slots⟩ argsL.toArray v B ∧
      ∀ target, Steps p.tables e below (B.U.setTop { g with pc := g.pc + 3, stack := v.toList ++ rest }) target → Steps p.tables e below (T.setTop g) target := by
  obtain ⟨mk, methM, cM, hnamed, hmethM, -, -, -, -, -, -, hsigM⟩ := Cond.codeWith_spec hcode
  have hstatic : methM.isStatic = true := Cond.static_spec hnamed hmethM hstat
  obtain ⟨kP, hkP, -⟩ := className_of_methodNamed hnamed
  have hinitP : kP.init = .initialized := Cond.initialized_spec (findClass_of_methodNamed hnamed) hkP hinit
  obtain ⟨vm₁, X₁, hstep₁⟩ := X.invokestatic hexec hown hlink hnamed hmethM hstatic hkP hinitP hy (g := g) hg (argsL := argsL) (rest := rest) (hlen _ hsigM) hstack hdg
  obtain ⟨v, B, X', hpost, hsteps⟩ := hK m meth c ⟨T.setVm vm₁, locs, cells, slots⟩ { g with stack := rest } (.invokestatic index) mk argsL.toArray X₁ hg hsize hdg hW (X₁.named hnamed) (hpre vm₁ X₁.warmed)
  exact ⟨v, vm₁, B, X₁.warmed, X', hpost, fun target h => hstep₁ _ fun acts => by rw [doInvoke_state]; exact hsteps.trans h⟩
theorem vx_runSW {y : MethodName} {bytes cc : ByteArray} {maxL nL mc ms n index : Nat} {ret : Option FieldType} {hh : List (Nat × Nat × Nat × Nat)} {ws : List Cond} {rm : Room} {Pc : Array Value → State → Prop} {Qc : Array Value → State → Outcome → State → Prop} {free : Addr → Prop} {Ts : List Cond} {own : String} {As rest : List Value} {g : JFrame}
    (S : CallFix p m c cc nL s args Ts own) (hM : Met l y ws rm Pc Qc mc ms free) (cw : vx_CSW R s args own index y bytes maxL ret hh ws rm mc ms n) (hp : PreS s H Pc As)
    (hg : g.method = m) (hn : As.length = n) (hsize : g.locals.size = nL) (hstack : g.stack = As.reverse ++ rest) (hW : 2 * g.monitorRoom + (rest.map fun v => v.category).sum ≤ 8) (hdg : decode cc g.pc = .ok (.invokestatic index, 3)) (hf : cells + mc ≤ R.cells ∧ slots + ms ≤ R.slots) :
    va_Run p l e R s m args below meth c H locs cells slots mc ms g rest (Qc As.toArray) (free) := by
  obtain ⟨⟨hrc, hrs, hfr, hlo, hws, hcw⟩, hcode, hini, hy, hlen, hl, hstt⟩ := cw
  have hK : Back l R p e below s args y 3 8 (PreOf R mc ms Pc) (PostOf Qc mc ms free) := va_backW (hh := hh) (bytes := bytes) (maxL := maxL) (ret := ret) hM hp.1 hrc hrs hfr hlo hws hcw (fun a' U hW => word_at hW (Or.inl (by first | rfl | simp [Cond.onTables, Cond.keeps, Cond.steady])) hini)
  obtain ⟨hx, hb, hml, ho, -⟩ := S
  intro T hT X
  obtain ⟨v, vm₁, ⟨U', l2, c2, s2⟩, hW₁, X', ⟨g', mk, t, L, e1, e2, hq, h1, hL, h2, h3⟩, st⟩ := vx_callSW X hx (hh := hh) (bytes := bytes) (maxL := maxL) (ret := ret) ho hl hstt hini hcode hy hK hg (hsize.trans hml.symm) (argsL := As) (rest := rest) (fun sig h => hn.trans (hlen sig h)) hstack hW (by rw [hb]; exact hdg)
    (fun vm₁ hW₁ => ⟨hf.1, hf.2, hp.2 (T.setVm vm₁) hT hW₁⟩)
  dsimp only [Pt.U, Pt.locs, Pt.cells, Pt.slots] at X' e1 e2 h1 h2 h3 st
  subst h1; subst h2; subst h3
  exact ⟨v, (T.setVm vm₁).calling g' mk As.toArray, t, U', L, hT, X', hL, e1, e2, hq, st⟩
/-- not caught here, past rows that name other classes: it goes on to the caller -/
theorem vx_outP {p : Program} {l : Launch} {e : Env} {R : Room} {s : State} {m : MethodId} {args : Array Value} {below : List Frame} {meth : Method} {c : Code} {H : Heap} {locs : List Loc} {cells slots : Nat} {free : Addr → Prop} {ls : Array Slot} {rest : List Value} {Qc : Array Value → State → Outcome → State → Prop} {XC : String → State → State → Prop}
    {pc : Nat} {own E : String} {ce : Cell} {q : Addr} {mc ms : Nat} (hown : s.vm.findClass own = some m.cls) (hlocks : meth.locks = false)
    (hpass : ∀ z ∈ c.exceptionTable.toList, covers z pc = false ∨ (z.catchType ≠ 0 ∧ ∃ nm : String, (Cond.classLink own z.catchType nm).before args s = true ∧ va_Nc E nm s)) (hcell : H[q]? = some ce) (hv : ce.vm = .none) (hcl : s.vm.findClass E = some ce.cls)
    (hx : ∀ t : State, t.heap = H → s.vm.Alike t.vm → XC E s t) (hf : ∀ z ∈ locs, free z.base) (hc : cells ≤ mc) (hs : slots ≤ ms) :
    vx_W p l e R s m args below meth c H locs cells slots (vx_MQ below Qc XC args s mc ms free) (F0 m pc ls rest) q := by
  intro T hT X
  have hpl : e.platform.magicAccessors = ({} : Platform).magicAccessors := by rw [X.admits.platform]
  obtain ⟨vm', hW', X', st⟩ := X.outThrough hlocks q (g := F0 m pc ls rest) rfl rfl rfl (cell := ce) (by rw [hT]; exact hcell) (by rw [hv]; rfl)
    (by obtain ⟨k9, h9, -⟩ := Vm.findClass_spec hcl; exact ⟨k9, h9⟩) (fun z hz => by
      rcases hpass z hz with h | ⟨hz0, nm, hl1, hn1⟩
      · exact Or.inl h
      · obtain ⟨c6, hc6, hcl6⟩ := Cond.classLink_spec hown hl1 e.platform hpl
        obtain ⟨a8, b8, h1, h2, h3⟩ := hn1
        cases Option.some.inj (h1.symm.trans hcl)
        cases Option.some.inj (h2.symm.trans hc6)
        exact Or.inr ⟨hz0, _, hcl6, h3⟩)
  obtain ⟨g₀, hfr⟩ := X'.frames_eq
  have hcell9 : ((T.setVm vm').setFrames (.throwing q :: below)).heap[q]? = some ce := by
    show T.heap[q]? = some ce
    rw [hT]; exact hcell
  have hend : Ended ((T.setVm vm').setFrames (.throwing q :: below)) below (.threw q) := State.frames_setFrames _ (State.cur_lt_of_frames hfr)
  refine ⟨(T.setVm vm').setFrames (.throwing q :: below), ?_, .threw q, X'.here.running, hend, Or.inr ⟨q, rfl, E, ce, locs, hx _ hT (X'.ends _).1.alike, hcell9, hv, hcl, (X'.ends _).1, (X'.ends _).2.mono hc hs, hf⟩⟩
  rw [X.pushThrowing_eq]
  exact st
/-- a thing of a world lies in the heap -/
theorem vx_lt {D : va_G} {cl : List vw_C} {ws : va_W} {H1 : Heap} (h : va_P D cl ws H1) {k : Nat} {q : Nat × va_E} (hk : ws[k]? = some q) : q.1 < H1.size := (h k q hk).lt
end VXS
/-! ===== END ===== -/
/-! ===== BEGIN methods with a table of their own: called by a name, returning or throwing ===== -/
section VXH
/-! vx_backW, vx_callVX, vx_callSX, vx_callVW, vx_runVW, vx_runVX, vx_runSX, vx_ofWH follow the same proofs as their sisters above (Free/Laws.lean, Shelf42/LK1.lean); vx_outP calls Shelf42/NT130.lean (outThrough). -/
section
variable {l : Launch} {R : Room} {p : Program} {e : Env} {below : List Frame} {s : State} {sargs : Array Value} {y : MethodName} {len W9 : Nat}
theorem vx_backW {ws : List Cond} {rm : Room} {Pc : Array Value → State → Prop} {Qc : Array Value → State → Outcome → State → Prop} {XC : String → State → State → Prop} {mc ms : Nat} {free : Addr → Prop} {bytes : ByteArray} {maxL : Nat} {ret : Option FieldType} {hh : List (Nat × Nat × Nat × Nat)}
    (hM : vx_Met l y ws rm Pc Qc XC mc ms free) (hblind : FrameBlind Pc) (hrc : rm.cells = mc) (hrs : rm.slots = ms)
    (hframes : rm.frames + 1 ≤ R.frames) (hlocals : W9 + (maxL + 11) + rm.locals ≤ R.locals)
    (hws : ∀ w ∈ ws, ∀ a' U, s.WarmedH U.vm → w.before a' U = true) (hcode : Cond.codeWith y bytes maxL ret hh ∈ ws) (hinit : ∀ a' U, s.WarmedH U.vm → (Cond.initialized y.cls).before a' U = true) :
    vx_Back l R p e below s sargs y len W9 (PreOf R mc ms Pc) (PostOf Qc mc ms free) (vx_Post XC mc ms free) := by
  intro m meth c A g ig mk a X hg hsize hdg hW hn hp
  have h1 : (headSpec ws rm).pre.before a A.U = true := atoms_intro fun w hw => hws w hw _ _ X.warmed
  have h2 : (Cond.codeWith y bytes maxL ret hh).before a A.U = true := hws _ hcode _ _ X.warmed
  have h3 : (Cond.initialized y.cls).before a A.U = true := hinit _ _ X.warmed
  have h4 : A.cells + (headSpec ws rm).room.cells ≤ R.cells := by rw [show (headSpec ws rm).room.cells = mc from hrc]; exact hp.1
  have h5 : A.slots + (headSpec ws rm).room.slots ≤ R.slots := by rw [show (headSpec ws rm).room.slots = ms from hrs]; exact hp.2.1
  have hPc : Pc a (A.U.calling g mk a) := hblind _ _ _ _ hp.2.2
  obtain ⟨U, Ls, c0, s0⟩ := A
  dsimp only [Pt.U, Pt.locs, Pt.cells, Pt.slots] at h1 h2 h3 h4 h5 X hn hPc ⊢
  obtain ⟨m9, methY, cY, hn9, hmY, hcY, -, hlY, -⟩ := Cond.codeWith_spec h2
  cases Option.some.inj (hn9.symm.trans hn)
  obtain ⟨kY, hkY, -⟩ := className_of_methodNamed hn
  have hinitY : kY.init = .initialized := Cond.initialized_spec (findClass_of_methodNamed hn) hkY h3
  have h : At U g.method c below := by rw [hg]; exact X.here
  have hlocals9 : W9 + (maxL + 11) + (headSpec ws rm).room.locals ≤ R.locals := hlocals
  have happ : (headSpec ws rm).appliesLoose y e.platform (U.calling g mk a) = true :=
    Spec.appliesLoose_calling (g := g) h hdg hn hkY hinitY
      (X.room_calling (g := g) (R' := (headSpec ws rm).room) hsize hmY hcY hframes (by rw [hlY]; omega) h4 h5) h1
  obtain ⟨mid, hmid⟩ := h.above
  have hfr : (U.setTop g).frames = (.java g :: mid) ++ below := by rw [State.frames_setTop' g h.top, hmid]; rfl
  obtain ⟨o, s₂, hsteps, -, hend, hq⟩ := Steps.callFree hM p X.admits X.cas X.clock (acts := []) hfr happ hPc trivial
  have hq' : vx_Q Qc XC mc ms free a (U.calling g mk a) o s₂ := hq
  rw [State.frames_setTop' g h.top] at hend
  obtain ⟨g₀, hg0⟩ := Option.isSome_iff_exists.mp h.top
  obtain ⟨r, hr⟩ := State.topJava?_eq_some.mp hg0
  have hr' : (({ U with heap := s₂.heap, slotsUsed := s₂.slotsUsed } : State).setVm s₂.vm).frames = .java g₀ :: r := hr
  rcases hq' with ⟨hqc, L, hfe, hL⟩ | ⟨q, rfl, E, ce, L, hx, hce, hcv, hcl, hW₂, hsm, hL⟩
  · obtain ⟨⟨v, rfl⟩, hW₂, e2, q2, q3, q4, q5, q6⟩ := id hfe
    have e3 : s₂ = ({ (U.calling g mk a).setFrames s₂.frames with heap := s₂.heap, slotsUsed := s₂.slotsUsed } : State).setVm s₂.vm := by
      have : s₂ = ({ s₂ with vm := (U.calling g mk a).vm } : State).setVm s₂.vm := rfl
      rw [e2] at this
      exact this
    obtain ⟨c₂, i₂, len₂, hc₂, hd₂, hf₂⟩ := hend
    have hW' : U.WarmedH s₂.vm := hW₂
    have hcc : c₂ = c := by
      have h1 : s₂.code? g.method = U.code? g.method := by
        rw [State.code?_eq, State.code?_eq, hW'.alike.method?]
      exact Option.some.inj (hc₂.symm.trans (h1.trans h.code))
    subst hcc
    have hlen : len₂ = len := by rw [hdg] at hd₂; cases hd₂; rfl
    subst hlen
    have hs₂ : s₂ = (({ U with heap := s₂.heap, slotsUsed := s₂.slotsUsed } : State).setVm s₂.vm).setTop { g with pc := g.pc + len₂, stack := v.toList ++ g.stack } := by
      refine e3.trans ?_
      rw [hf₂, State.calling_eq h.top, State.setFrames_setFrames, State.setTop_of_frames _ hr', hr]
      rfl
    have hsame : U.sameButNew ({ U with heap := s₂.heap, slotsUsed := s₂.slotsUsed } : State) L mc ms := by
      refine ⟨?_, q2, q3, q4, q5, q6⟩
      obtain ⟨t, ht, -⟩ := State.frames_cons hr
      show ({ U with heap := s₂.heap, slotsUsed := s₂.slotsUsed } : State) = { U.setFrames U.frames with heap := s₂.heap, slotsUsed := s₂.slotsUsed }
      rw [State.setFrames_self ht]
    subst hg
    refine Or.inl ⟨v, ⟨(({ U with heap := s₂.heap, slotsUsed := s₂.slotsUsed } : State).setVm s₂.vm), Ls ++ L, c0 + mc, s0 + ms⟩,
      ⟨X.admits, X.cas, X.clock, X.frames, X.room, X.hears, X.method, X.code, (X.here.setHeapUsed s₂.heap s₂.slotsUsed).setVm hW'.alike, X.tail, State.WarmedH.trans X.warmed hW', X.limits, X.bytes, X.same.trans (hsame.setVm s.vm)⟩,
      ⟨g, mk, s₂, L, rfl, rfl, hqc, rfl, hL, rfl, rfl⟩, ?_⟩
    show Steps p.tables e below _ ((({ U with heap := s₂.heap, slotsUsed := s₂.slotsUsed } : State).setVm s₂.vm).setTop { g with pc := g.pc + len₂, stack := v.toList ++ g.stack })
    rw [← hs₂]
    exact hsteps
  · obtain ⟨e2, q2, q3, q4, q5, q6⟩ := id hsm
    have e3 : s₂ = ({ (U.calling g mk a).setFrames s₂.frames with heap := s₂.heap, slotsUsed := s₂.slotsUsed } : State).setVm s₂.vm := by
      have : s₂ = ({ s₂ with vm := (U.calling g mk a).vm } : State).setVm s₂.vm := rfl
      rw [e2] at this
      exact this
    have hf₂ : s₂.frames = .throwing q :: .java g :: U.frames.tail := hend
    have hW' : U.WarmedH s₂.vm := hW₂
    have hs₂ : s₂ = ((({ U with heap := s₂.heap, slotsUsed := s₂.slotsUsed } : State).setVm s₂.vm).setTop g).pushFrame (.throwing q) := by
      refine e3.trans ?_
      rw [hf₂, State.calling_eq h.top, State.setFrames_setFrames, State.pushFrame, State.frames_setTop _ hr', State.setTop_of_frames _ hr', State.setFrames_setFrames, hr]
      rfl
    have hsame : U.sameButNew ({ U with heap := s₂.heap, slotsUsed := s₂.slotsUsed } : State) L mc ms := by
      refine ⟨?_, q2, q3, q4, q5, q6⟩
      obtain ⟨t, ht, -⟩ := State.frames_cons hr
      show ({ U with heap := s₂.heap, slotsUsed := s₂.slotsUsed } : State) = { U.setFrames U.frames with heap := s₂.heap, slotsUsed := s₂.slotsUsed }
      rw [State.setFrames_self ht]
    subst hg
    refine Or.inr ⟨q, ⟨(({ U with heap := s₂.heap, slotsUsed := s₂.slotsUsed } : State).setVm s₂.vm), Ls ++ L, c0 + mc, s0 + ms⟩,
      ⟨X.admits, X.cas, X.clock, X.frames, X.room, X.hears, X.method, X.code, (X.here.setHeapUsed s₂.heap s₂.slotsUsed).setVm hW'.alike, X.tail, State.WarmedH.trans X.warmed hW', X.limits, X.bytes, X.same.trans (hsame.setVm s.vm)⟩,
      ⟨g, mk, s₂, L, E, ce, rfl, rfl, hx, hce, hcv, hcl, rfl, hL, rfl, rfl⟩, ?_⟩
    show Steps p.tables e below _ (((({ U with heap := s₂.heap, slotsUsed := s₂.slotsUsed } : State).setVm s₂.vm).setTop g).pushFrame (.throwing q))
    rw [← hs₂]
    exact hsteps
end
variable {p : Program} {l : Launch} {e : Env} {R : Room} {s : State} {m : MethodId} {args : Array Value} {below : List Frame} {meth : Method} {c : Code} {T : State} {H : Heap} {locs : List Loc} {cells slots : Nat}
theorem vx_callVX (X : Stand p l e R s m args below meth c T locs cells slots) (hexec : p.tables.exec = Jvm.exec) {own C : String} {index : Nat} {y : MethodName} {bytes : ByteArray} {maxL : Nat} {ret : Option FieldType} {hh : List (Nat × Nat × Nat × Nat)}
    (hown : s.vm.findClass own = some m.cls) (hlink : (Cond.methodLink own index y).before args s = true) (hinst : (Cond.instanceMethod y).before args s = true) (hsel : (Cond.selects C y y).before args s = true)
    (hcode : (Cond.codeWith y bytes maxL ret hh).before args s = true) (hy : y.cls ≠ "java/lang/invoke/MethodHandle" ∧ y.cls ≠ "java/lang/invoke/VarHandle")
    {W9 : Nat} {Pre : Pt → Array Value → Prop} {Post : Pt → Array Value → Option Value → Pt → Prop} {PostX : Pt → Array Value → Addr → Pt → Prop} (hK : vx_Back l R p e below s args y 3 W9 Pre Post PostX)
    {b : Addr} {cellB : Cell} (hcell : T.heap[b]? = some cellB) (hobj : cellB.vm.isStatics = false) (hcls : s.vm.findClass C = some cellB.cls)
    {g : JFrame} (hg : g.method = m) (hsize : g.locals.size = c.maxLocals) {argsL rest : List Value} (hlen : ∀ sig, parseMethodDescriptor y.desc = some sig → argsL.length = sig.parameters.length)
    (hstack : g.stack = argsL.reverse ++ .ref b :: rest) (hW : 2 * g.monitorRoom + (rest.map fun v => v.category).sum ≤ W9) (hdg : decode c.code g.pc = .ok (.invokevirtual index, 3))
    (hpre : ∀ vm₁, s.WarmedH vm₁ → Pre ⟨T.setVm vm₁, locs, cells, slots⟩ (Value.ref b :: argsL).toArray) :
    (∃ (v : Option Value) (vm₁ : Vm) (B : Pt), s.WarmedH vm₁ ∧ Stand p l e R s m args below meth c B.U B.locs B.cells B.slots ∧ Post ⟨T.setVm vm₁, locs, cells, slots⟩ (Value.ref b :: argsL).toArray v B ∧
      ∀ target, Steps p.tables e below (B.U.setTop { g with pc := g.pc + 3, stack := v.toList ++ rest }) target → Steps p.tables e below (T.setTop g) target) ∨
    (∃ (q : Addr) (vm₁ : Vm) (B : Pt), s.WarmedH vm₁ ∧ Stand p l e R s m args below meth c B.U B.locs B.cells B.slots ∧ PostX ⟨T.setVm vm₁, locs, cells, slots⟩ (Value.ref b :: argsL).toArray q B ∧
      Steps p.tables e below (T.setTop g) ((B.U.setTop { g with stack := rest }).pushFrame (.throwing q))) := by
  obtain ⟨mk, methM, hnamed, hmethM, hstM, habM⟩ := Cond.instanceMethod_spec hinst
  obtain ⟨m8, methM', cM, hn8, hmethM', -, -, -, -, -, -, hsigM⟩ := Cond.codeWith_spec hcode
  cases Option.some.inj (hn8.symm.trans hnamed)
  cases hmethM.symm.trans hmethM'
  obtain ⟨c2, r2, m2, q1, q2, q3, q4, kP, hkP, hkPi⟩ := Cond.selects_spec hsel
  cases hcls.symm.trans q1
  cases (State.methodFound?_of_named hnamed hy).symm.trans q2
  cases hnamed.symm.trans q3
  have hselP : selectMethod e.platform s.vm cellB.cls mk = .method mk := by rw [Launch.admits_selectMethod X.admits]; exact q4
  obtain ⟨vm₁, X₁, hstep₁⟩ := X.invokevirtual hexec hown hlink hnamed hmethM hstM hkP hkPi hy (a := b) (cell := cellB) hcell
    (fun z h => by rw [h] at hobj; cases hobj) hselP hmethM habM hkP hkPi (g := g) hg (argsL := argsL) (rest := rest) (hlen _ hsigM) hstack hdg
  rcases hK m meth c ⟨T.setVm vm₁, locs, cells, slots⟩ { g with stack := rest } (.invokevirtual index) mk (Value.ref b :: argsL).toArray X₁ hg hsize hdg hW (X₁.named hnamed) (hpre vm₁ X₁.warmed) with ⟨v, B, X', hpost, hsteps⟩ | ⟨q, B, X', hpost, hsteps⟩
  · exact Or.inl ⟨v, vm₁, B, X₁.warmed, X', hpost, fun target h => hstep₁ _ fun acts => by rw [doInvoke_state]; exact hsteps.trans h⟩
  · exact Or.inr ⟨q, vm₁, B, X₁.warmed, X', hpost, hstep₁ _ fun acts => by rw [doInvoke_state]; exact hsteps⟩
theorem vx_callSX (X : Stand p l e R s m args below meth c T locs cells slots) (hexec : p.tables.exec = Jvm.exec) {own : String} {index : Nat} {y : MethodName} {bytes : ByteArray} {maxL : Nat} {ret : Option FieldType} {hh : List (Nat × Nat × Nat × Nat)}
    (hown : s.vm.findClass own = some m.cls) (hlink : (Cond.methodLink own index y).before args s = true) (hstat : (Cond.static y).before args s = true) (hinit : (Cond.initialized y.cls).before args s = true)
    (hcode : (Cond.codeWith y bytes maxL ret hh).before args s = true) (hy : y.cls ≠ "java/lang/invoke/MethodHandle" ∧ y.cls ≠ "java/lang/invoke/VarHandle")
    {W9 : Nat} {Pre : Pt → Array Value → Prop} {Post : Pt → Array Value → Option Value → Pt → Prop} {PostX : Pt → Array Value → Addr → Pt → Prop} (hK : vx_Back l R p e below s args y 3 W9 Pre Post PostX)
    {g : JFrame} (hg : g.method = m) (hsize : g.locals.size = c.maxLocals) {argsL rest : List Value} (hlen : ∀ sig, parseMethodDescriptor y.desc = some sig → argsL.length = sig.parameters.length)
    (hstack : g.stack = argsL.reverse ++ rest) (hW : 2 * g.monitorRoom + (rest.map fun v => v.category).sum ≤ W9) (hdg : decode c.code g.pc = .ok (.invokestatic index, 3))
    (hpre : ∀ vm₁, s.WarmedH vm₁ → Pre ⟨T.setVm vm₁, locs, cells, slots⟩ argsL.toArray) :
    (∃ (v : Option Value) (vm₁ : Vm) (B : Pt), s.WarmedH vm₁ ∧ Stand p l e R s m args below meth c B.U B.locs B.cells B.slots ∧ Post ⟨T.setVm vm₁, locs, cells, slots⟩ argsL.toArray v B ∧
      ∀ target, Steps p.tables e below (B.U.setTop { g with pc := g.pc + 3, stack := v.toList ++ rest }) target → Steps p.tables e below (T.setTop g) target) ∨
    (∃ (q : Addr) (vm₁ : Vm) (B : Pt), s.WarmedH vm₁ ∧ Stand p l e R s m args below meth c B.U B.locs B.cells B.slots ∧ PostX ⟨T.setVm vm₁, locs, cells, slots⟩ argsL.toArray q B ∧
      Steps p.tables e below (T.setTop g) ((B.U.setTop { g with stack := rest }).pushFrame (.throwing q))) := by
  obtain ⟨mk, methM, cM, hnamed, hmethM, -, -, -, -, -, -, hsigM⟩ := Cond.codeWith_spec hcode
  have hstatic : methM.isStatic = true := Cond.static_spec hnamed hmethM hstat
  obtain ⟨kP, hkP, -⟩ := className_of_methodNamed hnamed
  have hinitP : kP.init = .initialized := Cond.initialized_spec (findClass_of_methodNamed hnamed) hkP hinit
  obtain ⟨vm₁, X₁, hstep₁⟩ := X.invokestatic hexec hown hlink hnamed hmethM hstatic hkP hinitP hy (g := g) hg (argsL := argsL) (rest := rest) (hlen _ hsigM) hstack hdg
  rcases hK m meth c ⟨T.setVm vm₁, locs, cells, slots⟩ { g with stack := rest } (.invokestatic index) mk argsL.toArray X₁ hg hsize hdg hW (X₁.named hnamed) (hpre vm₁ X₁.warmed) with ⟨v, B, X', hpost, hsteps⟩ | ⟨q, B, X', hpost, hsteps⟩
  · exact Or.inl ⟨v, vm₁, B, X₁.warmed, X', hpost, fun target h => hstep₁ _ fun acts => by rw [doInvoke_state]; exact hsteps.trans h⟩
  · exact Or.inr ⟨q, vm₁, B, X₁.warmed, X', hpost, hstep₁ _ fun acts => by rw [doInvoke_state]; exact hsteps⟩
theorem vx_callVW (X : Stand p l e R s m args below meth c T locs cells slots) (hexec : p.tables.exec = Jvm.exec) {own C : String} {index : Nat} {y : MethodName} {bytes : ByteArray} {maxL : Nat} {ret : Option FieldType} {hh : List (Nat × Nat × Nat × Nat)}
    (hown : s.vm.findClass own = some m.cls) (hlink : (Cond.methodLink own index y).before args s = true) (hinst : (Cond.instanceMethod y).before args s = true) (hsel : (Cond.selects C y y).before args s = true)
    (hcode : (Cond.codeWith y bytes maxL ret hh).before args s = true) (hy : y.cls ≠ "java/lang/invoke/MethodHandle" ∧ y.cls ≠ "java/lang/invoke/VarHandle")
    {W9 : Nat} {Pre : Pt → Array Value → Prop} {Post : Pt → Array Value → Option Value → Pt → Prop} (hK : Back l R p e below s args y 3 W9 Pre Post)
    {b : Addr} {cellB : Cell} (hcell : T.heap[b]? = some cellB) (hobj : cellB.vm.isStatics = false) (hcls : s.vm.findClass C = some cellB.cls)
    {g : JFrame} (hg : g.method = m) (hsize : g.locals.size = c.maxLocals) {argsL rest : List Value} (hlen : ∀ sig, parseMethodDescriptor y.desc = some sig → argsL.length = sig.parameters.length)
    (hstack : g.stack = argsL.reverse ++ .ref b :: rest) (hW : 2 * g.monitorRoom + (rest.map fun v => v.category).sum ≤ W9) (hdg : decode c.code g.pc = .ok (.invokevirtual index, 3))
    (hpre : ∀ vm₁, s.WarmedH vm₁ → Pre ⟨T.setVm vm₁, locs, cells, slots⟩ (Value.ref b :: argsL).toArray) :
    ∃ (v : Option Value) (vm₁ : Vm) (B : Pt), s.WarmedH vm₁ ∧ Stand p l e R s m args below meth c B.U B.locs B.cells B.slots ∧ Post ⟨T.setVm vm₁, locs, cells, slots⟩ (Value.ref b :: argsL).toArray v B ∧
      ∀ target, Steps p.tables e below (B.U.setTop { g with pc := g.pc + 3, stack := v.toList ++ rest }) target → Steps p.tables e below (T.setTop g) target := by
  obtain ⟨mk, methM, hnamed, hmethM, hstM, habM⟩ := Cond.instanceMethod_spec hinst
  obtain ⟨m8, methM', cM, hn8, hmethM', -, -, -, -, -, -, hsigM⟩ := Cond.codeWith_spec hcode
  cases Option.some.inj (hn8.symm.trans hnamed)
  cases hmethM.symm.trans hmethM'
  obtain ⟨c2, r2, m2, q1, q2, q3, q4, kP, hkP, hkPi⟩ := Cond.selects_spec hsel
  cases hcls.symm.trans q1
  cases (State.methodFound?_of_named hnamed hy).symm.trans q2
  cases hnamed.symm.trans q3
  have hselP : selectMethod e.platform s.vm cellB.cls mk = .method mk := by rw [Launch.admits_selectMethod X.admits]; exact q4
  obtain ⟨vm₁, X₁, hstep₁⟩ := X.invokevirtual hexec hown hlink hnamed hmethM hstM hkP hkPi hy (a := b) (cell := cellB) hcell
    (fun z h => by rw [h] at hobj; cases hobj) hselP hmethM habM hkP hkPi (g := g) hg (argsL := argsL) (rest := rest) (hlen _ hsigM) hstack hdg
  obtain ⟨v, B, X', hpost, hsteps⟩ := hK m meth c ⟨T.setVm vm₁, locs, cells, slots⟩ { g with stack := rest } (.invokevirtual index) mk (Value.ref b :: argsL).toArray X₁ hg hsize hdg hW (X₁.named hnamed) (hpre vm₁ X₁.warmed)
  exact ⟨v, vm₁, B, X₁.warmed, X', hpost, fun target h => hstep₁ _ fun acts => by rw [doInvoke_state]; exact hsteps.trans h⟩
abbrev vx_CVW (R : Room) (s : State) (args : Array Value) (own C : String) (index : Nat) (y : MethodName) (bytes : ByteArray) (maxL : Nat) (ret : Option FieldType) (hh : List (Nat × Nat × Nat × Nat)) (ws : List Cond) (rm : Room) (mc ms n : Nat) : Prop :=
  (rm.cells = mc ∧ rm.slots = ms ∧ rm.frames + 1 ≤ R.frames ∧ 8 + (maxL + 11) + rm.locals ≤ R.locals ∧ (∀ w ∈ ws, ∀ (a' : Array Value) (U : State), s.WarmedH U.vm → w.before a' U = true) ∧ Cond.codeWith y bytes maxL ret hh ∈ ws) ∧
  (Cond.codeWith y bytes maxL ret hh).before args s = true ∧ (Cond.initialized y.cls).before args s = true ∧ (y.cls ≠ "java/lang/invoke/MethodHandle" ∧ y.cls ≠ "java/lang/invoke/VarHandle") ∧
  (∀ sig, parseMethodDescriptor y.desc = some sig → n = sig.parameters.length) ∧ (Cond.methodLink own index y).before args s = true ∧ (Cond.instanceMethod y).before args s = true ∧ (Cond.selects C y y).before args s = true
theorem vx_cwVW {own C : String} {index maxL mc ms : Nat} {y : MethodName} {bytes : ByteArray} {ret : Option FieldType} {hh : List (Nat × Nat × Nat × Nat)} {Ts ws ws' : List Cond} {rm : Room} (n : Nat) (ht : ∀ w ∈ Ts, w.before args s = true) (hT : GoodIn Ts (wsV own index C y ws)) (hw : ws = Cond.codeWith y bytes maxL ret hh :: ws') (hrc : rm.cells = mc) (hrs : rm.slots = ms)
    (hd : y.cls = C ∧ y.cls ≠ "java/lang/invoke/MethodHandle" ∧ y.cls ≠ "java/lang/invoke/VarHandle" ∧ (parseMethodDescriptor y.desc).map (fun d => d.parameters.length) = some n) (hR : rm.frames + 1 ≤ R.frames ∧ 8 + (maxL + 11) + rm.locals ≤ R.locals) :
    vx_CVW R s args own C index y bytes maxL ret hh ws rm mc ms n := by
  obtain ⟨hC, hd⟩ := hd
  subst hC
  have ok : ∀ w ∈ wsV own index y.cls y ws, w.before args s = true := fun w h => ht w (hT w h).1
  have hG : GoodIn Ts ws := fun w h => hT w (by unfold wsV; exact List.mem_append_right _ h)
  have hc : Cond.codeWith y bytes maxL ret hh ∈ ws := by rw [hw]; exact List.mem_cons_self
  refine ⟨⟨hrc, hrs, hR.1, hR.2, pay_in ht hG, hc⟩, ht _ (hG _ hc).1, ok _ (by simp [wsV]), ⟨hd.1, hd.2.1⟩, fun sig h => ?_, ok _ (by simp [wsV]), ok _ (by simp [wsV]), ok _ (by simp [wsV])⟩
  have h2 := hd.2.2
  rw [h] at h2
  exact (Option.some.inj h2).symm
theorem vx_runVW {y : MethodName} {bytes cc : ByteArray} {maxL nL mc ms n index : Nat} {ret : Option FieldType} {hh : List (Nat × Nat × Nat × Nat)} {ws : List Cond} {rm : Room} {Pc : Array Value → State → Prop} {Qc : Array Value → State → Outcome → State → Prop} {free : Addr → Prop} {Ts : List Cond} {own C : String} {b : Addr} {As rest : List Value} {g : JFrame}
    (S : CallFix p m c cc nL s args Ts own) (hM : Met l y ws rm Pc Qc mc ms free) (cw : vx_CVW R s args own C index y bytes maxL ret hh ws rm mc ms n) (hp : PreV s H C b Pc As)
    (hg : g.method = m) (hn : As.length = n) (hsize : g.locals.size = nL) (hstack : g.stack = As.reverse ++ .ref b :: rest) (hW : 2 * g.monitorRoom + (rest.map fun v => v.category).sum ≤ 8) (hdg : decode cc g.pc = .ok (.invokevirtual index, 3)) (hf : cells + mc ≤ R.cells ∧ slots + ms ≤ R.slots) :
    va_Run p l e R s m args below meth c H locs cells slots mc ms g rest (Qc (Value.ref b :: As).toArray) free := by
  obtain ⟨⟨hrc, hrs, hfr, hlo, hws, hcw⟩, hcode, hini, hy, hlen, hl, hin, hse⟩ := cw
  have hK : Back l R p e below s args y 3 8 (PreOf R mc ms Pc) (PostOf Qc mc ms free) := va_backW (hh := hh) (bytes := bytes) (maxL := maxL) (ret := ret) hM hp.1 hrc hrs hfr hlo hws hcw (fun a' U hW => word_at hW (Or.inl (by first | rfl | simp [Cond.onTables, Cond.keeps, Cond.steady])) hini)
  obtain ⟨hx, hb, hml, ho, -⟩ := S
  obtain ⟨-, ⟨cellB, hcB, hoB, hclB⟩, hPc⟩ := hp
  intro T hT X
  obtain ⟨v, vm₁, ⟨U', l2, c2, s2⟩, hW₁, X', ⟨g', mk, t, L, e1, e2, hq, h1, hL, h2, h3⟩, st⟩ := vx_callVW X hx (C := C) (hh := hh) (bytes := bytes) (maxL := maxL) (ret := ret) ho hl hin hse hcode hy hK (by rw [hT]; exact hcB) hoB hclB hg (hsize.trans hml.symm) (argsL := As) (rest := rest) (fun sig h => hn.trans (hlen sig h)) hstack hW (by rw [hb]; exact hdg)
    (fun vm₁ hW₁ => ⟨hf.1, hf.2, hPc (T.setVm vm₁) hT hW₁⟩)
  dsimp only [Pt.U, Pt.locs, Pt.cells, Pt.slots] at X' e1 e2 h1 h2 h3 st
  subst h1; subst h2; subst h3
  exact ⟨v, (T.setVm vm₁).calling g' mk (Value.ref b :: As).toArray, t, U', L, hT, X', hL, e1, e2, hq, st⟩
section
variable {y : MethodName} {bytes cc : ByteArray} {maxL nL mc ms n index : Nat} {ret : Option FieldType} {ws : List Cond} {rm : Room} {Pc : Array Value → State → Prop} {Qc : Array Value → State → Outcome → State → Prop} {XC : String → State → State → Prop} {free : Addr → Prop} {Ts : List Cond} {own C : String} {b : Addr} {As rest : List Value} {g : JFrame}
theorem vx_runVX {hh : List (Nat × Nat × Nat × Nat)} (S : CallFix p m c cc nL s args Ts own) (hM : vx_Met l y ws rm Pc Qc XC mc ms free) (cw : vx_CVW R s args own C index y bytes maxL ret hh ws rm mc ms n) (hp : PreV s H C b Pc As)
    (hg : g.method = m) (hn : As.length = n) (hsize : g.locals.size = nL) (hstack : g.stack = As.reverse ++ .ref b :: rest) (hW : 2 * g.monitorRoom + (rest.map fun v => v.category).sum ≤ 8) (hdg : decode cc g.pc = .ok (.invokevirtual index, 3)) (hf : cells + mc ≤ R.cells ∧ slots + ms ≤ R.slots) :
    vx_Run p l e R s m args below meth c H locs cells slots mc ms g rest (Qc (Value.ref b :: As).toArray) XC free := by
  obtain ⟨⟨hrc, hrs, hfr, hlo, hws, hcw⟩, hcode, hini, hy, hlen, hl, hin, hse⟩ := cw
  have hK : vx_Back l R p e below s args y 3 8 (PreOf R mc ms Pc) (PostOf Qc mc ms free) (vx_Post XC mc ms free) := vx_backW (hh := hh) (bytes := bytes) (maxL := maxL) (ret := ret) hM hp.1 hrc hrs hfr hlo hws hcw (fun a' U hW => word_at hW (Or.inl (by first | rfl | simp [Cond.onTables, Cond.keeps, Cond.steady])) hini)
  obtain ⟨hx, hb, hml, ho, -⟩ := S
  obtain ⟨-, ⟨cellB, hcB, hoB, hclB⟩, hPc⟩ := hp
  intro T hT X
  rcases vx_callVX X hx (C := C) (hh := hh) (bytes := bytes) (maxL := maxL) (ret := ret) ho hl hin hse hcode hy hK (by rw [hT]; exact hcB) hoB hclB hg (hsize.trans hml.symm) (argsL := As) (rest := rest) (fun sig h => hn.trans (hlen sig h)) hstack hW (by rw [hb]; exact hdg)
    (fun vm₁ hW₁ => ⟨hf.1, hf.2, hPc (T.setVm vm₁) hT hW₁⟩) with ⟨v, vm₁, ⟨U', l2, c2, s2⟩, hW₁, X', ⟨g', mk, t, L, e1, e2, hq, h1, hL, h2, h3⟩, st⟩ | ⟨q, vm₁, ⟨U', l2, c2, s2⟩, hW₁, X', ⟨g', mk, t, L, E, ce, e1, e2, hq, hce, hcv, hcl, h1, hL, h2, h3⟩, st⟩
  · dsimp only [Pt.U, Pt.locs, Pt.cells, Pt.slots] at X' e1 e2 h1 h2 h3 st
    subst h1; subst h2; subst h3
    exact Or.inl ⟨v, (T.setVm vm₁).calling g' mk (Value.ref b :: As).toArray, t, U', L, hT, X', hL, e1, e2, hq, st⟩
  · dsimp only [Pt.U, Pt.locs, Pt.cells, Pt.slots] at X' e1 e2 h1 h2 h3 st hcl
    subst h1; subst h2; subst h3
    exact Or.inr ⟨q, (T.setVm vm₁).calling g' mk (Value.ref b :: As).toArray, t, U', L, E, ce, hT, X', hL, e1, e2, hq, hce, hcv, vx_cls hW₁ hcl, st⟩
theorem vx_runSX {hh : List (Nat × Nat × Nat × Nat)} (S : CallFix p m c cc nL s args Ts own) (hM : vx_Met l y ws rm Pc Qc XC mc ms free) (cw : vx_CSW R s args own index y bytes maxL ret hh ws rm mc ms n) (hp : PreS s H Pc As)
    (hg : g.method = m) (hn : As.length = n) (hsize : g.locals.size = nL) (hstack : g.stack = As.reverse ++ rest) (hW : 2 * g.monitorRoom + (rest.map fun v => v.category).sum ≤ 8) (hdg : decode cc g.pc = .ok (.invokestatic index, 3)) (hf : cells + mc ≤ R.cells ∧ slots + ms ≤ R.slots) :
    vx_Run p l e R s m args below meth c H locs cells slots mc ms g rest (Qc As.toArray) XC free := by
  obtain ⟨⟨hrc, hrs, hfr, hlo, hws, hcw⟩, hcode, hini, hy, hlen, hl, hstt⟩ := cw
  have hK : vx_Back l R p e below s args y 3 8 (PreOf R mc ms Pc) (PostOf Qc mc ms free) (vx_Post XC mc ms free) := vx_backW (hh := hh) (bytes := bytes) (maxL := maxL) (ret := ret) hM hp.1 hrc hrs hfr hlo hws hcw (fun a' U hW => word_at hW (Or.inl (by first | rfl | simp [Cond.onTables, Cond.keeps, Cond.steady])) hini)
  obtain ⟨hx, hb, hml, ho, -⟩ := S
  intro T hT X
  rcases vx_callSX X hx (hh := hh) (bytes := bytes) (maxL := maxL) (ret := ret) ho hl hstt hini hcode hy hK hg (hsize.trans hml.symm) (argsL := As) (rest := rest) (fun sig h => hn.trans (hlen sig h)) hstack hW (by rw [hb]; exact hdg)
    (fun vm₁ hW₁ => ⟨hf.1, hf.2, hp.2 (T.setVm vm₁) hT hW₁⟩) with ⟨v, vm₁, ⟨U', l2, c2, s2⟩, hW₁, X', ⟨g', mk, t, L, e1, e2, hq, h1, hL, h2, h3⟩, st⟩ | ⟨q, vm₁, ⟨U', l2, c2, s2⟩, hW₁, X', ⟨g', mk, t, L, E, ce, e1, e2, hq, hce, hcv, hcl, h1, hL, h2, h3⟩, st⟩
  · dsimp only [Pt.U, Pt.locs, Pt.cells, Pt.slots] at X' e1 e2 h1 h2 h3 st
    subst h1; subst h2; subst h3
    exact Or.inl ⟨v, (T.setVm vm₁).calling g' mk As.toArray, t, U', L, hT, X', hL, e1, e2, hq, st⟩
  · dsimp only [Pt.U, Pt.locs, Pt.cells, Pt.slots] at X' e1 e2 h1 h2 h3 st hcl
    subst h1; subst h2; subst h3
    exact Or.inr ⟨q, (T.setVm vm₁).calling g' mk As.toArray, t, U', L, E, ce, hT, X', hL, e1, e2, hq, hce, hcv, vx_cls hW₁ hcl, st⟩
end
end VXH
theorem vx_ofWH {l : Launch} {y : MethodName} {ws ws' : List Cond} {rm : Room} {Pc : Array Value → State → Prop} {Qc : Array Value → State → Outcome → State → Prop} {XC : String → State → State → Prop} {mc ms : Nat} {free : Addr → Prop} {cc : ByteArray} {maxL : Nat} {ret : Option FieldType} {hh : List (Nat × Nat × Nat × Nat)}
    (hy : plainName y.cls = true) (hw : ws = Cond.codeWith y cc maxL ret hh :: ws')
    (body : ∀ p e s m args below meth c s₁, BodyLoose p l y (headSpec ws rm) cc maxL ret e s m args below meth c s₁ → c.maxLocals = maxL → Pc args s →
      W p l e (headSpec ws rm).room s m args below meth c s.heap [] 0 0 (vx_MQ below Qc XC args s mc ms free) (entryFrame m args maxL)) : vx_Met l y ws rm Pc Qc XC mc ms free := by
  refine MetFree.of_bodyS (code := cc) (maxLocals := maxL) (ret := ret) hy ?_ ?_
  · intro args s m h hn
    obtain ⟨m9, meth, c, hn9, h1, h2, h3, h4, -, h5, h6, -⟩ := Cond.codeWith_spec (atoms_spec (ws := ws) h _ (by rw [hw]; exact List.mem_cons_self))
    cases hn.symm.trans hn9
    exact ⟨meth, c, h1, h2, h3, h4, h5, h6⟩
  · intro p e s m args below meth c s₁ B hml hP _
    have hh0 : s₁.heap = s.heap := by rw [B.state]; rfl
    obtain ⟨t, a1, o, b1, b2, b3⟩ := body p e s m args below meth c s₁ B hml hP s₁ hh0 (Stand.of_body B)
    exact ⟨t, o, a1, b1, b2, b3⟩
/-! ===== END ===== -/
end
section
/-! ===== BEGIN printed: names, fields, word lists, decode rows ===== -/
def RX0 : String := "DrumRope$Order"
def TX0 : u_T := fun k => match k with
  | 0 => ("DrumRope$Order", "product", "I", false)
  | 1 => ("DrumRope$Order", "quantity", "I", false)
  | 2 => ("DrumRope$Order", "due", "I", false)
  | 3 => ("DrumRope$Order", "drumWork", "I", false)
  | 4 => ("DrumRope$Order", "isExpedited", "Z", false)
  | 5 => ("DrumRope$Order", "state", "I", false)
  | 6 => ("DrumRope$Order", "step", "I", false)
  | 7 => ("DrumRope$Order", "remaining", "I", false)
  | 8 => ("DrumRope$Order", "arrivedAt", "I", false)
  | 9 => ("DrumRope$Order", "releasedAt", "I", false)
  | 10 => ("DrumRope$Order", "keptReleaseTime", "I", false)
  | 11 => ("DrumRope$Order", "drumBegunAt", "I", false)
  | 12 => ("DrumRope$Order", "finishedAt", "I", false)
  | _ => ("DrumRope$Order", "firstRed", "I", false)
def tyX0 : Nat → FieldType := fun k => match k with
  | 0 => .int
  | 1 => .int
  | 2 => .int
  | 3 => .int
  | 4 => .boolean
  | 5 => .int
  | 6 => .int
  | 7 => .int
  | 8 => .int
  | 9 => .int
  | 10 => .int
  | 11 => .int
  | 12 => .int
  | _ => .int
theorem nmX0 : ∀ a, a < 14 → ∀ b, b < 14 → a ≠ b → (TX0 a).2.1 ≠ (TX0 b).2.1 := by decide +kernel
theorem tyX0_ok : ∀ k, k < 14 → parseFieldDescriptor (TX0 k).2.2.1 = some (tyX0 k) := by decide +kernel
abbrev cX0_init : ByteArray := prog_2_method_1_code
def yX0_init : MethodName := ⟨RX0, "<init>", "()V"⟩
abbrev cX0_clear : ByteArray := prog_2_method_2_code
def yX0_clear : MethodName := ⟨RX0, "clear", "()V"⟩
abbrev cX0_copyFrom : ByteArray := prog_2_method_3_code
def yX0_copyFrom : MethodName := ⟨RX0, "copyFrom", "(LDrumRope$Order;)V"⟩
abbrev cX0_isOpen : ByteArray := prog_2_method_4_code
def yX0_isOpen : MethodName := ⟨RX0, "isOpen", "()Z"⟩
abbrev cX0_latenessAt : ByteArray := prog_2_method_5_code
def yX0_latenessAt : MethodName := ⟨RX0, "latenessAt", "(I)I"⟩
abbrev cX0_flowUntil : ByteArray := prog_2_method_6_code
def yX0_flowUntil : MethodName := ⟨RX0, "flowUntil", "(I)I"⟩
def RX1 : String := "DrumRope$Product"
def TX1 : u_T := fun k => match k with
  | 0 => ("DrumRope$Product", "station", "[I", true)
  | 1 => ("DrumRope$Product", "time", "[I", true)
  | 2 => ("DrumRope$Product", "steps", "I", false)
  | _ => ("DrumRope$Product", "drumStep", "I", false)
def tyX1 : Nat → FieldType := fun k => match k with
  | 0 => .array .int
  | 1 => .array .int
  | 2 => .int
  | _ => .int
theorem nmX1 : ∀ a, a < 4 → ∀ b, b < 4 → a ≠ b → (TX1 a).2.1 ≠ (TX1 b).2.1 := by decide +kernel
theorem tyX1_ok : ∀ k, k < 4 → parseFieldDescriptor (TX1 k).2.2.1 = some (tyX1 k) := by decide +kernel
abbrev cX1_init : ByteArray := prog_3_method_1_code
def yX1_init : MethodName := ⟨RX1, "<init>", "()V"⟩
abbrev cX1_clear : ByteArray := prog_3_method_2_code
def yX1_clear : MethodName := ⟨RX1, "clear", "()V"⟩
abbrev cX1_copyFrom : ByteArray := prog_3_method_3_code
def yX1_copyFrom : MethodName := ⟨RX1, "copyFrom", "(LDrumRope$Product;)V"⟩
abbrev cX1_timeOfPiece : ByteArray := prog_3_method_4_code
def yX1_timeOfPiece : MethodName := ⟨RX1, "timeOfPiece", "()I"⟩
abbrev cX1_drumTime : ByteArray := prog_3_method_5_code
def yX1_drumTime : MethodName := ⟨RX1, "drumTime", "()I"⟩
def RX2 : String := "DrumRope$Reader"
def TX2 : u_T := fun k => match k with
  | 0 => ("DrumRope$Reader", "text", "[I", true)
  | 1 => ("DrumRope$Reader", "length", "I", false)
  | 2 => ("DrumRope$Reader", "error", "I", false)
  | 3 => ("DrumRope$Reader", "errorPosition", "I", false)
  | 4 => ("DrumRope$Reader", "errorStatement", "I", false)
  | 5 => ("DrumRope$Reader", "at", "I", false)
  | 6 => ("DrumRope$Reader", "statement", "I", false)
  | _ => ("DrumRope$Reader", "statementOfOrder", "[I", true)
def tyX2 : Nat → FieldType := fun k => match k with
  | 0 => .array .int
  | 1 => .int
  | 2 => .int
  | 3 => .int
  | 4 => .int
  | 5 => .int
  | 6 => .int
  | _ => .array .int
theorem nmX2 : ∀ a, a < 8 → ∀ b, b < 8 → a ≠ b → (TX2 a).2.1 ≠ (TX2 b).2.1 := by decide +kernel
theorem tyX2_ok : ∀ k, k < 8 → parseFieldDescriptor (TX2 k).2.2.1 = some (tyX2 k) := by decide +kernel
abbrev cX2_init : ByteArray := prog_4_method_1_code
def yX2_init : MethodName := ⟨RX2, "<init>", "()V"⟩
abbrev cX2_append : ByteArray := prog_4_method_2_code
def yX2_append : MethodName := ⟨RX2, "append", "(I)I"⟩
abbrev cX2_readInto : ByteArray := prog_4_method_3_code
def yX2_readInto : MethodName := ⟨RX2, "readInto", "(LDrumRope$Shop;)V"⟩
abbrev cX2_rewind : ByteArray := prog_4_method_4_code
def yX2_rewind : MethodName := ⟨RX2, "rewind", "()V"⟩
abbrev cX2_readStatement : ByteArray := prog_4_method_5_code
def yX2_readStatement : MethodName := ⟨RX2, "readStatement", "(LDrumRope$Shop;)V"⟩
abbrev cX2_readStations : ByteArray := prog_4_method_6_code
def yX2_readStations : MethodName := ⟨RX2, "readStations", "(LDrumRope$Shop;)V"⟩
abbrev cX2_readSetting : ByteArray := prog_4_method_7_code
def yX2_readSetting : MethodName := ⟨RX2, "readSetting", "(LDrumRope$Shop;I)V"⟩
abbrev cX2_readSetup : ByteArray := prog_4_method_8_code
def yX2_readSetup : MethodName := ⟨RX2, "readSetup", "(LDrumRope$Shop;)V"⟩
abbrev cX2_readProduct : ByteArray := prog_4_method_9_code
def yX2_readProduct : MethodName := ⟨RX2, "readProduct", "(LDrumRope$Shop;I)V"⟩
abbrev cX2_readStep : ByteArray := prog_4_method_10_code
def yX2_readStep : MethodName := ⟨RX2, "readStep", "(LDrumRope$Shop;LDrumRope$Product;)V"⟩
abbrev cX2_readOrder : ByteArray := prog_4_method_11_code
def yX2_readOrder : MethodName := ⟨RX2, "readOrder", "(LDrumRope$Shop;I)V"⟩
abbrev cX2_checkDrumWorks : ByteArray := prog_4_method_12_code
def yX2_checkDrumWorks : MethodName := ⟨RX2, "checkDrumWorks", "(LDrumRope$Shop;)V"⟩
abbrev cX2_readNumber : ByteArray := prog_4_method_13_code
def yX2_readNumber : MethodName := ⟨RX2, "readNumber", "(II)I"⟩
abbrev cX2_fail : ByteArray := prog_4_method_14_code
def yX2_fail : MethodName := ⟨RX2, "fail", "(II)V"⟩
abbrev cX2_skipSpaces : ByteArray := prog_4_method_15_code
def yX2_skipSpaces : MethodName := ⟨RX2, "skipSpaces", "()V"⟩
abbrev cX2_isDigit : ByteArray := prog_4_method_16_code
def yX2_isDigit : MethodName := ⟨RX2, "isDigit", "()Z"⟩
abbrev cX2_isLetter : ByteArray := prog_4_method_17_code
def yX2_isLetter : MethodName := ⟨RX2, "isLetter", "()Z"⟩
abbrev cX2_isWord : ByteArray := prog_4_method_18_code
def yX2_isWord : MethodName := ⟨RX2, "isWord", "(ILjava/lang/String;)Z"⟩
def RX3 : String := "DrumRope$Schedule"
def TX3 : u_T := fun k => match k with
  | 0 => ("DrumRope$Schedule", "order", "[I", true)
  | 1 => ("DrumRope$Schedule", "start", "[I", true)
  | _ => ("DrumRope$Schedule", "count", "I", false)
def tyX3 : Nat → FieldType := fun k => match k with
  | 0 => .array .int
  | 1 => .array .int
  | _ => .int
theorem nmX3 : ∀ a, a < 3 → ∀ b, b < 3 → a ≠ b → (TX3 a).2.1 ≠ (TX3 b).2.1 := by decide +kernel
theorem tyX3_ok : ∀ k, k < 3 → parseFieldDescriptor (TX3 k).2.2.1 = some (tyX3 k) := by decide +kernel
abbrev cX3_init : ByteArray := prog_5_method_1_code
def yX3_init : MethodName := ⟨RX3, "<init>", "()V"⟩
abbrev cX3_make : ByteArray := prog_5_method_2_code
def yX3_make : MethodName := ⟨RX3, "make", "(LDrumRope$Shop;)V"⟩
abbrev cX3_collectByDue : ByteArray := prog_5_method_3_code
def yX3_collectByDue : MethodName := ⟨RX3, "collectByDue", "(LDrumRope$Shop;)V"⟩
abbrev cX3_planBackward : ByteArray := prog_5_method_4_code
def yX3_planBackward : MethodName := ⟨RX3, "planBackward", "(LDrumRope$Shop;)V"⟩
abbrev cX3_planForward : ByteArray := prog_5_method_5_code
def yX3_planForward : MethodName := ⟨RX3, "planForward", "(LDrumRope$Shop;I)V"⟩
abbrev cX3_firstFit : ByteArray := prog_5_method_6_code
def yX3_firstFit : MethodName := ⟨RX3, "firstFit", "(LDrumRope$Shop;II)I"⟩
def RX4 : String := "DrumRope$Shop"
def TX4 : u_T := fun k => match k with
  | 0 => ("DrumRope$Shop", "stations", "[LDrumRope$Station;", true)
  | 1 => ("DrumRope$Shop", "products", "[LDrumRope$Product;", true)
  | 2 => ("DrumRope$Shop", "orders", "[LDrumRope$Order;", true)
  | 3 => ("DrumRope$Shop", "schedule", "LDrumRope$Schedule;", true)
  | 4 => ("DrumRope$Shop", "stationCount", "I", false)
  | 5 => ("DrumRope$Shop", "productCount", "I", false)
  | 6 => ("DrumRope$Shop", "orderCount", "I", false)
  | 7 => ("DrumRope$Shop", "drum", "I", false)
  | 8 => ("DrumRope$Shop", "buffer", "I", false)
  | 9 => ("DrumRope$Shop", "shipping", "I", false)
  | 10 => ("DrumRope$Shop", "rope", "I", false)
  | 11 => ("DrumRope$Shop", "rule", "I", false)
  | 12 => ("DrumRope$Shop", "auto", "I", false)
  | 13 => ("DrumRope$Shop", "now", "I", false)
  | _ => ("DrumRope$Shop", "starved", "I", false)
def tyX4 : Nat → FieldType := fun k => match k with
  | 0 => .array (.object "DrumRope$Station")
  | 1 => .array (.object "DrumRope$Product")
  | 2 => .array (.object "DrumRope$Order")
  | 3 => .object "DrumRope$Schedule"
  | 4 => .int
  | 5 => .int
  | 6 => .int
  | 7 => .int
  | 8 => .int
  | 9 => .int
  | 10 => .int
  | 11 => .int
  | 12 => .int
  | 13 => .int
  | _ => .int
theorem nmX4 : ∀ a, a < 15 → ∀ b, b < 15 → a ≠ b → (TX4 a).2.1 ≠ (TX4 b).2.1 := by decide +kernel
theorem tyX4_ok : ∀ k, k < 15 → parseFieldDescriptor (TX4 k).2.2.1 = some (tyX4 k) := by decide +kernel
abbrev cX4_init : ByteArray := prog_6_method_1_code
def yX4_init : MethodName := ⟨RX4, "<init>", "()V"⟩
abbrev cX4_clear : ByteArray := prog_6_method_2_code
def yX4_clear : MethodName := ⟨RX4, "clear", "()V"⟩
abbrev cX4_copyFrom : ByteArray := prog_6_method_3_code
def yX4_copyFrom : MethodName := ⟨RX4, "copyFrom", "(LDrumRope$Shop;)V"⟩
abbrev cX4_enter : ByteArray := prog_6_method_4_code
def yX4_enter : MethodName := ⟨RX4, "enter", "(III)I"⟩
abbrev cX4_countInState : ByteArray := prog_6_method_5_code
def yX4_countInState : MethodName := ⟨RX4, "countInState", "(I)I"⟩
abbrev cX4_greatestWorkNotReleased : ByteArray := prog_6_method_6_code
def yX4_greatestWorkNotReleased : MethodName := ⟨RX4, "greatestWorkNotReleased", "()I"⟩
abbrev cX4_drumFreeAt : ByteArray := prog_6_method_7_code
def yX4_drumFreeAt : MethodName := ⟨RX4, "drumFreeAt", "()I"⟩
abbrev cX4_scheduledStart : ByteArray := prog_6_method_8_code
def yX4_scheduledStart : MethodName := ⟨RX4, "scheduledStart", "(I)I"⟩
abbrev cX4_hasToPassDrum : ByteArray := prog_6_method_9_code
def yX4_hasToPassDrum : MethodName := ⟨RX4, "hasToPassDrum", "(LDrumRope$Order;)Z"⟩
abbrev cX4_releasedWork : ByteArray := prog_6_method_10_code
def yX4_releasedWork : MethodName := ⟨RX4, "releasedWork", "()I"⟩
abbrev cX4_penetrationOf : ByteArray := prog_6_method_11_code
def yX4_penetrationOf : MethodName := ⟨RX4, "penetrationOf", "(LDrumRope$Order;)I"⟩
abbrev cX4_zoneOf : ByteArray := prog_6_method_12_code
def yX4_zoneOf : MethodName := ⟨RX4, "zoneOf", "(LDrumRope$Order;)I"⟩
abbrev cX4_isRedOrBlack : ByteArray := prog_6_method_13_code
def yX4_isRedOrBlack : MethodName := ⟨RX4, "isRedOrBlack", "(I)Z"⟩
abbrev cX4_stationOf : ByteArray := prog_6_method_14_code
def yX4_stationOf : MethodName := ⟨RX4, "stationOf", "(LDrumRope$Order;)I"⟩
abbrev cX4_workOfStep : ByteArray := prog_6_method_15_code
def yX4_workOfStep : MethodName := ⟨RX4, "workOfStep", "(LDrumRope$Order;)I"⟩
abbrev cX4_waitsAt : ByteArray := prog_6_method_16_code
def yX4_waitsAt : MethodName := ⟨RX4, "waitsAt", "(LDrumRope$Order;I)Z"⟩
abbrev cX4_choiceAt : ByteArray := prog_6_method_17_code
def yX4_choiceAt : MethodName := ⟨RX4, "choiceAt", "(I)I"⟩
abbrev cX4_keyByRule : ByteArray := prog_6_method_18_code
def yX4_keyByRule : MethodName := ⟨RX4, "keyByRule", "(LDrumRope$Order;I)I"⟩
abbrev cX4_workAheadOf : ByteArray := prog_6_method_19_code
def yX4_workAheadOf : MethodName := ⟨RX4, "workAheadOf", "(I)I"⟩
abbrev cX4_workAheadOf_ : ByteArray := prog_6_method_20_code
def yX4_workAheadOf_ : MethodName := ⟨RX4, "workAheadOf", "(LDrumRope$Order;I)I"⟩
abbrev cX4_tardinessIfEndedNow : ByteArray := prog_6_method_21_code
def yX4_tardinessIfEndedNow : MethodName := ⟨RX4, "tardinessIfEndedNow", "()I"⟩
abbrev cX4_pass : ByteArray := prog_6_method_22_code
def yX4_pass : MethodName := ⟨RX4, "pass", "(I)V"⟩
abbrev cX4_quietTicks : ByteArray := prog_6_method_23_code
def yX4_quietTicks : MethodName := ⟨RX4, "quietTicks", "(I)I"⟩
abbrev cX4_ticksWithoutRelease : ByteArray := prog_6_method_24_code
def yX4_ticksWithoutRelease : MethodName := ⟨RX4, "ticksWithoutRelease", "(I)I"⟩
abbrev cX4_releaseOrders : ByteArray := prog_6_method_25_code
def yX4_releaseOrders : MethodName := ⟨RX4, "releaseOrders", "()V"⟩
abbrev cX4_arrive : ByteArray := prog_6_method_26_code
def yX4_arrive : MethodName := ⟨RX4, "arrive", "(LDrumRope$Order;I)V"⟩
abbrev cX4_beginSteps : ByteArray := prog_6_method_27_code
def yX4_beginSteps : MethodName := ⟨RX4, "beginSteps", "()V"⟩
abbrev cX4_beginStep : ByteArray := prog_6_method_28_code
def yX4_beginStep : MethodName := ⟨RX4, "beginStep", "(II)V"⟩
abbrev cX4_work : ByteArray := prog_6_method_29_code
def yX4_work : MethodName := ⟨RX4, "work", "(I)V"⟩
abbrev cX4_isStarved : ByteArray := prog_6_method_30_code
def yX4_isStarved : MethodName := ⟨RX4, "isStarved", "()Z"⟩
abbrev cX4_finishSteps : ByteArray := prog_6_method_31_code
def yX4_finishSteps : MethodName := ⟨RX4, "finishSteps", "()V"⟩
abbrev cX4_leaveStation : ByteArray := prog_6_method_32_code
def yX4_leaveStation : MethodName := ⟨RX4, "leaveStation", "(LDrumRope$Order;)V"⟩
abbrev cX4_markReds : ByteArray := prog_6_method_33_code
def yX4_markReds : MethodName := ⟨RX4, "markReds", "()V"⟩
def RX5 : String := "DrumRope$Station"
def TX5 : u_T := fun k => match k with
  | 0 => ("DrumRope$Station", "setup", "I", false)
  | 1 => ("DrumRope$Station", "downUntil", "I", false)
  | 2 => ("DrumRope$Station", "order", "I", false)
  | 3 => ("DrumRope$Station", "lastProduct", "I", false)
  | 4 => ("DrumRope$Station", "waiting", "I", false)
  | 5 => ("DrumRope$Station", "busy", "I", false)
  | 6 => ("DrumRope$Station", "setupsDone", "I", false)
  | _ => ("DrumRope$Station", "reds", "I", false)
def tyX5 : Nat → FieldType := fun k => match k with
  | 0 => .int
  | 1 => .int
  | 2 => .int
  | 3 => .int
  | 4 => .int
  | 5 => .int
  | 6 => .int
  | _ => .int
theorem nmX5 : ∀ a, a < 8 → ∀ b, b < 8 → a ≠ b → (TX5 a).2.1 ≠ (TX5 b).2.1 := by decide +kernel
theorem tyX5_ok : ∀ k, k < 8 → parseFieldDescriptor (TX5 k).2.2.1 = some (tyX5 k) := by decide +kernel
abbrev cX5_init : ByteArray := prog_7_method_1_code
def yX5_init : MethodName := ⟨RX5, "<init>", "()V"⟩
abbrev cX5_clear : ByteArray := prog_7_method_2_code
def yX5_clear : MethodName := ⟨RX5, "clear", "()V"⟩
abbrev cX5_copyFrom : ByteArray := prog_7_method_3_code
def yX5_copyFrom : MethodName := ⟨RX5, "copyFrom", "(LDrumRope$Station;)V"⟩
abbrev cX5_isDown : ByteArray := prog_7_method_4_code
def yX5_isDown : MethodName := ⟨RX5, "isDown", "(I)Z"⟩
abbrev cX5_isWorking : ByteArray := prog_7_method_5_code
def yX5_isWorking : MethodName := ⟨RX5, "isWorking", "(I)Z"⟩
abbrev cX5_isIdle : ByteArray := prog_7_method_6_code
def yX5_isIdle : MethodName := ⟨RX5, "isIdle", "(I)Z"⟩
def RX6 : String := "DrumRope"
def TX6 : u_T := fun k => match k with
  | 0 => ("DrumRope", "reader", "LDrumRope$Reader;", true)
  | 1 => ("DrumRope", "shop", "LDrumRope$Shop;", true)
  | 2 => ("DrumRope", "trial", "LDrumRope$Shop;", true)
  | 3 => ("DrumRope", "saved", "[LDrumRope$Shop;", true)
  | _ => ("DrumRope", "isSaved", "[Z", true)
def tyX6 : Nat → FieldType := fun k => match k with
  | 0 => .object "DrumRope$Reader"
  | 1 => .object "DrumRope$Shop"
  | 2 => .object "DrumRope$Shop"
  | 3 => .array (.object "DrumRope$Shop")
  | _ => .array .boolean
theorem nmX6 : ∀ a, a < 5 → ∀ b, b < 5 → a ≠ b → (TX6 a).2.1 ≠ (TX6 b).2.1 := by decide +kernel
theorem tyX6_ok : ∀ k, k < 5 → parseFieldDescriptor (TX6 k).2.2.1 = some (tyX6 k) := by decide +kernel
abbrev cX6_init : ByteArray := prog_1_method_1_code
def yX6_init : MethodName := ⟨RX6, "<init>", "()V"⟩
abbrev cX6_appendByte : ByteArray := prog_1_method_2_code
def yX6_appendByte : MethodName := ⟨RX6, "appendByte", "(I)I"⟩
abbrev cX6_load : ByteArray := prog_1_method_3_code
def yX6_load : MethodName := ⟨RX6, "load", "()I"⟩
abbrev cX6_loadError : ByteArray := prog_1_method_4_code
def yX6_loadError : MethodName := ⟨RX6, "loadError", "()I"⟩
abbrev cX6_loadStatement : ByteArray := prog_1_method_5_code
def yX6_loadStatement : MethodName := ⟨RX6, "loadStatement", "()I"⟩
abbrev cX6_stationCount : ByteArray := prog_1_method_6_code
def yX6_stationCount : MethodName := ⟨RX6, "stationCount", "()I"⟩
abbrev cX6_productCount : ByteArray := prog_1_method_7_code
def yX6_productCount : MethodName := ⟨RX6, "productCount", "()I"⟩
abbrev cX6_orderCount : ByteArray := prog_1_method_8_code
def yX6_orderCount : MethodName := ⟨RX6, "orderCount", "()I"⟩
abbrev cX6_stepCount : ByteArray := prog_1_method_9_code
def yX6_stepCount : MethodName := ⟨RX6, "stepCount", "(I)I"⟩
abbrev cX6_stepAt : ByteArray := prog_1_method_10_code
def yX6_stepAt : MethodName := ⟨RX6, "stepAt", "(III)I"⟩
abbrev cX6_workOf : ByteArray := prog_1_method_11_code
def yX6_workOf : MethodName := ⟨RX6, "workOf", "(II)I"⟩
abbrev cX6_drumWork : ByteArray := prog_1_method_12_code
def yX6_drumWork : MethodName := ⟨RX6, "drumWork", "(II)I"⟩
abbrev cX6_now : ByteArray := prog_1_method_13_code
def yX6_now : MethodName := ⟨RX6, "now", "()I"⟩
abbrev cX6_advance : ByteArray := prog_1_method_14_code
def yX6_advance : MethodName := ⟨RX6, "advance", "(I)I"⟩
abbrev cX6_addOrder : ByteArray := prog_1_method_15_code
def yX6_addOrder : MethodName := ⟨RX6, "addOrder", "(III)I"⟩
abbrev cX6_cancel : ByteArray := prog_1_method_16_code
def yX6_cancel : MethodName := ⟨RX6, "cancel", "(I)I"⟩
abbrev cX6_setDue : ByteArray := prog_1_method_17_code
def yX6_setDue : MethodName := ⟨RX6, "setDue", "(II)I"⟩
abbrev cX6_expedite : ByteArray := prog_1_method_18_code
def yX6_expedite : MethodName := ⟨RX6, "expedite", "(IZ)Z"⟩
abbrev cX6_setRule : ByteArray := prog_1_method_19_code
def yX6_setRule : MethodName := ⟨RX6, "setRule", "(I)I"⟩
abbrev cX6_setRope : ByteArray := prog_1_method_20_code
def yX6_setRope : MethodName := ⟨RX6, "setRope", "(I)I"⟩
abbrev cX6_rope : ByteArray := prog_1_method_21_code
def yX6_rope : MethodName := ⟨RX6, "rope", "()I"⟩
abbrev cX6_stop : ByteArray := prog_1_method_22_code
def yX6_stop : MethodName := ⟨RX6, "stop", "(II)I"⟩
abbrev cX6_stateOf : ByteArray := prog_1_method_23_code
def yX6_stateOf : MethodName := ⟨RX6, "stateOf", "(I)I"⟩
abbrev cX6_productOf : ByteArray := prog_1_method_24_code
def yX6_productOf : MethodName := ⟨RX6, "productOf", "(I)I"⟩
abbrev cX6_quantityOf : ByteArray := prog_1_method_25_code
def yX6_quantityOf : MethodName := ⟨RX6, "quantityOf", "(I)I"⟩
abbrev cX6_dueOf : ByteArray := prog_1_method_26_code
def yX6_dueOf : MethodName := ⟨RX6, "dueOf", "(I)I"⟩
abbrev cX6_stepOf : ByteArray := prog_1_method_27_code
def yX6_stepOf : MethodName := ⟨RX6, "stepOf", "(I)I"⟩
abbrev cX6_isWorkedOn : ByteArray := prog_1_method_28_code
def yX6_isWorkedOn : MethodName := ⟨RX6, "isWorkedOn", "(I)Z"⟩
abbrev cX6_remaining : ByteArray := prog_1_method_29_code
def yX6_remaining : MethodName := ⟨RX6, "remaining", "(I)I"⟩
abbrev cX6_releasedAt : ByteArray := prog_1_method_30_code
def yX6_releasedAt : MethodName := ⟨RX6, "releasedAt", "(I)I"⟩
abbrev cX6_finishedAt : ByteArray := prog_1_method_31_code
def yX6_finishedAt : MethodName := ⟨RX6, "finishedAt", "(I)I"⟩
abbrev cX6_plannedStart : ByteArray := prog_1_method_32_code
def yX6_plannedStart : MethodName := ⟨RX6, "plannedStart", "(I)I"⟩
abbrev cX6_scheduleAt : ByteArray := prog_1_method_33_code
def yX6_scheduleAt : MethodName := ⟨RX6, "scheduleAt", "(I)I"⟩
abbrev cX6_isAtRisk : ByteArray := prog_1_method_34_code
def yX6_isAtRisk : MethodName := ⟨RX6, "isAtRisk", "(I)Z"⟩
abbrev cX6_ropeLoad : ByteArray := prog_1_method_35_code
def yX6_ropeLoad : MethodName := ⟨RX6, "ropeLoad", "()I"⟩
abbrev cX6_releaseTime : ByteArray := prog_1_method_36_code
def yX6_releaseTime : MethodName := ⟨RX6, "releaseTime", "(I)I"⟩
abbrev cX6_penetration : ByteArray := prog_1_method_37_code
def yX6_penetration : MethodName := ⟨RX6, "penetration", "(I)I"⟩
abbrev cX6_zone : ByteArray := prog_1_method_38_code
def yX6_zone : MethodName := ⟨RX6, "zone", "(I)I"⟩
abbrev cX6_inZone : ByteArray := prog_1_method_39_code
def yX6_inZone : MethodName := ⟨RX6, "inZone", "(I)I"⟩
abbrev cX6_redAt : ByteArray := prog_1_method_40_code
def yX6_redAt : MethodName := ⟨RX6, "redAt", "(I)I"⟩
abbrev cX6_worstStation : ByteArray := prog_1_method_41_code
def yX6_worstStation : MethodName := ⟨RX6, "worstStation", "()I"⟩
abbrev cX6_workingOn : ByteArray := prog_1_method_42_code
def yX6_workingOn : MethodName := ⟨RX6, "workingOn", "(I)I"⟩
abbrev cX6_queueLength : ByteArray := prog_1_method_43_code
def yX6_queueLength : MethodName := ⟨RX6, "queueLength", "(I)I"⟩
abbrev cX6_nextChoice : ByteArray := prog_1_method_44_code
def yX6_nextChoice : MethodName := ⟨RX6, "nextChoice", "(I)I"⟩
abbrev cX6_downUntil : ByteArray := prog_1_method_45_code
def yX6_downUntil : MethodName := ⟨RX6, "downUntil", "(I)I"⟩
abbrev cX6_busyTicks : ByteArray := prog_1_method_46_code
def yX6_busyTicks : MethodName := ⟨RX6, "busyTicks", "(I)I"⟩
abbrev cX6_setups : ByteArray := prog_1_method_47_code
def yX6_setups : MethodName := ⟨RX6, "setups", "(I)I"⟩
abbrev cX6_starvedTicks : ByteArray := prog_1_method_48_code
def yX6_starvedTicks : MethodName := ⟨RX6, "starvedTicks", "()I"⟩
abbrev cX6_lateCount : ByteArray := prog_1_method_49_code
def yX6_lateCount : MethodName := ⟨RX6, "lateCount", "()I"⟩
abbrev cX6_tardiness : ByteArray := prog_1_method_50_code
def yX6_tardiness : MethodName := ⟨RX6, "tardiness", "()I"⟩
abbrev cX6_quote : ByteArray := prog_1_method_51_code
def yX6_quote : MethodName := ⟨RX6, "quote", "(II)I"⟩
abbrev cX6_finishIfAdded : ByteArray := prog_1_method_52_code
def yX6_finishIfAdded : MethodName := ⟨RX6, "finishIfAdded", "(III)I"⟩
abbrev cX6_finishOf : ByteArray := prog_1_method_53_code
def yX6_finishOf : MethodName := ⟨RX6, "finishOf", "(I)I"⟩
abbrev cX6_tardinessAhead : ByteArray := prog_1_method_54_code
def yX6_tardinessAhead : MethodName := ⟨RX6, "tardinessAhead", "(I)I"⟩
abbrev cX6_bestRule : ByteArray := prog_1_method_55_code
def yX6_bestRule : MethodName := ⟨RX6, "bestRule", "()I"⟩
abbrev cX6_neededRope : ByteArray := prog_1_method_56_code
def yX6_neededRope : MethodName := ⟨RX6, "neededRope", "()I"⟩
abbrev cX6_firstRedAt : ByteArray := prog_1_method_57_code
def yX6_firstRedAt : MethodName := ⟨RX6, "firstRedAt", "(I)I"⟩
abbrev cX6_flowTime : ByteArray := prog_1_method_58_code
def yX6_flowTime : MethodName := ⟨RX6, "flowTime", "(I)I"⟩
abbrev cX6_meanFlow : ByteArray := prog_1_method_59_code
def yX6_meanFlow : MethodName := ⟨RX6, "meanFlow", "()I"⟩
abbrev cX6_loadOf : ByteArray := prog_1_method_60_code
def yX6_loadOf : MethodName := ⟨RX6, "loadOf", "(I)I"⟩
abbrev cX6_bottleneck : ByteArray := prog_1_method_61_code
def yX6_bottleneck : MethodName := ⟨RX6, "bottleneck", "()I"⟩
abbrev cX6_bestExpedite : ByteArray := prog_1_method_62_code
def yX6_bestExpedite : MethodName := ⟨RX6, "bestExpedite", "()I"⟩
abbrev cX6_saveSnapshot : ByteArray := prog_1_method_63_code
def yX6_saveSnapshot : MethodName := ⟨RX6, "saveSnapshot", "(I)I"⟩
abbrev cX6_restoreSnapshot : ByteArray := prog_1_method_64_code
def yX6_restoreSnapshot : MethodName := ⟨RX6, "restoreSnapshot", "(I)I"⟩
abbrev cX6_tardinessByRule : ByteArray := prog_1_method_65_code
def yX6_tardinessByRule : MethodName := ⟨RX6, "tardinessByRule", "(I)I"⟩
abbrev cX6_tardinessByRope : ByteArray := prog_1_method_66_code
def yX6_tardinessByRope : MethodName := ⟨RX6, "tardinessByRope", "(I)I"⟩
abbrev cX6_tardinessIfExpedited : ByteArray := prog_1_method_67_code
def yX6_tardinessIfExpedited : MethodName := ⟨RX6, "tardinessIfExpedited", "(I)I"⟩
abbrev cX6_findProduct : ByteArray := prog_1_method_68_code
def yX6_findProduct : MethodName := ⟨RX6, "findProduct", "(I)LDrumRope$Product;"⟩
abbrev cX6_findOrder : ByteArray := prog_1_method_69_code
def yX6_findOrder : MethodName := ⟨RX6, "findOrder", "(I)LDrumRope$Order;"⟩
abbrev cX6_findStation : ByteArray := prog_1_method_70_code
def yX6_findStation : MethodName := ⟨RX6, "findStation", "(I)LDrumRope$Station;"⟩
abbrev cX6_checkRange : ByteArray := prog_1_method_71_code
def yX6_checkRange : MethodName := ⟨RX6, "checkRange", "(III)V"⟩
def RX7 : String := "DrumRopeModel"
def TX7 : u_T := fun k => match k with
  | 0 => ("DrumRopeModel", "now", "[I", true)
  | 1 => ("DrumRopeModel", "read", "[I", true)
  | 2 => ("DrumRopeModel", "aside", "[I", true)
  | 3 => ("DrumRopeModel", "copies", "[I", true)
  | 4 => ("DrumRopeModel", "isSaved", "[Z", true)
  | 5 => ("DrumRopeModel", "thrown", "I", false)
  | 6 => ("DrumRopeModel", "buffer", "[B", true)
  | 7 => ("DrumRopeModel", "length", "I", false)
  | 8 => ("DrumRopeModel", "at", "I", false)
  | 9 => ("DrumRopeModel", "begin", "I", false)
  | 10 => ("DrumRopeModel", "error", "I", false)
  | 11 => ("DrumRopeModel", "errorAt", "I", false)
  | 12 => ("DrumRopeModel", "statement", "I", false)
  | 13 => ("DrumRopeModel", "lastError", "I", false)
  | 14 => ("DrumRopeModel", "lastStatement", "I", false)
  | 15 => ("DrumRopeModel", "statementOf", "[I", true)
  | 16 => ("DrumRopeModel", "schedule", "[I", true)
  | 17 => ("DrumRopeModel", "starts", "[I", true)
  | 18 => ("DrumRopeModel", "ends", "[I", true)
  | _ => ("DrumRopeModel", "scheduled", "I", false)
def tyX7 : Nat → FieldType := fun k => match k with
  | 0 => .array .int
  | 1 => .array .int
  | 2 => .array .int
  | 3 => .array .int
  | 4 => .array .boolean
  | 5 => .int
  | 6 => .array .byte
  | 7 => .int
  | 8 => .int
  | 9 => .int
  | 10 => .int
  | 11 => .int
  | 12 => .int
  | 13 => .int
  | 14 => .int
  | 15 => .array .int
  | 16 => .array .int
  | 17 => .array .int
  | 18 => .array .int
  | _ => .int
theorem nmX7 : ∀ a, a < 20 → ∀ b, b < 20 → a ≠ b → (TX7 a).2.1 ≠ (TX7 b).2.1 := by decide +kernel
theorem tyX7_ok : ∀ k, k < 20 → parseFieldDescriptor (TX7 k).2.2.1 = some (tyX7 k) := by decide +kernel
abbrev cX7_init : ByteArray := prog_9_method_1_code
def yX7_init : MethodName := ⟨RX7, "<init>", "()V"⟩
abbrev cX7_thrown : ByteArray := prog_9_method_2_code
def yX7_thrown : MethodName := ⟨RX7, "thrown", "()I"⟩
abbrev cX7_in : ByteArray := prog_9_method_3_code
def yX7_in : MethodName := ⟨RX7, "in", "(III)Z"⟩
abbrev cX7_copies : ByteArray := prog_9_method_4_code
def yX7_copies : MethodName := ⟨RX7, "copies", "([II[II)V"⟩
abbrev cX7_begins : ByteArray := prog_9_method_5_code
def yX7_begins : MethodName := ⟨RX7, "begins", "([III)V"⟩
abbrev cX7_station : ByteArray := prog_9_method_6_code
def yX7_station : MethodName := ⟨RX7, "station", "(II)I"⟩
abbrev cX7_setsStation : ByteArray := prog_9_method_7_code
def yX7_setsStation : MethodName := ⟨RX7, "setsStation", "(III)V"⟩
abbrev cX7_order : ByteArray := prog_9_method_8_code
def yX7_order : MethodName := ⟨RX7, "order", "(II)I"⟩
abbrev cX7_setsOrder : ByteArray := prog_9_method_9_code
def yX7_setsOrder : MethodName := ⟨RX7, "setsOrder", "(III)V"⟩
abbrev cX7_steps : ByteArray := prog_9_method_10_code
def yX7_steps : MethodName := ⟨RX7, "steps", "([II)I"⟩
abbrev cX7_stepStation : ByteArray := prog_9_method_11_code
def yX7_stepStation : MethodName := ⟨RX7, "stepStation", "([III)I"⟩
abbrev cX7_stepTime : ByteArray := prog_9_method_12_code
def yX7_stepTime : MethodName := ⟨RX7, "stepTime", "([III)I"⟩
abbrev cX7_drumStep : ByteArray := prog_9_method_13_code
def yX7_drumStep : MethodName := ⟨RX7, "drumStep", "([II)I"⟩
abbrev cX7_drumTicks : ByteArray := prog_9_method_14_code
def yX7_drumTicks : MethodName := ⟨RX7, "drumTicks", "([III)I"⟩
abbrev cX7_laysOrder : ByteArray := prog_9_method_15_code
def yX7_laysOrder : MethodName := ⟨RX7, "laysOrder", "([IIII)V"⟩
abbrev cX7_isThrown : ByteArray := prog_9_method_16_code
def yX7_isThrown : MethodName := ⟨RX7, "isThrown", "(ZI)Z"⟩
abbrev cX7_isOrder : ByteArray := prog_9_method_17_code
def yX7_isOrder : MethodName := ⟨RX7, "isOrder", "(I)Z"⟩
abbrev cX7_isProduct : ByteArray := prog_9_method_18_code
def yX7_isProduct : MethodName := ⟨RX7, "isProduct", "(I)Z"⟩
abbrev cX7_isStation : ByteArray := prog_9_method_19_code
def yX7_isStation : MethodName := ⟨RX7, "isStation", "(I)Z"⟩
abbrev cX7_appendByte : ByteArray := prog_9_method_20_code
def yX7_appendByte : MethodName := ⟨RX7, "appendByte", "(I)I"⟩
abbrev cX7_here : ByteArray := prog_9_method_21_code
def yX7_here : MethodName := ⟨RX7, "here", "()I"⟩
abbrev cX7_next : ByteArray := prog_9_method_22_code
def yX7_next : MethodName := ⟨RX7, "next", "()I"⟩
abbrev cX7_fails : ByteArray := prog_9_method_23_code
def yX7_fails : MethodName := ⟨RX7, "fails", "(II)V"⟩
abbrev cX7_reads : ByteArray := prog_9_method_24_code
def yX7_reads : MethodName := ⟨RX7, "reads", "()V"⟩
abbrev cX7_isWord : ByteArray := prog_9_method_25_code
def yX7_isWord : MethodName := ⟨RX7, "isWord", "(Ljava/lang/String;)Z"⟩
abbrev cX7_number : ByteArray := prog_9_method_26_code
def yX7_number : MethodName := ⟨RX7, "number", "(II)I"⟩
abbrev cX7_stepPart : ByteArray := prog_9_method_27_code
def yX7_stepPart : MethodName := ⟨RX7, "stepPart", "(I)V"⟩
abbrev cX7_productPart : ByteArray := prog_9_method_28_code
def yX7_productPart : MethodName := ⟨RX7, "productPart", "()V"⟩
abbrev cX7_orderPart : ByteArray := prog_9_method_29_code
def yX7_orderPart : MethodName := ⟨RX7, "orderPart", "()V"⟩
abbrev cX7_setupPart : ByteArray := prog_9_method_30_code
def yX7_setupPart : MethodName := ⟨RX7, "setupPart", "()V"⟩
abbrev cX7_statement : ByteArray := prog_9_method_31_code
def yX7_statement : MethodName := ⟨RX7, "statement", "()V"⟩
abbrev cX7_isMore : ByteArray := prog_9_method_32_code
def yX7_isMore : MethodName := ⟨RX7, "isMore", "()Z"⟩
abbrev cX7_checksOrders : ByteArray := prog_9_method_33_code
def yX7_checksOrders : MethodName := ⟨RX7, "checksOrders", "()V"⟩
abbrev cX7_load : ByteArray := prog_9_method_34_code
def yX7_load : MethodName := ⟨RX7, "load", "()I"⟩
abbrev cX7_loadError : ByteArray := prog_9_method_35_code
def yX7_loadError : MethodName := ⟨RX7, "loadError", "()I"⟩
abbrev cX7_loadStatement : ByteArray := prog_9_method_36_code
def yX7_loadStatement : MethodName := ⟨RX7, "loadStatement", "()I"⟩
abbrev cX7_stationCount : ByteArray := prog_9_method_37_code
def yX7_stationCount : MethodName := ⟨RX7, "stationCount", "()I"⟩
abbrev cX7_productCount : ByteArray := prog_9_method_38_code
def yX7_productCount : MethodName := ⟨RX7, "productCount", "()I"⟩
abbrev cX7_orderCount : ByteArray := prog_9_method_39_code
def yX7_orderCount : MethodName := ⟨RX7, "orderCount", "()I"⟩
abbrev cX7_stepCount : ByteArray := prog_9_method_40_code
def yX7_stepCount : MethodName := ⟨RX7, "stepCount", "(I)I"⟩
abbrev cX7_stepAt : ByteArray := prog_9_method_41_code
def yX7_stepAt : MethodName := ⟨RX7, "stepAt", "(III)I"⟩
abbrev cX7_isWork : ByteArray := prog_9_method_42_code
def yX7_isWork : MethodName := ⟨RX7, "isWork", "(II)Z"⟩
abbrev cX7_workOf : ByteArray := prog_9_method_43_code
def yX7_workOf : MethodName := ⟨RX7, "workOf", "(II)I"⟩
abbrev cX7_drumWork : ByteArray := prog_9_method_44_code
def yX7_drumWork : MethodName := ⟨RX7, "drumWork", "(II)I"⟩
abbrev cX7_workAtDrum : ByteArray := prog_9_method_45_code
def yX7_workAtDrum : MethodName := ⟨RX7, "workAtDrum", "(I)I"⟩
abbrev cX7_isOpen : ByteArray := prog_9_method_46_code
def yX7_isOpen : MethodName := ⟨RX7, "isOpen", "(I)Z"⟩
abbrev cX7_isBeforeDrum : ByteArray := prog_9_method_47_code
def yX7_isBeforeDrum : MethodName := ⟨RX7, "isBeforeDrum", "(I)Z"⟩
abbrev cX7_isPastDrum : ByteArray := prog_9_method_48_code
def yX7_isPastDrum : MethodName := ⟨RX7, "isPastDrum", "(I)Z"⟩
abbrev cX7_earliest : ByteArray := prog_9_method_49_code
def yX7_earliest : MethodName := ⟨RX7, "earliest", "()I"⟩
abbrev cX7_laysSchedule : ByteArray := prog_9_method_50_code
def yX7_laysSchedule : MethodName := ⟨RX7, "laysSchedule", "()V"⟩
abbrev cX7_placeOf : ByteArray := prog_9_method_51_code
def yX7_placeOf : MethodName := ⟨RX7, "placeOf", "(I)I"⟩
abbrev cX7_startOf : ByteArray := prog_9_method_52_code
def yX7_startOf : MethodName := ⟨RX7, "startOf", "(I)I"⟩
abbrev cX7_ropeNow : ByteArray := prog_9_method_53_code
def yX7_ropeNow : MethodName := ⟨RX7, "ropeNow", "()I"⟩
abbrev cX7_penetrationOf : ByteArray := prog_9_method_54_code
def yX7_penetrationOf : MethodName := ⟨RX7, "penetrationOf", "(I)I"⟩
abbrev cX7_zoneOf : ByteArray := prog_9_method_55_code
def yX7_zoneOf : MethodName := ⟨RX7, "zoneOf", "(I)I"⟩
abbrev cX7_release : ByteArray := prog_9_method_56_code
def yX7_release : MethodName := ⟨RX7, "release", "(II)V"⟩
abbrev cX7_releases : ByteArray := prog_9_method_57_code
def yX7_releases : MethodName := ⟨RX7, "releases", "()V"⟩
abbrev cX7_waitsAt : ByteArray := prog_9_method_58_code
def yX7_waitsAt : MethodName := ⟨RX7, "waitsAt", "(II)Z"⟩
abbrev cX7_workHere : ByteArray := prog_9_method_59_code
def yX7_workHere : MethodName := ⟨RX7, "workHere", "(I)I"⟩
abbrev cX7_isUrgent : ByteArray := prog_9_method_60_code
def yX7_isUrgent : MethodName := ⟨RX7, "isUrgent", "(I)Z"⟩
abbrev cX7_worth : ByteArray := prog_9_method_61_code
def yX7_worth : MethodName := ⟨RX7, "worth", "(I)I"⟩
abbrev cX7_isBetter : ByteArray := prog_9_method_62_code
def yX7_isBetter : MethodName := ⟨RX7, "isBetter", "(II)Z"⟩
abbrev cX7_choice : ByteArray := prog_9_method_63_code
def yX7_choice : MethodName := ⟨RX7, "choice", "(I)I"⟩
abbrev cX7_isDown : ByteArray := prog_9_method_64_code
def yX7_isDown : MethodName := ⟨RX7, "isDown", "(I)Z"⟩
abbrev cX7_begins_ : ByteArray := prog_9_method_65_code
def yX7_begins_ : MethodName := ⟨RX7, "begins", "(I)V"⟩
abbrev cX7_isStarved : ByteArray := prog_9_method_66_code
def yX7_isStarved : MethodName := ⟨RX7, "isStarved", "()Z"⟩
abbrev cX7_works : ByteArray := prog_9_method_67_code
def yX7_works : MethodName := ⟨RX7, "works", "(I)V"⟩
abbrev cX7_finishes : ByteArray := prog_9_method_68_code
def yX7_finishes : MethodName := ⟨RX7, "finishes", "(I)Z"⟩
abbrev cX7_sees : ByteArray := prog_9_method_69_code
def yX7_sees : MethodName := ⟨RX7, "sees", "(I)V"⟩
abbrev cX7_passes : ByteArray := prog_9_method_70_code
def yX7_passes : MethodName := ⟨RX7, "passes", "()I"⟩
abbrev cX7_now : ByteArray := prog_9_method_71_code
def yX7_now : MethodName := ⟨RX7, "now", "()I"⟩
abbrev cX7_advance : ByteArray := prog_9_method_72_code
def yX7_advance : MethodName := ⟨RX7, "advance", "(I)I"⟩
abbrev cX7_noAdding : ByteArray := prog_9_method_73_code
def yX7_noAdding : MethodName := ⟨RX7, "noAdding", "(II)I"⟩
abbrev cX7_isNewOrder : ByteArray := prog_9_method_74_code
def yX7_isNewOrder : MethodName := ⟨RX7, "isNewOrder", "(III)Z"⟩
abbrev cX7_addOrder : ByteArray := prog_9_method_75_code
def yX7_addOrder : MethodName := ⟨RX7, "addOrder", "(III)I"⟩
abbrev cX7_cancel : ByteArray := prog_9_method_76_code
def yX7_cancel : MethodName := ⟨RX7, "cancel", "(I)I"⟩
abbrev cX7_setDue : ByteArray := prog_9_method_77_code
def yX7_setDue : MethodName := ⟨RX7, "setDue", "(II)I"⟩
abbrev cX7_expedite : ByteArray := prog_9_method_78_code
def yX7_expedite : MethodName := ⟨RX7, "expedite", "(IZ)Z"⟩
abbrev cX7_setRule : ByteArray := prog_9_method_79_code
def yX7_setRule : MethodName := ⟨RX7, "setRule", "(I)I"⟩
abbrev cX7_greatestWaiting : ByteArray := prog_9_method_80_code
def yX7_greatestWaiting : MethodName := ⟨RX7, "greatestWaiting", "()I"⟩
abbrev cX7_setRope : ByteArray := prog_9_method_81_code
def yX7_setRope : MethodName := ⟨RX7, "setRope", "(I)I"⟩
abbrev cX7_rope : ByteArray := prog_9_method_82_code
def yX7_rope : MethodName := ⟨RX7, "rope", "()I"⟩
abbrev cX7_stop : ByteArray := prog_9_method_83_code
def yX7_stop : MethodName := ⟨RX7, "stop", "(II)I"⟩
abbrev cX7_told : ByteArray := prog_9_method_84_code
def yX7_told : MethodName := ⟨RX7, "told", "(II)I"⟩
abbrev cX7_stateOf : ByteArray := prog_9_method_85_code
def yX7_stateOf : MethodName := ⟨RX7, "stateOf", "(I)I"⟩
abbrev cX7_productOf : ByteArray := prog_9_method_86_code
def yX7_productOf : MethodName := ⟨RX7, "productOf", "(I)I"⟩
abbrev cX7_quantityOf : ByteArray := prog_9_method_87_code
def yX7_quantityOf : MethodName := ⟨RX7, "quantityOf", "(I)I"⟩
abbrev cX7_dueOf : ByteArray := prog_9_method_88_code
def yX7_dueOf : MethodName := ⟨RX7, "dueOf", "(I)I"⟩
abbrev cX7_stepOf : ByteArray := prog_9_method_89_code
def yX7_stepOf : MethodName := ⟨RX7, "stepOf", "(I)I"⟩
abbrev cX7_isWorkedOn : ByteArray := prog_9_method_90_code
def yX7_isWorkedOn : MethodName := ⟨RX7, "isWorkedOn", "(I)Z"⟩
abbrev cX7_remaining : ByteArray := prog_9_method_91_code
def yX7_remaining : MethodName := ⟨RX7, "remaining", "(I)I"⟩
abbrev cX7_releasedAt : ByteArray := prog_9_method_92_code
def yX7_releasedAt : MethodName := ⟨RX7, "releasedAt", "(I)I"⟩
abbrev cX7_finishedAt : ByteArray := prog_9_method_93_code
def yX7_finishedAt : MethodName := ⟨RX7, "finishedAt", "(I)I"⟩
abbrev cX7_plannedStart : ByteArray := prog_9_method_94_code
def yX7_plannedStart : MethodName := ⟨RX7, "plannedStart", "(I)I"⟩
abbrev cX7_scheduleAt : ByteArray := prog_9_method_95_code
def yX7_scheduleAt : MethodName := ⟨RX7, "scheduleAt", "(I)I"⟩
abbrev cX7_isAtRisk : ByteArray := prog_9_method_96_code
def yX7_isAtRisk : MethodName := ⟨RX7, "isAtRisk", "(I)Z"⟩
abbrev cX7_ropeLoad : ByteArray := prog_9_method_97_code
def yX7_ropeLoad : MethodName := ⟨RX7, "ropeLoad", "()I"⟩
abbrev cX7_releaseTime : ByteArray := prog_9_method_98_code
def yX7_releaseTime : MethodName := ⟨RX7, "releaseTime", "(I)I"⟩
abbrev cX7_penetration : ByteArray := prog_9_method_99_code
def yX7_penetration : MethodName := ⟨RX7, "penetration", "(I)I"⟩
abbrev cX7_zone : ByteArray := prog_9_method_100_code
def yX7_zone : MethodName := ⟨RX7, "zone", "(I)I"⟩
abbrev cX7_inZone : ByteArray := prog_9_method_101_code
def yX7_inZone : MethodName := ⟨RX7, "inZone", "(I)I"⟩
abbrev cX7_firstRedAt : ByteArray := prog_9_method_102_code
def yX7_firstRedAt : MethodName := ⟨RX7, "firstRedAt", "(I)I"⟩
abbrev cX7_flowOf : ByteArray := prog_9_method_103_code
def yX7_flowOf : MethodName := ⟨RX7, "flowOf", "(I)I"⟩
abbrev cX7_flowTime : ByteArray := prog_9_method_104_code
def yX7_flowTime : MethodName := ⟨RX7, "flowTime", "(I)I"⟩
abbrev cX7_meanFlow : ByteArray := prog_9_method_105_code
def yX7_meanFlow : MethodName := ⟨RX7, "meanFlow", "()I"⟩
abbrev cX7_lateOf : ByteArray := prog_9_method_106_code
def yX7_lateOf : MethodName := ⟨RX7, "lateOf", "(II)I"⟩
abbrev cX7_lateCount : ByteArray := prog_9_method_107_code
def yX7_lateCount : MethodName := ⟨RX7, "lateCount", "()I"⟩
abbrev cX7_tardiness : ByteArray := prog_9_method_108_code
def yX7_tardiness : MethodName := ⟨RX7, "tardiness", "()I"⟩
abbrev cX7_toldOf : ByteArray := prog_9_method_109_code
def yX7_toldOf : MethodName := ⟨RX7, "toldOf", "(II)I"⟩
abbrev cX7_redAt : ByteArray := prog_9_method_110_code
def yX7_redAt : MethodName := ⟨RX7, "redAt", "(I)I"⟩
abbrev cX7_worstStation : ByteArray := prog_9_method_111_code
def yX7_worstStation : MethodName := ⟨RX7, "worstStation", "()I"⟩
abbrev cX7_workingOn : ByteArray := prog_9_method_112_code
def yX7_workingOn : MethodName := ⟨RX7, "workingOn", "(I)I"⟩
abbrev cX7_queueLength : ByteArray := prog_9_method_113_code
def yX7_queueLength : MethodName := ⟨RX7, "queueLength", "(I)I"⟩
abbrev cX7_nextChoice : ByteArray := prog_9_method_114_code
def yX7_nextChoice : MethodName := ⟨RX7, "nextChoice", "(I)I"⟩
abbrev cX7_downUntil : ByteArray := prog_9_method_115_code
def yX7_downUntil : MethodName := ⟨RX7, "downUntil", "(I)I"⟩
abbrev cX7_busyTicks : ByteArray := prog_9_method_116_code
def yX7_busyTicks : MethodName := ⟨RX7, "busyTicks", "(I)I"⟩
abbrev cX7_setups : ByteArray := prog_9_method_117_code
def yX7_setups : MethodName := ⟨RX7, "setups", "(I)I"⟩
abbrev cX7_starvedTicks : ByteArray := prog_9_method_118_code
def yX7_starvedTicks : MethodName := ⟨RX7, "starvedTicks", "()I"⟩
abbrev cX7_loadAt : ByteArray := prog_9_method_119_code
def yX7_loadAt : MethodName := ⟨RX7, "loadAt", "(I)I"⟩
abbrev cX7_loadOf : ByteArray := prog_9_method_120_code
def yX7_loadOf : MethodName := ⟨RX7, "loadOf", "(I)I"⟩
abbrev cX7_bottleneck : ByteArray := prog_9_method_121_code
def yX7_bottleneck : MethodName := ⟨RX7, "bottleneck", "()I"⟩
abbrev cX7_isFree : ByteArray := prog_9_method_122_code
def yX7_isFree : MethodName := ⟨RX7, "isFree", "(II)Z"⟩
abbrev cX7_quote : ByteArray := prog_9_method_123_code
def yX7_quote : MethodName := ⟨RX7, "quote", "(II)I"⟩
abbrev cX7_leaves : ByteArray := prog_9_method_124_code
def yX7_leaves : MethodName := ⟨RX7, "leaves", "()V"⟩
abbrev cX7_comesBack : ByteArray := prog_9_method_125_code
def yX7_comesBack : MethodName := ⟨RX7, "comesBack", "()V"⟩
abbrev cX7_endOf : ByteArray := prog_9_method_126_code
def yX7_endOf : MethodName := ⟨RX7, "endOf", "(I)I"⟩
abbrev cX7_finishIfAdded : ByteArray := prog_9_method_127_code
def yX7_finishIfAdded : MethodName := ⟨RX7, "finishIfAdded", "(III)I"⟩
abbrev cX7_finishOf : ByteArray := prog_9_method_128_code
def yX7_finishOf : MethodName := ⟨RX7, "finishOf", "(I)I"⟩
abbrev cX7_isAnyOpen : ByteArray := prog_9_method_129_code
def yX7_isAnyOpen : MethodName := ⟨RX7, "isAnyOpen", "()Z"⟩
abbrev cX7_lateAhead : ByteArray := prog_9_method_130_code
def yX7_lateAhead : MethodName := ⟨RX7, "lateAhead", "()I"⟩
abbrev cX7_lateBy : ByteArray := prog_9_method_131_code
def yX7_lateBy : MethodName := ⟨RX7, "lateBy", "(I)I"⟩
abbrev cX7_tardinessAhead : ByteArray := prog_9_method_132_code
def yX7_tardinessAhead : MethodName := ⟨RX7, "tardinessAhead", "(I)I"⟩
abbrev cX7_bestRule : ByteArray := prog_9_method_133_code
def yX7_bestRule : MethodName := ⟨RX7, "bestRule", "()I"⟩
abbrev cX7_lateByRope : ByteArray := prog_9_method_134_code
def yX7_lateByRope : MethodName := ⟨RX7, "lateByRope", "(I)I"⟩
abbrev cX7_neededRope : ByteArray := prog_9_method_135_code
def yX7_neededRope : MethodName := ⟨RX7, "neededRope", "()I"⟩
abbrev cX7_bestExpedite : ByteArray := prog_9_method_136_code
def yX7_bestExpedite : MethodName := ⟨RX7, "bestExpedite", "()I"⟩
abbrev cX7_saveSnapshot : ByteArray := prog_9_method_137_code
def yX7_saveSnapshot : MethodName := ⟨RX7, "saveSnapshot", "(I)I"⟩
abbrev cX7_restoreSnapshot : ByteArray := prog_9_method_138_code
def yX7_restoreSnapshot : MethodName := ⟨RX7, "restoreSnapshot", "(I)I"⟩
def RJ9 : String := "java/lang/Math"
def TJ9 : u_T := fun k => match k with
  | _ => ("", "", "", false)
def tyJ9 : Nat → FieldType := fun k => match k with
  | _ => .int
abbrev wsJ90 : List Cond := u_ws RJ9 TJ9 0
theorem nmJ9 : ∀ a, a < 0 → ∀ b, b < 0 → a ≠ b → (TJ9 a).2.1 ≠ (TJ9 b).2.1 := by decide +kernel
theorem tyJ9_ok : ∀ k, k < 0 → parseFieldDescriptor (TJ9 k).2.2.1 = some (tyJ9 k) := by decide +kernel
abbrev cJ9_max_7cf53 : ByteArray := prog_13_method_65_code
def yJ9_max_7cf53 : MethodName := ⟨RJ9, "max", "(II)I"⟩
abbrev cJ9_min_7cf53 : ByteArray := prog_13_method_69_code
def yJ9_min_7cf53 : MethodName := ⟨RJ9, "min", "(II)I"⟩
def RJ0 : String := "java/lang/String"
def TJ0 : u_T := fun k => match k with
  | _ => ("", "", "", false)
def tyJ0 : Nat → FieldType := fun k => match k with
  | _ => .int
abbrev wsJ00 : List Cond := u_ws RJ0 TJ0 0
theorem nmJ0 : ∀ a, a < 0 → ∀ b, b < 0 → a ≠ b → (TJ0 a).2.1 ≠ (TJ0 b).2.1 := by decide +kernel
theorem tyJ0_ok : ∀ k, k < 0 → parseFieldDescriptor (TJ0 k).2.2.1 = some (tyJ0 k) := by decide +kernel
abbrev cJ0_length_8abf5 : ByteArray := prog_15_method_54_code
def yJ0_length_8abf5 : MethodName := ⟨RJ0, "length", "()I"⟩
abbrev cJ0_charAt_5068e : ByteArray := prog_15_method_56_code
def yJ0_charAt_5068e : MethodName := ⟨RJ0, "charAt", "(I)C"⟩
abbrev cJ0_coder_7d493 : ByteArray := prog_15_method_152_code
def yJ0_coder_7d493 : MethodName := ⟨RJ0, "coder", "()B"⟩
abbrev cJ0_isLatin1_aae02 : ByteArray := prog_15_method_154_code
def yJ0_isLatin1_aae02 : MethodName := ⟨RJ0, "isLatin1", "()Z"⟩
abbrev cJ0_checkIndex_df160 : ByteArray := prog_15_method_155_code
def yJ0_checkIndex_df160 : MethodName := ⟨RJ0, "checkIndex", "(II)V"⟩
def RJ1 : String := "java/lang/StringLatin1"
def TJ1 : u_T := fun k => match k with
  | _ => ("", "", "", false)
def tyJ1 : Nat → FieldType := fun k => match k with
  | _ => .int
abbrev wsJ10 : List Cond := u_ws RJ1 TJ1 0
theorem nmJ1 : ∀ a, a < 0 → ∀ b, b < 0 → a ≠ b → (TJ1 a).2.1 ≠ (TJ1 b).2.1 := by decide +kernel
theorem tyJ1_ok : ∀ k, k < 0 → parseFieldDescriptor (TJ1 k).2.2.1 = some (tyJ1 k) := by decide +kernel
abbrev cJ1_charAt_3b067 : ByteArray := prog_16_method_2_code
def yJ1_charAt_3b067 : MethodName := ⟨RJ1, "charAt", "([BI)C"⟩
def RJ2 : String := "java/lang/StringUTF16"
def TJ2 : u_T := fun k => match k with
  | _ => ("", "", "", false)
def tyJ2 : Nat → FieldType := fun k => match k with
  | _ => .int
abbrev wsJ20 : List Cond := u_ws RJ2 TJ2 0
theorem nmJ2 : ∀ a, a < 0 → ∀ b, b < 0 → a ≠ b → (TJ2 a).2.1 ≠ (TJ2 b).2.1 := by decide +kernel
theorem tyJ2_ok : ∀ k, k < 0 → parseFieldDescriptor (TJ2 k).2.2.1 = some (tyJ2 k) := by decide +kernel
abbrev cJ2_getChar_3b067 : ByteArray := prog_17_method_5_code
def yJ2_getChar_3b067 : MethodName := ⟨RJ2, "getChar", "([BI)C"⟩
abbrev cJ2_length_9d52b : ByteArray := prog_17_method_6_code
def yJ2_length_9d52b : MethodName := ⟨RJ2, "length", "([B)I"⟩
abbrev cJ2_charAt_3b067 : ByteArray := prog_17_method_83_code
def yJ2_charAt_3b067 : MethodName := ⟨RJ2, "charAt", "([BI)C"⟩
abbrev cJ2_checkIndex_2214a : ByteArray := prog_17_method_91_code
def yJ2_checkIndex_2214a : MethodName := ⟨RJ2, "checkIndex", "(I[B)V"⟩
def RJ3 : String := "jdk/internal/util/Preconditions"
def TJ3 : u_T := fun k => match k with
  | _ => ("", "", "", false)
def tyJ3 : Nat → FieldType := fun k => match k with
  | _ => .int
abbrev wsJ30 : List Cond := u_ws RJ3 TJ3 0
theorem nmJ3 : ∀ a, a < 0 → ∀ b, b < 0 → a ≠ b → (TJ3 a).2.1 ≠ (TJ3 b).2.1 := by decide +kernel
theorem tyJ3_ok : ∀ k, k < 0 → parseFieldDescriptor (TJ3 k).2.2.1 = some (tyJ3 k) := by decide +kernel
abbrev cJ3_checkIndex_8e157 : ByteArray := prog_19_method_11_code
def yJ3_checkIndex_8e157 : MethodName := ⟨RJ3, "checkIndex", "(IILjava/util/function/BiFunction;)I"⟩
def RL : String := "DrumRopeLaw"
abbrev cL_appendByte : ByteArray := method_3_code
def yL_appendByte : MethodName := ⟨RL, "appendByte", "(LDrumRope;I[J)I"⟩
abbrev cL_stepCount : ByteArray := method_4_code
def yL_stepCount : MethodName := ⟨RL, "stepCount", "(LDrumRope;I[J)I"⟩
abbrev cL_stepAt : ByteArray := method_5_code
def yL_stepAt : MethodName := ⟨RL, "stepAt", "(LDrumRope;III[J)I"⟩
abbrev cL_workOf : ByteArray := method_6_code
def yL_workOf : MethodName := ⟨RL, "workOf", "(LDrumRope;II[J)I"⟩
abbrev cL_drumWork : ByteArray := method_7_code
def yL_drumWork : MethodName := ⟨RL, "drumWork", "(LDrumRope;II[J)I"⟩
abbrev cL_advance : ByteArray := method_8_code
def yL_advance : MethodName := ⟨RL, "advance", "(LDrumRope;I[J)I"⟩
abbrev cL_addOrder : ByteArray := method_9_code
def yL_addOrder : MethodName := ⟨RL, "addOrder", "(LDrumRope;III[J)I"⟩
abbrev cL_cancel : ByteArray := method_10_code
def yL_cancel : MethodName := ⟨RL, "cancel", "(LDrumRope;I[J)I"⟩
abbrev cL_setDue : ByteArray := method_11_code
def yL_setDue : MethodName := ⟨RL, "setDue", "(LDrumRope;II[J)I"⟩
abbrev cL_expedite : ByteArray := method_12_code
def yL_expedite : MethodName := ⟨RL, "expedite", "(LDrumRope;IZ[J)I"⟩
abbrev cL_setRule : ByteArray := method_13_code
def yL_setRule : MethodName := ⟨RL, "setRule", "(LDrumRope;I[J)I"⟩
abbrev cL_setRope : ByteArray := method_14_code
def yL_setRope : MethodName := ⟨RL, "setRope", "(LDrumRope;I[J)I"⟩
abbrev cL_stop : ByteArray := method_15_code
def yL_stop : MethodName := ⟨RL, "stop", "(LDrumRope;II[J)I"⟩
abbrev cL_stateOf : ByteArray := method_16_code
def yL_stateOf : MethodName := ⟨RL, "stateOf", "(LDrumRope;I[J)I"⟩
abbrev cL_productOf : ByteArray := method_17_code
def yL_productOf : MethodName := ⟨RL, "productOf", "(LDrumRope;I[J)I"⟩
abbrev cL_quantityOf : ByteArray := method_18_code
def yL_quantityOf : MethodName := ⟨RL, "quantityOf", "(LDrumRope;I[J)I"⟩
abbrev cL_dueOf : ByteArray := method_19_code
def yL_dueOf : MethodName := ⟨RL, "dueOf", "(LDrumRope;I[J)I"⟩
abbrev cL_stepOf : ByteArray := method_20_code
def yL_stepOf : MethodName := ⟨RL, "stepOf", "(LDrumRope;I[J)I"⟩
abbrev cL_isWorkedOn : ByteArray := method_21_code
def yL_isWorkedOn : MethodName := ⟨RL, "isWorkedOn", "(LDrumRope;I[J)I"⟩
abbrev cL_remaining : ByteArray := method_22_code
def yL_remaining : MethodName := ⟨RL, "remaining", "(LDrumRope;I[J)I"⟩
abbrev cL_releasedAt : ByteArray := method_23_code
def yL_releasedAt : MethodName := ⟨RL, "releasedAt", "(LDrumRope;I[J)I"⟩
abbrev cL_finishedAt : ByteArray := method_24_code
def yL_finishedAt : MethodName := ⟨RL, "finishedAt", "(LDrumRope;I[J)I"⟩
abbrev cL_plannedStart : ByteArray := method_25_code
def yL_plannedStart : MethodName := ⟨RL, "plannedStart", "(LDrumRope;I[J)I"⟩
abbrev cL_isAtRisk : ByteArray := method_26_code
def yL_isAtRisk : MethodName := ⟨RL, "isAtRisk", "(LDrumRope;I[J)I"⟩
abbrev cL_releaseTime : ByteArray := method_27_code
def yL_releaseTime : MethodName := ⟨RL, "releaseTime", "(LDrumRope;I[J)I"⟩
abbrev cL_penetration : ByteArray := method_28_code
def yL_penetration : MethodName := ⟨RL, "penetration", "(LDrumRope;I[J)I"⟩
abbrev cL_zone : ByteArray := method_29_code
def yL_zone : MethodName := ⟨RL, "zone", "(LDrumRope;I[J)I"⟩
abbrev cL_inZone : ByteArray := method_30_code
def yL_inZone : MethodName := ⟨RL, "inZone", "(LDrumRope;I[J)I"⟩
abbrev cL_redAt : ByteArray := method_31_code
def yL_redAt : MethodName := ⟨RL, "redAt", "(LDrumRope;I[J)I"⟩
abbrev cL_workingOn : ByteArray := method_32_code
def yL_workingOn : MethodName := ⟨RL, "workingOn", "(LDrumRope;I[J)I"⟩
abbrev cL_queueLength : ByteArray := method_33_code
def yL_queueLength : MethodName := ⟨RL, "queueLength", "(LDrumRope;I[J)I"⟩
abbrev cL_nextChoice : ByteArray := method_34_code
def yL_nextChoice : MethodName := ⟨RL, "nextChoice", "(LDrumRope;I[J)I"⟩
abbrev cL_downUntil : ByteArray := method_35_code
def yL_downUntil : MethodName := ⟨RL, "downUntil", "(LDrumRope;I[J)I"⟩
abbrev cL_busyTicks : ByteArray := method_36_code
def yL_busyTicks : MethodName := ⟨RL, "busyTicks", "(LDrumRope;I[J)I"⟩
abbrev cL_setups : ByteArray := method_37_code
def yL_setups : MethodName := ⟨RL, "setups", "(LDrumRope;I[J)I"⟩
abbrev cL_quote : ByteArray := method_38_code
def yL_quote : MethodName := ⟨RL, "quote", "(LDrumRope;II[J)I"⟩
abbrev cL_finishIfAdded : ByteArray := method_39_code
def yL_finishIfAdded : MethodName := ⟨RL, "finishIfAdded", "(LDrumRope;III[J)I"⟩
abbrev cL_finishOf : ByteArray := method_40_code
def yL_finishOf : MethodName := ⟨RL, "finishOf", "(LDrumRope;I[J)I"⟩
abbrev cL_tardinessAhead : ByteArray := method_41_code
def yL_tardinessAhead : MethodName := ⟨RL, "tardinessAhead", "(LDrumRope;I[J)I"⟩
abbrev cL_firstRedAt : ByteArray := method_42_code
def yL_firstRedAt : MethodName := ⟨RL, "firstRedAt", "(LDrumRope;I[J)I"⟩
abbrev cL_flowTime : ByteArray := method_43_code
def yL_flowTime : MethodName := ⟨RL, "flowTime", "(LDrumRope;I[J)I"⟩
abbrev cL_loadOf : ByteArray := method_44_code
def yL_loadOf : MethodName := ⟨RL, "loadOf", "(LDrumRope;I[J)I"⟩
abbrev cL_saveSnapshot : ByteArray := method_45_code
def yL_saveSnapshot : MethodName := ⟨RL, "saveSnapshot", "(LDrumRope;I[J)I"⟩
abbrev cL_restoreSnapshot : ByteArray := method_46_code
def yL_restoreSnapshot : MethodName := ⟨RL, "restoreSnapshot", "(LDrumRope;I[J)I"⟩
abbrev cL_law : ByteArray := code
def yL_law : MethodName := ⟨RL, "law", "([I)Z"⟩
abbrev vwCl : List vw_C := [(RX0, TX0, 14), (RX1, TX1, 4), (RX2, TX2, 8), (RX3, TX3, 3), (RX4, TX4, 15), (RX5, TX5, 8), (RX6, TX6, 5), (RX7, TX7, 20)]
end
section
/-! ===== THE INTERPRETER: the class's and the reference's bytecode run over ids (kind, number) and a memory of ints ===== -/
abbrev iV : Type := Int32 ⊕ (Nat × Nat)
abbrev iM : Type := Nat → Nat → Nat → Int32
abbrev iL : Type := List (Option iV)
abbrev iS : Type := List iV
/-- pc, instruction, next pc, a, b, c, d, w (the word's place), v, targets -/
abbrev iE : Type := Nat × Instr × Nat × Nat × Nat × Nat × Nat × Nat × Int32 × List (Int32 × Nat)
abbrev iEv : Type := (Nat × iL × iS × iM) ⊕ (Prop × Nat × Nat × iL × iS × iM) ⊕ (Prop × Nat × iL × iS × iM) ⊕ (Nat × List iV × Nat × iL × iS × iM) ⊕ (Option iV × iM) ⊕ (Int32 × iM) ⊕ (Int32 × List (Int32 × Nat) × Nat × iL × iS × iM) ⊕ (Nat × iM)
abbrev evJ (t : Nat) (L : iL) (S : iS) (σ : iM) : Option iEv := some (.inl (t, L, S, σ))
abbrev evB (c : Prop) (t1 t2 : Nat) (L : iL) (S : iS) (σ : iM) : Option iEv := some (.inr (.inl (c, t1, t2, L, S, σ)))
abbrev evN (c : Prop) (t : Nat) (L : iL) (S : iS) (σ : iM) : Option iEv := some (.inr (.inr (.inl (c, t, L, S, σ))))
abbrev evC (k : Nat) (as : List iV) (t : Nat) (L : iL) (S : iS) (σ : iM) : Option iEv := some (.inr (.inr (.inr (.inl (k, as, t, L, S, σ)))))
abbrev evR (v : Option iV) (σ : iM) : Option iEv := some (.inr (.inr (.inr (.inr (.inl (v, σ))))))
abbrev evZ (v : Int32) (σ : iM) : Option iEv := some (.inr (.inr (.inr (.inr (.inr (.inl (v, σ)))))))
abbrev evS (x : Int32) (ts : List (Int32 × Nat)) (t : Nat) (L : iL) (S : iS) (σ : iM) : Option iEv := some (.inr (.inr (.inr (.inr (.inr (.inr (.inl (x, ts, t, L, S, σ))))))))
abbrev evT (k : Nat) (σ : iM) : Option iEv := some (.inr (.inr (.inr (.inr (.inr (.inr (.inr (k, σ))))))))
/-- the memory with one place changed -/
def iU (σ : iM) (k i j : Nat) (x : Int32) : iM := fun k' i' j' => if k' = k ∧ i' = i ∧ j' = j then x else σ k' i' j'
/-- how many cells of a kind there are -/
def iCnt (k : Nat) : Nat := match k with
  | 0 => 96 | 1 => 24 | 2 => 1 | 3 => 4 | 4 => 4 | 5 => 24 | 6 => 1 | 7 => 1
  | 8 => 66 | 9 => 1 | 10 => 2 | 11 => 0 | 12 => 4 | 13 => 4 | 14 => 1 | 15 => 4 | 16 => 8 | _ => 0
/-- the length of an array -/
def iN (k i : Nat) : Nat := match k with
  | 8 => if i < 48 then 6 else if i < 56 then 24 else if i = 56 then 700 else if i = 57 then 24 else if i < 61 then 467 else if i = 61 then 934 else 24
  | 9 => 700 | 10 => 2 | 12 => 24 | 13 => 6 | 14 => 2 | _ => 6
/-- which cell a field refers to -/
def rfK {α : Sort _} (k i s : Nat) (f : Nat → α) : α := match k with
  | 1 => (match s with | 0 => f (2 * i) | _ => f (2 * i + 1))
  | 2 => (match s with | 0 => f 56 | _ => f 57)
  | 3 => (match s with | 0 => f (48 + 2 * i) | _ => f (49 + 2 * i))
  | 4 => f i
  | 6 => (match s with | 0 => f 0 | 1 => f 0 | 2 => f 1 | _ => f 0)
  | 7 => (match s with | 0 => f 58 | 1 => f 59 | 2 => f 60 | 3 => f 61 | 4 => f 1 | 6 => f 0 | 15 => f 62 | 16 => f 63 | 17 => f 64 | _ => f 65)
  | _ => f 0
/-- which cell a place of an array refers to -/
def raK {α : Sort _} (k i s : Nat) (f : Nat → α) : α := match k with
  | 12 => f (24 * i + s)
  | 13 => f (6 * i + s)
  | 14 => f (2 + s)
  | _ => f (6 * i + s)
/-- the kind that a field refers to, and one more; 0: a number -/
def iRk (k s : Nat) : Nat := match k with
  | 1 => (match s with | 0 => 9 | 1 => 9 | _ => 0)
  | 2 => (match s with | 0 => 9 | 7 => 9 | _ => 0)
  | 3 => (match s with | 0 => 9 | 1 => 9 | _ => 0)
  | 4 => (match s with | 0 => 16 | 1 => 14 | 2 => 13 | 3 => 4 | _ => 0)
  | 6 => (match s with | 0 => 3 | 1 => 5 | 2 => 5 | 3 => 15 | _ => 11)
  | 7 => (match s with | 0 => 9 | 1 => 9 | 2 => 9 | 3 => 9 | 4 => 11 | 6 => 10 | 15 => 9 | 16 => 9 | 17 => 9 | 18 => 9 | _ => 0)
  | _ => 0
/-- the kind of an array's elements -/
def iEk (k : Nat) : Nat := match k with | 12 => 0 | 13 => 1 | 14 => 4 | _ => 5
/-- the texts of the class and the reference -/
def sTx (i : Nat) : List Int32 := match i with
  | 0 => [115, 116, 97, 116, 105, 111, 110, 115]
  | 1 => [112, 114, 111, 100, 117, 99, 116]
  | 2 => [111, 114, 100, 101, 114]
  | 3 => [98, 117, 102, 102, 101, 114, 115]
  | 4 => [114, 111, 112, 101]
  | 5 => [114, 117, 108, 101]
  | 6 => [97, 117, 116, 111]
  | _ => [115, 101, 116, 117, 112]
def sLen (i : Nat) : Nat := (sTx i).length
def sCh (i k : Nat) : Int32 := (sTx i).getD k 0
/-- the locals -/
def geL : iL → Nat → (iV → Option iEv) → Option iEv
  | [], _, _ => none
  | o :: _, 0, k => (match o with | some v => k v | none => none)
  | _ :: t, i + 1, k => geL t i k
def seL : iL → Nat → iV → (iL → Option iEv) → Option iEv
  | [], _, _, _ => none
  | _ :: t, 0, v, k => k (some v :: t)
  | o :: t, i + 1, v, k => seL t i v (fun t' => k (o :: t'))
def popN : Nat → iS → List iV → (List iV → iS → Option iEv) → Option iEv
  | 0, S, acc, k => k acc S
  | _ + 1, [], _, _ => none
  | n + 1, v :: S, acc, k => popN n S (v :: acc) k
abbrev geI (L : iL) (i : Nat) (k : Int32 → Option iEv) : Option iEv := geL L i (fun v => match v with | .inl x => k x | .inr _ => none)
abbrev geR (L : iL) (i : Nat) (k : Nat → Nat → Option iEv) : Option iEv := geL L i (fun v => match v with | .inl _ => none | .inr (x, y) => k x y)
def iMax (x y : Int32) : Int32 := if x < y then y else x
def iMin (x y : Int32) : Int32 := if y < x then y else x
/-- one instruction; what comes behind it is ih -/
def stp (e : iE) (ih : iL → iS → iM → Option iEv) (L : iL) (S : iS) (σ : iM) : Option iEv :=
  match e with
  | (_, ins, nx, a, b, c, d, _, v, ts) =>
    match ins with
    | .iload_n _ => geI L a (fun x => ih L (.inl x :: S) σ)
    | .iload _ => geI L a (fun x => ih L (.inl x :: S) σ)
    | .aload_n _ => geR L a (fun k i => ih L (.inr (k, i) :: S) σ)
    | .aload _ => geR L a (fun k i => ih L (.inr (k, i) :: S) σ)
    | .istore_n _ => (match S with | .inl x :: S => seL L a (.inl x) (fun L => ih L S σ) | _ => none)
    | .istore _ => (match S with | .inl x :: S => seL L a (.inl x) (fun L => ih L S σ) | _ => none)
    | .astore_n _ => (match S with | .inr (k, i) :: S => seL L a (.inr (k, i)) (fun L => ih L S σ) | _ => none)
    | .astore _ => (match S with | .inr (k, i) :: S => seL L a (.inr (k, i)) (fun L => ih L S σ) | _ => none)
    | .iinc _ _ => geI L a (fun x => seL L a (.inl (x + v)) (fun L => ih L S σ))
    | .iconst _ => ih L (.inl v :: S) σ
    | .bipush _ => ih L (.inl v :: S) σ
    | .sipush _ => ih L (.inl v :: S) σ
    | .ldc _ => bif Nat.beq c 0 then ih L (.inl v :: S) σ else ih L (.inr (16, a) :: S) σ
    | .ldc_w _ => ih L (.inl v :: S) σ
    | .iadd => (match S with | .inl y :: .inl x :: S => ih L (.inl (x + y) :: S) σ | _ => none)
    | .isub => (match S with | .inl y :: .inl x :: S => ih L (.inl (x - y) :: S) σ | _ => none)
    | .imul => (match S with | .inl y :: .inl x :: S => ih L (.inl (x * y) :: S) σ | _ => none)
    | .iand => (match S with | .inl y :: .inl x :: S => ih L (.inl (x &&& y) :: S) σ | _ => none)
    | .idiv => (match S with | .inl y :: .inl x :: S => evN (¬ y = 0) nx L (.inl (x / y) :: S) σ | _ => none)
    | .ineg => (match S with | .inl x :: S => ih L (.inl (-x) :: S) σ | _ => none)
    | .i2b => (match S with | .inl x :: S => ih L (.inl x.toInt8.toInt32 :: S) σ | _ => none)
    | .dup => (match S with | x :: S => ih L (x :: x :: S) σ | _ => none)
    | .dup2 => (match S with | x :: y :: S => ih L (x :: y :: x :: y :: S) σ | _ => none)
    | .pop => (match S with | _ :: S => ih L S σ | _ => none)
    | .getfield _ => (match S with
      | .inr (k, i) :: S => bif Nat.beq k a then (bif Nat.beq c 0 then ih L (.inl (σ a i b) :: S) σ else rfK a i b (fun r => ih L (.inr (d, r) :: S) σ)) else none
      | _ => none)
    | .putfield _ => (match S with
      | .inl x :: .inr (k, i) :: S => bif Nat.beq k a then (bif Nat.beq c 0 then ih L S (iU σ a i b x) else evN (x = 0 ∨ x = 1) nx L S (iU σ a i b x)) else none
      | _ => none)
    | .iaload => (match S with | .inl i :: .inr (k, x) :: S => bif Nat.beq k 8 then evN (vp_in i (iN 8 x)) nx L (.inl (σ 8 x i.toNatClampNeg) :: S) σ else none | _ => none)
    | .baload => (match S with | .inl i :: .inr (k, x) :: S => bif Nat.beq k a then evN (vp_in i (iN a x)) nx L (.inl (σ a x i.toNatClampNeg) :: S) σ else none | _ => none)
    | .aaload => (match S with | .inl i :: .inr (k, x) :: S => bif Nat.beq k a then raK a x i.toNatClampNeg (fun r => evN (vp_in i (iN a x)) nx L (.inr (d, r) :: S) σ) else none | _ => none)
    | .iastore => (match S with | .inl y :: .inl i :: .inr (k, x) :: S => bif Nat.beq k 8 then evN (vp_in i (iN 8 x)) nx L S (iU σ 8 x i.toNatClampNeg y) else none | _ => none)
    | .bastore => (match S with
      | .inl y :: .inl i :: .inr (k, x) :: S => bif Nat.beq k a then (bif Nat.beq a 9 then evN (vp_in i (iN a x)) nx L S (iU σ a x i.toNatClampNeg (vp_nar .byte y)) else evN (vp_in i (iN a x)) nx L S (iU σ a x i.toNatClampNeg (vp_nar .boolean y))) else none
      | _ => none)
    | .arraylength => (match S with | .inr (k, x) :: S => bif Nat.beq k a then ih L (.inl (Int32.ofNat (iN a x)) :: S) σ else none | _ => none)
    | .goto _ => evJ a L S σ
    | .if_icmp cd _ => (match S with
      | .inl y :: .inl x :: S => (match cd with
        | .eq => evB (x = y) a nx L S σ
        | .ne => evB (x = y) nx a L S σ
        | .lt => evB (x < y) a nx L S σ
        | .ge => evB (y ≤ x) a nx L S σ
        | .gt => evB (y < x) a nx L S σ
        | .le => evB (x ≤ y) a nx L S σ)
      | _ => none)
    | .ifCond cd _ => (match S with
      | .inl x :: S => (match cd with
        | .eq => evB (x = 0) a nx L S σ
        | .ne => evB (x = 0) nx a L S σ
        | .lt => evB (x < 0) a nx L S σ
        | .ge => evB (0 ≤ x) a nx L S σ
        | .gt => evB (0 < x) a nx L S σ
        | .le => evB (x ≤ 0) a nx L S σ)
      | _ => none)
    | .tableswitch _ _ _ _ => (match S with | .inl x :: S => evS x ts a L S σ | _ => none)
    | .lookupswitch _ _ => (match S with | .inl x :: S => evS x ts a L S σ | _ => none)
    | .invokevirtual _ => (match d with
      | 0 => popN b S [] (fun as S => (match as with | .inr (k, _) :: _ => bif Nat.beq k c && Nat.ble S.length 8 then evC a as nx L S σ else none | _ => none))
      | 1 => (match S with | .inr (k, i) :: S => bif Nat.beq k 16 && Nat.ble S.length 8 then ih L (.inl (Int32.ofNat (sLen i)) :: S) σ else none | _ => none)
      | _ => (match S with | .inl y :: .inr (k, i) :: S => bif Nat.beq k 16 && Nat.ble S.length 8 then evN (vp_in y (sLen i)) nx L (.inl (sCh i y.toNatClampNeg) :: S) σ else none | _ => none))
    | .invokestatic _ => (match d with
      | 0 => popN b S [] (fun as S => bif Nat.ble S.length 8 then evC a as nx L S σ else none)
      | 1 => (match S with | .inl y :: .inl x :: S => bif Nat.ble S.length 8 then ih L (.inl (iMax x y) :: S) σ else none | _ => none)
      | _ => (match S with | .inl y :: .inl x :: S => bif Nat.ble S.length 8 then ih L (.inl (iMin x y) :: S) σ else none | _ => none))
    | .ireturn => (match S with | [.inl x] => bif Nat.beq c 0 then evR (some (.inl x)) σ else evZ x σ | _ => none)
    | .areturn => (match S with | [.inr (k, i)] => evR (some (.inr (k, i))) σ | _ => none)
    | .return_ => (match S with | [] => evR none σ | _ => none)
    | .new _ => evT a σ
    | _ => none
/-- the instructions from a place on, as far as something is to be decided -/
noncomputable def blk (is : List iE) : iL → iS → iM → Option iEv := List.rec (motive := fun _ => iL → iS → iM → Option iEv) (fun _ _ _ => none) (fun e _ ih => stp e ih) is
noncomputable def sfx (is : List iE) (pc : Nat) : List iE := List.rec (motive := fun _ => List iE) [] (fun e t ih => bif Nat.beq e.1 pc then e :: t else ih) is
def swT (x : Int32) : List (Int32 × Nat) → Nat → Nat
  | [], d => d
  | (v, t) :: ts, d => if x = v then t else swT x ts d
abbrev iRes : Type := (Option iV ⊕ Nat) × iM
/-- a value is a number, or a cell that there is -/
def vok : iV → Prop
  | .inl _ => True
  | .inr q => q.2 < iCnt q.1
def vokO : Option iV → Prop
  | none => True
  | some v => vok v
section
variable (tb : Nat → List iE) (en : Nat → List iV → iL)
noncomputable def rst (ih : Nat → Nat → iL → iS → iM → Option iRes) (j pc : Nat) (L : iL) (S : iS) (σ : iM) : Option iRes :=
  match blk (sfx (tb j) pc) L S σ with
  | none => none
  | some (.inl (t, L, S, σ)) => ih j t L S σ
  | some (.inr (.inl (c, t1, t2, L, S, σ))) => @ite _ c (Classical.propDecidable c) (ih j t1 L S σ) (ih j t2 L S σ)
  | some (.inr (.inr (.inl (c, t, L, S, σ)))) => @ite _ c (Classical.propDecidable c) (ih j t L S σ) none
  | some (.inr (.inr (.inr (.inl (k, as, t, L, S, σ))))) => (match ih k 0 (en k as) [] σ with
    | none => none
    | some (.inl v, σ) => @ite _ (vokO v) (Classical.propDecidable _) (ih j t L (v.toList ++ S) σ) none
    | some (.inr x, σ) => some (.inr x, σ))
  | some (.inr (.inr (.inr (.inr (.inl (v, σ)))))) => some (.inl v, σ)
  | some (.inr (.inr (.inr (.inr (.inr (.inl (v, σ))))))) => @ite _ (v = 0 ∨ v = 1) (Classical.propDecidable _) (some (.inl (some (.inl v)), σ)) none
  | some (.inr (.inr (.inr (.inr (.inr (.inr (.inl (x, ts, t, L, S, σ)))))))) => ih j (swT x ts t) L S σ
  | some (.inr (.inr (.inr (.inr (.inr (.inr (.inr (k, σ)))))))) => some (.inr k, σ)
noncomputable def run (n : Nat) : Nat → Nat → iL → iS → iM → Option iRes := Nat.rec (motive := fun _ => Nat → Nat → iL → iS → iM → Option iRes) (fun _ _ _ _ _ => none) (fun _ ih => rst tb en ih) n
theorem run_succ (n j pc : Nat) (L : iL) (S : iS) (σ : iM) : run tb en (n + 1) j pc L S σ = rst tb en (run tb en n) j pc L S σ := rfl
theorem rst_mono {f g : Nat → Nat → iL → iS → iM → Option iRes} (h : ∀ j pc L S σ r, f j pc L S σ = some r → g j pc L S σ = some r) (j pc : Nat) (L : iL) (S : iS) (σ : iM) (r : iRes) (hr : rst tb en f j pc L S σ = some r) : rst tb en g j pc L S σ = some r := by
  unfold rst at hr ⊢
  split at hr
  · cases hr
  · exact h _ _ _ _ _ _ hr
  · rename_i c t1 t2 L' S' σ' _
    by_cases hc : c
    · rw [if_pos hc] at hr ⊢; exact h _ _ _ _ _ _ hr
    · rw [if_neg hc] at hr ⊢; exact h _ _ _ _ _ _ hr
  · rename_i c t L' S' σ' _
    by_cases hc : c
    · rw [if_pos hc] at hr ⊢; exact h _ _ _ _ _ _ hr
    · rw [if_neg hc] at hr; cases hr
  · rename_i k as t L' S' σ' _
    cases hk : f k 0 (en k as) [] σ' with
    | none => rw [hk] at hr; cases hr
    | some q =>
      rw [hk] at hr
      rw [h _ _ _ _ _ _ hk]
      obtain ⟨q1, q2⟩ := q
      cases q1 with
      | inl v =>
        by_cases hv : vokO v
        · simp only [if_pos hv] at hr ⊢; exact h _ _ _ _ _ _ hr
        · simp only [if_neg hv] at hr; cases hr
      | inr x => exact hr
  · exact hr
  · exact hr
  · exact h _ _ _ _ _ _ hr
  · exact hr
theorem run_mono (n : Nat) : ∀ (j pc : Nat) (L : iL) (S : iS) (σ : iM) (r : iRes), run tb en n j pc L S σ = some r → run tb en (n + 1) j pc L S σ = some r := by
  induction n with
  | zero => intro j pc L S σ r h; cases h
  | succ n ih => intro j pc L S σ r h; exact rst_mono tb en ih j pc L S σ r h
theorem run_le {n m : Nat} (hnm : n ≤ m) {j pc : Nat} {L : iL} {S : iS} {σ : iM} {r : iRes} (h : run tb en n j pc L S σ = some r) : run tb en m j pc L S σ = some r := by
  induction m with
  | zero => have : n = 0 := by omega
            subst this; exact h
  | succ m ih =>
    by_cases hq : n = m + 1
    · subst hq; exact h
    · exact run_mono tb en m j pc L S σ r (ih (by omega))
end
end
section
/-! ===== the instructions of each method (written by gen.py) ===== -/
def tbX0_clear : List iE := [(0, .aload_n 0, 1, 0, 0, 0, 0, 0, 0, []),
  (1, .iconst 0, 2, 0, 0, 0, 0, 0, 0, []),
  (2, .putfield 9, 5, 0, 4, 2, 0, 0, 0, []),
  (5, .aload_n 0, 6, 0, 0, 0, 0, 0, 0, []),
  (6, .iconst 0, 7, 0, 0, 0, 0, 0, 0, []),
  (7, .putfield 15, 10, 0, 5, 0, 0, 1, 0, []),
  (10, .aload_n 0, 11, 0, 0, 0, 0, 0, 0, []),
  (11, .iconst (-1), 12, 0, 0, 0, 0, 0, -1, []),
  (12, .putfield 19, 15, 0, 6, 0, 0, 2, 0, []),
  (15, .aload_n 0, 16, 0, 0, 0, 0, 0, 0, []),
  (16, .iconst 0, 17, 0, 0, 0, 0, 0, 0, []),
  (17, .putfield 22, 20, 0, 7, 0, 0, 3, 0, []),
  (20, .aload_n 0, 21, 0, 0, 0, 0, 0, 0, []),
  (21, .iconst (-1), 22, 0, 0, 0, 0, 0, -1, []),
  (22, .putfield 25, 25, 0, 8, 0, 0, 4, 0, []),
  (25, .aload_n 0, 26, 0, 0, 0, 0, 0, 0, []),
  (26, .iconst (-1), 27, 0, 0, 0, 0, 0, -1, []),
  (27, .putfield 28, 30, 0, 9, 0, 0, 5, 0, []),
  (30, .aload_n 0, 31, 0, 0, 0, 0, 0, 0, []),
  (31, .ldc 31, 33, 0, 0, 0, 0, 6, -1000000, []),
  (33, .putfield 32, 36, 0, 10, 0, 0, 7, 0, []),
  (36, .aload_n 0, 37, 0, 0, 0, 0, 0, 0, []),
  (37, .iconst (-1), 38, 0, 0, 0, 0, 0, -1, []),
  (38, .putfield 35, 41, 0, 11, 0, 0, 8, 0, []),
  (41, .aload_n 0, 42, 0, 0, 0, 0, 0, 0, []),
  (42, .iconst (-1), 43, 0, 0, 0, 0, 0, -1, []),
  (43, .putfield 38, 46, 0, 12, 0, 0, 9, 0, []),
  (46, .aload_n 0, 47, 0, 0, 0, 0, 0, 0, []),
  (47, .iconst (-1), 48, 0, 0, 0, 0, 0, -1, []),
  (48, .putfield 41, 51, 0, 13, 0, 0, 10, 0, []),
  (51, .return_, 52, 0, 0, 0, 0, 0, 0, [])]
def tbX0_copyFrom : List iE := [(0, .aload_n 0, 1, 0, 0, 0, 0, 0, 0, []),
  (1, .aload_n 1, 2, 1, 0, 0, 0, 0, 0, []),
  (2, .getfield 44, 5, 0, 0, 0, 0, 11, 0, []),
  (5, .putfield 44, 8, 0, 0, 0, 0, 11, 0, []),
  (8, .aload_n 0, 9, 0, 0, 0, 0, 0, 0, []),
  (9, .aload_n 1, 10, 1, 0, 0, 0, 0, 0, []),
  (10, .getfield 47, 13, 0, 1, 0, 0, 12, 0, []),
  (13, .putfield 47, 16, 0, 1, 0, 0, 12, 0, []),
  (16, .aload_n 0, 17, 0, 0, 0, 0, 0, 0, []),
  (17, .aload_n 1, 18, 1, 0, 0, 0, 0, 0, []),
  (18, .getfield 50, 21, 0, 2, 0, 0, 13, 0, []),
  (21, .putfield 50, 24, 0, 2, 0, 0, 13, 0, []),
  (24, .aload_n 0, 25, 0, 0, 0, 0, 0, 0, []),
  (25, .aload_n 1, 26, 1, 0, 0, 0, 0, 0, []),
  (26, .getfield 53, 29, 0, 3, 0, 0, 14, 0, []),
  (29, .putfield 53, 32, 0, 3, 0, 0, 14, 0, []),
  (32, .aload_n 0, 33, 0, 0, 0, 0, 0, 0, []),
  (33, .aload_n 1, 34, 1, 0, 0, 0, 0, 0, []),
  (34, .getfield 9, 37, 0, 4, 0, 0, 0, 0, []),
  (37, .putfield 9, 40, 0, 4, 2, 0, 0, 0, []),
  (40, .aload_n 0, 41, 0, 0, 0, 0, 0, 0, []),
  (41, .aload_n 1, 42, 1, 0, 0, 0, 0, 0, []),
  (42, .getfield 15, 45, 0, 5, 0, 0, 1, 0, []),
  (45, .putfield 15, 48, 0, 5, 0, 0, 1, 0, []),
  (48, .aload_n 0, 49, 0, 0, 0, 0, 0, 0, []),
  (49, .aload_n 1, 50, 1, 0, 0, 0, 0, 0, []),
  (50, .getfield 19, 53, 0, 6, 0, 0, 2, 0, []),
  (53, .putfield 19, 56, 0, 6, 0, 0, 2, 0, []),
  (56, .aload_n 0, 57, 0, 0, 0, 0, 0, 0, []),
  (57, .aload_n 1, 58, 1, 0, 0, 0, 0, 0, []),
  (58, .getfield 22, 61, 0, 7, 0, 0, 3, 0, []),
  (61, .putfield 22, 64, 0, 7, 0, 0, 3, 0, []),
  (64, .aload_n 0, 65, 0, 0, 0, 0, 0, 0, []),
  (65, .aload_n 1, 66, 1, 0, 0, 0, 0, 0, []),
  (66, .getfield 25, 69, 0, 8, 0, 0, 4, 0, []),
  (69, .putfield 25, 72, 0, 8, 0, 0, 4, 0, []),
  (72, .aload_n 0, 73, 0, 0, 0, 0, 0, 0, []),
  (73, .aload_n 1, 74, 1, 0, 0, 0, 0, 0, []),
  (74, .getfield 28, 77, 0, 9, 0, 0, 5, 0, []),
  (77, .putfield 28, 80, 0, 9, 0, 0, 5, 0, []),
  (80, .aload_n 0, 81, 0, 0, 0, 0, 0, 0, []),
  (81, .aload_n 1, 82, 1, 0, 0, 0, 0, 0, []),
  (82, .getfield 32, 85, 0, 10, 0, 0, 7, 0, []),
  (85, .putfield 32, 88, 0, 10, 0, 0, 7, 0, []),
  (88, .aload_n 0, 89, 0, 0, 0, 0, 0, 0, []),
  (89, .aload_n 1, 90, 1, 0, 0, 0, 0, 0, []),
  (90, .getfield 35, 93, 0, 11, 0, 0, 8, 0, []),
  (93, .putfield 35, 96, 0, 11, 0, 0, 8, 0, []),
  (96, .aload_n 0, 97, 0, 0, 0, 0, 0, 0, []),
  (97, .aload_n 1, 98, 1, 0, 0, 0, 0, 0, []),
  (98, .getfield 38, 101, 0, 12, 0, 0, 9, 0, []),
  (101, .putfield 38, 104, 0, 12, 0, 0, 9, 0, []),
  (104, .aload_n 0, 105, 0, 0, 0, 0, 0, 0, []),
  (105, .aload_n 1, 106, 1, 0, 0, 0, 0, 0, []),
  (106, .getfield 41, 109, 0, 13, 0, 0, 10, 0, []),
  (109, .putfield 41, 112, 0, 13, 0, 0, 10, 0, []),
  (112, .return_, 113, 0, 0, 0, 0, 0, 0, [])]
def tbX0_isOpen : List iE := [(0, .aload_n 0, 1, 0, 0, 0, 0, 0, 0, []),
  (1, .getfield 15, 4, 0, 5, 0, 0, 1, 0, []),
  (4, .ifCond .eq 11, 7, 15, 0, 0, 0, 0, 0, []),
  (7, .aload_n 0, 8, 0, 0, 0, 0, 0, 0, []),
  (8, .getfield 15, 11, 0, 5, 0, 0, 1, 0, []),
  (11, .iconst 1, 12, 0, 0, 0, 0, 0, 1, []),
  (12, .if_icmp .ne 7, 15, 19, 0, 0, 0, 0, 0, []),
  (15, .iconst 1, 16, 0, 0, 0, 0, 0, 1, []),
  (16, .goto 4, 19, 20, 0, 0, 0, 0, 0, []),
  (19, .iconst 0, 20, 0, 0, 0, 0, 0, 0, []),
  (20, .ireturn, 21, 0, 0, 1, 0, 0, 0, [])]
def tbX0_latenessAt : List iE := [(0, .iload_n 1, 1, 1, 0, 0, 0, 0, 0, []),
  (1, .aload_n 0, 2, 0, 0, 0, 0, 0, 0, []),
  (2, .getfield 50, 5, 0, 2, 0, 0, 13, 0, []),
  (5, .if_icmp .le 12, 8, 17, 0, 0, 0, 0, 0, []),
  (8, .iload_n 1, 9, 1, 0, 0, 0, 0, 0, []),
  (9, .aload_n 0, 10, 0, 0, 0, 0, 0, 0, []),
  (10, .getfield 50, 13, 0, 2, 0, 0, 13, 0, []),
  (13, .isub, 14, 0, 0, 0, 0, 0, 0, []),
  (14, .goto 4, 17, 18, 0, 0, 0, 0, 0, []),
  (17, .iconst 0, 18, 0, 0, 0, 0, 0, 0, []),
  (18, .ireturn, 19, 0, 0, 0, 0, 0, 0, [])]
def tbX0_flowUntil : List iE := [(0, .aload_n 0, 1, 0, 0, 0, 0, 0, 0, []),
  (1, .getfield 28, 4, 0, 9, 0, 0, 5, 0, []),
  (4, .iconst (-1), 5, 0, 0, 0, 0, 0, -1, []),
  (5, .if_icmp .ne 5, 8, 10, 0, 0, 0, 0, 0, []),
  (8, .iconst (-1), 9, 0, 0, 0, 0, 0, -1, []),
  (9, .ireturn, 10, 0, 0, 0, 0, 0, 0, []),
  (10, .aload_n 0, 11, 0, 0, 0, 0, 0, 0, []),
  (11, .getfield 15, 14, 0, 5, 0, 0, 1, 0, []),
  (14, .iconst 2, 15, 0, 0, 0, 0, 0, 2, []),
  (15, .if_icmp .ne 10, 18, 25, 0, 0, 0, 0, 0, []),
  (18, .aload_n 0, 19, 0, 0, 0, 0, 0, 0, []),
  (19, .getfield 38, 22, 0, 12, 0, 0, 9, 0, []),
  (22, .goto 4, 25, 26, 0, 0, 0, 0, 0, []),
  (25, .iload_n 1, 26, 1, 0, 0, 0, 0, 0, []),
  (26, .aload_n 0, 27, 0, 0, 0, 0, 0, 0, []),
  (27, .getfield 28, 30, 0, 9, 0, 0, 5, 0, []),
  (30, .isub, 31, 0, 0, 0, 0, 0, 0, []),
  (31, .ireturn, 32, 0, 0, 0, 0, 0, 0, [])]
def tbX1_clear : List iE := [(0, .aload_n 0, 1, 0, 0, 0, 0, 0, 0, []),
  (1, .iconst 0, 2, 0, 0, 0, 0, 0, 0, []),
  (2, .putfield 22, 5, 1, 2, 0, 0, 15, 0, []),
  (5, .aload_n 0, 6, 0, 0, 0, 0, 0, 0, []),
  (6, .iconst (-1), 7, 0, 0, 0, 0, 0, -1, []),
  (7, .putfield 18, 10, 1, 3, 0, 0, 16, 0, []),
  (10, .return_, 11, 0, 0, 0, 0, 0, 0, [])]
def tbX1_copyFrom : List iE := [(0, .iconst 0, 1, 0, 0, 0, 0, 0, 0, []),
  (1, .istore_n 2, 2, 2, 0, 0, 0, 0, 0, []),
  (2, .iload_n 2, 3, 2, 0, 0, 0, 0, 0, []),
  (3, .aload_n 1, 4, 1, 0, 0, 0, 0, 0, []),
  (4, .getfield 22, 7, 1, 2, 0, 0, 15, 0, []),
  (7, .if_icmp .ge 33, 10, 40, 0, 0, 0, 0, 0, []),
  (10, .aload_n 0, 11, 0, 0, 0, 0, 0, 0, []),
  (11, .getfield 9, 14, 1, 0, 1, 8, 17, 0, []),
  (14, .iload_n 2, 15, 2, 0, 0, 0, 0, 0, []),
  (15, .aload_n 1, 16, 1, 0, 0, 0, 0, 0, []),
  (16, .getfield 9, 19, 1, 0, 1, 8, 17, 0, []),
  (19, .iload_n 2, 20, 2, 0, 0, 0, 0, 0, []),
  (20, .iaload, 21, 8, 0, 0, 0, 0, 0, []),
  (21, .iastore, 22, 8, 0, 0, 0, 0, 0, []),
  (22, .aload_n 0, 23, 0, 0, 0, 0, 0, 0, []),
  (23, .getfield 15, 26, 1, 1, 1, 8, 18, 0, []),
  (26, .iload_n 2, 27, 2, 0, 0, 0, 0, 0, []),
  (27, .aload_n 1, 28, 1, 0, 0, 0, 0, 0, []),
  (28, .getfield 15, 31, 1, 1, 1, 8, 18, 0, []),
  (31, .iload_n 2, 32, 2, 0, 0, 0, 0, 0, []),
  (32, .iaload, 33, 8, 0, 0, 0, 0, 0, []),
  (33, .iastore, 34, 8, 0, 0, 0, 0, 0, []),
  (34, .iinc 2 1, 37, 2, 0, 0, 0, 0, 1, []),
  (37, .goto (-35), 40, 2, 0, 0, 0, 0, 0, []),
  (40, .aload_n 0, 41, 0, 0, 0, 0, 0, 0, []),
  (41, .aload_n 1, 42, 1, 0, 0, 0, 0, 0, []),
  (42, .getfield 22, 45, 1, 2, 0, 0, 15, 0, []),
  (45, .putfield 22, 48, 1, 2, 0, 0, 15, 0, []),
  (48, .aload_n 0, 49, 0, 0, 0, 0, 0, 0, []),
  (49, .aload_n 1, 50, 1, 0, 0, 0, 0, 0, []),
  (50, .getfield 18, 53, 1, 3, 0, 0, 16, 0, []),
  (53, .putfield 18, 56, 1, 3, 0, 0, 16, 0, []),
  (56, .return_, 57, 0, 0, 0, 0, 0, 0, [])]
def tbX1_timeOfPiece : List iE := [(0, .iconst 0, 1, 0, 0, 0, 0, 0, 0, []),
  (1, .istore_n 1, 2, 1, 0, 0, 0, 0, 0, []),
  (2, .iconst 0, 3, 0, 0, 0, 0, 0, 0, []),
  (3, .istore_n 2, 4, 2, 0, 0, 0, 0, 0, []),
  (4, .iload_n 2, 5, 2, 0, 0, 0, 0, 0, []),
  (5, .aload_n 0, 6, 0, 0, 0, 0, 0, 0, []),
  (6, .getfield 22, 9, 1, 2, 0, 0, 15, 0, []),
  (9, .if_icmp .ge 18, 12, 27, 0, 0, 0, 0, 0, []),
  (12, .iload_n 1, 13, 1, 0, 0, 0, 0, 0, []),
  (13, .aload_n 0, 14, 0, 0, 0, 0, 0, 0, []),
  (14, .getfield 15, 17, 1, 1, 1, 8, 18, 0, []),
  (17, .iload_n 2, 18, 2, 0, 0, 0, 0, 0, []),
  (18, .iaload, 19, 8, 0, 0, 0, 0, 0, []),
  (19, .iadd, 20, 0, 0, 0, 0, 0, 0, []),
  (20, .istore_n 1, 21, 1, 0, 0, 0, 0, 0, []),
  (21, .iinc 2 1, 24, 2, 0, 0, 0, 0, 1, []),
  (24, .goto (-20), 27, 4, 0, 0, 0, 0, 0, []),
  (27, .iload_n 1, 28, 1, 0, 0, 0, 0, 0, []),
  (28, .ireturn, 29, 0, 0, 0, 0, 0, 0, [])]
def tbX1_drumTime : List iE := [(0, .aload_n 0, 1, 0, 0, 0, 0, 0, 0, []),
  (1, .getfield 18, 4, 1, 3, 0, 0, 16, 0, []),
  (4, .ifCond .ge 7, 7, 11, 0, 0, 0, 0, 0, []),
  (7, .iconst 0, 8, 0, 0, 0, 0, 0, 0, []),
  (8, .goto 12, 11, 20, 0, 0, 0, 0, 0, []),
  (11, .aload_n 0, 12, 0, 0, 0, 0, 0, 0, []),
  (12, .getfield 15, 15, 1, 1, 1, 8, 18, 0, []),
  (15, .aload_n 0, 16, 0, 0, 0, 0, 0, 0, []),
  (16, .getfield 18, 19, 1, 3, 0, 0, 16, 0, []),
  (19, .iaload, 20, 8, 0, 0, 0, 0, 0, []),
  (20, .ireturn, 21, 0, 0, 0, 0, 0, 0, [])]
def tbX2_append : List iE := [(0, .aload_n 0, 1, 0, 0, 0, 0, 0, 0, []),
  (1, .getfield 22, 4, 2, 1, 0, 0, 19, 0, []),
  (4, .aload_n 0, 5, 0, 0, 0, 0, 0, 0, []),
  (5, .getfield 9, 8, 2, 0, 1, 8, 20, 0, []),
  (8, .arraylength, 9, 8, 0, 0, 0, 0, 0, []),
  (9, .if_icmp .lt 6, 12, 15, 0, 0, 0, 0, 0, []),
  (12, .bipush (-2), 14, 0, 0, 0, 0, 0, -2, []),
  (14, .ireturn, 15, 0, 0, 0, 0, 0, 0, []),
  (15, .aload_n 0, 16, 0, 0, 0, 0, 0, 0, []),
  (16, .getfield 9, 19, 2, 0, 1, 8, 20, 0, []),
  (19, .aload_n 0, 20, 0, 0, 0, 0, 0, 0, []),
  (20, .getfield 22, 23, 2, 1, 0, 0, 19, 0, []),
  (23, .iload_n 1, 24, 1, 0, 0, 0, 0, 0, []),
  (24, .iastore, 25, 8, 0, 0, 0, 0, 0, []),
  (25, .aload_n 0, 26, 0, 0, 0, 0, 0, 0, []),
  (26, .dup, 27, 0, 0, 0, 0, 0, 0, []),
  (27, .getfield 22, 30, 2, 1, 0, 0, 19, 0, []),
  (30, .iconst 1, 31, 0, 0, 0, 0, 0, 1, []),
  (31, .iadd, 32, 0, 0, 0, 0, 0, 0, []),
  (32, .putfield 22, 35, 2, 1, 0, 0, 19, 0, []),
  (35, .aload_n 0, 36, 0, 0, 0, 0, 0, 0, []),
  (36, .getfield 22, 39, 2, 1, 0, 0, 19, 0, []),
  (39, .ireturn, 40, 0, 0, 0, 0, 0, 0, [])]
def tbX2_readInto : List iE := [(0, .aload_n 0, 1, 0, 0, 0, 0, 0, 0, []),
  (1, .invokevirtual 25, 4, 11, 1, 2, 0, 21, 0, []),
  (4, .aload_n 0, 5, 0, 0, 0, 0, 0, 0, []),
  (5, .aload_n 1, 6, 1, 0, 0, 0, 0, 0, []),
  (6, .invokevirtual 28, 9, 12, 2, 2, 0, 22, 0, []),
  (9, .iconst 0, 10, 0, 0, 0, 0, 0, 0, []),
  (10, .istore_n 2, 11, 2, 0, 0, 0, 0, 0, []),
  (11, .iload_n 2, 12, 2, 0, 0, 0, 0, 0, []),
  (12, .aload_n 0, 13, 0, 0, 0, 0, 0, 0, []),
  (13, .getfield 22, 16, 2, 1, 0, 0, 19, 0, []),
  (16, .if_icmp .ge 78, 19, 94, 0, 0, 0, 0, 0, []),
  (19, .aload_n 0, 20, 0, 0, 0, 0, 0, 0, []),
  (20, .getfield 32, 23, 2, 2, 0, 0, 23, 0, []),
  (23, .ifCond .ne 71, 26, 94, 0, 0, 0, 0, 0, []),
  (26, .aload_n 0, 27, 0, 0, 0, 0, 0, 0, []),
  (27, .getfield 35, 30, 2, 5, 0, 0, 24, 0, []),
  (30, .aload_n 0, 31, 0, 0, 0, 0, 0, 0, []),
  (31, .getfield 22, 34, 2, 1, 0, 0, 19, 0, []),
  (34, .if_icmp .ge 60, 37, 94, 0, 0, 0, 0, 0, []),
  (37, .aload_n 0, 38, 0, 0, 0, 0, 0, 0, []),
  (38, .getfield 9, 41, 2, 0, 1, 8, 20, 0, []),
  (41, .aload_n 0, 42, 0, 0, 0, 0, 0, 0, []),
  (42, .getfield 35, 45, 2, 5, 0, 0, 24, 0, []),
  (45, .iaload, 46, 8, 0, 0, 0, 0, 0, []),
  (46, .bipush 59, 48, 0, 0, 0, 0, 0, 59, []),
  (48, .if_icmp .ne 31, 51, 79, 0, 0, 0, 0, 0, []),
  (51, .aload_n 0, 52, 0, 0, 0, 0, 0, 0, []),
  (52, .dup, 53, 0, 0, 0, 0, 0, 0, []),
  (53, .getfield 35, 56, 2, 5, 0, 0, 24, 0, []),
  (56, .iconst 1, 57, 0, 0, 0, 0, 0, 1, []),
  (57, .iadd, 58, 0, 0, 0, 0, 0, 0, []),
  (58, .putfield 35, 61, 2, 5, 0, 0, 24, 0, []),
  (61, .aload_n 0, 62, 0, 0, 0, 0, 0, 0, []),
  (62, .dup, 63, 0, 0, 0, 0, 0, 0, []),
  (63, .getfield 38, 66, 2, 6, 0, 0, 25, 0, []),
  (66, .iconst 1, 67, 0, 0, 0, 0, 0, 1, []),
  (67, .iadd, 68, 0, 0, 0, 0, 0, 0, []),
  (68, .putfield 38, 71, 2, 6, 0, 0, 25, 0, []),
  (71, .aload_n 0, 72, 0, 0, 0, 0, 0, 0, []),
  (72, .aload_n 1, 73, 1, 0, 0, 0, 0, 0, []),
  (73, .invokevirtual 28, 76, 12, 2, 2, 0, 22, 0, []),
  (76, .goto 12, 79, 88, 0, 0, 0, 0, 0, []),
  (79, .aload_n 0, 80, 0, 0, 0, 0, 0, 0, []),
  (80, .iconst 1, 81, 0, 0, 0, 0, 0, 1, []),
  (81, .aload_n 0, 82, 0, 0, 0, 0, 0, 0, []),
  (82, .getfield 35, 85, 2, 5, 0, 0, 24, 0, []),
  (85, .invokevirtual 41, 88, 21, 3, 2, 0, 26, 0, []),
  (88, .iinc 2 1, 91, 2, 0, 0, 0, 0, 1, []),
  (91, .goto (-80), 94, 11, 0, 0, 0, 0, 0, []),
  (94, .aload_n 0, 95, 0, 0, 0, 0, 0, 0, []),
  (95, .getfield 32, 98, 2, 2, 0, 0, 23, 0, []),
  (98, .ifCond .ne 8, 101, 106, 0, 0, 0, 0, 0, []),
  (101, .aload_n 0, 102, 0, 0, 0, 0, 0, 0, []),
  (102, .aload_n 1, 103, 1, 0, 0, 0, 0, 0, []),
  (103, .invokevirtual 45, 106, 19, 2, 2, 0, 27, 0, []),
  (106, .aload_n 0, 107, 0, 0, 0, 0, 0, 0, []),
  (107, .iconst 0, 108, 0, 0, 0, 0, 0, 0, []),
  (108, .putfield 22, 111, 2, 1, 0, 0, 19, 0, []),
  (111, .return_, 112, 0, 0, 0, 0, 0, 0, [])]
def tbX2_rewind : List iE := [(0, .aload_n 0, 1, 0, 0, 0, 0, 0, 0, []),
  (1, .iconst 0, 2, 0, 0, 0, 0, 0, 0, []),
  (2, .putfield 32, 5, 2, 2, 0, 0, 23, 0, []),
  (5, .aload_n 0, 6, 0, 0, 0, 0, 0, 0, []),
  (6, .iconst 0, 7, 0, 0, 0, 0, 0, 0, []),
  (7, .putfield 48, 10, 2, 3, 0, 0, 28, 0, []),
  (10, .aload_n 0, 11, 0, 0, 0, 0, 0, 0, []),
  (11, .iconst (-1), 12, 0, 0, 0, 0, 0, -1, []),
  (12, .putfield 15, 15, 2, 4, 0, 0, 29, 0, []),
  (15, .aload_n 0, 16, 0, 0, 0, 0, 0, 0, []),
  (16, .iconst 0, 17, 0, 0, 0, 0, 0, 0, []),
  (17, .putfield 35, 20, 2, 5, 0, 0, 24, 0, []),
  (20, .aload_n 0, 21, 0, 0, 0, 0, 0, 0, []),
  (21, .iconst 0, 22, 0, 0, 0, 0, 0, 0, []),
  (22, .putfield 38, 25, 2, 6, 0, 0, 25, 0, []),
  (25, .return_, 26, 0, 0, 0, 0, 0, 0, [])]
def tbX2_readStatement : List iE := [(0, .aload_n 0, 1, 0, 0, 0, 0, 0, 0, []),
  (1, .invokevirtual 51, 4, 22, 1, 2, 0, 30, 0, []),
  (4, .aload_n 0, 5, 0, 0, 0, 0, 0, 0, []),
  (5, .getfield 35, 8, 2, 5, 0, 0, 24, 0, []),
  (8, .istore_n 2, 9, 2, 0, 0, 0, 0, 0, []),
  (9, .aload_n 0, 10, 0, 0, 0, 0, 0, 0, []),
  (10, .invokevirtual 54, 13, 24, 1, 2, 0, 31, 0, []),
  (13, .ifCond .eq 16, 16, 29, 0, 0, 0, 0, 0, []),
  (16, .aload_n 0, 17, 0, 0, 0, 0, 0, 0, []),
  (17, .dup, 18, 0, 0, 0, 0, 0, 0, []),
  (18, .getfield 35, 21, 2, 5, 0, 0, 24, 0, []),
  (21, .iconst 1, 22, 0, 0, 0, 0, 0, 1, []),
  (22, .iadd, 23, 0, 0, 0, 0, 0, 0, []),
  (23, .putfield 35, 26, 2, 5, 0, 0, 24, 0, []),
  (26, .goto (-17), 29, 9, 0, 0, 0, 0, 0, []),
  (29, .aload_n 0, 30, 0, 0, 0, 0, 0, 0, []),
  (30, .getfield 38, 33, 2, 6, 0, 0, 25, 0, []),
  (33, .ifCond .ne 7, 36, 40, 0, 0, 0, 0, 0, []),
  (36, .iconst 1, 37, 0, 0, 0, 0, 0, 1, []),
  (37, .goto 4, 40, 41, 0, 0, 0, 0, 0, []),
  (40, .iconst 0, 41, 0, 0, 0, 0, 0, 0, []),
  (41, .istore_n 3, 42, 3, 0, 0, 0, 0, 0, []),
  (42, .iload_n 3, 43, 3, 0, 0, 0, 0, 0, []),
  (43, .aload_n 0, 44, 0, 0, 0, 0, 0, 0, []),
  (44, .iload_n 2, 45, 2, 0, 0, 0, 0, 0, []),
  (45, .ldc 58, 47, 0, 0, 1, 0, 0, 0, []),
  (47, .invokevirtual 60, 50, 25, 3, 2, 0, 32, 0, []),
  (50, .if_icmp .eq 12, 53, 62, 0, 0, 0, 0, 0, []),
  (53, .aload_n 0, 54, 0, 0, 0, 0, 0, 0, []),
  (54, .iconst 1, 55, 0, 0, 0, 0, 0, 1, []),
  (55, .iload_n 2, 56, 2, 0, 0, 0, 0, 0, []),
  (56, .invokevirtual 41, 59, 21, 3, 2, 0, 26, 0, []),
  (59, .goto 59, 62, 118, 0, 0, 0, 0, 0, []),
  (62, .iload_n 3, 63, 3, 0, 0, 0, 0, 0, []),
  (63, .ifCond .eq 11, 66, 74, 0, 0, 0, 0, 0, []),
  (66, .aload_n 0, 67, 0, 0, 0, 0, 0, 0, []),
  (67, .aload_n 1, 68, 1, 0, 0, 0, 0, 0, []),
  (68, .invokevirtual 64, 71, 13, 2, 2, 0, 33, 0, []),
  (71, .goto 47, 74, 118, 0, 0, 0, 0, 0, []),
  (74, .aload_n 0, 75, 0, 0, 0, 0, 0, 0, []),
  (75, .iload_n 2, 76, 2, 0, 0, 0, 0, 0, []),
  (76, .ldc 67, 78, 1, 0, 1, 0, 0, 0, []),
  (78, .invokevirtual 60, 81, 25, 3, 2, 0, 32, 0, []),
  (81, .ifCond .eq 12, 84, 93, 0, 0, 0, 0, 0, []),
  (84, .aload_n 0, 85, 0, 0, 0, 0, 0, 0, []),
  (85, .aload_n 1, 86, 1, 0, 0, 0, 0, 0, []),
  (86, .iload_n 2, 87, 2, 0, 0, 0, 0, 0, []),
  (87, .invokevirtual 69, 90, 16, 3, 2, 0, 34, 0, []),
  (90, .goto 28, 93, 118, 0, 0, 0, 0, 0, []),
  (93, .aload_n 0, 94, 0, 0, 0, 0, 0, 0, []),
  (94, .iload_n 2, 95, 2, 0, 0, 0, 0, 0, []),
  (95, .ldc 73, 97, 2, 0, 1, 0, 0, 0, []),
  (97, .invokevirtual 60, 100, 25, 3, 2, 0, 32, 0, []),
  (100, .ifCond .eq 12, 103, 112, 0, 0, 0, 0, 0, []),
  (103, .aload_n 0, 104, 0, 0, 0, 0, 0, 0, []),
  (104, .aload_n 1, 105, 1, 0, 0, 0, 0, 0, []),
  (105, .iload_n 2, 106, 2, 0, 0, 0, 0, 0, []),
  (106, .invokevirtual 75, 109, 18, 3, 2, 0, 35, 0, []),
  (109, .goto 9, 112, 118, 0, 0, 0, 0, 0, []),
  (112, .aload_n 0, 113, 0, 0, 0, 0, 0, 0, []),
  (113, .aload_n 1, 114, 1, 0, 0, 0, 0, 0, []),
  (114, .iload_n 2, 115, 2, 0, 0, 0, 0, 0, []),
  (115, .invokevirtual 78, 118, 14, 3, 2, 0, 36, 0, []),
  (118, .aload_n 0, 119, 0, 0, 0, 0, 0, 0, []),
  (119, .invokevirtual 51, 122, 22, 1, 2, 0, 30, 0, []),
  (122, .return_, 123, 0, 0, 0, 0, 0, 0, [])]
def tbX2_readStations : List iE := [(0, .aload_n 0, 1, 0, 0, 0, 0, 0, 0, []),
  (1, .iconst 1, 2, 0, 0, 0, 0, 0, 1, []),
  (2, .bipush 6, 4, 0, 0, 0, 0, 0, 6, []),
  (4, .invokevirtual 81, 7, 20, 3, 2, 0, 37, 0, []),
  (7, .istore_n 2, 8, 2, 0, 0, 0, 0, 0, []),
  (8, .aload_n 0, 9, 0, 0, 0, 0, 0, 0, []),
  (9, .iconst 0, 10, 0, 0, 0, 0, 0, 0, []),
  (10, .iload_n 2, 11, 2, 0, 0, 0, 0, 0, []),
  (11, .iconst 1, 12, 0, 0, 0, 0, 0, 1, []),
  (12, .isub, 13, 0, 0, 0, 0, 0, 0, []),
  (13, .invokevirtual 81, 16, 20, 3, 2, 0, 37, 0, []),
  (16, .istore_n 3, 17, 3, 0, 0, 0, 0, 0, []),
  (17, .aload_n 0, 18, 0, 0, 0, 0, 0, 0, []),
  (18, .getfield 32, 21, 2, 2, 0, 0, 23, 0, []),
  (21, .ifCond .ne 13, 24, 34, 0, 0, 0, 0, 0, []),
  (24, .aload_n 1, 25, 1, 0, 0, 0, 0, 0, []),
  (25, .iload_n 2, 26, 2, 0, 0, 0, 0, 0, []),
  (26, .putfield 85, 29, 4, 4, 0, 0, 38, 0, []),
  (29, .aload_n 1, 30, 1, 0, 0, 0, 0, 0, []),
  (30, .iload_n 3, 31, 3, 0, 0, 0, 0, 0, []),
  (31, .putfield 90, 34, 4, 7, 0, 0, 39, 0, []),
  (34, .return_, 35, 0, 0, 0, 0, 0, 0, [])]
def tbX2_readSetting : List iE := [(0, .aload_n 0, 1, 0, 0, 0, 0, 0, 0, []),
  (1, .iload_n 2, 2, 2, 0, 0, 0, 0, 0, []),
  (2, .ldc 93, 4, 3, 0, 1, 0, 0, 0, []),
  (4, .invokevirtual 60, 7, 25, 3, 2, 0, 32, 0, []),
  (7, .ifCond .eq 30, 10, 37, 0, 0, 0, 0, 0, []),
  (10, .aload_n 1, 11, 1, 0, 0, 0, 0, 0, []),
  (11, .aload_n 0, 12, 0, 0, 0, 0, 0, 0, []),
  (12, .iconst 1, 13, 0, 0, 0, 0, 0, 1, []),
  (13, .sipush 500, 16, 0, 0, 0, 0, 0, 500, []),
  (16, .invokevirtual 81, 19, 20, 3, 2, 0, 37, 0, []),
  (19, .putfield 95, 22, 4, 8, 0, 0, 40, 0, []),
  (22, .aload_n 1, 23, 1, 0, 0, 0, 0, 0, []),
  (23, .aload_n 0, 24, 0, 0, 0, 0, 0, 0, []),
  (24, .iconst 1, 25, 0, 0, 0, 0, 0, 1, []),
  (25, .sipush 500, 28, 0, 0, 0, 0, 0, 500, []),
  (28, .invokevirtual 81, 31, 20, 3, 2, 0, 37, 0, []),
  (31, .putfield 98, 34, 4, 9, 0, 0, 41, 0, []),
  (34, .goto 98, 37, 132, 0, 0, 0, 0, 0, []),
  (37, .aload_n 0, 38, 0, 0, 0, 0, 0, 0, []),
  (38, .iload_n 2, 39, 2, 0, 0, 0, 0, 0, []),
  (39, .ldc 101, 41, 4, 0, 1, 0, 0, 0, []),
  (41, .invokevirtual 60, 44, 25, 3, 2, 0, 32, 0, []),
  (44, .ifCond .eq 18, 47, 62, 0, 0, 0, 0, 0, []),
  (47, .aload_n 1, 48, 1, 0, 0, 0, 0, 0, []),
  (48, .aload_n 0, 49, 0, 0, 0, 0, 0, 0, []),
  (49, .iconst 1, 50, 0, 0, 0, 0, 0, 1, []),
  (50, .sipush 5000, 53, 0, 0, 0, 0, 0, 5000, []),
  (53, .invokevirtual 81, 56, 20, 3, 2, 0, 37, 0, []),
  (56, .putfield 103, 59, 4, 10, 0, 0, 42, 0, []),
  (59, .goto 73, 62, 132, 0, 0, 0, 0, 0, []),
  (62, .aload_n 0, 63, 0, 0, 0, 0, 0, 0, []),
  (63, .iload_n 2, 64, 2, 0, 0, 0, 0, 0, []),
  (64, .ldc 105, 66, 5, 0, 1, 0, 0, 0, []),
  (66, .invokevirtual 60, 69, 25, 3, 2, 0, 32, 0, []),
  (69, .ifCond .eq 16, 72, 85, 0, 0, 0, 0, 0, []),
  (72, .aload_n 1, 73, 1, 0, 0, 0, 0, 0, []),
  (73, .aload_n 0, 74, 0, 0, 0, 0, 0, 0, []),
  (74, .iconst 0, 75, 0, 0, 0, 0, 0, 0, []),
  (75, .iconst 3, 76, 0, 0, 0, 0, 0, 3, []),
  (76, .invokevirtual 81, 79, 20, 3, 2, 0, 37, 0, []),
  (79, .putfield 107, 82, 4, 11, 0, 0, 43, 0, []),
  (82, .goto 50, 85, 132, 0, 0, 0, 0, 0, []),
  (85, .aload_n 0, 86, 0, 0, 0, 0, 0, 0, []),
  (86, .iload_n 2, 87, 2, 0, 0, 0, 0, 0, []),
  (87, .ldc 109, 89, 6, 0, 1, 0, 0, 0, []),
  (89, .invokevirtual 60, 92, 25, 3, 2, 0, 32, 0, []),
  (92, .ifCond .eq 16, 95, 108, 0, 0, 0, 0, 0, []),
  (95, .aload_n 1, 96, 1, 0, 0, 0, 0, 0, []),
  (96, .aload_n 0, 97, 0, 0, 0, 0, 0, 0, []),
  (97, .iconst 0, 98, 0, 0, 0, 0, 0, 0, []),
  (98, .iconst 1, 99, 0, 0, 0, 0, 0, 1, []),
  (99, .invokevirtual 81, 102, 20, 3, 2, 0, 37, 0, []),
  (102, .putfield 111, 105, 4, 12, 0, 0, 44, 0, []),
  (105, .goto 27, 108, 132, 0, 0, 0, 0, 0, []),
  (108, .aload_n 0, 109, 0, 0, 0, 0, 0, 0, []),
  (109, .iload_n 2, 110, 2, 0, 0, 0, 0, 0, []),
  (110, .ldc 113, 112, 7, 0, 1, 0, 0, 0, []),
  (112, .invokevirtual 60, 115, 25, 3, 2, 0, 32, 0, []),
  (115, .ifCond .eq 11, 118, 126, 0, 0, 0, 0, 0, []),
  (118, .aload_n 0, 119, 0, 0, 0, 0, 0, 0, []),
  (119, .aload_n 1, 120, 1, 0, 0, 0, 0, 0, []),
  (120, .invokevirtual 115, 123, 15, 2, 2, 0, 45, 0, []),
  (123, .goto 9, 126, 132, 0, 0, 0, 0, 0, []),
  (126, .aload_n 0, 127, 0, 0, 0, 0, 0, 0, []),
  (127, .iconst 1, 128, 0, 0, 0, 0, 0, 1, []),
  (128, .iload_n 2, 129, 2, 0, 0, 0, 0, 0, []),
  (129, .invokevirtual 41, 132, 21, 3, 2, 0, 26, 0, []),
  (132, .return_, 133, 0, 0, 0, 0, 0, 0, [])]
def tbX2_readSetup : List iE := [(0, .aload_n 0, 1, 0, 0, 0, 0, 0, 0, []),
  (1, .iconst 0, 2, 0, 0, 0, 0, 0, 0, []),
  (2, .aload_n 1, 3, 1, 0, 0, 0, 0, 0, []),
  (3, .getfield 85, 6, 4, 4, 0, 0, 38, 0, []),
  (6, .iconst 1, 7, 0, 0, 0, 0, 0, 1, []),
  (7, .isub, 8, 0, 0, 0, 0, 0, 0, []),
  (8, .invokevirtual 81, 11, 20, 3, 2, 0, 37, 0, []),
  (11, .istore_n 2, 12, 2, 0, 0, 0, 0, 0, []),
  (12, .aload_n 0, 13, 0, 0, 0, 0, 0, 0, []),
  (13, .iconst 0, 14, 0, 0, 0, 0, 0, 0, []),
  (14, .bipush 50, 16, 0, 0, 0, 0, 0, 50, []),
  (16, .invokevirtual 81, 19, 20, 3, 2, 0, 37, 0, []),
  (19, .istore_n 3, 20, 3, 0, 0, 0, 0, 0, []),
  (20, .aload_n 0, 21, 0, 0, 0, 0, 0, 0, []),
  (21, .getfield 32, 24, 2, 2, 0, 0, 23, 0, []),
  (24, .ifCond .ne 13, 27, 37, 0, 0, 0, 0, 0, []),
  (27, .aload_n 1, 28, 1, 0, 0, 0, 0, 0, []),
  (28, .getfield 118, 31, 4, 0, 1, 15, 46, 0, []),
  (31, .iload_n 2, 32, 2, 0, 0, 0, 0, 0, []),
  (32, .aaload, 33, 15, 0, 0, 5, 0, 0, []),
  (33, .iload_n 3, 34, 3, 0, 0, 0, 0, 0, []),
  (34, .putfield 121, 37, 5, 0, 0, 0, 47, 0, []),
  (37, .return_, 38, 0, 0, 0, 0, 0, 0, [])]
def tbX2_readProduct : List iE := [(0, .aload_n 1, 1, 1, 0, 0, 0, 0, 0, []),
  (1, .getfield 125, 4, 4, 5, 0, 0, 48, 0, []),
  (4, .bipush 6, 6, 0, 0, 0, 0, 0, 6, []),
  (6, .if_icmp .lt 10, 9, 16, 0, 0, 0, 0, 0, []),
  (9, .aload_n 0, 10, 0, 0, 0, 0, 0, 0, []),
  (10, .iconst 4, 11, 0, 0, 0, 0, 0, 4, []),
  (11, .iload_n 2, 12, 2, 0, 0, 0, 0, 0, []),
  (12, .invokevirtual 41, 15, 21, 3, 2, 0, 26, 0, []),
  (15, .return_, 16, 0, 0, 0, 0, 0, 0, []),
  (16, .aload_n 1, 17, 1, 0, 0, 0, 0, 0, []),
  (17, .getfield 128, 20, 4, 1, 1, 13, 49, 0, []),
  (20, .aload_n 1, 21, 1, 0, 0, 0, 0, 0, []),
  (21, .getfield 125, 24, 4, 5, 0, 0, 48, 0, []),
  (24, .aaload, 25, 13, 0, 0, 1, 0, 0, []),
  (25, .astore_n 3, 26, 3, 0, 0, 0, 0, 0, []),
  (26, .aload_n 3, 27, 3, 0, 0, 0, 0, 0, []),
  (27, .invokevirtual 132, 30, 5, 1, 1, 0, 50, 0, []),
  (30, .iconst 0, 31, 0, 0, 0, 0, 0, 0, []),
  (31, .istore 4, 33, 4, 0, 0, 0, 0, 0, []),
  (33, .iload 4, 35, 4, 0, 0, 0, 0, 0, []),
  (35, .bipush 6, 37, 0, 0, 0, 0, 0, 6, []),
  (37, .if_icmp .gt 41, 40, 78, 0, 0, 0, 0, 0, []),
  (40, .aload_n 0, 41, 0, 0, 0, 0, 0, 0, []),
  (41, .invokevirtual 51, 44, 22, 1, 2, 0, 30, 0, []),
  (44, .aload_n 0, 45, 0, 0, 0, 0, 0, 0, []),
  (45, .getfield 32, 48, 2, 2, 0, 0, 23, 0, []),
  (48, .ifCond .ne 30, 51, 78, 0, 0, 0, 0, 0, []),
  (51, .iload 4, 53, 4, 0, 0, 0, 0, 0, []),
  (53, .ifCond .le 13, 56, 66, 0, 0, 0, 0, 0, []),
  (56, .aload_n 0, 57, 0, 0, 0, 0, 0, 0, []),
  (57, .invokevirtual 137, 60, 23, 1, 2, 0, 51, 0, []),
  (60, .ifCond .ne 6, 63, 66, 0, 0, 0, 0, 0, []),
  (63, .goto 15, 66, 78, 0, 0, 0, 0, 0, []),
  (66, .aload_n 0, 67, 0, 0, 0, 0, 0, 0, []),
  (67, .aload_n 1, 68, 1, 0, 0, 0, 0, 0, []),
  (68, .aload_n 3, 69, 3, 0, 0, 0, 0, 0, []),
  (69, .invokevirtual 140, 72, 17, 3, 2, 0, 52, 0, []),
  (72, .iinc 4 1, 75, 4, 0, 0, 0, 0, 1, []),
  (75, .goto (-42), 78, 33, 0, 0, 0, 0, 0, []),
  (78, .aload_n 3, 79, 3, 0, 0, 0, 0, 0, []),
  (79, .getfield 144, 82, 1, 3, 0, 0, 53, 0, []),
  (82, .iconst (-1), 83, 0, 0, 0, 0, 0, -1, []),
  (83, .if_icmp .ne 12, 86, 95, 0, 0, 0, 0, 0, []),
  (86, .aload_n 0, 87, 0, 0, 0, 0, 0, 0, []),
  (87, .iconst 3, 88, 0, 0, 0, 0, 0, 3, []),
  (88, .aload_n 0, 89, 0, 0, 0, 0, 0, 0, []),
  (89, .getfield 35, 92, 2, 5, 0, 0, 24, 0, []),
  (92, .invokevirtual 41, 95, 21, 3, 2, 0, 26, 0, []),
  (95, .aload_n 1, 96, 1, 0, 0, 0, 0, 0, []),
  (96, .dup, 97, 0, 0, 0, 0, 0, 0, []),
  (97, .getfield 125, 100, 4, 5, 0, 0, 48, 0, []),
  (100, .iconst 1, 101, 0, 0, 0, 0, 0, 1, []),
  (101, .iadd, 102, 0, 0, 0, 0, 0, 0, []),
  (102, .putfield 125, 105, 4, 5, 0, 0, 48, 0, []),
  (105, .return_, 106, 0, 0, 0, 0, 0, 0, [])]
def tbX2_readStep : List iE := [(0, .aload_n 0, 1, 0, 0, 0, 0, 0, 0, []),
  (1, .getfield 35, 4, 2, 5, 0, 0, 24, 0, []),
  (4, .istore_n 3, 5, 3, 0, 0, 0, 0, 0, []),
  (5, .aload_n 0, 6, 0, 0, 0, 0, 0, 0, []),
  (6, .iconst 0, 7, 0, 0, 0, 0, 0, 0, []),
  (7, .aload_n 1, 8, 1, 0, 0, 0, 0, 0, []),
  (8, .getfield 85, 11, 4, 4, 0, 0, 38, 0, []),
  (11, .iconst 1, 12, 0, 0, 0, 0, 0, 1, []),
  (12, .isub, 13, 0, 0, 0, 0, 0, 0, []),
  (13, .invokevirtual 81, 16, 20, 3, 2, 0, 37, 0, []),
  (16, .istore 4, 18, 4, 0, 0, 0, 0, 0, []),
  (18, .iload 4, 20, 4, 0, 0, 0, 0, 0, []),
  (20, .aload_n 1, 21, 1, 0, 0, 0, 0, 0, []),
  (21, .getfield 90, 24, 4, 7, 0, 0, 39, 0, []),
  (24, .if_icmp .ne 17, 27, 41, 0, 0, 0, 0, 0, []),
  (27, .aload_n 2, 28, 2, 0, 0, 0, 0, 0, []),
  (28, .getfield 144, 31, 1, 3, 0, 0, 53, 0, []),
  (31, .iconst (-1), 32, 0, 0, 0, 0, 0, -1, []),
  (32, .if_icmp .eq 9, 35, 41, 0, 0, 0, 0, 0, []),
  (35, .aload_n 0, 36, 0, 0, 0, 0, 0, 0, []),
  (36, .iconst 3, 37, 0, 0, 0, 0, 0, 3, []),
  (37, .iload_n 3, 38, 3, 0, 0, 0, 0, 0, []),
  (38, .invokevirtual 41, 41, 21, 3, 2, 0, 26, 0, []),
  (41, .aload_n 2, 42, 2, 0, 0, 0, 0, 0, []),
  (42, .getfield 147, 45, 1, 2, 0, 0, 54, 0, []),
  (45, .bipush 6, 47, 0, 0, 0, 0, 0, 6, []),
  (47, .if_icmp .lt 9, 50, 56, 0, 0, 0, 0, 0, []),
  (50, .aload_n 0, 51, 0, 0, 0, 0, 0, 0, []),
  (51, .iconst 4, 52, 0, 0, 0, 0, 0, 4, []),
  (52, .iload_n 3, 53, 3, 0, 0, 0, 0, 0, []),
  (53, .invokevirtual 41, 56, 21, 3, 2, 0, 26, 0, []),
  (56, .aload_n 0, 57, 0, 0, 0, 0, 0, 0, []),
  (57, .iconst 1, 58, 0, 0, 0, 0, 0, 1, []),
  (58, .bipush 20, 60, 0, 0, 0, 0, 0, 20, []),
  (60, .invokevirtual 81, 63, 20, 3, 2, 0, 37, 0, []),
  (63, .istore 5, 65, 5, 0, 0, 0, 0, 0, []),
  (65, .aload_n 0, 66, 0, 0, 0, 0, 0, 0, []),
  (66, .getfield 32, 69, 2, 2, 0, 0, 23, 0, []),
  (69, .ifCond .ne 52, 72, 121, 0, 0, 0, 0, 0, []),
  (72, .iload 4, 74, 4, 0, 0, 0, 0, 0, []),
  (74, .aload_n 1, 75, 1, 0, 0, 0, 0, 0, []),
  (75, .getfield 90, 78, 4, 7, 0, 0, 39, 0, []),
  (78, .if_icmp .ne 11, 81, 89, 0, 0, 0, 0, 0, []),
  (81, .aload_n 2, 82, 2, 0, 0, 0, 0, 0, []),
  (82, .aload_n 2, 83, 2, 0, 0, 0, 0, 0, []),
  (83, .getfield 147, 86, 1, 2, 0, 0, 54, 0, []),
  (86, .putfield 144, 89, 1, 3, 0, 0, 53, 0, []),
  (89, .aload_n 2, 90, 2, 0, 0, 0, 0, 0, []),
  (90, .getfield 150, 93, 1, 0, 1, 8, 55, 0, []),
  (93, .aload_n 2, 94, 2, 0, 0, 0, 0, 0, []),
  (94, .getfield 147, 97, 1, 2, 0, 0, 54, 0, []),
  (97, .iload 4, 99, 4, 0, 0, 0, 0, 0, []),
  (99, .iastore, 100, 8, 0, 0, 0, 0, 0, []),
  (100, .aload_n 2, 101, 2, 0, 0, 0, 0, 0, []),
  (101, .getfield 153, 104, 1, 1, 1, 8, 56, 0, []),
  (104, .aload_n 2, 105, 2, 0, 0, 0, 0, 0, []),
  (105, .getfield 147, 108, 1, 2, 0, 0, 54, 0, []),
  (108, .iload 5, 110, 5, 0, 0, 0, 0, 0, []),
  (110, .iastore, 111, 8, 0, 0, 0, 0, 0, []),
  (111, .aload_n 2, 112, 2, 0, 0, 0, 0, 0, []),
  (112, .dup, 113, 0, 0, 0, 0, 0, 0, []),
  (113, .getfield 147, 116, 1, 2, 0, 0, 54, 0, []),
  (116, .iconst 1, 117, 0, 0, 0, 0, 0, 1, []),
  (117, .iadd, 118, 0, 0, 0, 0, 0, 0, []),
  (118, .putfield 147, 121, 1, 2, 0, 0, 54, 0, []),
  (121, .return_, 122, 0, 0, 0, 0, 0, 0, [])]
def tbX2_readOrder : List iE := [(0, .aload_n 1, 1, 1, 0, 0, 0, 0, 0, []),
  (1, .getfield 156, 4, 4, 6, 0, 0, 57, 0, []),
  (4, .bipush 24, 6, 0, 0, 0, 0, 0, 24, []),
  (6, .if_icmp .lt 10, 9, 16, 0, 0, 0, 0, 0, []),
  (9, .aload_n 0, 10, 0, 0, 0, 0, 0, 0, []),
  (10, .iconst 4, 11, 0, 0, 0, 0, 0, 4, []),
  (11, .iload_n 2, 12, 2, 0, 0, 0, 0, 0, []),
  (12, .invokevirtual 41, 15, 21, 3, 2, 0, 26, 0, []),
  (15, .return_, 16, 0, 0, 0, 0, 0, 0, []),
  (16, .aload_n 0, 17, 0, 0, 0, 0, 0, 0, []),
  (17, .iconst 0, 18, 0, 0, 0, 0, 0, 0, []),
  (18, .aload_n 1, 19, 1, 0, 0, 0, 0, 0, []),
  (19, .getfield 125, 22, 4, 5, 0, 0, 48, 0, []),
  (22, .iconst 1, 23, 0, 0, 0, 0, 0, 1, []),
  (23, .isub, 24, 0, 0, 0, 0, 0, 0, []),
  (24, .invokevirtual 81, 27, 20, 3, 2, 0, 37, 0, []),
  (27, .istore_n 3, 28, 3, 0, 0, 0, 0, 0, []),
  (28, .aload_n 0, 29, 0, 0, 0, 0, 0, 0, []),
  (29, .iconst 1, 30, 0, 0, 0, 0, 0, 1, []),
  (30, .bipush 50, 32, 0, 0, 0, 0, 0, 50, []),
  (32, .invokevirtual 81, 35, 20, 3, 2, 0, 37, 0, []),
  (35, .istore 4, 37, 4, 0, 0, 0, 0, 0, []),
  (37, .aload_n 0, 38, 0, 0, 0, 0, 0, 0, []),
  (38, .iconst 0, 39, 0, 0, 0, 0, 0, 0, []),
  (39, .sipush 30000, 42, 0, 0, 0, 0, 0, 30000, []),
  (42, .invokevirtual 81, 45, 20, 3, 2, 0, 37, 0, []),
  (45, .istore 5, 47, 5, 0, 0, 0, 0, 0, []),
  (47, .aload_n 0, 48, 0, 0, 0, 0, 0, 0, []),
  (48, .getfield 32, 51, 2, 2, 0, 0, 23, 0, []),
  (51, .ifCond .ne 26, 54, 77, 0, 0, 0, 0, 0, []),
  (54, .aload_n 0, 55, 0, 0, 0, 0, 0, 0, []),
  (55, .getfield 19, 58, 2, 7, 1, 8, 58, 0, []),
  (58, .aload_n 1, 59, 1, 0, 0, 0, 0, 0, []),
  (59, .getfield 156, 62, 4, 6, 0, 0, 57, 0, []),
  (62, .aload_n 0, 63, 0, 0, 0, 0, 0, 0, []),
  (63, .getfield 38, 66, 2, 6, 0, 0, 25, 0, []),
  (66, .iastore, 67, 8, 0, 0, 0, 0, 0, []),
  (67, .aload_n 1, 68, 1, 0, 0, 0, 0, 0, []),
  (68, .iload_n 3, 69, 3, 0, 0, 0, 0, 0, []),
  (69, .iload 4, 71, 4, 0, 0, 0, 0, 0, []),
  (71, .iload 5, 73, 5, 0, 0, 0, 0, 0, []),
  (73, .invokevirtual 159, 76, 33, 4, 4, 0, 59, 0, []),
  (76, .pop, 77, 0, 0, 0, 0, 0, 0, []),
  (77, .return_, 78, 0, 0, 0, 0, 0, 0, [])]
def tbX2_checkDrumWorks : List iE := [(0, .iconst 0, 1, 0, 0, 0, 0, 0, 0, []),
  (1, .istore_n 2, 2, 2, 0, 0, 0, 0, 0, []),
  (2, .iload_n 2, 3, 2, 0, 0, 0, 0, 0, []),
  (3, .aload_n 1, 4, 1, 0, 0, 0, 0, 0, []),
  (4, .getfield 156, 7, 4, 6, 0, 0, 57, 0, []),
  (7, .if_icmp .ge 45, 10, 52, 0, 0, 0, 0, 0, []),
  (10, .aload_n 1, 11, 1, 0, 0, 0, 0, 0, []),
  (11, .getfield 163, 14, 4, 2, 1, 12, 60, 0, []),
  (14, .iload_n 2, 15, 2, 0, 0, 0, 0, 0, []),
  (15, .aaload, 16, 12, 0, 0, 0, 0, 0, []),
  (16, .getfield 167, 19, 0, 3, 0, 0, 61, 0, []),
  (19, .aload_n 1, 20, 1, 0, 0, 0, 0, 0, []),
  (20, .getfield 103, 23, 4, 10, 0, 0, 42, 0, []),
  (23, .if_icmp .le 23, 26, 46, 0, 0, 0, 0, 0, []),
  (26, .aload_n 0, 27, 0, 0, 0, 0, 0, 0, []),
  (27, .aload_n 0, 28, 0, 0, 0, 0, 0, 0, []),
  (28, .getfield 19, 31, 2, 7, 1, 8, 58, 0, []),
  (31, .iload_n 2, 32, 2, 0, 0, 0, 0, 0, []),
  (32, .iaload, 33, 8, 0, 0, 0, 0, 0, []),
  (33, .putfield 38, 36, 2, 6, 0, 0, 25, 0, []),
  (36, .aload_n 0, 37, 0, 0, 0, 0, 0, 0, []),
  (37, .iconst 5, 38, 0, 0, 0, 0, 0, 5, []),
  (38, .aload_n 0, 39, 0, 0, 0, 0, 0, 0, []),
  (39, .getfield 22, 42, 2, 1, 0, 0, 19, 0, []),
  (42, .invokevirtual 41, 45, 21, 3, 2, 0, 26, 0, []),
  (45, .return_, 46, 0, 0, 0, 0, 0, 0, []),
  (46, .iinc 2 1, 49, 2, 0, 0, 0, 0, 1, []),
  (49, .goto (-47), 52, 2, 0, 0, 0, 0, 0, []),
  (52, .return_, 53, 0, 0, 0, 0, 0, 0, [])]
def tbX2_readNumber : List iE := [(0, .aload_n 0, 1, 0, 0, 0, 0, 0, 0, []),
  (1, .getfield 32, 4, 2, 2, 0, 0, 23, 0, []),
  (4, .ifCond .eq 5, 7, 9, 0, 0, 0, 0, 0, []),
  (7, .iconst (-1), 8, 0, 0, 0, 0, 0, -1, []),
  (8, .ireturn, 9, 0, 0, 0, 0, 0, 0, []),
  (9, .aload_n 0, 10, 0, 0, 0, 0, 0, 0, []),
  (10, .invokevirtual 51, 13, 22, 1, 2, 0, 30, 0, []),
  (13, .aload_n 0, 14, 0, 0, 0, 0, 0, 0, []),
  (14, .getfield 35, 17, 2, 5, 0, 0, 24, 0, []),
  (17, .istore_n 3, 18, 3, 0, 0, 0, 0, 0, []),
  (18, .iconst 0, 19, 0, 0, 0, 0, 0, 0, []),
  (19, .istore 4, 21, 4, 0, 0, 0, 0, 0, []),
  (21, .aload_n 0, 22, 0, 0, 0, 0, 0, 0, []),
  (22, .invokevirtual 137, 25, 23, 1, 2, 0, 51, 0, []),
  (25, .ifCond .eq 41, 28, 66, 0, 0, 0, 0, 0, []),
  (28, .bipush 10, 30, 0, 0, 0, 0, 0, 10, []),
  (30, .iload 4, 32, 4, 0, 0, 0, 0, 0, []),
  (32, .imul, 33, 0, 0, 0, 0, 0, 0, []),
  (33, .aload_n 0, 34, 0, 0, 0, 0, 0, 0, []),
  (34, .getfield 9, 37, 2, 0, 1, 8, 20, 0, []),
  (37, .aload_n 0, 38, 0, 0, 0, 0, 0, 0, []),
  (38, .getfield 35, 41, 2, 5, 0, 0, 24, 0, []),
  (41, .iaload, 42, 8, 0, 0, 0, 0, 0, []),
  (42, .iadd, 43, 0, 0, 0, 0, 0, 0, []),
  (43, .bipush 48, 45, 0, 0, 0, 0, 0, 48, []),
  (45, .isub, 46, 0, 0, 0, 0, 0, 0, []),
  (46, .ldc 172, 48, 0, 0, 0, 0, 62, 1000000, []),
  (48, .invokestatic 173, 51, 0, 0, 0, 2, 63, 0, []),
  (51, .istore 4, 53, 4, 0, 0, 0, 0, 0, []),
  (53, .aload_n 0, 54, 0, 0, 0, 0, 0, 0, []),
  (54, .dup, 55, 0, 0, 0, 0, 0, 0, []),
  (55, .getfield 35, 58, 2, 5, 0, 0, 24, 0, []),
  (58, .iconst 1, 59, 0, 0, 0, 0, 0, 1, []),
  (59, .iadd, 60, 0, 0, 0, 0, 0, 0, []),
  (60, .putfield 35, 63, 2, 5, 0, 0, 24, 0, []),
  (63, .goto (-42), 66, 21, 0, 0, 0, 0, 0, []),
  (66, .aload_n 0, 67, 0, 0, 0, 0, 0, 0, []),
  (67, .getfield 35, 70, 2, 5, 0, 0, 24, 0, []),
  (70, .iload_n 3, 71, 3, 0, 0, 0, 0, 0, []),
  (71, .if_icmp .ne 11, 74, 82, 0, 0, 0, 0, 0, []),
  (74, .aload_n 0, 75, 0, 0, 0, 0, 0, 0, []),
  (75, .iconst 1, 76, 0, 0, 0, 0, 0, 1, []),
  (76, .iload_n 3, 77, 3, 0, 0, 0, 0, 0, []),
  (77, .invokevirtual 41, 80, 21, 3, 2, 0, 26, 0, []),
  (80, .iconst (-1), 81, 0, 0, 0, 0, 0, -1, []),
  (81, .ireturn, 82, 0, 0, 0, 0, 0, 0, []),
  (82, .iload 4, 84, 4, 0, 0, 0, 0, 0, []),
  (84, .iload_n 1, 85, 1, 0, 0, 0, 0, 0, []),
  (85, .if_icmp .lt 9, 88, 94, 0, 0, 0, 0, 0, []),
  (88, .iload 4, 90, 4, 0, 0, 0, 0, 0, []),
  (90, .iload_n 2, 91, 2, 0, 0, 0, 0, 0, []),
  (91, .if_icmp .le 11, 94, 102, 0, 0, 0, 0, 0, []),
  (94, .aload_n 0, 95, 0, 0, 0, 0, 0, 0, []),
  (95, .iconst 2, 96, 0, 0, 0, 0, 0, 2, []),
  (96, .iload_n 3, 97, 3, 0, 0, 0, 0, 0, []),
  (97, .invokevirtual 41, 100, 21, 3, 2, 0, 26, 0, []),
  (100, .iconst (-1), 101, 0, 0, 0, 0, 0, -1, []),
  (101, .ireturn, 102, 0, 0, 0, 0, 0, 0, []),
  (102, .iload 4, 104, 4, 0, 0, 0, 0, 0, []),
  (104, .ireturn, 105, 0, 0, 0, 0, 0, 0, [])]
def tbX2_fail : List iE := [(0, .aload_n 0, 1, 0, 0, 0, 0, 0, 0, []),
  (1, .getfield 32, 4, 2, 2, 0, 0, 23, 0, []),
  (4, .ifCond .ne 21, 7, 25, 0, 0, 0, 0, 0, []),
  (7, .aload_n 0, 8, 0, 0, 0, 0, 0, 0, []),
  (8, .iload_n 1, 9, 1, 0, 0, 0, 0, 0, []),
  (9, .putfield 32, 12, 2, 2, 0, 0, 23, 0, []),
  (12, .aload_n 0, 13, 0, 0, 0, 0, 0, 0, []),
  (13, .iload_n 2, 14, 2, 0, 0, 0, 0, 0, []),
  (14, .putfield 48, 17, 2, 3, 0, 0, 28, 0, []),
  (17, .aload_n 0, 18, 0, 0, 0, 0, 0, 0, []),
  (18, .aload_n 0, 19, 0, 0, 0, 0, 0, 0, []),
  (19, .getfield 38, 22, 2, 6, 0, 0, 25, 0, []),
  (22, .putfield 15, 25, 2, 4, 0, 0, 29, 0, []),
  (25, .return_, 26, 0, 0, 0, 0, 0, 0, [])]
def tbX2_skipSpaces : List iE := [(0, .aload_n 0, 1, 0, 0, 0, 0, 0, 0, []),
  (1, .getfield 35, 4, 2, 5, 0, 0, 24, 0, []),
  (4, .aload_n 0, 5, 0, 0, 0, 0, 0, 0, []),
  (5, .getfield 22, 8, 2, 1, 0, 0, 19, 0, []),
  (8, .if_icmp .ge 30, 11, 38, 0, 0, 0, 0, 0, []),
  (11, .aload_n 0, 12, 0, 0, 0, 0, 0, 0, []),
  (12, .getfield 9, 15, 2, 0, 1, 8, 20, 0, []),
  (15, .aload_n 0, 16, 0, 0, 0, 0, 0, 0, []),
  (16, .getfield 35, 19, 2, 5, 0, 0, 24, 0, []),
  (19, .iaload, 20, 8, 0, 0, 0, 0, 0, []),
  (20, .bipush 32, 22, 0, 0, 0, 0, 0, 32, []),
  (22, .if_icmp .ne 16, 25, 38, 0, 0, 0, 0, 0, []),
  (25, .aload_n 0, 26, 0, 0, 0, 0, 0, 0, []),
  (26, .dup, 27, 0, 0, 0, 0, 0, 0, []),
  (27, .getfield 35, 30, 2, 5, 0, 0, 24, 0, []),
  (30, .iconst 1, 31, 0, 0, 0, 0, 0, 1, []),
  (31, .iadd, 32, 0, 0, 0, 0, 0, 0, []),
  (32, .putfield 35, 35, 2, 5, 0, 0, 24, 0, []),
  (35, .goto (-35), 38, 0, 0, 0, 0, 0, 0, []),
  (38, .return_, 39, 0, 0, 0, 0, 0, 0, [])]
def tbX2_isDigit : List iE := [(0, .aload_n 0, 1, 0, 0, 0, 0, 0, 0, []),
  (1, .getfield 35, 4, 2, 5, 0, 0, 24, 0, []),
  (4, .aload_n 0, 5, 0, 0, 0, 0, 0, 0, []),
  (5, .getfield 22, 8, 2, 1, 0, 0, 19, 0, []),
  (8, .if_icmp .ge 35, 11, 43, 0, 0, 0, 0, 0, []),
  (11, .aload_n 0, 12, 0, 0, 0, 0, 0, 0, []),
  (12, .getfield 9, 15, 2, 0, 1, 8, 20, 0, []),
  (15, .aload_n 0, 16, 0, 0, 0, 0, 0, 0, []),
  (16, .getfield 35, 19, 2, 5, 0, 0, 24, 0, []),
  (19, .iaload, 20, 8, 0, 0, 0, 0, 0, []),
  (20, .bipush 48, 22, 0, 0, 0, 0, 0, 48, []),
  (22, .if_icmp .lt 21, 25, 43, 0, 0, 0, 0, 0, []),
  (25, .aload_n 0, 26, 0, 0, 0, 0, 0, 0, []),
  (26, .getfield 9, 29, 2, 0, 1, 8, 20, 0, []),
  (29, .aload_n 0, 30, 0, 0, 0, 0, 0, 0, []),
  (30, .getfield 35, 33, 2, 5, 0, 0, 24, 0, []),
  (33, .iaload, 34, 8, 0, 0, 0, 0, 0, []),
  (34, .bipush 57, 36, 0, 0, 0, 0, 0, 57, []),
  (36, .if_icmp .gt 7, 39, 43, 0, 0, 0, 0, 0, []),
  (39, .iconst 1, 40, 0, 0, 0, 0, 0, 1, []),
  (40, .goto 4, 43, 44, 0, 0, 0, 0, 0, []),
  (43, .iconst 0, 44, 0, 0, 0, 0, 0, 0, []),
  (44, .ireturn, 45, 0, 0, 1, 0, 0, 0, [])]
def tbX2_isLetter : List iE := [(0, .aload_n 0, 1, 0, 0, 0, 0, 0, 0, []),
  (1, .getfield 35, 4, 2, 5, 0, 0, 24, 0, []),
  (4, .aload_n 0, 5, 0, 0, 0, 0, 0, 0, []),
  (5, .getfield 22, 8, 2, 1, 0, 0, 19, 0, []),
  (8, .if_icmp .ge 35, 11, 43, 0, 0, 0, 0, 0, []),
  (11, .aload_n 0, 12, 0, 0, 0, 0, 0, 0, []),
  (12, .getfield 9, 15, 2, 0, 1, 8, 20, 0, []),
  (15, .aload_n 0, 16, 0, 0, 0, 0, 0, 0, []),
  (16, .getfield 35, 19, 2, 5, 0, 0, 24, 0, []),
  (19, .iaload, 20, 8, 0, 0, 0, 0, 0, []),
  (20, .bipush 97, 22, 0, 0, 0, 0, 0, 97, []),
  (22, .if_icmp .lt 21, 25, 43, 0, 0, 0, 0, 0, []),
  (25, .aload_n 0, 26, 0, 0, 0, 0, 0, 0, []),
  (26, .getfield 9, 29, 2, 0, 1, 8, 20, 0, []),
  (29, .aload_n 0, 30, 0, 0, 0, 0, 0, 0, []),
  (30, .getfield 35, 33, 2, 5, 0, 0, 24, 0, []),
  (33, .iaload, 34, 8, 0, 0, 0, 0, 0, []),
  (34, .bipush 122, 36, 0, 0, 0, 0, 0, 122, []),
  (36, .if_icmp .gt 7, 39, 43, 0, 0, 0, 0, 0, []),
  (39, .iconst 1, 40, 0, 0, 0, 0, 0, 1, []),
  (40, .goto 4, 43, 44, 0, 0, 0, 0, 0, []),
  (43, .iconst 0, 44, 0, 0, 0, 0, 0, 0, []),
  (44, .ireturn, 45, 0, 0, 1, 0, 0, 0, [])]
def tbX2_isWord : List iE := [(0, .aload_n 0, 1, 0, 0, 0, 0, 0, 0, []),
  (1, .getfield 35, 4, 2, 5, 0, 0, 24, 0, []),
  (4, .iload_n 1, 5, 1, 0, 0, 0, 0, 0, []),
  (5, .isub, 6, 0, 0, 0, 0, 0, 0, []),
  (6, .aload_n 2, 7, 2, 0, 0, 0, 0, 0, []),
  (7, .invokevirtual 178, 10, 0, 0, 0, 1, 64, 0, []),
  (10, .if_icmp .eq 5, 13, 15, 0, 0, 0, 0, 0, []),
  (13, .iconst 0, 14, 0, 0, 0, 0, 0, 0, []),
  (14, .ireturn, 15, 0, 0, 1, 0, 0, 0, []),
  (15, .iconst 0, 16, 0, 0, 0, 0, 0, 0, []),
  (16, .istore_n 3, 17, 3, 0, 0, 0, 0, 0, []),
  (17, .iload_n 3, 18, 3, 0, 0, 0, 0, 0, []),
  (18, .aload_n 2, 19, 2, 0, 0, 0, 0, 0, []),
  (19, .invokevirtual 178, 22, 0, 0, 0, 1, 64, 0, []),
  (22, .if_icmp .ge 27, 25, 49, 0, 0, 0, 0, 0, []),
  (25, .aload_n 0, 26, 0, 0, 0, 0, 0, 0, []),
  (26, .getfield 9, 29, 2, 0, 1, 8, 20, 0, []),
  (29, .iload_n 1, 30, 1, 0, 0, 0, 0, 0, []),
  (30, .iload_n 3, 31, 3, 0, 0, 0, 0, 0, []),
  (31, .iadd, 32, 0, 0, 0, 0, 0, 0, []),
  (32, .iaload, 33, 8, 0, 0, 0, 0, 0, []),
  (33, .aload_n 2, 34, 2, 0, 0, 0, 0, 0, []),
  (34, .iload_n 3, 35, 3, 0, 0, 0, 0, 0, []),
  (35, .invokevirtual 183, 38, 0, 0, 0, 2, 65, 0, []),
  (38, .if_icmp .eq 5, 41, 43, 0, 0, 0, 0, 0, []),
  (41, .iconst 0, 42, 0, 0, 0, 0, 0, 0, []),
  (42, .ireturn, 43, 0, 0, 1, 0, 0, 0, []),
  (43, .iinc 3 1, 46, 3, 0, 0, 0, 0, 1, []),
  (46, .goto (-29), 49, 17, 0, 0, 0, 0, 0, []),
  (49, .iconst 1, 50, 0, 0, 0, 0, 0, 1, []),
  (50, .ireturn, 51, 0, 0, 1, 0, 0, 0, [])]
def tbX3_make : List iE := [(0, .aload_n 0, 1, 0, 0, 0, 0, 0, 0, []),
  (1, .aload_n 1, 2, 1, 0, 0, 0, 0, 0, []),
  (2, .invokevirtual 18, 5, 27, 2, 3, 0, 66, 0, []),
  (5, .aload_n 0, 6, 0, 0, 0, 0, 0, 0, []),
  (6, .aload_n 1, 7, 1, 0, 0, 0, 0, 0, []),
  (7, .invokevirtual 22, 10, 28, 2, 3, 0, 67, 0, []),
  (10, .aload_n 0, 11, 0, 0, 0, 0, 0, 0, []),
  (11, .aload_n 1, 12, 1, 0, 0, 0, 0, 0, []),
  (12, .aload_n 1, 13, 1, 0, 0, 0, 0, 0, []),
  (13, .invokevirtual 25, 16, 36, 1, 4, 0, 68, 0, []),
  (16, .invokevirtual 31, 19, 29, 3, 3, 0, 69, 0, []),
  (19, .return_, 20, 0, 0, 0, 0, 0, 0, [])]
def tbX3_collectByDue : List iE := [(0, .aload_n 0, 1, 0, 0, 0, 0, 0, 0, []),
  (1, .iconst 0, 2, 0, 0, 0, 0, 0, 0, []),
  (2, .putfield 35, 5, 3, 2, 0, 0, 70, 0, []),
  (5, .iconst 0, 6, 0, 0, 0, 0, 0, 0, []),
  (6, .istore_n 2, 7, 2, 0, 0, 0, 0, 0, []),
  (7, .iload_n 2, 8, 2, 0, 0, 0, 0, 0, []),
  (8, .aload_n 1, 9, 1, 0, 0, 0, 0, 0, []),
  (9, .getfield 39, 12, 4, 6, 0, 0, 71, 0, []),
  (12, .if_icmp .ge 107, 15, 119, 0, 0, 0, 0, 0, []),
  (15, .aload_n 1, 16, 1, 0, 0, 0, 0, 0, []),
  (16, .getfield 42, 19, 4, 2, 1, 12, 72, 0, []),
  (19, .iload_n 2, 20, 2, 0, 0, 0, 0, 0, []),
  (20, .aaload, 21, 12, 0, 0, 0, 0, 0, []),
  (21, .astore_n 3, 22, 3, 0, 0, 0, 0, 0, []),
  (22, .aload_n 3, 23, 3, 0, 0, 0, 0, 0, []),
  (23, .getfield 46, 26, 0, 5, 0, 0, 73, 0, []),
  (26, .iconst 3, 27, 0, 0, 0, 0, 0, 3, []),
  (27, .if_icmp .eq 86, 30, 113, 0, 0, 0, 0, 0, []),
  (30, .aload_n 3, 31, 3, 0, 0, 0, 0, 0, []),
  (31, .getfield 51, 34, 0, 11, 0, 0, 74, 0, []),
  (34, .iconst (-1), 35, 0, 0, 0, 0, 0, -1, []),
  (35, .if_icmp .ne 78, 38, 113, 0, 0, 0, 0, 0, []),
  (38, .aload_n 0, 39, 0, 0, 0, 0, 0, 0, []),
  (39, .getfield 35, 42, 3, 2, 0, 0, 70, 0, []),
  (42, .istore 4, 44, 4, 0, 0, 0, 0, 0, []),
  (44, .iload 4, 46, 4, 0, 0, 0, 0, 0, []),
  (46, .ifCond .le 49, 49, 95, 0, 0, 0, 0, 0, []),
  (49, .aload_n 1, 50, 1, 0, 0, 0, 0, 0, []),
  (50, .getfield 42, 53, 4, 2, 1, 12, 72, 0, []),
  (53, .aload_n 0, 54, 0, 0, 0, 0, 0, 0, []),
  (54, .getfield 9, 57, 3, 0, 1, 8, 75, 0, []),
  (57, .iload 4, 59, 4, 0, 0, 0, 0, 0, []),
  (59, .iconst 1, 60, 0, 0, 0, 0, 0, 1, []),
  (60, .isub, 61, 0, 0, 0, 0, 0, 0, []),
  (61, .iaload, 62, 8, 0, 0, 0, 0, 0, []),
  (62, .aaload, 63, 12, 0, 0, 0, 0, 0, []),
  (63, .getfield 54, 66, 0, 2, 0, 0, 76, 0, []),
  (66, .aload_n 3, 67, 3, 0, 0, 0, 0, 0, []),
  (67, .getfield 54, 70, 0, 2, 0, 0, 76, 0, []),
  (70, .if_icmp .le 25, 73, 95, 0, 0, 0, 0, 0, []),
  (73, .aload_n 0, 74, 0, 0, 0, 0, 0, 0, []),
  (74, .getfield 9, 77, 3, 0, 1, 8, 75, 0, []),
  (77, .iload 4, 79, 4, 0, 0, 0, 0, 0, []),
  (79, .aload_n 0, 80, 0, 0, 0, 0, 0, 0, []),
  (80, .getfield 9, 83, 3, 0, 1, 8, 75, 0, []),
  (83, .iload 4, 85, 4, 0, 0, 0, 0, 0, []),
  (85, .iconst 1, 86, 0, 0, 0, 0, 0, 1, []),
  (86, .isub, 87, 0, 0, 0, 0, 0, 0, []),
  (87, .iaload, 88, 8, 0, 0, 0, 0, 0, []),
  (88, .iastore, 89, 8, 0, 0, 0, 0, 0, []),
  (89, .iinc 4 (-1), 92, 4, 0, 0, 0, 0, -1, []),
  (92, .goto (-48), 95, 44, 0, 0, 0, 0, 0, []),
  (95, .aload_n 0, 96, 0, 0, 0, 0, 0, 0, []),
  (96, .getfield 9, 99, 3, 0, 1, 8, 75, 0, []),
  (99, .iload 4, 101, 4, 0, 0, 0, 0, 0, []),
  (101, .iload_n 2, 102, 2, 0, 0, 0, 0, 0, []),
  (102, .iastore, 103, 8, 0, 0, 0, 0, 0, []),
  (103, .aload_n 0, 104, 0, 0, 0, 0, 0, 0, []),
  (104, .dup, 105, 0, 0, 0, 0, 0, 0, []),
  (105, .getfield 35, 108, 3, 2, 0, 0, 70, 0, []),
  (108, .iconst 1, 109, 0, 0, 0, 0, 0, 1, []),
  (109, .iadd, 110, 0, 0, 0, 0, 0, 0, []),
  (110, .putfield 35, 113, 3, 2, 0, 0, 70, 0, []),
  (113, .iinc 2 1, 116, 2, 0, 0, 0, 0, 1, []),
  (116, .goto (-109), 119, 7, 0, 0, 0, 0, 0, []),
  (119, .return_, 120, 0, 0, 0, 0, 0, 0, [])]
def tbX3_planBackward : List iE := [(0, .aload_n 0, 1, 0, 0, 0, 0, 0, 0, []),
  (1, .getfield 35, 4, 3, 2, 0, 0, 70, 0, []),
  (4, .iconst 1, 5, 0, 0, 0, 0, 0, 1, []),
  (5, .isub, 6, 0, 0, 0, 0, 0, 0, []),
  (6, .istore_n 2, 7, 2, 0, 0, 0, 0, 0, []),
  (7, .iload_n 2, 8, 2, 0, 0, 0, 0, 0, []),
  (8, .ifCond .lt 78, 11, 86, 0, 0, 0, 0, 0, []),
  (11, .aload_n 1, 12, 1, 0, 0, 0, 0, 0, []),
  (12, .getfield 42, 15, 4, 2, 1, 12, 72, 0, []),
  (15, .aload_n 0, 16, 0, 0, 0, 0, 0, 0, []),
  (16, .getfield 9, 19, 3, 0, 1, 8, 75, 0, []),
  (19, .iload_n 2, 20, 2, 0, 0, 0, 0, 0, []),
  (20, .iaload, 21, 8, 0, 0, 0, 0, 0, []),
  (21, .aaload, 22, 12, 0, 0, 0, 0, 0, []),
  (22, .astore_n 3, 23, 3, 0, 0, 0, 0, 0, []),
  (23, .aload_n 3, 24, 3, 0, 0, 0, 0, 0, []),
  (24, .getfield 54, 27, 0, 2, 0, 0, 76, 0, []),
  (27, .aload_n 1, 28, 1, 0, 0, 0, 0, 0, []),
  (28, .getfield 57, 31, 4, 9, 0, 0, 77, 0, []),
  (31, .isub, 32, 0, 0, 0, 0, 0, 0, []),
  (32, .istore 4, 34, 4, 0, 0, 0, 0, 0, []),
  (34, .iload_n 2, 35, 2, 0, 0, 0, 0, 0, []),
  (35, .iconst 1, 36, 0, 0, 0, 0, 0, 1, []),
  (36, .iadd, 37, 0, 0, 0, 0, 0, 0, []),
  (37, .aload_n 0, 38, 0, 0, 0, 0, 0, 0, []),
  (38, .getfield 35, 41, 3, 2, 0, 0, 70, 0, []),
  (41, .if_icmp .ge 26, 44, 67, 0, 0, 0, 0, 0, []),
  (44, .aload_n 0, 45, 0, 0, 0, 0, 0, 0, []),
  (45, .getfield 15, 48, 3, 1, 1, 8, 78, 0, []),
  (48, .iload_n 2, 49, 2, 0, 0, 0, 0, 0, []),
  (49, .iconst 1, 50, 0, 0, 0, 0, 0, 1, []),
  (50, .iadd, 51, 0, 0, 0, 0, 0, 0, []),
  (51, .iaload, 52, 8, 0, 0, 0, 0, 0, []),
  (52, .iload 4, 54, 4, 0, 0, 0, 0, 0, []),
  (54, .if_icmp .ge 13, 57, 67, 0, 0, 0, 0, 0, []),
  (57, .aload_n 0, 58, 0, 0, 0, 0, 0, 0, []),
  (58, .getfield 15, 61, 3, 1, 1, 8, 78, 0, []),
  (61, .iload_n 2, 62, 2, 0, 0, 0, 0, 0, []),
  (62, .iconst 1, 63, 0, 0, 0, 0, 0, 1, []),
  (63, .iadd, 64, 0, 0, 0, 0, 0, 0, []),
  (64, .iaload, 65, 8, 0, 0, 0, 0, 0, []),
  (65, .istore 4, 67, 4, 0, 0, 0, 0, 0, []),
  (67, .aload_n 0, 68, 0, 0, 0, 0, 0, 0, []),
  (68, .getfield 15, 71, 3, 1, 1, 8, 78, 0, []),
  (71, .iload_n 2, 72, 2, 0, 0, 0, 0, 0, []),
  (72, .iload 4, 74, 4, 0, 0, 0, 0, 0, []),
  (74, .aload_n 3, 75, 3, 0, 0, 0, 0, 0, []),
  (75, .getfield 60, 78, 0, 3, 0, 0, 79, 0, []),
  (78, .isub, 79, 0, 0, 0, 0, 0, 0, []),
  (79, .iastore, 80, 8, 0, 0, 0, 0, 0, []),
  (80, .iinc 2 (-1), 83, 2, 0, 0, 0, 0, -1, []),
  (83, .goto (-76), 86, 7, 0, 0, 0, 0, 0, []),
  (86, .return_, 87, 0, 0, 0, 0, 0, 0, [])]
def tbX3_planForward : List iE := [(0, .iload_n 2, 1, 2, 0, 0, 0, 0, 0, []),
  (1, .istore_n 3, 2, 3, 0, 0, 0, 0, 0, []),
  (2, .iconst 0, 3, 0, 0, 0, 0, 0, 0, []),
  (3, .istore 4, 5, 4, 0, 0, 0, 0, 0, []),
  (5, .iload 4, 7, 4, 0, 0, 0, 0, 0, []),
  (7, .aload_n 0, 8, 0, 0, 0, 0, 0, 0, []),
  (8, .getfield 35, 11, 3, 2, 0, 0, 70, 0, []),
  (11, .if_icmp .ge 52, 14, 63, 0, 0, 0, 0, 0, []),
  (14, .aload_n 0, 15, 0, 0, 0, 0, 0, 0, []),
  (15, .getfield 15, 18, 3, 1, 1, 8, 78, 0, []),
  (18, .iload 4, 20, 4, 0, 0, 0, 0, 0, []),
  (20, .iaload, 21, 8, 0, 0, 0, 0, 0, []),
  (21, .iload_n 3, 22, 3, 0, 0, 0, 0, 0, []),
  (22, .if_icmp .ge 11, 25, 33, 0, 0, 0, 0, 0, []),
  (25, .aload_n 0, 26, 0, 0, 0, 0, 0, 0, []),
  (26, .getfield 15, 29, 3, 1, 1, 8, 78, 0, []),
  (29, .iload 4, 31, 4, 0, 0, 0, 0, 0, []),
  (31, .iload_n 3, 32, 3, 0, 0, 0, 0, 0, []),
  (32, .iastore, 33, 8, 0, 0, 0, 0, 0, []),
  (33, .aload_n 0, 34, 0, 0, 0, 0, 0, 0, []),
  (34, .getfield 15, 37, 3, 1, 1, 8, 78, 0, []),
  (37, .iload 4, 39, 4, 0, 0, 0, 0, 0, []),
  (39, .iaload, 40, 8, 0, 0, 0, 0, 0, []),
  (40, .aload_n 1, 41, 1, 0, 0, 0, 0, 0, []),
  (41, .getfield 42, 44, 4, 2, 1, 12, 72, 0, []),
  (44, .aload_n 0, 45, 0, 0, 0, 0, 0, 0, []),
  (45, .getfield 9, 48, 3, 0, 1, 8, 75, 0, []),
  (48, .iload 4, 50, 4, 0, 0, 0, 0, 0, []),
  (50, .iaload, 51, 8, 0, 0, 0, 0, 0, []),
  (51, .aaload, 52, 12, 0, 0, 0, 0, 0, []),
  (52, .getfield 60, 55, 0, 3, 0, 0, 79, 0, []),
  (55, .iadd, 56, 0, 0, 0, 0, 0, 0, []),
  (56, .istore_n 3, 57, 3, 0, 0, 0, 0, 0, []),
  (57, .iinc 4 1, 60, 4, 0, 0, 0, 0, 1, []),
  (60, .goto (-55), 63, 5, 0, 0, 0, 0, 0, []),
  (63, .return_, 64, 0, 0, 0, 0, 0, 0, [])]
def tbX3_firstFit : List iE := [(0, .iload_n 3, 1, 3, 0, 0, 0, 0, 0, []),
  (1, .istore 4, 3, 4, 0, 0, 0, 0, 0, []),
  (3, .iconst 0, 4, 0, 0, 0, 0, 0, 0, []),
  (4, .istore 5, 6, 5, 0, 0, 0, 0, 0, []),
  (6, .iload 5, 8, 5, 0, 0, 0, 0, 0, []),
  (8, .aload_n 0, 9, 0, 0, 0, 0, 0, 0, []),
  (9, .getfield 35, 12, 3, 2, 0, 0, 70, 0, []),
  (12, .if_icmp .ge 56, 15, 68, 0, 0, 0, 0, 0, []),
  (15, .iload 4, 17, 4, 0, 0, 0, 0, 0, []),
  (17, .iload_n 2, 18, 2, 0, 0, 0, 0, 0, []),
  (18, .iadd, 19, 0, 0, 0, 0, 0, 0, []),
  (19, .aload_n 0, 20, 0, 0, 0, 0, 0, 0, []),
  (20, .getfield 15, 23, 3, 1, 1, 8, 78, 0, []),
  (23, .iload 5, 25, 5, 0, 0, 0, 0, 0, []),
  (25, .iaload, 26, 8, 0, 0, 0, 0, 0, []),
  (26, .if_icmp .gt 6, 29, 32, 0, 0, 0, 0, 0, []),
  (29, .iload 4, 31, 4, 0, 0, 0, 0, 0, []),
  (31, .ireturn, 32, 0, 0, 0, 0, 0, 0, []),
  (32, .iload 4, 34, 4, 0, 0, 0, 0, 0, []),
  (34, .aload_n 0, 35, 0, 0, 0, 0, 0, 0, []),
  (35, .getfield 15, 38, 3, 1, 1, 8, 78, 0, []),
  (38, .iload 5, 40, 5, 0, 0, 0, 0, 0, []),
  (40, .iaload, 41, 8, 0, 0, 0, 0, 0, []),
  (41, .aload_n 1, 42, 1, 0, 0, 0, 0, 0, []),
  (42, .getfield 42, 45, 4, 2, 1, 12, 72, 0, []),
  (45, .aload_n 0, 46, 0, 0, 0, 0, 0, 0, []),
  (46, .getfield 9, 49, 3, 0, 1, 8, 75, 0, []),
  (49, .iload 5, 51, 5, 0, 0, 0, 0, 0, []),
  (51, .iaload, 52, 8, 0, 0, 0, 0, 0, []),
  (52, .aaload, 53, 12, 0, 0, 0, 0, 0, []),
  (53, .getfield 60, 56, 0, 3, 0, 0, 79, 0, []),
  (56, .iadd, 57, 0, 0, 0, 0, 0, 0, []),
  (57, .invokestatic 63, 60, 0, 0, 0, 1, 80, 0, []),
  (60, .istore 4, 62, 4, 0, 0, 0, 0, 0, []),
  (62, .iinc 5 1, 65, 5, 0, 0, 0, 0, 1, []),
  (65, .goto (-59), 68, 6, 0, 0, 0, 0, 0, []),
  (68, .iload 4, 70, 4, 0, 0, 0, 0, 0, []),
  (70, .ireturn, 71, 0, 0, 0, 0, 0, 0, [])]
def tbX4_clear : List iE := [(0, .aload_n 0, 1, 0, 0, 0, 0, 0, 0, []),
  (1, .iconst 1, 2, 0, 0, 0, 0, 0, 1, []),
  (2, .putfield 42, 5, 4, 4, 0, 0, 81, 0, []),
  (5, .aload_n 0, 6, 0, 0, 0, 0, 0, 0, []),
  (6, .iconst 0, 7, 0, 0, 0, 0, 0, 0, []),
  (7, .putfield 46, 10, 4, 5, 0, 0, 82, 0, []),
  (10, .aload_n 0, 11, 0, 0, 0, 0, 0, 0, []),
  (11, .iconst 0, 12, 0, 0, 0, 0, 0, 0, []),
  (12, .putfield 49, 15, 4, 6, 0, 0, 83, 0, []),
  (15, .aload_n 0, 16, 0, 0, 0, 0, 0, 0, []),
  (16, .iconst 0, 17, 0, 0, 0, 0, 0, 0, []),
  (17, .putfield 52, 20, 4, 7, 0, 0, 84, 0, []),
  (20, .aload_n 0, 21, 0, 0, 0, 0, 0, 0, []),
  (21, .bipush 20, 23, 0, 0, 0, 0, 0, 20, []),
  (23, .putfield 55, 26, 4, 8, 0, 0, 85, 0, []),
  (26, .aload_n 0, 27, 0, 0, 0, 0, 0, 0, []),
  (27, .bipush 20, 29, 0, 0, 0, 0, 0, 20, []),
  (29, .putfield 58, 32, 4, 9, 0, 0, 86, 0, []),
  (32, .aload_n 0, 33, 0, 0, 0, 0, 0, 0, []),
  (33, .bipush 100, 35, 0, 0, 0, 0, 0, 100, []),
  (35, .putfield 61, 38, 4, 10, 0, 0, 87, 0, []),
  (38, .aload_n 0, 39, 0, 0, 0, 0, 0, 0, []),
  (39, .iconst 0, 40, 0, 0, 0, 0, 0, 0, []),
  (40, .putfield 64, 43, 4, 11, 0, 0, 88, 0, []),
  (43, .aload_n 0, 44, 0, 0, 0, 0, 0, 0, []),
  (44, .iconst 0, 45, 0, 0, 0, 0, 0, 0, []),
  (45, .putfield 67, 48, 4, 12, 0, 0, 89, 0, []),
  (48, .aload_n 0, 49, 0, 0, 0, 0, 0, 0, []),
  (49, .iconst 0, 50, 0, 0, 0, 0, 0, 0, []),
  (50, .putfield 70, 53, 4, 13, 0, 0, 90, 0, []),
  (53, .aload_n 0, 54, 0, 0, 0, 0, 0, 0, []),
  (54, .iconst 0, 55, 0, 0, 0, 0, 0, 0, []),
  (55, .putfield 73, 58, 4, 14, 0, 0, 91, 0, []),
  (58, .iconst 0, 59, 0, 0, 0, 0, 0, 0, []),
  (59, .istore_n 1, 60, 1, 0, 0, 0, 0, 0, []),
  (60, .iload_n 1, 61, 1, 0, 0, 0, 0, 0, []),
  (61, .aload_n 0, 62, 0, 0, 0, 0, 0, 0, []),
  (62, .getfield 11, 65, 4, 0, 1, 15, 92, 0, []),
  (65, .arraylength, 66, 15, 0, 0, 0, 0, 0, []),
  (66, .if_icmp .ge 18, 69, 84, 0, 0, 0, 0, 0, []),
  (69, .aload_n 0, 70, 0, 0, 0, 0, 0, 0, []),
  (70, .getfield 11, 73, 4, 0, 1, 15, 92, 0, []),
  (73, .iload_n 1, 74, 1, 0, 0, 0, 0, 0, []),
  (74, .aaload, 75, 15, 0, 0, 5, 0, 0, []),
  (75, .invokevirtual 76, 78, 63, 1, 5, 0, 93, 0, []),
  (78, .iinc 1 1, 81, 1, 0, 0, 0, 0, 1, []),
  (81, .goto (-21), 84, 60, 0, 0, 0, 0, 0, []),
  (84, .return_, 85, 0, 0, 0, 0, 0, 0, [])]
def tbX4_copyFrom : List iE := [(0, .aload_n 0, 1, 0, 0, 0, 0, 0, 0, []),
  (1, .aload_n 1, 2, 1, 0, 0, 0, 0, 0, []),
  (2, .getfield 42, 5, 4, 4, 0, 0, 81, 0, []),
  (5, .putfield 42, 8, 4, 4, 0, 0, 81, 0, []),
  (8, .aload_n 0, 9, 0, 0, 0, 0, 0, 0, []),
  (9, .aload_n 1, 10, 1, 0, 0, 0, 0, 0, []),
  (10, .getfield 46, 13, 4, 5, 0, 0, 82, 0, []),
  (13, .putfield 46, 16, 4, 5, 0, 0, 82, 0, []),
  (16, .aload_n 0, 17, 0, 0, 0, 0, 0, 0, []),
  (17, .aload_n 1, 18, 1, 0, 0, 0, 0, 0, []),
  (18, .getfield 49, 21, 4, 6, 0, 0, 83, 0, []),
  (21, .putfield 49, 24, 4, 6, 0, 0, 83, 0, []),
  (24, .aload_n 0, 25, 0, 0, 0, 0, 0, 0, []),
  (25, .aload_n 1, 26, 1, 0, 0, 0, 0, 0, []),
  (26, .getfield 52, 29, 4, 7, 0, 0, 84, 0, []),
  (29, .putfield 52, 32, 4, 7, 0, 0, 84, 0, []),
  (32, .aload_n 0, 33, 0, 0, 0, 0, 0, 0, []),
  (33, .aload_n 1, 34, 1, 0, 0, 0, 0, 0, []),
  (34, .getfield 55, 37, 4, 8, 0, 0, 85, 0, []),
  (37, .putfield 55, 40, 4, 8, 0, 0, 85, 0, []),
  (40, .aload_n 0, 41, 0, 0, 0, 0, 0, 0, []),
  (41, .aload_n 1, 42, 1, 0, 0, 0, 0, 0, []),
  (42, .getfield 58, 45, 4, 9, 0, 0, 86, 0, []),
  (45, .putfield 58, 48, 4, 9, 0, 0, 86, 0, []),
  (48, .aload_n 0, 49, 0, 0, 0, 0, 0, 0, []),
  (49, .aload_n 1, 50, 1, 0, 0, 0, 0, 0, []),
  (50, .getfield 61, 53, 4, 10, 0, 0, 87, 0, []),
  (53, .putfield 61, 56, 4, 10, 0, 0, 87, 0, []),
  (56, .aload_n 0, 57, 0, 0, 0, 0, 0, 0, []),
  (57, .aload_n 1, 58, 1, 0, 0, 0, 0, 0, []),
  (58, .getfield 64, 61, 4, 11, 0, 0, 88, 0, []),
  (61, .putfield 64, 64, 4, 11, 0, 0, 88, 0, []),
  (64, .aload_n 0, 65, 0, 0, 0, 0, 0, 0, []),
  (65, .aload_n 1, 66, 1, 0, 0, 0, 0, 0, []),
  (66, .getfield 67, 69, 4, 12, 0, 0, 89, 0, []),
  (69, .putfield 67, 72, 4, 12, 0, 0, 89, 0, []),
  (72, .aload_n 0, 73, 0, 0, 0, 0, 0, 0, []),
  (73, .aload_n 1, 74, 1, 0, 0, 0, 0, 0, []),
  (74, .getfield 70, 77, 4, 13, 0, 0, 90, 0, []),
  (77, .putfield 70, 80, 4, 13, 0, 0, 90, 0, []),
  (80, .aload_n 0, 81, 0, 0, 0, 0, 0, 0, []),
  (81, .aload_n 1, 82, 1, 0, 0, 0, 0, 0, []),
  (82, .getfield 73, 85, 4, 14, 0, 0, 91, 0, []),
  (85, .putfield 73, 88, 4, 14, 0, 0, 91, 0, []),
  (88, .iconst 0, 89, 0, 0, 0, 0, 0, 0, []),
  (89, .istore_n 2, 90, 2, 0, 0, 0, 0, 0, []),
  (90, .iload_n 2, 91, 2, 0, 0, 0, 0, 0, []),
  (91, .aload_n 0, 92, 0, 0, 0, 0, 0, 0, []),
  (92, .getfield 42, 95, 4, 4, 0, 0, 81, 0, []),
  (95, .if_icmp .ge 24, 98, 119, 0, 0, 0, 0, 0, []),
  (98, .aload_n 0, 99, 0, 0, 0, 0, 0, 0, []),
  (99, .getfield 11, 102, 4, 0, 1, 15, 92, 0, []),
  (102, .iload_n 2, 103, 2, 0, 0, 0, 0, 0, []),
  (103, .aaload, 104, 15, 0, 0, 5, 0, 0, []),
  (104, .aload_n 1, 105, 1, 0, 0, 0, 0, 0, []),
  (105, .getfield 11, 108, 4, 0, 1, 15, 92, 0, []),
  (108, .iload_n 2, 109, 2, 0, 0, 0, 0, 0, []),
  (109, .aaload, 110, 15, 0, 0, 5, 0, 0, []),
  (110, .invokevirtual 77, 113, 64, 2, 5, 0, 94, 0, []),
  (113, .iinc 2 1, 116, 2, 0, 0, 0, 0, 1, []),
  (116, .goto (-26), 119, 90, 0, 0, 0, 0, 0, []),
  (119, .iconst 0, 120, 0, 0, 0, 0, 0, 0, []),
  (120, .istore_n 2, 121, 2, 0, 0, 0, 0, 0, []),
  (121, .iload_n 2, 122, 2, 0, 0, 0, 0, 0, []),
  (122, .aload_n 0, 123, 0, 0, 0, 0, 0, 0, []),
  (123, .getfield 46, 126, 4, 5, 0, 0, 82, 0, []),
  (126, .if_icmp .ge 24, 129, 150, 0, 0, 0, 0, 0, []),
  (129, .aload_n 0, 130, 0, 0, 0, 0, 0, 0, []),
  (130, .getfield 19, 133, 4, 1, 1, 13, 95, 0, []),
  (133, .iload_n 2, 134, 2, 0, 0, 0, 0, 0, []),
  (134, .aaload, 135, 13, 0, 0, 1, 0, 0, []),
  (135, .aload_n 1, 136, 1, 0, 0, 0, 0, 0, []),
  (136, .getfield 19, 139, 4, 1, 1, 13, 95, 0, []),
  (139, .iload_n 2, 140, 2, 0, 0, 0, 0, 0, []),
  (140, .aaload, 141, 13, 0, 0, 1, 0, 0, []),
  (141, .invokevirtual 81, 144, 6, 2, 1, 0, 96, 0, []),
  (144, .iinc 2 1, 147, 2, 0, 0, 0, 0, 1, []),
  (147, .goto (-26), 150, 121, 0, 0, 0, 0, 0, []),
  (150, .iconst 0, 151, 0, 0, 0, 0, 0, 0, []),
  (151, .istore_n 2, 152, 2, 0, 0, 0, 0, 0, []),
  (152, .iload_n 2, 153, 2, 0, 0, 0, 0, 0, []),
  (153, .aload_n 0, 154, 0, 0, 0, 0, 0, 0, []),
  (154, .getfield 49, 157, 4, 6, 0, 0, 83, 0, []),
  (157, .if_icmp .ge 24, 160, 181, 0, 0, 0, 0, 0, []),
  (160, .aload_n 0, 161, 0, 0, 0, 0, 0, 0, []),
  (161, .getfield 25, 164, 4, 2, 1, 12, 97, 0, []),
  (164, .iload_n 2, 165, 2, 0, 0, 0, 0, 0, []),
  (165, .aaload, 166, 12, 0, 0, 0, 0, 0, []),
  (166, .aload_n 1, 167, 1, 0, 0, 0, 0, 0, []),
  (167, .getfield 25, 170, 4, 2, 1, 12, 97, 0, []),
  (170, .iload_n 2, 171, 2, 0, 0, 0, 0, 0, []),
  (171, .aaload, 172, 12, 0, 0, 0, 0, 0, []),
  (172, .invokevirtual 84, 175, 1, 2, 0, 0, 98, 0, []),
  (175, .iinc 2 1, 178, 2, 0, 0, 0, 0, 1, []),
  (178, .goto (-26), 181, 152, 0, 0, 0, 0, 0, []),
  (181, .return_, 182, 0, 0, 0, 0, 0, 0, [])]
def tbX4_enter : List iE := [(0, .aload_n 0, 1, 0, 0, 0, 0, 0, 0, []),
  (1, .getfield 49, 4, 4, 6, 0, 0, 83, 0, []),
  (4, .istore 4, 6, 4, 0, 0, 0, 0, 0, []),
  (6, .aload_n 0, 7, 0, 0, 0, 0, 0, 0, []),
  (7, .getfield 25, 10, 4, 2, 1, 12, 97, 0, []),
  (10, .iload 4, 12, 4, 0, 0, 0, 0, 0, []),
  (12, .aaload, 13, 12, 0, 0, 0, 0, 0, []),
  (13, .astore 5, 15, 5, 0, 0, 0, 0, 0, []),
  (15, .aload 5, 17, 5, 0, 0, 0, 0, 0, []),
  (17, .invokevirtual 87, 20, 0, 1, 0, 0, 99, 0, []),
  (20, .aload 5, 22, 5, 0, 0, 0, 0, 0, []),
  (22, .iload_n 1, 23, 1, 0, 0, 0, 0, 0, []),
  (23, .putfield 88, 26, 0, 0, 0, 0, 100, 0, []),
  (26, .aload 5, 28, 5, 0, 0, 0, 0, 0, []),
  (28, .iload_n 2, 29, 2, 0, 0, 0, 0, 0, []),
  (29, .putfield 91, 32, 0, 1, 0, 0, 101, 0, []),
  (32, .aload 5, 34, 5, 0, 0, 0, 0, 0, []),
  (34, .iload_n 3, 35, 3, 0, 0, 0, 0, 0, []),
  (35, .putfield 94, 38, 0, 2, 0, 0, 102, 0, []),
  (38, .aload 5, 40, 5, 0, 0, 0, 0, 0, []),
  (40, .aload_n 0, 41, 0, 0, 0, 0, 0, 0, []),
  (41, .getfield 19, 44, 4, 1, 1, 13, 95, 0, []),
  (44, .iload_n 1, 45, 1, 0, 0, 0, 0, 0, []),
  (45, .aaload, 46, 13, 0, 0, 1, 0, 0, []),
  (46, .invokevirtual 97, 49, 8, 1, 1, 0, 103, 0, []),
  (49, .iload_n 2, 50, 2, 0, 0, 0, 0, 0, []),
  (50, .imul, 51, 0, 0, 0, 0, 0, 0, []),
  (51, .putfield 101, 54, 0, 3, 0, 0, 104, 0, []),
  (54, .aload_n 0, 55, 0, 0, 0, 0, 0, 0, []),
  (55, .dup, 56, 0, 0, 0, 0, 0, 0, []),
  (56, .getfield 49, 59, 4, 6, 0, 0, 83, 0, []),
  (59, .iconst 1, 60, 0, 0, 0, 0, 0, 1, []),
  (60, .iadd, 61, 0, 0, 0, 0, 0, 0, []),
  (61, .putfield 49, 64, 4, 6, 0, 0, 83, 0, []),
  (64, .iload 4, 66, 4, 0, 0, 0, 0, 0, []),
  (66, .ireturn, 67, 0, 0, 0, 0, 0, 0, [])]
def tbX4_countInState : List iE := [(0, .iconst 0, 1, 0, 0, 0, 0, 0, 0, []),
  (1, .istore_n 2, 2, 2, 0, 0, 0, 0, 0, []),
  (2, .iconst 0, 3, 0, 0, 0, 0, 0, 0, []),
  (3, .istore_n 3, 4, 3, 0, 0, 0, 0, 0, []),
  (4, .iload_n 3, 5, 3, 0, 0, 0, 0, 0, []),
  (5, .aload_n 0, 6, 0, 0, 0, 0, 0, 0, []),
  (6, .getfield 49, 9, 4, 6, 0, 0, 83, 0, []),
  (9, .if_icmp .ge 25, 12, 34, 0, 0, 0, 0, 0, []),
  (12, .aload_n 0, 13, 0, 0, 0, 0, 0, 0, []),
  (13, .getfield 25, 16, 4, 2, 1, 12, 97, 0, []),
  (16, .iload_n 3, 17, 3, 0, 0, 0, 0, 0, []),
  (17, .aaload, 18, 12, 0, 0, 0, 0, 0, []),
  (18, .getfield 104, 21, 0, 5, 0, 0, 105, 0, []),
  (21, .iload_n 1, 22, 1, 0, 0, 0, 0, 0, []),
  (22, .if_icmp .ne 6, 25, 28, 0, 0, 0, 0, 0, []),
  (25, .iinc 2 1, 28, 2, 0, 0, 0, 0, 1, []),
  (28, .iinc 3 1, 31, 3, 0, 0, 0, 0, 1, []),
  (31, .goto (-27), 34, 4, 0, 0, 0, 0, 0, []),
  (34, .iload_n 2, 35, 2, 0, 0, 0, 0, 0, []),
  (35, .ireturn, 36, 0, 0, 0, 0, 0, 0, [])]
def tbX4_greatestWorkNotReleased : List iE := [(0, .iconst 0, 1, 0, 0, 0, 0, 0, 0, []),
  (1, .istore_n 1, 2, 1, 0, 0, 0, 0, 0, []),
  (2, .iconst 0, 3, 0, 0, 0, 0, 0, 0, []),
  (3, .istore_n 2, 4, 2, 0, 0, 0, 0, 0, []),
  (4, .iload_n 2, 5, 2, 0, 0, 0, 0, 0, []),
  (5, .aload_n 0, 6, 0, 0, 0, 0, 0, 0, []),
  (6, .getfield 49, 9, 4, 6, 0, 0, 83, 0, []),
  (9, .if_icmp .ge 35, 12, 44, 0, 0, 0, 0, 0, []),
  (12, .aload_n 0, 13, 0, 0, 0, 0, 0, 0, []),
  (13, .getfield 25, 16, 4, 2, 1, 12, 97, 0, []),
  (16, .iload_n 2, 17, 2, 0, 0, 0, 0, 0, []),
  (17, .aaload, 18, 12, 0, 0, 0, 0, 0, []),
  (18, .getfield 104, 21, 0, 5, 0, 0, 105, 0, []),
  (21, .ifCond .ne 17, 24, 38, 0, 0, 0, 0, 0, []),
  (24, .iload_n 1, 25, 1, 0, 0, 0, 0, 0, []),
  (25, .aload_n 0, 26, 0, 0, 0, 0, 0, 0, []),
  (26, .getfield 25, 29, 4, 2, 1, 12, 97, 0, []),
  (29, .iload_n 2, 30, 2, 0, 0, 0, 0, 0, []),
  (30, .aaload, 31, 12, 0, 0, 0, 0, 0, []),
  (31, .getfield 101, 34, 0, 3, 0, 0, 104, 0, []),
  (34, .invokestatic 107, 37, 0, 0, 0, 1, 106, 0, []),
  (37, .istore_n 1, 38, 1, 0, 0, 0, 0, 0, []),
  (38, .iinc 2 1, 41, 2, 0, 0, 0, 0, 1, []),
  (41, .goto (-37), 44, 4, 0, 0, 0, 0, 0, []),
  (44, .iload_n 1, 45, 1, 0, 0, 0, 0, 0, []),
  (45, .ireturn, 46, 0, 0, 0, 0, 0, 0, [])]
def tbX4_drumFreeAt : List iE := [(0, .aload_n 0, 1, 0, 0, 0, 0, 0, 0, []),
  (1, .getfield 11, 4, 4, 0, 1, 15, 92, 0, []),
  (4, .aload_n 0, 5, 0, 0, 0, 0, 0, 0, []),
  (5, .getfield 52, 8, 4, 7, 0, 0, 84, 0, []),
  (8, .aaload, 9, 15, 0, 0, 5, 0, 0, []),
  (9, .getfield 113, 12, 5, 2, 0, 0, 107, 0, []),
  (12, .istore_n 1, 13, 1, 0, 0, 0, 0, 0, []),
  (13, .iload_n 1, 14, 1, 0, 0, 0, 0, 0, []),
  (14, .iconst (-1), 15, 0, 0, 0, 0, 0, -1, []),
  (15, .if_icmp .ne 10, 18, 25, 0, 0, 0, 0, 0, []),
  (18, .aload_n 0, 19, 0, 0, 0, 0, 0, 0, []),
  (19, .getfield 70, 22, 4, 13, 0, 0, 90, 0, []),
  (22, .goto 17, 25, 39, 0, 0, 0, 0, 0, []),
  (25, .aload_n 0, 26, 0, 0, 0, 0, 0, 0, []),
  (26, .getfield 70, 29, 4, 13, 0, 0, 90, 0, []),
  (29, .aload_n 0, 30, 0, 0, 0, 0, 0, 0, []),
  (30, .getfield 25, 33, 4, 2, 1, 12, 97, 0, []),
  (33, .iload_n 1, 34, 1, 0, 0, 0, 0, 0, []),
  (34, .aaload, 35, 12, 0, 0, 0, 0, 0, []),
  (35, .getfield 116, 38, 0, 7, 0, 0, 108, 0, []),
  (38, .iadd, 39, 0, 0, 0, 0, 0, 0, []),
  (39, .ireturn, 40, 0, 0, 0, 0, 0, 0, [])]
def tbX4_scheduledStart : List iE := [(0, .aload_n 0, 1, 0, 0, 0, 0, 0, 0, []),
  (1, .getfield 32, 4, 4, 3, 1, 3, 109, 0, []),
  (4, .aload_n 0, 5, 0, 0, 0, 0, 0, 0, []),
  (5, .invokevirtual 119, 8, 26, 2, 3, 0, 110, 0, []),
  (8, .iconst 0, 9, 0, 0, 0, 0, 0, 0, []),
  (9, .istore_n 2, 10, 2, 0, 0, 0, 0, 0, []),
  (10, .iload_n 2, 11, 2, 0, 0, 0, 0, 0, []),
  (11, .aload_n 0, 12, 0, 0, 0, 0, 0, 0, []),
  (12, .getfield 32, 15, 4, 3, 1, 3, 109, 0, []),
  (15, .getfield 123, 18, 3, 2, 0, 0, 111, 0, []),
  (18, .if_icmp .ge 32, 21, 50, 0, 0, 0, 0, 0, []),
  (21, .aload_n 0, 22, 0, 0, 0, 0, 0, 0, []),
  (22, .getfield 32, 25, 4, 3, 1, 3, 109, 0, []),
  (25, .getfield 126, 28, 3, 0, 1, 8, 112, 0, []),
  (28, .iload_n 2, 29, 2, 0, 0, 0, 0, 0, []),
  (29, .iaload, 30, 8, 0, 0, 0, 0, 0, []),
  (30, .iload_n 1, 31, 1, 0, 0, 0, 0, 0, []),
  (31, .if_icmp .ne 13, 34, 44, 0, 0, 0, 0, 0, []),
  (34, .aload_n 0, 35, 0, 0, 0, 0, 0, 0, []),
  (35, .getfield 32, 38, 4, 3, 1, 3, 109, 0, []),
  (38, .getfield 129, 41, 3, 1, 1, 8, 113, 0, []),
  (41, .iload_n 2, 42, 2, 0, 0, 0, 0, 0, []),
  (42, .iaload, 43, 8, 0, 0, 0, 0, 0, []),
  (43, .ireturn, 44, 0, 0, 0, 0, 0, 0, []),
  (44, .iinc 2 1, 47, 2, 0, 0, 0, 0, 1, []),
  (47, .goto (-37), 50, 10, 0, 0, 0, 0, 0, []),
  (50, .ldc 132, 52, 0, 0, 0, 0, 114, -1000000, []),
  (52, .ireturn, 53, 0, 0, 0, 0, 0, 0, [])]
def tbX4_hasToPassDrum : List iE := [(0, .aload_n 1, 1, 1, 0, 0, 0, 0, 0, []),
  (1, .getfield 104, 4, 0, 5, 0, 0, 105, 0, []),
  (4, .ifCond .eq 30, 7, 34, 0, 0, 0, 0, 0, []),
  (7, .aload_n 1, 8, 1, 0, 0, 0, 0, 0, []),
  (8, .getfield 104, 11, 0, 5, 0, 0, 105, 0, []),
  (11, .iconst 1, 12, 0, 0, 0, 0, 0, 1, []),
  (12, .if_icmp .ne 26, 15, 38, 0, 0, 0, 0, 0, []),
  (15, .aload_n 1, 16, 1, 0, 0, 0, 0, 0, []),
  (16, .getfield 133, 19, 0, 6, 0, 0, 115, 0, []),
  (19, .aload_n 0, 20, 0, 0, 0, 0, 0, 0, []),
  (20, .getfield 19, 23, 4, 1, 1, 13, 95, 0, []),
  (23, .aload_n 1, 24, 1, 0, 0, 0, 0, 0, []),
  (24, .getfield 88, 27, 0, 0, 0, 0, 100, 0, []),
  (27, .aaload, 28, 13, 0, 0, 1, 0, 0, []),
  (28, .getfield 136, 31, 1, 3, 0, 0, 116, 0, []),
  (31, .if_icmp .gt 7, 34, 38, 0, 0, 0, 0, 0, []),
  (34, .iconst 1, 35, 0, 0, 0, 0, 0, 1, []),
  (35, .goto 4, 38, 39, 0, 0, 0, 0, 0, []),
  (38, .iconst 0, 39, 0, 0, 0, 0, 0, 0, []),
  (39, .ireturn, 40, 0, 0, 1, 0, 0, 0, [])]
def tbX4_releasedWork : List iE := [(0, .iconst 0, 1, 0, 0, 0, 0, 0, 0, []),
  (1, .istore_n 1, 2, 1, 0, 0, 0, 0, 0, []),
  (2, .iconst 0, 3, 0, 0, 0, 0, 0, 0, []),
  (3, .istore_n 2, 4, 2, 0, 0, 0, 0, 0, []),
  (4, .iload_n 2, 5, 2, 0, 0, 0, 0, 0, []),
  (5, .aload_n 0, 6, 0, 0, 0, 0, 0, 0, []),
  (6, .getfield 49, 9, 4, 6, 0, 0, 83, 0, []),
  (9, .if_icmp .ge 39, 12, 48, 0, 0, 0, 0, 0, []),
  (12, .aload_n 0, 13, 0, 0, 0, 0, 0, 0, []),
  (13, .getfield 25, 16, 4, 2, 1, 12, 97, 0, []),
  (16, .iload_n 2, 17, 2, 0, 0, 0, 0, 0, []),
  (17, .aaload, 18, 12, 0, 0, 0, 0, 0, []),
  (18, .astore_n 3, 19, 3, 0, 0, 0, 0, 0, []),
  (19, .aload_n 3, 20, 3, 0, 0, 0, 0, 0, []),
  (20, .getfield 104, 23, 0, 5, 0, 0, 105, 0, []),
  (23, .iconst 1, 24, 0, 0, 0, 0, 0, 1, []),
  (24, .if_icmp .ne 18, 27, 42, 0, 0, 0, 0, 0, []),
  (27, .aload_n 0, 28, 0, 0, 0, 0, 0, 0, []),
  (28, .aload_n 3, 29, 3, 0, 0, 0, 0, 0, []),
  (29, .invokevirtual 139, 32, 38, 2, 4, 0, 117, 0, []),
  (32, .ifCond .eq 10, 35, 42, 0, 0, 0, 0, 0, []),
  (35, .iload_n 1, 36, 1, 0, 0, 0, 0, 0, []),
  (36, .aload_n 3, 37, 3, 0, 0, 0, 0, 0, []),
  (37, .getfield 101, 40, 0, 3, 0, 0, 104, 0, []),
  (40, .iadd, 41, 0, 0, 0, 0, 0, 0, []),
  (41, .istore_n 1, 42, 1, 0, 0, 0, 0, 0, []),
  (42, .iinc 2 1, 45, 2, 0, 0, 0, 0, 1, []),
  (45, .goto (-41), 48, 4, 0, 0, 0, 0, 0, []),
  (48, .iload_n 1, 49, 1, 0, 0, 0, 0, 0, []),
  (49, .ireturn, 50, 0, 0, 0, 0, 0, 0, [])]
def tbX4_penetrationOf : List iE := [(0, .aload_n 1, 1, 1, 0, 0, 0, 0, 0, []),
  (1, .getfield 104, 4, 0, 5, 0, 0, 105, 0, []),
  (4, .iconst 1, 5, 0, 0, 0, 0, 0, 1, []),
  (5, .if_icmp .eq 5, 8, 10, 0, 0, 0, 0, 0, []),
  (8, .iconst 0, 9, 0, 0, 0, 0, 0, 0, []),
  (9, .ireturn, 10, 0, 0, 0, 0, 0, 0, []),
  (10, .aload_n 1, 11, 1, 0, 0, 0, 0, 0, []),
  (11, .getfield 143, 14, 0, 11, 0, 0, 118, 0, []),
  (14, .iconst (-1), 15, 0, 0, 0, 0, 0, -1, []),
  (15, .if_icmp .eq 7, 18, 22, 0, 0, 0, 0, 0, []),
  (18, .iconst 1, 19, 0, 0, 0, 0, 0, 1, []),
  (19, .goto 4, 22, 23, 0, 0, 0, 0, 0, []),
  (22, .iconst 0, 23, 0, 0, 0, 0, 0, 0, []),
  (23, .istore_n 2, 24, 2, 0, 0, 0, 0, 0, []),
  (24, .iload_n 2, 25, 2, 0, 0, 0, 0, 0, []),
  (25, .ifCond .eq 15, 28, 40, 0, 0, 0, 0, 0, []),
  (28, .aload_n 1, 29, 1, 0, 0, 0, 0, 0, []),
  (29, .getfield 94, 32, 0, 2, 0, 0, 102, 0, []),
  (32, .aload_n 0, 33, 0, 0, 0, 0, 0, 0, []),
  (33, .getfield 58, 36, 4, 9, 0, 0, 86, 0, []),
  (36, .isub, 37, 0, 0, 0, 0, 0, 0, []),
  (37, .goto 7, 40, 44, 0, 0, 0, 0, 0, []),
  (40, .aload_n 1, 41, 1, 0, 0, 0, 0, 0, []),
  (41, .getfield 146, 44, 0, 10, 0, 0, 119, 0, []),
  (44, .istore_n 3, 45, 3, 0, 0, 0, 0, 0, []),
  (45, .iload_n 2, 46, 2, 0, 0, 0, 0, 0, []),
  (46, .ifCond .eq 10, 49, 56, 0, 0, 0, 0, 0, []),
  (49, .aload_n 0, 50, 0, 0, 0, 0, 0, 0, []),
  (50, .getfield 58, 53, 4, 9, 0, 0, 86, 0, []),
  (53, .goto 7, 56, 60, 0, 0, 0, 0, 0, []),
  (56, .aload_n 0, 57, 0, 0, 0, 0, 0, 0, []),
  (57, .getfield 55, 60, 4, 8, 0, 0, 85, 0, []),
  (60, .istore 4, 62, 4, 0, 0, 0, 0, 0, []),
  (62, .aload_n 0, 63, 0, 0, 0, 0, 0, 0, []),
  (63, .getfield 70, 66, 4, 13, 0, 0, 90, 0, []),
  (66, .iload_n 3, 67, 3, 0, 0, 0, 0, 0, []),
  (67, .if_icmp .le 9, 70, 76, 0, 0, 0, 0, 0, []),
  (70, .iload 4, 72, 4, 0, 0, 0, 0, 0, []),
  (72, .iconst 1, 73, 0, 0, 0, 0, 0, 1, []),
  (73, .if_icmp .ge 5, 76, 78, 0, 0, 0, 0, 0, []),
  (76, .iconst 0, 77, 0, 0, 0, 0, 0, 0, []),
  (77, .ireturn, 78, 0, 0, 0, 0, 0, 0, []),
  (78, .sipush 1000, 81, 0, 0, 0, 0, 0, 1000, []),
  (81, .aload_n 0, 82, 0, 0, 0, 0, 0, 0, []),
  (82, .getfield 70, 85, 4, 13, 0, 0, 90, 0, []),
  (85, .iload_n 3, 86, 3, 0, 0, 0, 0, 0, []),
  (86, .isub, 87, 0, 0, 0, 0, 0, 0, []),
  (87, .imul, 88, 0, 0, 0, 0, 0, 0, []),
  (88, .iload 4, 90, 4, 0, 0, 0, 0, 0, []),
  (90, .idiv, 91, 0, 0, 0, 0, 0, 0, []),
  (91, .ireturn, 92, 0, 0, 0, 0, 0, 0, [])]
def tbX4_zoneOf : List iE := [(0, .aload_n 1, 1, 1, 0, 0, 0, 0, 0, []),
  (1, .getfield 104, 4, 0, 5, 0, 0, 105, 0, []),
  (4, .iconst 1, 5, 0, 0, 0, 0, 0, 1, []),
  (5, .if_icmp .eq 5, 8, 10, 0, 0, 0, 0, 0, []),
  (8, .iconst (-1), 9, 0, 0, 0, 0, 0, -1, []),
  (9, .ireturn, 10, 0, 0, 0, 0, 0, 0, []),
  (10, .iconst 3, 11, 0, 0, 0, 0, 0, 3, []),
  (11, .aload_n 0, 12, 0, 0, 0, 0, 0, 0, []),
  (12, .aload_n 1, 13, 1, 0, 0, 0, 0, 0, []),
  (13, .invokevirtual 149, 16, 40, 2, 4, 0, 120, 0, []),
  (16, .imul, 17, 0, 0, 0, 0, 0, 0, []),
  (17, .sipush 1000, 20, 0, 0, 0, 0, 0, 1000, []),
  (20, .idiv, 21, 0, 0, 0, 0, 0, 0, []),
  (21, .istore_n 2, 22, 2, 0, 0, 0, 0, 0, []),
  (22, .iload_n 2, 23, 2, 0, 0, 0, 0, 0, []),
  (23, .iconst 3, 24, 0, 0, 0, 0, 0, 3, []),
  (24, .if_icmp .ge 7, 27, 31, 0, 0, 0, 0, 0, []),
  (27, .iload_n 2, 28, 2, 0, 0, 0, 0, 0, []),
  (28, .goto 4, 31, 32, 0, 0, 0, 0, 0, []),
  (31, .iconst 3, 32, 0, 0, 0, 0, 0, 3, []),
  (32, .ireturn, 33, 0, 0, 0, 0, 0, 0, [])]
def tbX4_isRedOrBlack : List iE := [(0, .iconst 3, 1, 0, 0, 0, 0, 0, 3, []),
  (1, .iload_n 0, 2, 0, 0, 0, 0, 0, 0, []),
  (2, .imul, 3, 0, 0, 0, 0, 0, 0, []),
  (3, .sipush 2000, 6, 0, 0, 0, 0, 0, 2000, []),
  (6, .if_icmp .lt 7, 9, 13, 0, 0, 0, 0, 0, []),
  (9, .iconst 1, 10, 0, 0, 0, 0, 0, 1, []),
  (10, .goto 4, 13, 14, 0, 0, 0, 0, 0, []),
  (13, .iconst 0, 14, 0, 0, 0, 0, 0, 0, []),
  (14, .ireturn, 15, 0, 0, 1, 0, 0, 0, [])]
def tbX4_stationOf : List iE := [(0, .aload_n 0, 1, 0, 0, 0, 0, 0, 0, []),
  (1, .getfield 19, 4, 4, 1, 1, 13, 95, 0, []),
  (4, .aload_n 1, 5, 1, 0, 0, 0, 0, 0, []),
  (5, .getfield 88, 8, 0, 0, 0, 0, 100, 0, []),
  (8, .aaload, 9, 13, 0, 0, 1, 0, 0, []),
  (9, .getfield 153, 12, 1, 0, 1, 8, 121, 0, []),
  (12, .aload_n 1, 13, 1, 0, 0, 0, 0, 0, []),
  (13, .getfield 133, 16, 0, 6, 0, 0, 115, 0, []),
  (16, .iaload, 17, 8, 0, 0, 0, 0, 0, []),
  (17, .ireturn, 18, 0, 0, 0, 0, 0, 0, [])]
def tbX4_workOfStep : List iE := [(0, .aload_n 0, 1, 0, 0, 0, 0, 0, 0, []),
  (1, .getfield 19, 4, 4, 1, 1, 13, 95, 0, []),
  (4, .aload_n 1, 5, 1, 0, 0, 0, 0, 0, []),
  (5, .getfield 88, 8, 0, 0, 0, 0, 100, 0, []),
  (8, .aaload, 9, 13, 0, 0, 1, 0, 0, []),
  (9, .getfield 156, 12, 1, 1, 1, 8, 122, 0, []),
  (12, .aload_n 1, 13, 1, 0, 0, 0, 0, 0, []),
  (13, .getfield 133, 16, 0, 6, 0, 0, 115, 0, []),
  (16, .iaload, 17, 8, 0, 0, 0, 0, 0, []),
  (17, .aload_n 1, 18, 1, 0, 0, 0, 0, 0, []),
  (18, .getfield 91, 21, 0, 1, 0, 0, 101, 0, []),
  (21, .imul, 22, 0, 0, 0, 0, 0, 0, []),
  (22, .ireturn, 23, 0, 0, 0, 0, 0, 0, [])]
def tbX4_waitsAt : List iE := [(0, .aload_n 1, 1, 1, 0, 0, 0, 0, 0, []),
  (1, .getfield 104, 4, 0, 5, 0, 0, 105, 0, []),
  (4, .iconst 1, 5, 0, 0, 0, 0, 0, 1, []),
  (5, .if_icmp .ne 23, 8, 28, 0, 0, 0, 0, 0, []),
  (8, .aload_n 1, 9, 1, 0, 0, 0, 0, 0, []),
  (9, .getfield 116, 12, 0, 7, 0, 0, 108, 0, []),
  (12, .ifCond .ne 16, 15, 28, 0, 0, 0, 0, 0, []),
  (15, .aload_n 0, 16, 0, 0, 0, 0, 0, 0, []),
  (16, .aload_n 1, 17, 1, 0, 0, 0, 0, 0, []),
  (17, .invokevirtual 159, 20, 43, 2, 4, 0, 123, 0, []),
  (20, .iload_n 2, 21, 2, 0, 0, 0, 0, 0, []),
  (21, .if_icmp .ne 7, 24, 28, 0, 0, 0, 0, 0, []),
  (24, .iconst 1, 25, 0, 0, 0, 0, 0, 1, []),
  (25, .goto 4, 28, 29, 0, 0, 0, 0, 0, []),
  (28, .iconst 0, 29, 0, 0, 0, 0, 0, 0, []),
  (29, .ireturn, 30, 0, 0, 1, 0, 0, 0, [])]
def tbX4_choiceAt : List iE := [(0, .iconst (-1), 1, 0, 0, 0, 0, 0, -1, []),
  (1, .istore_n 2, 2, 2, 0, 0, 0, 0, 0, []),
  (2, .iconst 0, 3, 0, 0, 0, 0, 0, 0, []),
  (3, .istore_n 3, 4, 3, 0, 0, 0, 0, 0, []),
  (4, .iconst 0, 5, 0, 0, 0, 0, 0, 0, []),
  (5, .istore 4, 7, 4, 0, 0, 0, 0, 0, []),
  (7, .iconst 0, 8, 0, 0, 0, 0, 0, 0, []),
  (8, .istore 5, 10, 5, 0, 0, 0, 0, 0, []),
  (10, .iload 5, 12, 5, 0, 0, 0, 0, 0, []),
  (12, .aload_n 0, 13, 0, 0, 0, 0, 0, 0, []),
  (13, .getfield 49, 16, 4, 6, 0, 0, 83, 0, []),
  (16, .if_icmp .ge 122, 19, 138, 0, 0, 0, 0, 0, []),
  (19, .aload_n 0, 20, 0, 0, 0, 0, 0, 0, []),
  (20, .getfield 25, 23, 4, 2, 1, 12, 97, 0, []),
  (23, .iload 5, 25, 5, 0, 0, 0, 0, 0, []),
  (25, .aaload, 26, 12, 0, 0, 0, 0, 0, []),
  (26, .astore 6, 28, 6, 0, 0, 0, 0, 0, []),
  (28, .aload_n 0, 29, 0, 0, 0, 0, 0, 0, []),
  (29, .aload 6, 31, 6, 0, 0, 0, 0, 0, []),
  (31, .iload_n 1, 32, 1, 0, 0, 0, 0, 0, []),
  (32, .invokevirtual 162, 35, 45, 3, 4, 0, 124, 0, []),
  (35, .ifCond .eq 97, 38, 132, 0, 0, 0, 0, 0, []),
  (38, .aload_n 0, 39, 0, 0, 0, 0, 0, 0, []),
  (39, .aload 6, 41, 6, 0, 0, 0, 0, 0, []),
  (41, .invokevirtual 149, 44, 40, 2, 4, 0, 120, 0, []),
  (44, .istore 7, 46, 7, 0, 0, 0, 0, 0, []),
  (46, .aload_n 0, 47, 0, 0, 0, 0, 0, 0, []),
  (47, .aload 6, 49, 6, 0, 0, 0, 0, 0, []),
  (49, .iload 7, 51, 7, 0, 0, 0, 0, 0, []),
  (51, .invokevirtual 166, 54, 47, 3, 4, 0, 125, 0, []),
  (54, .istore 8, 56, 8, 0, 0, 0, 0, 0, []),
  (56, .aload 6, 58, 6, 0, 0, 0, 0, 0, []),
  (58, .getfield 170, 61, 0, 4, 0, 0, 126, 0, []),
  (61, .ifCond .ne 19, 64, 80, 0, 0, 0, 0, 0, []),
  (64, .aload_n 0, 65, 0, 0, 0, 0, 0, 0, []),
  (65, .getfield 67, 68, 4, 12, 0, 0, 89, 0, []),
  (68, .iconst 1, 69, 0, 0, 0, 0, 0, 1, []),
  (69, .if_icmp .ne 15, 72, 84, 0, 0, 0, 0, 0, []),
  (72, .iload 7, 74, 7, 0, 0, 0, 0, 0, []),
  (74, .invokestatic 174, 77, 42, 1, 4, 0, 127, 0, []),
  (77, .ifCond .eq 7, 80, 84, 0, 0, 0, 0, 0, []),
  (80, .iconst 1, 81, 0, 0, 0, 0, 0, 1, []),
  (81, .goto 4, 84, 85, 0, 0, 0, 0, 0, []),
  (84, .iconst 0, 85, 0, 0, 0, 0, 0, 0, []),
  (85, .istore 9, 87, 9, 0, 0, 0, 0, 0, []),
  (87, .iload 9, 89, 9, 0, 0, 0, 0, 0, []),
  (89, .iload 4, 91, 4, 0, 0, 0, 0, 0, []),
  (91, .if_icmp .ne 17, 94, 108, 0, 0, 0, 0, 0, []),
  (94, .iload 8, 96, 8, 0, 0, 0, 0, 0, []),
  (96, .iload_n 3, 97, 3, 0, 0, 0, 0, 0, []),
  (97, .if_icmp .ge 7, 100, 104, 0, 0, 0, 0, 0, []),
  (100, .iconst 1, 101, 0, 0, 0, 0, 0, 1, []),
  (101, .goto 9, 104, 110, 0, 0, 0, 0, 0, []),
  (104, .iconst 0, 105, 0, 0, 0, 0, 0, 0, []),
  (105, .goto 5, 108, 110, 0, 0, 0, 0, 0, []),
  (108, .iload 9, 110, 9, 0, 0, 0, 0, 0, []),
  (110, .istore 10, 112, 10, 0, 0, 0, 0, 0, []),
  (112, .iload_n 2, 113, 2, 0, 0, 0, 0, 0, []),
  (113, .iconst (-1), 114, 0, 0, 0, 0, 0, -1, []),
  (114, .if_icmp .eq 8, 117, 122, 0, 0, 0, 0, 0, []),
  (117, .iload 10, 119, 10, 0, 0, 0, 0, 0, []),
  (119, .ifCond .eq 13, 122, 132, 0, 0, 0, 0, 0, []),
  (122, .iload 5, 124, 5, 0, 0, 0, 0, 0, []),
  (124, .istore_n 2, 125, 2, 0, 0, 0, 0, 0, []),
  (125, .iload 8, 127, 8, 0, 0, 0, 0, 0, []),
  (127, .istore_n 3, 128, 3, 0, 0, 0, 0, 0, []),
  (128, .iload 9, 130, 9, 0, 0, 0, 0, 0, []),
  (130, .istore 4, 132, 4, 0, 0, 0, 0, 0, []),
  (132, .iinc 5 1, 135, 5, 0, 0, 0, 0, 1, []),
  (135, .goto (-125), 138, 10, 0, 0, 0, 0, 0, []),
  (138, .iload_n 2, 139, 2, 0, 0, 0, 0, 0, []),
  (139, .ireturn, 140, 0, 0, 0, 0, 0, 0, [])]
def tbX4_keyByRule : List iE := [(0, .aload_n 0, 1, 0, 0, 0, 0, 0, 0, []),
  (1, .getfield 64, 4, 4, 11, 0, 0, 88, 0, []),
  (4, .tableswitch 42 1 3 #[28, 31, 36], 32, 46, 0, 0, 0, 0, 0, [(1, 32), (2, 35), (3, 40)]),
  (32, .iload_n 2, 33, 2, 0, 0, 0, 0, 0, []),
  (33, .ineg, 34, 0, 0, 0, 0, 0, 0, []),
  (34, .ireturn, 35, 0, 0, 0, 0, 0, 0, []),
  (35, .aload_n 1, 36, 1, 0, 0, 0, 0, 0, []),
  (36, .getfield 94, 39, 0, 2, 0, 0, 102, 0, []),
  (39, .ireturn, 40, 0, 0, 0, 0, 0, 0, []),
  (40, .aload_n 0, 41, 0, 0, 0, 0, 0, 0, []),
  (41, .aload_n 1, 42, 1, 0, 0, 0, 0, 0, []),
  (42, .invokevirtual 178, 45, 44, 2, 4, 0, 128, 0, []),
  (45, .ireturn, 46, 0, 0, 0, 0, 0, 0, []),
  (46, .aload_n 1, 47, 1, 0, 0, 0, 0, 0, []),
  (47, .getfield 181, 50, 0, 8, 0, 0, 129, 0, []),
  (50, .ireturn, 51, 0, 0, 0, 0, 0, 0, [])]
def tbX4_workAheadOf : List iE := [(0, .iconst 0, 1, 0, 0, 0, 0, 0, 0, []),
  (1, .istore_n 2, 2, 2, 0, 0, 0, 0, 0, []),
  (2, .iconst 0, 3, 0, 0, 0, 0, 0, 0, []),
  (3, .istore_n 3, 4, 3, 0, 0, 0, 0, 0, []),
  (4, .iload_n 3, 5, 3, 0, 0, 0, 0, 0, []),
  (5, .aload_n 0, 6, 0, 0, 0, 0, 0, 0, []),
  (6, .getfield 49, 9, 4, 6, 0, 0, 83, 0, []),
  (9, .if_icmp .ge 35, 12, 44, 0, 0, 0, 0, 0, []),
  (12, .aload_n 0, 13, 0, 0, 0, 0, 0, 0, []),
  (13, .getfield 25, 16, 4, 2, 1, 12, 97, 0, []),
  (16, .iload_n 3, 17, 3, 0, 0, 0, 0, 0, []),
  (17, .aaload, 18, 12, 0, 0, 0, 0, 0, []),
  (18, .invokevirtual 184, 21, 2, 1, 0, 0, 130, 0, []),
  (21, .ifCond .eq 17, 24, 38, 0, 0, 0, 0, 0, []),
  (24, .iload_n 2, 25, 2, 0, 0, 0, 0, 0, []),
  (25, .aload_n 0, 26, 0, 0, 0, 0, 0, 0, []),
  (26, .aload_n 0, 27, 0, 0, 0, 0, 0, 0, []),
  (27, .getfield 25, 30, 4, 2, 1, 12, 97, 0, []),
  (30, .iload_n 3, 31, 3, 0, 0, 0, 0, 0, []),
  (31, .aaload, 32, 12, 0, 0, 0, 0, 0, []),
  (32, .iload_n 1, 33, 1, 0, 0, 0, 0, 0, []),
  (33, .invokevirtual 188, 36, 49, 3, 4, 0, 131, 0, []),
  (36, .iadd, 37, 0, 0, 0, 0, 0, 0, []),
  (37, .istore_n 2, 38, 2, 0, 0, 0, 0, 0, []),
  (38, .iinc 3 1, 41, 3, 0, 0, 0, 0, 1, []),
  (41, .goto (-37), 44, 4, 0, 0, 0, 0, 0, []),
  (44, .iload_n 2, 45, 2, 0, 0, 0, 0, 0, []),
  (45, .ireturn, 46, 0, 0, 0, 0, 0, 0, [])]
def tbX4_workAheadOf_ : List iE := [(0, .aload_n 0, 1, 0, 0, 0, 0, 0, 0, []),
  (1, .getfield 19, 4, 4, 1, 1, 13, 95, 0, []),
  (4, .aload_n 1, 5, 1, 0, 0, 0, 0, 0, []),
  (5, .getfield 88, 8, 0, 0, 0, 0, 100, 0, []),
  (8, .aaload, 9, 13, 0, 0, 1, 0, 0, []),
  (9, .astore_n 3, 10, 3, 0, 0, 0, 0, 0, []),
  (10, .iconst 0, 11, 0, 0, 0, 0, 0, 0, []),
  (11, .istore 4, 13, 4, 0, 0, 0, 0, 0, []),
  (13, .aload_n 1, 14, 1, 0, 0, 0, 0, 0, []),
  (14, .getfield 133, 17, 0, 6, 0, 0, 115, 0, []),
  (17, .iconst 0, 18, 0, 0, 0, 0, 0, 0, []),
  (18, .invokestatic 107, 21, 0, 0, 0, 1, 106, 0, []),
  (21, .istore 5, 23, 5, 0, 0, 0, 0, 0, []),
  (23, .iload 5, 25, 5, 0, 0, 0, 0, 0, []),
  (25, .aload_n 3, 26, 3, 0, 0, 0, 0, 0, []),
  (26, .getfield 191, 29, 1, 2, 0, 0, 132, 0, []),
  (29, .if_icmp .ge 72, 32, 101, 0, 0, 0, 0, 0, []),
  (32, .aload_n 3, 33, 3, 0, 0, 0, 0, 0, []),
  (33, .getfield 153, 36, 1, 0, 1, 8, 121, 0, []),
  (36, .iload 5, 38, 5, 0, 0, 0, 0, 0, []),
  (38, .iaload, 39, 8, 0, 0, 0, 0, 0, []),
  (39, .iload_n 2, 40, 2, 0, 0, 0, 0, 0, []),
  (40, .if_icmp .ne 55, 43, 95, 0, 0, 0, 0, 0, []),
  (43, .iload 5, 45, 5, 0, 0, 0, 0, 0, []),
  (45, .aload_n 1, 46, 1, 0, 0, 0, 0, 0, []),
  (46, .getfield 133, 49, 0, 6, 0, 0, 115, 0, []),
  (49, .if_icmp .ne 14, 52, 63, 0, 0, 0, 0, 0, []),
  (52, .aload_n 1, 53, 1, 0, 0, 0, 0, 0, []),
  (53, .getfield 116, 56, 0, 7, 0, 0, 108, 0, []),
  (56, .ifCond .le 7, 59, 63, 0, 0, 0, 0, 0, []),
  (59, .iconst 1, 60, 0, 0, 0, 0, 0, 1, []),
  (60, .goto 4, 63, 64, 0, 0, 0, 0, 0, []),
  (63, .iconst 0, 64, 0, 0, 0, 0, 0, 0, []),
  (64, .istore 6, 66, 6, 0, 0, 0, 0, 0, []),
  (66, .iload 4, 68, 4, 0, 0, 0, 0, 0, []),
  (68, .iload 6, 70, 6, 0, 0, 0, 0, 0, []),
  (70, .ifCond .eq 10, 73, 80, 0, 0, 0, 0, 0, []),
  (73, .aload_n 1, 74, 1, 0, 0, 0, 0, 0, []),
  (74, .getfield 116, 77, 0, 7, 0, 0, 108, 0, []),
  (77, .goto 15, 80, 92, 0, 0, 0, 0, 0, []),
  (80, .aload_n 3, 81, 3, 0, 0, 0, 0, 0, []),
  (81, .getfield 156, 84, 1, 1, 1, 8, 122, 0, []),
  (84, .iload 5, 86, 5, 0, 0, 0, 0, 0, []),
  (86, .iaload, 87, 8, 0, 0, 0, 0, 0, []),
  (87, .aload_n 1, 88, 1, 0, 0, 0, 0, 0, []),
  (88, .getfield 91, 91, 0, 1, 0, 0, 101, 0, []),
  (91, .imul, 92, 0, 0, 0, 0, 0, 0, []),
  (92, .iadd, 93, 0, 0, 0, 0, 0, 0, []),
  (93, .istore 4, 95, 4, 0, 0, 0, 0, 0, []),
  (95, .iinc 5 1, 98, 5, 0, 0, 0, 0, 1, []),
  (98, .goto (-75), 101, 23, 0, 0, 0, 0, 0, []),
  (101, .iload 4, 103, 4, 0, 0, 0, 0, 0, []),
  (103, .ireturn, 104, 0, 0, 0, 0, 0, 0, [])]
def tbX4_tardinessIfEndedNow : List iE := [(0, .iconst 0, 1, 0, 0, 0, 0, 0, 0, []),
  (1, .istore_n 1, 2, 1, 0, 0, 0, 0, 0, []),
  (2, .iconst 0, 3, 0, 0, 0, 0, 0, 0, []),
  (3, .istore_n 2, 4, 2, 0, 0, 0, 0, 0, []),
  (4, .iload_n 2, 5, 2, 0, 0, 0, 0, 0, []),
  (5, .aload_n 0, 6, 0, 0, 0, 0, 0, 0, []),
  (6, .getfield 49, 9, 4, 6, 0, 0, 83, 0, []),
  (9, .if_icmp .ge 50, 12, 59, 0, 0, 0, 0, 0, []),
  (12, .aload_n 0, 13, 0, 0, 0, 0, 0, 0, []),
  (13, .getfield 25, 16, 4, 2, 1, 12, 97, 0, []),
  (16, .iload_n 2, 17, 2, 0, 0, 0, 0, 0, []),
  (17, .aaload, 18, 12, 0, 0, 0, 0, 0, []),
  (18, .astore_n 3, 19, 3, 0, 0, 0, 0, 0, []),
  (19, .aload_n 3, 20, 3, 0, 0, 0, 0, 0, []),
  (20, .getfield 104, 23, 0, 5, 0, 0, 105, 0, []),
  (23, .iconst 3, 24, 0, 0, 0, 0, 0, 3, []),
  (24, .if_icmp .eq 29, 27, 53, 0, 0, 0, 0, 0, []),
  (27, .iload_n 1, 28, 1, 0, 0, 0, 0, 0, []),
  (28, .aload_n 3, 29, 3, 0, 0, 0, 0, 0, []),
  (29, .aload_n 3, 30, 3, 0, 0, 0, 0, 0, []),
  (30, .getfield 104, 33, 0, 5, 0, 0, 105, 0, []),
  (33, .iconst 2, 34, 0, 0, 0, 0, 0, 2, []),
  (34, .if_icmp .ne 10, 37, 44, 0, 0, 0, 0, 0, []),
  (37, .aload_n 3, 38, 3, 0, 0, 0, 0, 0, []),
  (38, .getfield 194, 41, 0, 12, 0, 0, 133, 0, []),
  (41, .goto 7, 44, 48, 0, 0, 0, 0, 0, []),
  (44, .aload_n 0, 45, 0, 0, 0, 0, 0, 0, []),
  (45, .getfield 70, 48, 4, 13, 0, 0, 90, 0, []),
  (48, .invokevirtual 197, 51, 3, 2, 0, 0, 134, 0, []),
  (51, .iadd, 52, 0, 0, 0, 0, 0, 0, []),
  (52, .istore_n 1, 53, 1, 0, 0, 0, 0, 0, []),
  (53, .iinc 2 1, 56, 2, 0, 0, 0, 0, 1, []),
  (56, .goto (-52), 59, 4, 0, 0, 0, 0, 0, []),
  (59, .iload_n 1, 60, 1, 0, 0, 0, 0, 0, []),
  (60, .ireturn, 61, 0, 0, 0, 0, 0, 0, [])]
def tbX4_pass : List iE := [(0, .iload_n 1, 1, 1, 0, 0, 0, 0, 0, []),
  (1, .istore_n 2, 2, 2, 0, 0, 0, 0, 0, []),
  (2, .iload_n 2, 3, 2, 0, 0, 0, 0, 0, []),
  (3, .ifCond .le 50, 6, 53, 0, 0, 0, 0, 0, []),
  (6, .aload_n 0, 7, 0, 0, 0, 0, 0, 0, []),
  (7, .iload_n 2, 8, 2, 0, 0, 0, 0, 0, []),
  (8, .invokevirtual 201, 11, 52, 2, 4, 0, 135, 0, []),
  (11, .istore_n 3, 12, 3, 0, 0, 0, 0, 0, []),
  (12, .iload_n 3, 13, 3, 0, 0, 0, 0, 0, []),
  (13, .ifCond .ne 11, 16, 24, 0, 0, 0, 0, 0, []),
  (16, .aload_n 0, 17, 0, 0, 0, 0, 0, 0, []),
  (17, .invokevirtual 204, 20, 54, 1, 4, 0, 136, 0, []),
  (20, .aload_n 0, 21, 0, 0, 0, 0, 0, 0, []),
  (21, .invokevirtual 207, 24, 56, 1, 4, 0, 137, 0, []),
  (24, .iload_n 3, 25, 3, 0, 0, 0, 0, 0, []),
  (25, .iconst 1, 26, 0, 0, 0, 0, 0, 1, []),
  (26, .invokestatic 107, 29, 0, 0, 0, 1, 106, 0, []),
  (29, .istore 4, 31, 4, 0, 0, 0, 0, 0, []),
  (31, .aload_n 0, 32, 0, 0, 0, 0, 0, 0, []),
  (32, .iload 4, 34, 4, 0, 0, 0, 0, 0, []),
  (34, .invokevirtual 210, 37, 58, 2, 4, 0, 138, 0, []),
  (37, .aload_n 0, 38, 0, 0, 0, 0, 0, 0, []),
  (38, .invokevirtual 214, 41, 60, 1, 4, 0, 139, 0, []),
  (41, .aload_n 0, 42, 0, 0, 0, 0, 0, 0, []),
  (42, .invokevirtual 217, 45, 62, 1, 4, 0, 140, 0, []),
  (45, .iload_n 2, 46, 2, 0, 0, 0, 0, 0, []),
  (46, .iload 4, 48, 4, 0, 0, 0, 0, 0, []),
  (48, .isub, 49, 0, 0, 0, 0, 0, 0, []),
  (49, .istore_n 2, 50, 2, 0, 0, 0, 0, 0, []),
  (50, .goto (-48), 53, 2, 0, 0, 0, 0, 0, []),
  (53, .return_, 54, 0, 0, 0, 0, 0, 0, [])]
def tbX4_quietTicks : List iE := [(0, .iload_n 1, 1, 1, 0, 0, 0, 0, 0, []),
  (1, .istore_n 2, 2, 2, 0, 0, 0, 0, 0, []),
  (2, .iconst 0, 3, 0, 0, 0, 0, 0, 0, []),
  (3, .istore_n 3, 4, 3, 0, 0, 0, 0, 0, []),
  (4, .iload_n 3, 5, 3, 0, 0, 0, 0, 0, []),
  (5, .aload_n 0, 6, 0, 0, 0, 0, 0, 0, []),
  (6, .getfield 42, 9, 4, 4, 0, 0, 81, 0, []),
  (9, .if_icmp .ge 89, 12, 98, 0, 0, 0, 0, 0, []),
  (12, .aload_n 0, 13, 0, 0, 0, 0, 0, 0, []),
  (13, .getfield 11, 16, 4, 0, 1, 15, 92, 0, []),
  (16, .iload_n 3, 17, 3, 0, 0, 0, 0, 0, []),
  (17, .aaload, 18, 15, 0, 0, 5, 0, 0, []),
  (18, .astore 4, 20, 4, 0, 0, 0, 0, 0, []),
  (20, .aload 4, 22, 4, 0, 0, 0, 0, 0, []),
  (22, .aload_n 0, 23, 0, 0, 0, 0, 0, 0, []),
  (23, .getfield 70, 26, 4, 13, 0, 0, 90, 0, []),
  (26, .invokevirtual 220, 29, 65, 2, 5, 0, 141, 0, []),
  (29, .ifCond .eq 21, 32, 50, 0, 0, 0, 0, 0, []),
  (32, .iload_n 2, 33, 2, 0, 0, 0, 0, 0, []),
  (33, .aload 4, 35, 4, 0, 0, 0, 0, 0, []),
  (35, .getfield 223, 38, 5, 1, 0, 0, 142, 0, []),
  (38, .aload_n 0, 39, 0, 0, 0, 0, 0, 0, []),
  (39, .getfield 70, 42, 4, 13, 0, 0, 90, 0, []),
  (42, .isub, 43, 0, 0, 0, 0, 0, 0, []),
  (43, .invokestatic 226, 46, 0, 0, 0, 2, 143, 0, []),
  (46, .istore_n 2, 47, 2, 0, 0, 0, 0, 0, []),
  (47, .goto 45, 50, 92, 0, 0, 0, 0, 0, []),
  (50, .aload 4, 52, 4, 0, 0, 0, 0, 0, []),
  (52, .getfield 113, 55, 5, 2, 0, 0, 107, 0, []),
  (55, .iconst (-1), 56, 0, 0, 0, 0, 0, -1, []),
  (56, .if_icmp .eq 26, 59, 82, 0, 0, 0, 0, 0, []),
  (59, .iload_n 2, 60, 2, 0, 0, 0, 0, 0, []),
  (60, .aload_n 0, 61, 0, 0, 0, 0, 0, 0, []),
  (61, .getfield 25, 64, 4, 2, 1, 12, 97, 0, []),
  (64, .aload 4, 66, 4, 0, 0, 0, 0, 0, []),
  (66, .getfield 113, 69, 5, 2, 0, 0, 107, 0, []),
  (69, .aaload, 70, 12, 0, 0, 0, 0, 0, []),
  (70, .getfield 116, 73, 0, 7, 0, 0, 108, 0, []),
  (73, .iconst 1, 74, 0, 0, 0, 0, 0, 1, []),
  (74, .isub, 75, 0, 0, 0, 0, 0, 0, []),
  (75, .invokestatic 226, 78, 0, 0, 0, 2, 143, 0, []),
  (78, .istore_n 2, 79, 2, 0, 0, 0, 0, 0, []),
  (79, .goto 13, 82, 92, 0, 0, 0, 0, 0, []),
  (82, .aload 4, 84, 4, 0, 0, 0, 0, 0, []),
  (84, .getfield 229, 87, 5, 4, 0, 0, 144, 0, []),
  (87, .ifCond .le 5, 90, 92, 0, 0, 0, 0, 0, []),
  (90, .iconst 0, 91, 0, 0, 0, 0, 0, 0, []),
  (91, .ireturn, 92, 0, 0, 0, 0, 0, 0, []),
  (92, .iinc 3 1, 95, 3, 0, 0, 0, 0, 1, []),
  (95, .goto (-91), 98, 4, 0, 0, 0, 0, 0, []),
  (98, .iload_n 2, 99, 2, 0, 0, 0, 0, 0, []),
  (99, .ifCond .le 15, 102, 114, 0, 0, 0, 0, 0, []),
  (102, .iload_n 2, 103, 2, 0, 0, 0, 0, 0, []),
  (103, .aload_n 0, 104, 0, 0, 0, 0, 0, 0, []),
  (104, .iload_n 2, 105, 2, 0, 0, 0, 0, 0, []),
  (105, .invokevirtual 232, 108, 53, 2, 4, 0, 145, 0, []),
  (108, .invokestatic 226, 111, 0, 0, 0, 2, 143, 0, []),
  (111, .goto 4, 114, 115, 0, 0, 0, 0, 0, []),
  (114, .iconst 0, 115, 0, 0, 0, 0, 0, 0, []),
  (115, .ireturn, 116, 0, 0, 0, 0, 0, 0, [])]
def tbX4_ticksWithoutRelease : List iE := [(0, .aload_n 0, 1, 0, 0, 0, 0, 0, 0, []),
  (1, .iconst 0, 2, 0, 0, 0, 0, 0, 0, []),
  (2, .invokevirtual 235, 5, 34, 2, 4, 0, 146, 0, []),
  (5, .ifCond .ne 5, 8, 10, 0, 0, 0, 0, 0, []),
  (8, .iload_n 1, 9, 1, 0, 0, 0, 0, 0, []),
  (9, .ireturn, 10, 0, 0, 0, 0, 0, 0, []),
  (10, .aload_n 0, 11, 0, 0, 0, 0, 0, 0, []),
  (11, .getfield 32, 14, 4, 3, 1, 3, 109, 0, []),
  (14, .aload_n 0, 15, 0, 0, 0, 0, 0, 0, []),
  (15, .invokevirtual 119, 18, 26, 2, 3, 0, 110, 0, []),
  (18, .iconst 0, 19, 0, 0, 0, 0, 0, 0, []),
  (19, .istore_n 2, 20, 2, 0, 0, 0, 0, 0, []),
  (20, .iload_n 2, 21, 2, 0, 0, 0, 0, 0, []),
  (21, .aload_n 0, 22, 0, 0, 0, 0, 0, 0, []),
  (22, .getfield 32, 25, 4, 3, 1, 3, 109, 0, []),
  (25, .getfield 123, 28, 3, 2, 0, 0, 111, 0, []),
  (28, .if_icmp .ge 82, 31, 110, 0, 0, 0, 0, 0, []),
  (31, .aload_n 0, 32, 0, 0, 0, 0, 0, 0, []),
  (32, .getfield 25, 35, 4, 2, 1, 12, 97, 0, []),
  (35, .aload_n 0, 36, 0, 0, 0, 0, 0, 0, []),
  (36, .getfield 32, 39, 4, 3, 1, 3, 109, 0, []),
  (39, .getfield 126, 42, 3, 0, 1, 8, 112, 0, []),
  (42, .iload_n 2, 43, 2, 0, 0, 0, 0, 0, []),
  (43, .iaload, 44, 8, 0, 0, 0, 0, 0, []),
  (44, .aaload, 45, 12, 0, 0, 0, 0, 0, []),
  (45, .astore_n 3, 46, 3, 0, 0, 0, 0, 0, []),
  (46, .aload_n 3, 47, 3, 0, 0, 0, 0, 0, []),
  (47, .getfield 104, 50, 0, 5, 0, 0, 105, 0, []),
  (50, .ifCond .ne 54, 53, 104, 0, 0, 0, 0, 0, []),
  (53, .aload_n 0, 54, 0, 0, 0, 0, 0, 0, []),
  (54, .getfield 32, 57, 4, 3, 1, 3, 109, 0, []),
  (57, .getfield 129, 60, 3, 1, 1, 8, 113, 0, []),
  (60, .iload_n 2, 61, 2, 0, 0, 0, 0, 0, []),
  (61, .iaload, 62, 8, 0, 0, 0, 0, 0, []),
  (62, .aload_n 0, 63, 0, 0, 0, 0, 0, 0, []),
  (63, .getfield 55, 66, 4, 8, 0, 0, 85, 0, []),
  (66, .isub, 67, 0, 0, 0, 0, 0, 0, []),
  (67, .aload_n 0, 68, 0, 0, 0, 0, 0, 0, []),
  (68, .getfield 70, 71, 4, 13, 0, 0, 90, 0, []),
  (71, .isub, 72, 0, 0, 0, 0, 0, 0, []),
  (72, .istore 4, 74, 4, 0, 0, 0, 0, 0, []),
  (74, .iload 4, 76, 4, 0, 0, 0, 0, 0, []),
  (76, .ifCond .le 6, 79, 82, 0, 0, 0, 0, 0, []),
  (79, .iload 4, 81, 4, 0, 0, 0, 0, 0, []),
  (81, .ireturn, 82, 0, 0, 0, 0, 0, 0, []),
  (82, .aload_n 0, 83, 0, 0, 0, 0, 0, 0, []),
  (83, .invokevirtual 238, 86, 39, 1, 4, 0, 147, 0, []),
  (86, .aload_n 3, 87, 3, 0, 0, 0, 0, 0, []),
  (87, .getfield 101, 90, 0, 3, 0, 0, 104, 0, []),
  (90, .iadd, 91, 0, 0, 0, 0, 0, 0, []),
  (91, .aload_n 0, 92, 0, 0, 0, 0, 0, 0, []),
  (92, .getfield 61, 95, 4, 10, 0, 0, 87, 0, []),
  (95, .if_icmp .gt 7, 98, 102, 0, 0, 0, 0, 0, []),
  (98, .iconst 0, 99, 0, 0, 0, 0, 0, 0, []),
  (99, .goto 4, 102, 103, 0, 0, 0, 0, 0, []),
  (102, .iload_n 1, 103, 1, 0, 0, 0, 0, 0, []),
  (103, .ireturn, 104, 0, 0, 0, 0, 0, 0, []),
  (104, .iinc 2 1, 107, 2, 0, 0, 0, 0, 1, []),
  (107, .goto (-87), 110, 20, 0, 0, 0, 0, 0, []),
  (110, .iload_n 1, 111, 1, 0, 0, 0, 0, 0, []),
  (111, .ireturn, 112, 0, 0, 0, 0, 0, 0, [])]
def tbX4_releaseOrders : List iE := [(0, .aload_n 0, 1, 0, 0, 0, 0, 0, 0, []),
  (1, .iconst 0, 2, 0, 0, 0, 0, 0, 0, []),
  (2, .invokevirtual 235, 5, 34, 2, 4, 0, 146, 0, []),
  (5, .ifCond .ne 4, 8, 9, 0, 0, 0, 0, 0, []),
  (8, .return_, 9, 0, 0, 0, 0, 0, 0, []),
  (9, .aload_n 0, 10, 0, 0, 0, 0, 0, 0, []),
  (10, .getfield 32, 13, 4, 3, 1, 3, 109, 0, []),
  (13, .aload_n 0, 14, 0, 0, 0, 0, 0, 0, []),
  (14, .invokevirtual 119, 17, 26, 2, 3, 0, 110, 0, []),
  (17, .aload_n 0, 18, 0, 0, 0, 0, 0, 0, []),
  (18, .invokevirtual 238, 21, 39, 1, 4, 0, 147, 0, []),
  (21, .istore_n 1, 22, 1, 0, 0, 0, 0, 0, []),
  (22, .iconst 0, 23, 0, 0, 0, 0, 0, 0, []),
  (23, .istore_n 2, 24, 2, 0, 0, 0, 0, 0, []),
  (24, .iload_n 2, 25, 2, 0, 0, 0, 0, 0, []),
  (25, .aload_n 0, 26, 0, 0, 0, 0, 0, 0, []),
  (26, .getfield 32, 29, 4, 3, 1, 3, 109, 0, []),
  (29, .getfield 123, 32, 3, 2, 0, 0, 111, 0, []),
  (32, .if_icmp .ge 97, 35, 129, 0, 0, 0, 0, 0, []),
  (35, .aload_n 0, 36, 0, 0, 0, 0, 0, 0, []),
  (36, .getfield 25, 39, 4, 2, 1, 12, 97, 0, []),
  (39, .aload_n 0, 40, 0, 0, 0, 0, 0, 0, []),
  (40, .getfield 32, 43, 4, 3, 1, 3, 109, 0, []),
  (43, .getfield 126, 46, 3, 0, 1, 8, 112, 0, []),
  (46, .iload_n 2, 47, 2, 0, 0, 0, 0, 0, []),
  (47, .iaload, 48, 8, 0, 0, 0, 0, 0, []),
  (48, .aaload, 49, 12, 0, 0, 0, 0, 0, []),
  (49, .astore_n 3, 50, 3, 0, 0, 0, 0, 0, []),
  (50, .aload_n 0, 51, 0, 0, 0, 0, 0, 0, []),
  (51, .getfield 32, 54, 4, 3, 1, 3, 109, 0, []),
  (54, .getfield 129, 57, 3, 1, 1, 8, 113, 0, []),
  (57, .iload_n 2, 58, 2, 0, 0, 0, 0, 0, []),
  (58, .iaload, 59, 8, 0, 0, 0, 0, 0, []),
  (59, .aload_n 0, 60, 0, 0, 0, 0, 0, 0, []),
  (60, .getfield 55, 63, 4, 8, 0, 0, 85, 0, []),
  (63, .isub, 64, 0, 0, 0, 0, 0, 0, []),
  (64, .istore 4, 66, 4, 0, 0, 0, 0, 0, []),
  (66, .aload_n 3, 67, 3, 0, 0, 0, 0, 0, []),
  (67, .getfield 104, 70, 0, 5, 0, 0, 105, 0, []),
  (70, .ifCond .ne 53, 73, 123, 0, 0, 0, 0, 0, []),
  (73, .aload_n 0, 74, 0, 0, 0, 0, 0, 0, []),
  (74, .getfield 70, 77, 4, 13, 0, 0, 90, 0, []),
  (77, .iload 4, 79, 4, 0, 0, 0, 0, 0, []),
  (79, .if_icmp .lt 44, 82, 123, 0, 0, 0, 0, 0, []),
  (82, .iload_n 1, 83, 1, 0, 0, 0, 0, 0, []),
  (83, .aload_n 3, 84, 3, 0, 0, 0, 0, 0, []),
  (84, .getfield 101, 87, 0, 3, 0, 0, 104, 0, []),
  (87, .iadd, 88, 0, 0, 0, 0, 0, 0, []),
  (88, .istore_n 1, 89, 1, 0, 0, 0, 0, 0, []),
  (89, .iload_n 1, 90, 1, 0, 0, 0, 0, 0, []),
  (90, .aload_n 0, 91, 0, 0, 0, 0, 0, 0, []),
  (91, .getfield 61, 94, 4, 10, 0, 0, 87, 0, []),
  (94, .if_icmp .le 4, 97, 98, 0, 0, 0, 0, 0, []),
  (97, .return_, 98, 0, 0, 0, 0, 0, 0, []),
  (98, .aload_n 3, 99, 3, 0, 0, 0, 0, 0, []),
  (99, .iconst 1, 100, 0, 0, 0, 0, 0, 1, []),
  (100, .putfield 104, 103, 0, 5, 0, 0, 105, 0, []),
  (103, .aload_n 3, 104, 3, 0, 0, 0, 0, 0, []),
  (104, .aload_n 0, 105, 0, 0, 0, 0, 0, 0, []),
  (105, .getfield 70, 108, 4, 13, 0, 0, 90, 0, []),
  (108, .putfield 241, 111, 0, 9, 0, 0, 148, 0, []),
  (111, .aload_n 3, 112, 3, 0, 0, 0, 0, 0, []),
  (112, .iload 4, 114, 4, 0, 0, 0, 0, 0, []),
  (114, .putfield 146, 117, 0, 10, 0, 0, 119, 0, []),
  (117, .aload_n 0, 118, 0, 0, 0, 0, 0, 0, []),
  (118, .aload_n 3, 119, 3, 0, 0, 0, 0, 0, []),
  (119, .iconst 0, 120, 0, 0, 0, 0, 0, 0, []),
  (120, .invokevirtual 244, 123, 55, 3, 4, 0, 149, 0, []),
  (123, .iinc 2 1, 126, 2, 0, 0, 0, 0, 1, []),
  (126, .goto (-102), 129, 24, 0, 0, 0, 0, 0, []),
  (129, .return_, 130, 0, 0, 0, 0, 0, 0, [])]
def tbX4_arrive : List iE := [(0, .aload_n 1, 1, 1, 0, 0, 0, 0, 0, []),
  (1, .iload_n 2, 2, 2, 0, 0, 0, 0, 0, []),
  (2, .putfield 133, 5, 0, 6, 0, 0, 115, 0, []),
  (5, .aload_n 1, 6, 1, 0, 0, 0, 0, 0, []),
  (6, .aload_n 0, 7, 0, 0, 0, 0, 0, 0, []),
  (7, .getfield 70, 10, 4, 13, 0, 0, 90, 0, []),
  (10, .putfield 181, 13, 0, 8, 0, 0, 129, 0, []),
  (13, .aload_n 0, 14, 0, 0, 0, 0, 0, 0, []),
  (14, .getfield 11, 17, 4, 0, 1, 15, 92, 0, []),
  (17, .aload_n 0, 18, 0, 0, 0, 0, 0, 0, []),
  (18, .aload_n 1, 19, 1, 0, 0, 0, 0, 0, []),
  (19, .invokevirtual 159, 22, 43, 2, 4, 0, 123, 0, []),
  (22, .aaload, 23, 15, 0, 0, 5, 0, 0, []),
  (23, .dup, 24, 0, 0, 0, 0, 0, 0, []),
  (24, .getfield 229, 27, 5, 4, 0, 0, 144, 0, []),
  (27, .iconst 1, 28, 0, 0, 0, 0, 0, 1, []),
  (28, .iadd, 29, 0, 0, 0, 0, 0, 0, []),
  (29, .putfield 229, 32, 5, 4, 0, 0, 144, 0, []),
  (32, .return_, 33, 0, 0, 0, 0, 0, 0, [])]
def tbX4_beginSteps : List iE := [(0, .iconst 0, 1, 0, 0, 0, 0, 0, 0, []),
  (1, .istore_n 1, 2, 1, 0, 0, 0, 0, 0, []),
  (2, .iload_n 1, 3, 1, 0, 0, 0, 0, 0, []),
  (3, .aload_n 0, 4, 0, 0, 0, 0, 0, 0, []),
  (4, .getfield 42, 7, 4, 4, 0, 0, 81, 0, []),
  (7, .if_icmp .ge 54, 10, 61, 0, 0, 0, 0, 0, []),
  (10, .aload_n 0, 11, 0, 0, 0, 0, 0, 0, []),
  (11, .getfield 11, 14, 4, 0, 1, 15, 92, 0, []),
  (14, .iload_n 1, 15, 1, 0, 0, 0, 0, 0, []),
  (15, .aaload, 16, 15, 0, 0, 5, 0, 0, []),
  (16, .aload_n 0, 17, 0, 0, 0, 0, 0, 0, []),
  (17, .getfield 70, 20, 4, 13, 0, 0, 90, 0, []),
  (20, .invokevirtual 248, 23, 67, 2, 5, 0, 150, 0, []),
  (23, .ifCond .eq 32, 26, 55, 0, 0, 0, 0, 0, []),
  (26, .aload_n 0, 27, 0, 0, 0, 0, 0, 0, []),
  (27, .getfield 11, 30, 4, 0, 1, 15, 92, 0, []),
  (30, .iload_n 1, 31, 1, 0, 0, 0, 0, 0, []),
  (31, .aaload, 32, 15, 0, 0, 5, 0, 0, []),
  (32, .getfield 229, 35, 5, 4, 0, 0, 144, 0, []),
  (35, .ifCond .le 20, 38, 55, 0, 0, 0, 0, 0, []),
  (38, .aload_n 0, 39, 0, 0, 0, 0, 0, 0, []),
  (39, .iload_n 1, 40, 1, 0, 0, 0, 0, 0, []),
  (40, .invokevirtual 251, 43, 46, 2, 4, 0, 151, 0, []),
  (43, .istore_n 2, 44, 2, 0, 0, 0, 0, 0, []),
  (44, .iload_n 2, 45, 2, 0, 0, 0, 0, 0, []),
  (45, .iconst (-1), 46, 0, 0, 0, 0, 0, -1, []),
  (46, .if_icmp .eq 9, 49, 55, 0, 0, 0, 0, 0, []),
  (49, .aload_n 0, 50, 0, 0, 0, 0, 0, 0, []),
  (50, .iload_n 1, 51, 1, 0, 0, 0, 0, 0, []),
  (51, .iload_n 2, 52, 2, 0, 0, 0, 0, 0, []),
  (52, .invokevirtual 254, 55, 57, 3, 4, 0, 152, 0, []),
  (55, .iinc 1 1, 58, 1, 0, 0, 0, 0, 1, []),
  (58, .goto (-56), 61, 2, 0, 0, 0, 0, 0, []),
  (61, .return_, 62, 0, 0, 0, 0, 0, 0, [])]
def tbX4_beginStep : List iE := [(0, .aload_n 0, 1, 0, 0, 0, 0, 0, 0, []),
  (1, .getfield 11, 4, 4, 0, 1, 15, 92, 0, []),
  (4, .iload_n 1, 5, 1, 0, 0, 0, 0, 0, []),
  (5, .aaload, 6, 15, 0, 0, 5, 0, 0, []),
  (6, .astore_n 3, 7, 3, 0, 0, 0, 0, 0, []),
  (7, .aload_n 0, 8, 0, 0, 0, 0, 0, 0, []),
  (8, .getfield 25, 11, 4, 2, 1, 12, 97, 0, []),
  (11, .iload_n 2, 12, 2, 0, 0, 0, 0, 0, []),
  (12, .aaload, 13, 12, 0, 0, 0, 0, 0, []),
  (13, .astore 4, 15, 4, 0, 0, 0, 0, 0, []),
  (15, .aload 4, 17, 4, 0, 0, 0, 0, 0, []),
  (17, .aload_n 0, 18, 0, 0, 0, 0, 0, 0, []),
  (18, .aload 4, 20, 4, 0, 0, 0, 0, 0, []),
  (20, .invokevirtual 178, 23, 44, 2, 4, 0, 128, 0, []),
  (23, .putfield 116, 26, 0, 7, 0, 0, 108, 0, []),
  (26, .aload 4, 28, 4, 0, 0, 0, 0, 0, []),
  (28, .getfield 88, 31, 0, 0, 0, 0, 100, 0, []),
  (31, .aload_n 3, 32, 3, 0, 0, 0, 0, 0, []),
  (32, .getfield 258, 35, 5, 3, 0, 0, 153, 0, []),
  (35, .if_icmp .eq 36, 38, 71, 0, 0, 0, 0, 0, []),
  (38, .aload 4, 40, 4, 0, 0, 0, 0, 0, []),
  (40, .dup, 41, 0, 0, 0, 0, 0, 0, []),
  (41, .getfield 116, 44, 0, 7, 0, 0, 108, 0, []),
  (44, .aload_n 3, 45, 3, 0, 0, 0, 0, 0, []),
  (45, .getfield 261, 48, 5, 0, 0, 0, 154, 0, []),
  (48, .iadd, 49, 0, 0, 0, 0, 0, 0, []),
  (49, .putfield 116, 52, 0, 7, 0, 0, 108, 0, []),
  (52, .aload_n 3, 53, 3, 0, 0, 0, 0, 0, []),
  (53, .dup, 54, 0, 0, 0, 0, 0, 0, []),
  (54, .getfield 264, 57, 5, 6, 0, 0, 155, 0, []),
  (57, .iconst 1, 58, 0, 0, 0, 0, 0, 1, []),
  (58, .iadd, 59, 0, 0, 0, 0, 0, 0, []),
  (59, .putfield 264, 62, 5, 6, 0, 0, 155, 0, []),
  (62, .aload_n 3, 63, 3, 0, 0, 0, 0, 0, []),
  (63, .aload 4, 65, 4, 0, 0, 0, 0, 0, []),
  (65, .getfield 88, 68, 0, 0, 0, 0, 100, 0, []),
  (68, .putfield 258, 71, 5, 3, 0, 0, 153, 0, []),
  (71, .iload_n 1, 72, 1, 0, 0, 0, 0, 0, []),
  (72, .aload_n 0, 73, 0, 0, 0, 0, 0, 0, []),
  (73, .getfield 52, 76, 4, 7, 0, 0, 84, 0, []),
  (76, .if_icmp .ne 12, 79, 88, 0, 0, 0, 0, 0, []),
  (79, .aload 4, 81, 4, 0, 0, 0, 0, 0, []),
  (81, .aload_n 0, 82, 0, 0, 0, 0, 0, 0, []),
  (82, .getfield 70, 85, 4, 13, 0, 0, 90, 0, []),
  (85, .putfield 143, 88, 0, 11, 0, 0, 118, 0, []),
  (88, .aload_n 3, 89, 3, 0, 0, 0, 0, 0, []),
  (89, .iload_n 2, 90, 2, 0, 0, 0, 0, 0, []),
  (90, .putfield 113, 93, 5, 2, 0, 0, 107, 0, []),
  (93, .aload_n 3, 94, 3, 0, 0, 0, 0, 0, []),
  (94, .dup, 95, 0, 0, 0, 0, 0, 0, []),
  (95, .getfield 229, 98, 5, 4, 0, 0, 144, 0, []),
  (98, .iconst 1, 99, 0, 0, 0, 0, 0, 1, []),
  (99, .isub, 100, 0, 0, 0, 0, 0, 0, []),
  (100, .putfield 229, 103, 5, 4, 0, 0, 144, 0, []),
  (103, .return_, 104, 0, 0, 0, 0, 0, 0, [])]
def tbX4_work : List iE := [(0, .aload_n 0, 1, 0, 0, 0, 0, 0, 0, []),
  (1, .invokevirtual 267, 4, 59, 1, 4, 0, 156, 0, []),
  (4, .ifCond .eq 13, 7, 17, 0, 0, 0, 0, 0, []),
  (7, .aload_n 0, 8, 0, 0, 0, 0, 0, 0, []),
  (8, .dup, 9, 0, 0, 0, 0, 0, 0, []),
  (9, .getfield 73, 12, 4, 14, 0, 0, 91, 0, []),
  (12, .iload_n 1, 13, 1, 0, 0, 0, 0, 0, []),
  (13, .iadd, 14, 0, 0, 0, 0, 0, 0, []),
  (14, .putfield 73, 17, 4, 14, 0, 0, 91, 0, []),
  (17, .iconst 0, 18, 0, 0, 0, 0, 0, 0, []),
  (18, .istore_n 2, 19, 2, 0, 0, 0, 0, 0, []),
  (19, .iload_n 2, 20, 2, 0, 0, 0, 0, 0, []),
  (20, .aload_n 0, 21, 0, 0, 0, 0, 0, 0, []),
  (21, .getfield 42, 24, 4, 4, 0, 0, 81, 0, []),
  (24, .if_icmp .ge 55, 27, 79, 0, 0, 0, 0, 0, []),
  (27, .aload_n 0, 28, 0, 0, 0, 0, 0, 0, []),
  (28, .getfield 11, 31, 4, 0, 1, 15, 92, 0, []),
  (31, .iload_n 2, 32, 2, 0, 0, 0, 0, 0, []),
  (32, .aaload, 33, 15, 0, 0, 5, 0, 0, []),
  (33, .astore_n 3, 34, 3, 0, 0, 0, 0, 0, []),
  (34, .aload_n 3, 35, 3, 0, 0, 0, 0, 0, []),
  (35, .aload_n 0, 36, 0, 0, 0, 0, 0, 0, []),
  (36, .getfield 70, 39, 4, 13, 0, 0, 90, 0, []),
  (39, .invokevirtual 270, 42, 66, 2, 5, 0, 157, 0, []),
  (42, .ifCond .eq 31, 45, 73, 0, 0, 0, 0, 0, []),
  (45, .aload_n 0, 46, 0, 0, 0, 0, 0, 0, []),
  (46, .getfield 25, 49, 4, 2, 1, 12, 97, 0, []),
  (49, .aload_n 3, 50, 3, 0, 0, 0, 0, 0, []),
  (50, .getfield 113, 53, 5, 2, 0, 0, 107, 0, []),
  (53, .aaload, 54, 12, 0, 0, 0, 0, 0, []),
  (54, .dup, 55, 0, 0, 0, 0, 0, 0, []),
  (55, .getfield 116, 58, 0, 7, 0, 0, 108, 0, []),
  (58, .iload_n 1, 59, 1, 0, 0, 0, 0, 0, []),
  (59, .isub, 60, 0, 0, 0, 0, 0, 0, []),
  (60, .putfield 116, 63, 0, 7, 0, 0, 108, 0, []),
  (63, .aload_n 3, 64, 3, 0, 0, 0, 0, 0, []),
  (64, .dup, 65, 0, 0, 0, 0, 0, 0, []),
  (65, .getfield 273, 68, 5, 5, 0, 0, 158, 0, []),
  (68, .iload_n 1, 69, 1, 0, 0, 0, 0, 0, []),
  (69, .iadd, 70, 0, 0, 0, 0, 0, 0, []),
  (70, .putfield 273, 73, 5, 5, 0, 0, 158, 0, []),
  (73, .iinc 2 1, 76, 2, 0, 0, 0, 0, 1, []),
  (76, .goto (-57), 79, 19, 0, 0, 0, 0, 0, []),
  (79, .aload_n 0, 80, 0, 0, 0, 0, 0, 0, []),
  (80, .dup, 81, 0, 0, 0, 0, 0, 0, []),
  (81, .getfield 70, 84, 4, 13, 0, 0, 90, 0, []),
  (84, .iload_n 1, 85, 1, 0, 0, 0, 0, 0, []),
  (85, .iadd, 86, 0, 0, 0, 0, 0, 0, []),
  (86, .putfield 70, 89, 4, 13, 0, 0, 90, 0, []),
  (89, .return_, 90, 0, 0, 0, 0, 0, 0, [])]
def tbX4_isStarved : List iE := [(0, .aload_n 0, 1, 0, 0, 0, 0, 0, 0, []),
  (1, .getfield 11, 4, 4, 0, 1, 15, 92, 0, []),
  (4, .aload_n 0, 5, 0, 0, 0, 0, 0, 0, []),
  (5, .getfield 52, 8, 4, 7, 0, 0, 84, 0, []),
  (8, .aaload, 9, 15, 0, 0, 5, 0, 0, []),
  (9, .aload_n 0, 10, 0, 0, 0, 0, 0, 0, []),
  (10, .getfield 70, 13, 4, 13, 0, 0, 90, 0, []),
  (13, .invokevirtual 248, 16, 67, 2, 5, 0, 150, 0, []),
  (16, .ifCond .ne 5, 19, 21, 0, 0, 0, 0, 0, []),
  (19, .iconst 0, 20, 0, 0, 0, 0, 0, 0, []),
  (20, .ireturn, 21, 0, 0, 1, 0, 0, 0, []),
  (21, .iconst 0, 22, 0, 0, 0, 0, 0, 0, []),
  (22, .istore_n 1, 23, 1, 0, 0, 0, 0, 0, []),
  (23, .iload_n 1, 24, 1, 0, 0, 0, 0, 0, []),
  (24, .aload_n 0, 25, 0, 0, 0, 0, 0, 0, []),
  (25, .getfield 49, 28, 4, 6, 0, 0, 83, 0, []),
  (28, .if_icmp .ge 24, 31, 52, 0, 0, 0, 0, 0, []),
  (31, .aload_n 0, 32, 0, 0, 0, 0, 0, 0, []),
  (32, .aload_n 0, 33, 0, 0, 0, 0, 0, 0, []),
  (33, .getfield 25, 36, 4, 2, 1, 12, 97, 0, []),
  (36, .iload_n 1, 37, 1, 0, 0, 0, 0, 0, []),
  (37, .aaload, 38, 12, 0, 0, 0, 0, 0, []),
  (38, .invokevirtual 139, 41, 38, 2, 4, 0, 117, 0, []),
  (41, .ifCond .eq 5, 44, 46, 0, 0, 0, 0, 0, []),
  (44, .iconst 1, 45, 0, 0, 0, 0, 0, 1, []),
  (45, .ireturn, 46, 0, 0, 1, 0, 0, 0, []),
  (46, .iinc 1 1, 49, 1, 0, 0, 0, 0, 1, []),
  (49, .goto (-26), 52, 23, 0, 0, 0, 0, 0, []),
  (52, .iconst 0, 53, 0, 0, 0, 0, 0, 0, []),
  (53, .ireturn, 54, 0, 0, 1, 0, 0, 0, [])]
def tbX4_finishSteps : List iE := [(0, .iconst 0, 1, 0, 0, 0, 0, 0, 0, []),
  (1, .istore_n 1, 2, 1, 0, 0, 0, 0, 0, []),
  (2, .iload_n 1, 3, 1, 0, 0, 0, 0, 0, []),
  (3, .aload_n 0, 4, 0, 0, 0, 0, 0, 0, []),
  (4, .getfield 42, 7, 4, 4, 0, 0, 81, 0, []),
  (7, .if_icmp .ge 57, 10, 64, 0, 0, 0, 0, 0, []),
  (10, .aload_n 0, 11, 0, 0, 0, 0, 0, 0, []),
  (11, .getfield 11, 14, 4, 0, 1, 15, 92, 0, []),
  (14, .iload_n 1, 15, 1, 0, 0, 0, 0, 0, []),
  (15, .aaload, 16, 15, 0, 0, 5, 0, 0, []),
  (16, .astore_n 2, 17, 2, 0, 0, 0, 0, 0, []),
  (17, .aload_n 2, 18, 2, 0, 0, 0, 0, 0, []),
  (18, .getfield 113, 21, 5, 2, 0, 0, 107, 0, []),
  (21, .iconst (-1), 22, 0, 0, 0, 0, 0, -1, []),
  (22, .if_icmp .eq 36, 25, 58, 0, 0, 0, 0, 0, []),
  (25, .aload_n 0, 26, 0, 0, 0, 0, 0, 0, []),
  (26, .getfield 25, 29, 4, 2, 1, 12, 97, 0, []),
  (29, .aload_n 2, 30, 2, 0, 0, 0, 0, 0, []),
  (30, .getfield 113, 33, 5, 2, 0, 0, 107, 0, []),
  (33, .aaload, 34, 12, 0, 0, 0, 0, 0, []),
  (34, .getfield 116, 37, 0, 7, 0, 0, 108, 0, []),
  (37, .ifCond .ne 21, 40, 58, 0, 0, 0, 0, 0, []),
  (40, .aload_n 0, 41, 0, 0, 0, 0, 0, 0, []),
  (41, .aload_n 0, 42, 0, 0, 0, 0, 0, 0, []),
  (42, .getfield 25, 45, 4, 2, 1, 12, 97, 0, []),
  (45, .aload_n 2, 46, 2, 0, 0, 0, 0, 0, []),
  (46, .getfield 113, 49, 5, 2, 0, 0, 107, 0, []),
  (49, .aaload, 50, 12, 0, 0, 0, 0, 0, []),
  (50, .invokevirtual 276, 53, 61, 2, 4, 0, 159, 0, []),
  (53, .aload_n 2, 54, 2, 0, 0, 0, 0, 0, []),
  (54, .iconst (-1), 55, 0, 0, 0, 0, 0, -1, []),
  (55, .putfield 113, 58, 5, 2, 0, 0, 107, 0, []),
  (58, .iinc 1 1, 61, 1, 0, 0, 0, 0, 1, []),
  (61, .goto (-59), 64, 2, 0, 0, 0, 0, 0, []),
  (64, .return_, 65, 0, 0, 0, 0, 0, 0, [])]
def tbX4_leaveStation : List iE := [(0, .aload_n 1, 1, 1, 0, 0, 0, 0, 0, []),
  (1, .getfield 133, 4, 0, 6, 0, 0, 115, 0, []),
  (4, .iconst 1, 5, 0, 0, 0, 0, 0, 1, []),
  (5, .iadd, 6, 0, 0, 0, 0, 0, 0, []),
  (6, .aload_n 0, 7, 0, 0, 0, 0, 0, 0, []),
  (7, .getfield 19, 10, 4, 1, 1, 13, 95, 0, []),
  (10, .aload_n 1, 11, 1, 0, 0, 0, 0, 0, []),
  (11, .getfield 88, 14, 0, 0, 0, 0, 100, 0, []),
  (14, .aaload, 15, 13, 0, 0, 1, 0, 0, []),
  (15, .getfield 191, 18, 1, 2, 0, 0, 132, 0, []),
  (18, .if_icmp .ge 17, 21, 35, 0, 0, 0, 0, 0, []),
  (21, .aload_n 0, 22, 0, 0, 0, 0, 0, 0, []),
  (22, .aload_n 1, 23, 1, 0, 0, 0, 0, 0, []),
  (23, .aload_n 1, 24, 1, 0, 0, 0, 0, 0, []),
  (24, .getfield 133, 27, 0, 6, 0, 0, 115, 0, []),
  (27, .iconst 1, 28, 0, 0, 0, 0, 0, 1, []),
  (28, .iadd, 29, 0, 0, 0, 0, 0, 0, []),
  (29, .invokevirtual 244, 32, 55, 3, 4, 0, 149, 0, []),
  (32, .goto 26, 35, 58, 0, 0, 0, 0, 0, []),
  (35, .aload_n 1, 36, 1, 0, 0, 0, 0, 0, []),
  (36, .dup, 37, 0, 0, 0, 0, 0, 0, []),
  (37, .getfield 133, 40, 0, 6, 0, 0, 115, 0, []),
  (40, .iconst 1, 41, 0, 0, 0, 0, 0, 1, []),
  (41, .iadd, 42, 0, 0, 0, 0, 0, 0, []),
  (42, .putfield 133, 45, 0, 6, 0, 0, 115, 0, []),
  (45, .aload_n 1, 46, 1, 0, 0, 0, 0, 0, []),
  (46, .iconst 2, 47, 0, 0, 0, 0, 0, 2, []),
  (47, .putfield 104, 50, 0, 5, 0, 0, 105, 0, []),
  (50, .aload_n 1, 51, 1, 0, 0, 0, 0, 0, []),
  (51, .aload_n 0, 52, 0, 0, 0, 0, 0, 0, []),
  (52, .getfield 70, 55, 4, 13, 0, 0, 90, 0, []),
  (55, .putfield 194, 58, 0, 12, 0, 0, 133, 0, []),
  (58, .return_, 59, 0, 0, 0, 0, 0, 0, [])]
def tbX4_markReds : List iE := [(0, .iconst 0, 1, 0, 0, 0, 0, 0, 0, []),
  (1, .istore_n 1, 2, 1, 0, 0, 0, 0, 0, []),
  (2, .iload_n 1, 3, 1, 0, 0, 0, 0, 0, []),
  (3, .aload_n 0, 4, 0, 0, 0, 0, 0, 0, []),
  (4, .getfield 49, 7, 4, 6, 0, 0, 83, 0, []),
  (7, .if_icmp .ge 70, 10, 77, 0, 0, 0, 0, 0, []),
  (10, .aload_n 0, 11, 0, 0, 0, 0, 0, 0, []),
  (11, .getfield 25, 14, 4, 2, 1, 12, 97, 0, []),
  (14, .iload_n 1, 15, 1, 0, 0, 0, 0, 0, []),
  (15, .aaload, 16, 12, 0, 0, 0, 0, 0, []),
  (16, .astore_n 2, 17, 2, 0, 0, 0, 0, 0, []),
  (17, .aload_n 2, 18, 2, 0, 0, 0, 0, 0, []),
  (18, .getfield 104, 21, 0, 5, 0, 0, 105, 0, []),
  (21, .iconst 1, 22, 0, 0, 0, 0, 0, 1, []),
  (22, .if_icmp .ne 49, 25, 71, 0, 0, 0, 0, 0, []),
  (25, .aload_n 2, 26, 2, 0, 0, 0, 0, 0, []),
  (26, .getfield 279, 29, 0, 13, 0, 0, 160, 0, []),
  (29, .iconst (-1), 30, 0, 0, 0, 0, 0, -1, []),
  (30, .if_icmp .ne 41, 33, 71, 0, 0, 0, 0, 0, []),
  (33, .aload_n 0, 34, 0, 0, 0, 0, 0, 0, []),
  (34, .aload_n 2, 35, 2, 0, 0, 0, 0, 0, []),
  (35, .invokevirtual 149, 38, 40, 2, 4, 0, 120, 0, []),
  (38, .invokestatic 174, 41, 42, 1, 4, 0, 127, 0, []),
  (41, .ifCond .eq 30, 44, 71, 0, 0, 0, 0, 0, []),
  (44, .aload_n 2, 45, 2, 0, 0, 0, 0, 0, []),
  (45, .aload_n 0, 46, 0, 0, 0, 0, 0, 0, []),
  (46, .aload_n 2, 47, 2, 0, 0, 0, 0, 0, []),
  (47, .invokevirtual 159, 50, 43, 2, 4, 0, 123, 0, []),
  (50, .putfield 279, 53, 0, 13, 0, 0, 160, 0, []),
  (53, .aload_n 0, 54, 0, 0, 0, 0, 0, 0, []),
  (54, .getfield 11, 57, 4, 0, 1, 15, 92, 0, []),
  (57, .aload_n 2, 58, 2, 0, 0, 0, 0, 0, []),
  (58, .getfield 279, 61, 0, 13, 0, 0, 160, 0, []),
  (61, .aaload, 62, 15, 0, 0, 5, 0, 0, []),
  (62, .dup, 63, 0, 0, 0, 0, 0, 0, []),
  (63, .getfield 282, 66, 5, 7, 0, 0, 161, 0, []),
  (66, .iconst 1, 67, 0, 0, 0, 0, 0, 1, []),
  (67, .iadd, 68, 0, 0, 0, 0, 0, 0, []),
  (68, .putfield 282, 71, 5, 7, 0, 0, 161, 0, []),
  (71, .iinc 1 1, 74, 1, 0, 0, 0, 0, 1, []),
  (74, .goto (-72), 77, 2, 0, 0, 0, 0, 0, []),
  (77, .return_, 78, 0, 0, 0, 0, 0, 0, [])]
def tbX5_clear : List iE := [(0, .aload_n 0, 1, 0, 0, 0, 0, 0, 0, []),
  (1, .iconst 0, 2, 0, 0, 0, 0, 0, 0, []),
  (2, .putfield 18, 5, 5, 0, 0, 0, 162, 0, []),
  (5, .aload_n 0, 6, 0, 0, 0, 0, 0, 0, []),
  (6, .iconst 0, 7, 0, 0, 0, 0, 0, 0, []),
  (7, .putfield 21, 10, 5, 1, 0, 0, 163, 0, []),
  (10, .aload_n 0, 11, 0, 0, 0, 0, 0, 0, []),
  (11, .iconst (-1), 12, 0, 0, 0, 0, 0, -1, []),
  (12, .putfield 9, 15, 5, 2, 0, 0, 164, 0, []),
  (15, .aload_n 0, 16, 0, 0, 0, 0, 0, 0, []),
  (16, .iconst (-1), 17, 0, 0, 0, 0, 0, -1, []),
  (17, .putfield 15, 20, 5, 3, 0, 0, 165, 0, []),
  (20, .aload_n 0, 21, 0, 0, 0, 0, 0, 0, []),
  (21, .iconst 0, 22, 0, 0, 0, 0, 0, 0, []),
  (22, .putfield 24, 25, 5, 4, 0, 0, 166, 0, []),
  (25, .aload_n 0, 26, 0, 0, 0, 0, 0, 0, []),
  (26, .iconst 0, 27, 0, 0, 0, 0, 0, 0, []),
  (27, .putfield 27, 30, 5, 5, 0, 0, 167, 0, []),
  (30, .aload_n 0, 31, 0, 0, 0, 0, 0, 0, []),
  (31, .iconst 0, 32, 0, 0, 0, 0, 0, 0, []),
  (32, .putfield 30, 35, 5, 6, 0, 0, 168, 0, []),
  (35, .aload_n 0, 36, 0, 0, 0, 0, 0, 0, []),
  (36, .iconst 0, 37, 0, 0, 0, 0, 0, 0, []),
  (37, .putfield 33, 40, 5, 7, 0, 0, 169, 0, []),
  (40, .return_, 41, 0, 0, 0, 0, 0, 0, [])]
def tbX5_copyFrom : List iE := [(0, .aload_n 0, 1, 0, 0, 0, 0, 0, 0, []),
  (1, .aload_n 1, 2, 1, 0, 0, 0, 0, 0, []),
  (2, .getfield 18, 5, 5, 0, 0, 0, 162, 0, []),
  (5, .putfield 18, 8, 5, 0, 0, 0, 162, 0, []),
  (8, .aload_n 0, 9, 0, 0, 0, 0, 0, 0, []),
  (9, .aload_n 1, 10, 1, 0, 0, 0, 0, 0, []),
  (10, .getfield 21, 13, 5, 1, 0, 0, 163, 0, []),
  (13, .putfield 21, 16, 5, 1, 0, 0, 163, 0, []),
  (16, .aload_n 0, 17, 0, 0, 0, 0, 0, 0, []),
  (17, .aload_n 1, 18, 1, 0, 0, 0, 0, 0, []),
  (18, .getfield 9, 21, 5, 2, 0, 0, 164, 0, []),
  (21, .putfield 9, 24, 5, 2, 0, 0, 164, 0, []),
  (24, .aload_n 0, 25, 0, 0, 0, 0, 0, 0, []),
  (25, .aload_n 1, 26, 1, 0, 0, 0, 0, 0, []),
  (26, .getfield 15, 29, 5, 3, 0, 0, 165, 0, []),
  (29, .putfield 15, 32, 5, 3, 0, 0, 165, 0, []),
  (32, .aload_n 0, 33, 0, 0, 0, 0, 0, 0, []),
  (33, .aload_n 1, 34, 1, 0, 0, 0, 0, 0, []),
  (34, .getfield 24, 37, 5, 4, 0, 0, 166, 0, []),
  (37, .putfield 24, 40, 5, 4, 0, 0, 166, 0, []),
  (40, .aload_n 0, 41, 0, 0, 0, 0, 0, 0, []),
  (41, .aload_n 1, 42, 1, 0, 0, 0, 0, 0, []),
  (42, .getfield 27, 45, 5, 5, 0, 0, 167, 0, []),
  (45, .putfield 27, 48, 5, 5, 0, 0, 167, 0, []),
  (48, .aload_n 0, 49, 0, 0, 0, 0, 0, 0, []),
  (49, .aload_n 1, 50, 1, 0, 0, 0, 0, 0, []),
  (50, .getfield 30, 53, 5, 6, 0, 0, 168, 0, []),
  (53, .putfield 30, 56, 5, 6, 0, 0, 168, 0, []),
  (56, .aload_n 0, 57, 0, 0, 0, 0, 0, 0, []),
  (57, .aload_n 1, 58, 1, 0, 0, 0, 0, 0, []),
  (58, .getfield 33, 61, 5, 7, 0, 0, 169, 0, []),
  (61, .putfield 33, 64, 5, 7, 0, 0, 169, 0, []),
  (64, .return_, 65, 0, 0, 0, 0, 0, 0, [])]
def tbX5_isDown : List iE := [(0, .iload_n 1, 1, 1, 0, 0, 0, 0, 0, []),
  (1, .aload_n 0, 2, 0, 0, 0, 0, 0, 0, []),
  (2, .getfield 21, 5, 5, 1, 0, 0, 163, 0, []),
  (5, .if_icmp .ge 7, 8, 12, 0, 0, 0, 0, 0, []),
  (8, .iconst 1, 9, 0, 0, 0, 0, 0, 1, []),
  (9, .goto 4, 12, 13, 0, 0, 0, 0, 0, []),
  (12, .iconst 0, 13, 0, 0, 0, 0, 0, 0, []),
  (13, .ireturn, 14, 0, 0, 1, 0, 0, 0, [])]
def tbX5_isWorking : List iE := [(0, .aload_n 0, 1, 0, 0, 0, 0, 0, 0, []),
  (1, .getfield 9, 4, 5, 2, 0, 0, 164, 0, []),
  (4, .iconst (-1), 5, 0, 0, 0, 0, 0, -1, []),
  (5, .if_icmp .eq 15, 8, 20, 0, 0, 0, 0, 0, []),
  (8, .aload_n 0, 9, 0, 0, 0, 0, 0, 0, []),
  (9, .iload_n 1, 10, 1, 0, 0, 0, 0, 0, []),
  (10, .invokevirtual 36, 13, 65, 2, 5, 0, 170, 0, []),
  (13, .ifCond .ne 7, 16, 20, 0, 0, 0, 0, 0, []),
  (16, .iconst 1, 17, 0, 0, 0, 0, 0, 1, []),
  (17, .goto 4, 20, 21, 0, 0, 0, 0, 0, []),
  (20, .iconst 0, 21, 0, 0, 0, 0, 0, 0, []),
  (21, .ireturn, 22, 0, 0, 1, 0, 0, 0, [])]
def tbX5_isIdle : List iE := [(0, .aload_n 0, 1, 0, 0, 0, 0, 0, 0, []),
  (1, .getfield 9, 4, 5, 2, 0, 0, 164, 0, []),
  (4, .iconst (-1), 5, 0, 0, 0, 0, 0, -1, []),
  (5, .if_icmp .ne 15, 8, 20, 0, 0, 0, 0, 0, []),
  (8, .aload_n 0, 9, 0, 0, 0, 0, 0, 0, []),
  (9, .iload_n 1, 10, 1, 0, 0, 0, 0, 0, []),
  (10, .invokevirtual 36, 13, 65, 2, 5, 0, 170, 0, []),
  (13, .ifCond .ne 7, 16, 20, 0, 0, 0, 0, 0, []),
  (16, .iconst 1, 17, 0, 0, 0, 0, 0, 1, []),
  (17, .goto 4, 20, 21, 0, 0, 0, 0, 0, []),
  (20, .iconst 0, 21, 0, 0, 0, 0, 0, 0, []),
  (21, .ireturn, 22, 0, 0, 1, 0, 0, 0, [])]
def tbX6_appendByte : List iE := [(0, .iload_n 1, 1, 1, 0, 0, 0, 0, 0, []),
  (1, .iconst 0, 2, 0, 0, 0, 0, 0, 0, []),
  (2, .sipush 255, 5, 0, 0, 0, 0, 0, 255, []),
  (5, .invokestatic 34, 8, 137, 3, 6, 0, 171, 0, []),
  (8, .aload_n 0, 9, 0, 0, 0, 0, 0, 0, []),
  (9, .getfield 10, 12, 6, 0, 1, 2, 172, 0, []),
  (12, .iload_n 1, 13, 1, 0, 0, 0, 0, 0, []),
  (13, .invokevirtual 38, 16, 9, 2, 2, 0, 173, 0, []),
  (16, .ireturn, 17, 0, 0, 0, 0, 0, 0, [])]
def tbX6_load : List iE := [(0, .aload_n 0, 1, 0, 0, 0, 0, 0, 0, []),
  (1, .getfield 23, 4, 6, 2, 1, 4, 174, 0, []),
  (4, .invokevirtual 42, 7, 31, 1, 4, 0, 175, 0, []),
  (7, .aload_n 0, 8, 0, 0, 0, 0, 0, 0, []),
  (8, .getfield 10, 11, 6, 0, 1, 2, 172, 0, []),
  (11, .aload_n 0, 12, 0, 0, 0, 0, 0, 0, []),
  (12, .getfield 23, 15, 6, 2, 1, 4, 174, 0, []),
  (15, .invokevirtual 45, 18, 10, 2, 2, 0, 176, 0, []),
  (18, .aload_n 0, 19, 0, 0, 0, 0, 0, 0, []),
  (19, .getfield 10, 22, 6, 0, 1, 2, 172, 0, []),
  (22, .getfield 49, 25, 2, 2, 0, 0, 177, 0, []),
  (25, .ifCond .eq 14, 28, 39, 0, 0, 0, 0, 0, []),
  (28, .bipush (-100), 30, 0, 0, 0, 0, 0, -100, []),
  (30, .aload_n 0, 31, 0, 0, 0, 0, 0, 0, []),
  (31, .getfield 10, 34, 6, 0, 1, 2, 172, 0, []),
  (34, .getfield 53, 37, 2, 3, 0, 0, 178, 0, []),
  (37, .isub, 38, 0, 0, 0, 0, 0, 0, []),
  (38, .ireturn, 39, 0, 0, 0, 0, 0, 0, []),
  (39, .aload_n 0, 40, 0, 0, 0, 0, 0, 0, []),
  (40, .getfield 19, 43, 6, 1, 1, 4, 179, 0, []),
  (43, .aload_n 0, 44, 0, 0, 0, 0, 0, 0, []),
  (44, .getfield 23, 47, 6, 2, 1, 4, 174, 0, []),
  (47, .invokevirtual 56, 50, 32, 2, 4, 0, 180, 0, []),
  (50, .aload_n 0, 51, 0, 0, 0, 0, 0, 0, []),
  (51, .getfield 19, 54, 6, 1, 1, 4, 179, 0, []),
  (54, .getfield 59, 57, 4, 6, 0, 0, 181, 0, []),
  (57, .ireturn, 58, 0, 0, 0, 0, 0, 0, [])]
def tbX6_loadError : List iE := [(0, .aload_n 0, 1, 0, 0, 0, 0, 0, 0, []),
  (1, .getfield 10, 4, 6, 0, 1, 2, 172, 0, []),
  (4, .getfield 49, 7, 2, 2, 0, 0, 177, 0, []),
  (7, .ireturn, 8, 0, 0, 0, 0, 0, 0, [])]
def tbX6_loadStatement : List iE := [(0, .aload_n 0, 1, 0, 0, 0, 0, 0, 0, []),
  (1, .getfield 10, 4, 6, 0, 1, 2, 172, 0, []),
  (4, .getfield 62, 7, 2, 4, 0, 0, 182, 0, []),
  (7, .ireturn, 8, 0, 0, 0, 0, 0, 0, [])]
def tbX6_stationCount : List iE := [(0, .aload_n 0, 1, 0, 0, 0, 0, 0, 0, []),
  (1, .getfield 19, 4, 6, 1, 1, 4, 179, 0, []),
  (4, .getfield 65, 7, 4, 4, 0, 0, 183, 0, []),
  (7, .ireturn, 8, 0, 0, 0, 0, 0, 0, [])]
def tbX6_productCount : List iE := [(0, .aload_n 0, 1, 0, 0, 0, 0, 0, 0, []),
  (1, .getfield 19, 4, 6, 1, 1, 4, 179, 0, []),
  (4, .getfield 68, 7, 4, 5, 0, 0, 184, 0, []),
  (7, .ireturn, 8, 0, 0, 0, 0, 0, 0, [])]
def tbX6_orderCount : List iE := [(0, .aload_n 0, 1, 0, 0, 0, 0, 0, 0, []),
  (1, .getfield 19, 4, 6, 1, 1, 4, 179, 0, []),
  (4, .getfield 59, 7, 4, 6, 0, 0, 181, 0, []),
  (7, .ireturn, 8, 0, 0, 0, 0, 0, 0, [])]
def tbX6_stepCount : List iE := [(0, .aload_n 0, 1, 0, 0, 0, 0, 0, 0, []),
  (1, .iload_n 1, 2, 1, 0, 0, 0, 0, 0, []),
  (2, .invokevirtual 71, 5, 134, 2, 6, 0, 185, 0, []),
  (5, .getfield 75, 8, 1, 2, 0, 0, 186, 0, []),
  (8, .ireturn, 9, 0, 0, 0, 0, 0, 0, [])]
def tbX6_stepAt : List iE := [(0, .aload_n 0, 1, 0, 0, 0, 0, 0, 0, []),
  (1, .iload_n 1, 2, 1, 0, 0, 0, 0, 0, []),
  (2, .invokevirtual 71, 5, 134, 2, 6, 0, 185, 0, []),
  (5, .astore 4, 7, 4, 0, 0, 0, 0, 0, []),
  (7, .iload_n 3, 8, 3, 0, 0, 0, 0, 0, []),
  (8, .iconst 0, 9, 0, 0, 0, 0, 0, 0, []),
  (9, .iconst 1, 10, 0, 0, 0, 0, 0, 1, []),
  (10, .invokestatic 34, 13, 137, 3, 6, 0, 171, 0, []),
  (13, .iload_n 2, 14, 2, 0, 0, 0, 0, 0, []),
  (14, .ifCond .lt 12, 17, 26, 0, 0, 0, 0, 0, []),
  (17, .iload_n 2, 18, 2, 0, 0, 0, 0, 0, []),
  (18, .aload 4, 20, 4, 0, 0, 0, 0, 0, []),
  (20, .getfield 75, 23, 1, 2, 0, 0, 186, 0, []),
  (23, .if_icmp .lt 5, 26, 28, 0, 0, 0, 0, 0, []),
  (26, .iconst (-1), 27, 0, 0, 0, 0, 0, -1, []),
  (27, .ireturn, 28, 0, 0, 0, 0, 0, 0, []),
  (28, .iload_n 3, 29, 3, 0, 0, 0, 0, 0, []),
  (29, .ifCond .ne 13, 32, 42, 0, 0, 0, 0, 0, []),
  (32, .aload 4, 34, 4, 0, 0, 0, 0, 0, []),
  (34, .getfield 80, 37, 1, 0, 1, 8, 187, 0, []),
  (37, .iload_n 2, 38, 2, 0, 0, 0, 0, 0, []),
  (38, .iaload, 39, 8, 0, 0, 0, 0, 0, []),
  (39, .goto 10, 42, 49, 0, 0, 0, 0, 0, []),
  (42, .aload 4, 44, 4, 0, 0, 0, 0, 0, []),
  (44, .getfield 84, 47, 1, 1, 1, 8, 188, 0, []),
  (47, .iload_n 2, 48, 2, 0, 0, 0, 0, 0, []),
  (48, .iaload, 49, 8, 0, 0, 0, 0, 0, []),
  (49, .ireturn, 50, 0, 0, 0, 0, 0, 0, [])]
def tbX6_workOf : List iE := [(0, .aload_n 0, 1, 0, 0, 0, 0, 0, 0, []),
  (1, .iload_n 1, 2, 1, 0, 0, 0, 0, 0, []),
  (2, .invokevirtual 71, 5, 134, 2, 6, 0, 185, 0, []),
  (5, .astore_n 3, 6, 3, 0, 0, 0, 0, 0, []),
  (6, .iload_n 2, 7, 2, 0, 0, 0, 0, 0, []),
  (7, .iconst 1, 8, 0, 0, 0, 0, 0, 1, []),
  (8, .bipush 50, 10, 0, 0, 0, 0, 0, 50, []),
  (10, .invokestatic 34, 13, 137, 3, 6, 0, 171, 0, []),
  (13, .aload_n 3, 14, 3, 0, 0, 0, 0, 0, []),
  (14, .invokevirtual 87, 17, 7, 1, 1, 0, 189, 0, []),
  (17, .iload_n 2, 18, 2, 0, 0, 0, 0, 0, []),
  (18, .imul, 19, 0, 0, 0, 0, 0, 0, []),
  (19, .ireturn, 20, 0, 0, 0, 0, 0, 0, [])]
def tbX6_drumWork : List iE := [(0, .aload_n 0, 1, 0, 0, 0, 0, 0, 0, []),
  (1, .iload_n 1, 2, 1, 0, 0, 0, 0, 0, []),
  (2, .invokevirtual 71, 5, 134, 2, 6, 0, 185, 0, []),
  (5, .astore_n 3, 6, 3, 0, 0, 0, 0, 0, []),
  (6, .iload_n 2, 7, 2, 0, 0, 0, 0, 0, []),
  (7, .iconst 1, 8, 0, 0, 0, 0, 0, 1, []),
  (8, .bipush 50, 10, 0, 0, 0, 0, 0, 50, []),
  (10, .invokestatic 34, 13, 137, 3, 6, 0, 171, 0, []),
  (13, .aload_n 3, 14, 3, 0, 0, 0, 0, 0, []),
  (14, .invokevirtual 91, 17, 8, 1, 1, 0, 190, 0, []),
  (17, .iload_n 2, 18, 2, 0, 0, 0, 0, 0, []),
  (18, .imul, 19, 0, 0, 0, 0, 0, 0, []),
  (19, .ireturn, 20, 0, 0, 0, 0, 0, 0, [])]
def tbX6_now : List iE := [(0, .aload_n 0, 1, 0, 0, 0, 0, 0, 0, []),
  (1, .getfield 19, 4, 6, 1, 1, 4, 179, 0, []),
  (4, .getfield 94, 7, 4, 13, 0, 0, 191, 0, []),
  (7, .ireturn, 8, 0, 0, 0, 0, 0, 0, [])]
def tbX6_advance : List iE := [(0, .iload_n 1, 1, 1, 0, 0, 0, 0, 0, []),
  (1, .iconst 1, 2, 0, 0, 0, 0, 0, 1, []),
  (2, .sipush 500, 5, 0, 0, 0, 0, 0, 500, []),
  (5, .invokestatic 34, 8, 137, 3, 6, 0, 171, 0, []),
  (8, .aload_n 0, 9, 0, 0, 0, 0, 0, 0, []),
  (9, .getfield 19, 12, 6, 1, 1, 4, 179, 0, []),
  (12, .getfield 94, 15, 4, 13, 0, 0, 191, 0, []),
  (15, .iload_n 1, 16, 1, 0, 0, 0, 0, 0, []),
  (16, .iadd, 17, 0, 0, 0, 0, 0, 0, []),
  (17, .sipush 30000, 20, 0, 0, 0, 0, 0, 30000, []),
  (20, .if_icmp .le 6, 23, 26, 0, 0, 0, 0, 0, []),
  (23, .bipush (-2), 25, 0, 0, 0, 0, 0, -2, []),
  (25, .ireturn, 26, 0, 0, 0, 0, 0, 0, []),
  (26, .aload_n 0, 27, 0, 0, 0, 0, 0, 0, []),
  (27, .getfield 19, 30, 6, 1, 1, 4, 179, 0, []),
  (30, .iconst 2, 31, 0, 0, 0, 0, 0, 2, []),
  (31, .invokevirtual 97, 34, 34, 2, 4, 0, 192, 0, []),
  (34, .istore_n 2, 35, 2, 0, 0, 0, 0, 0, []),
  (35, .aload_n 0, 36, 0, 0, 0, 0, 0, 0, []),
  (36, .getfield 19, 39, 6, 1, 1, 4, 179, 0, []),
  (39, .iload_n 1, 40, 1, 0, 0, 0, 0, 0, []),
  (40, .invokevirtual 100, 43, 51, 2, 4, 0, 193, 0, []),
  (43, .aload_n 0, 44, 0, 0, 0, 0, 0, 0, []),
  (44, .getfield 19, 47, 6, 1, 1, 4, 179, 0, []),
  (47, .iconst 2, 48, 0, 0, 0, 0, 0, 2, []),
  (48, .invokevirtual 97, 51, 34, 2, 4, 0, 192, 0, []),
  (51, .iload_n 2, 52, 2, 0, 0, 0, 0, 0, []),
  (52, .isub, 53, 0, 0, 0, 0, 0, 0, []),
  (53, .ireturn, 54, 0, 0, 0, 0, 0, 0, [])]
def tbX6_addOrder : List iE := [(0, .aload_n 0, 1, 0, 0, 0, 0, 0, 0, []),
  (1, .iload_n 1, 2, 1, 0, 0, 0, 0, 0, []),
  (2, .invokevirtual 71, 5, 134, 2, 6, 0, 185, 0, []),
  (5, .astore 4, 7, 4, 0, 0, 0, 0, 0, []),
  (7, .iload_n 2, 8, 2, 0, 0, 0, 0, 0, []),
  (8, .iconst 1, 9, 0, 0, 0, 0, 0, 1, []),
  (9, .bipush 50, 11, 0, 0, 0, 0, 0, 50, []),
  (11, .invokestatic 34, 14, 137, 3, 6, 0, 171, 0, []),
  (14, .iload_n 3, 15, 3, 0, 0, 0, 0, 0, []),
  (15, .iconst 0, 16, 0, 0, 0, 0, 0, 0, []),
  (16, .sipush 30000, 19, 0, 0, 0, 0, 0, 30000, []),
  (19, .invokestatic 34, 22, 137, 3, 6, 0, 171, 0, []),
  (22, .aload_n 0, 23, 0, 0, 0, 0, 0, 0, []),
  (23, .getfield 19, 26, 6, 1, 1, 4, 179, 0, []),
  (26, .getfield 59, 29, 4, 6, 0, 0, 181, 0, []),
  (29, .bipush 24, 31, 0, 0, 0, 0, 0, 24, []),
  (31, .if_icmp .lt 6, 34, 37, 0, 0, 0, 0, 0, []),
  (34, .bipush (-2), 36, 0, 0, 0, 0, 0, -2, []),
  (36, .ireturn, 37, 0, 0, 0, 0, 0, 0, []),
  (37, .aload 4, 39, 4, 0, 0, 0, 0, 0, []),
  (39, .invokevirtual 91, 42, 8, 1, 1, 0, 190, 0, []),
  (42, .iload_n 2, 43, 2, 0, 0, 0, 0, 0, []),
  (43, .imul, 44, 0, 0, 0, 0, 0, 0, []),
  (44, .aload_n 0, 45, 0, 0, 0, 0, 0, 0, []),
  (45, .getfield 19, 48, 6, 1, 1, 4, 179, 0, []),
  (48, .getfield 104, 51, 4, 10, 0, 0, 194, 0, []),
  (51, .if_icmp .le 6, 54, 57, 0, 0, 0, 0, 0, []),
  (54, .bipush (-4), 56, 0, 0, 0, 0, 0, -4, []),
  (56, .ireturn, 57, 0, 0, 0, 0, 0, 0, []),
  (57, .aload_n 0, 58, 0, 0, 0, 0, 0, 0, []),
  (58, .getfield 19, 61, 6, 1, 1, 4, 179, 0, []),
  (61, .iload_n 1, 62, 1, 0, 0, 0, 0, 0, []),
  (62, .iload_n 2, 63, 2, 0, 0, 0, 0, 0, []),
  (63, .iload_n 3, 64, 3, 0, 0, 0, 0, 0, []),
  (64, .invokevirtual 107, 67, 33, 4, 4, 0, 195, 0, []),
  (67, .ireturn, 68, 0, 0, 0, 0, 0, 0, [])]
def tbX6_cancel : List iE := [(0, .aload_n 0, 1, 0, 0, 0, 0, 0, 0, []),
  (1, .iload_n 1, 2, 1, 0, 0, 0, 0, 0, []),
  (2, .invokevirtual 111, 5, 135, 2, 6, 0, 196, 0, []),
  (5, .astore_n 2, 6, 2, 0, 0, 0, 0, 0, []),
  (6, .aload_n 2, 7, 2, 0, 0, 0, 0, 0, []),
  (7, .getfield 115, 10, 0, 5, 0, 0, 197, 0, []),
  (10, .ifCond .eq 6, 13, 16, 0, 0, 0, 0, 0, []),
  (13, .bipush (-3), 15, 0, 0, 0, 0, 0, -3, []),
  (15, .ireturn, 16, 0, 0, 0, 0, 0, 0, []),
  (16, .aload_n 2, 17, 2, 0, 0, 0, 0, 0, []),
  (17, .iconst 3, 18, 0, 0, 0, 0, 0, 3, []),
  (18, .putfield 115, 21, 0, 5, 0, 0, 197, 0, []),
  (21, .aload_n 0, 22, 0, 0, 0, 0, 0, 0, []),
  (22, .getfield 19, 25, 6, 1, 1, 4, 179, 0, []),
  (25, .iconst 0, 26, 0, 0, 0, 0, 0, 0, []),
  (26, .invokevirtual 97, 29, 34, 2, 4, 0, 192, 0, []),
  (29, .ireturn, 30, 0, 0, 0, 0, 0, 0, [])]
def tbX6_setDue : List iE := [(0, .aload_n 0, 1, 0, 0, 0, 0, 0, 0, []),
  (1, .iload_n 1, 2, 1, 0, 0, 0, 0, 0, []),
  (2, .invokevirtual 111, 5, 135, 2, 6, 0, 196, 0, []),
  (5, .astore_n 3, 6, 3, 0, 0, 0, 0, 0, []),
  (6, .iload_n 2, 7, 2, 0, 0, 0, 0, 0, []),
  (7, .iconst 0, 8, 0, 0, 0, 0, 0, 0, []),
  (8, .sipush 30000, 11, 0, 0, 0, 0, 0, 30000, []),
  (11, .invokestatic 34, 14, 137, 3, 6, 0, 171, 0, []),
  (14, .aload_n 3, 15, 3, 0, 0, 0, 0, 0, []),
  (15, .invokevirtual 120, 18, 2, 1, 0, 0, 198, 0, []),
  (18, .ifCond .ne 6, 21, 24, 0, 0, 0, 0, 0, []),
  (21, .bipush (-3), 23, 0, 0, 0, 0, 0, -3, []),
  (23, .ireturn, 24, 0, 0, 0, 0, 0, 0, []),
  (24, .aload_n 3, 25, 3, 0, 0, 0, 0, 0, []),
  (25, .getfield 124, 28, 0, 2, 0, 0, 199, 0, []),
  (28, .istore 4, 30, 4, 0, 0, 0, 0, 0, []),
  (30, .aload_n 3, 31, 3, 0, 0, 0, 0, 0, []),
  (31, .iload_n 2, 32, 2, 0, 0, 0, 0, 0, []),
  (32, .putfield 124, 35, 0, 2, 0, 0, 199, 0, []),
  (35, .iload 4, 37, 4, 0, 0, 0, 0, 0, []),
  (37, .ireturn, 38, 0, 0, 0, 0, 0, 0, [])]
def tbX6_expedite : List iE := [(0, .aload_n 0, 1, 0, 0, 0, 0, 0, 0, []),
  (1, .iload_n 1, 2, 1, 0, 0, 0, 0, 0, []),
  (2, .invokevirtual 111, 5, 135, 2, 6, 0, 196, 0, []),
  (5, .astore_n 3, 6, 3, 0, 0, 0, 0, 0, []),
  (6, .aload_n 3, 7, 3, 0, 0, 0, 0, 0, []),
  (7, .getfield 127, 10, 0, 4, 0, 0, 200, 0, []),
  (10, .istore 4, 12, 4, 0, 0, 0, 0, 0, []),
  (12, .aload_n 3, 13, 3, 0, 0, 0, 0, 0, []),
  (13, .iload_n 2, 14, 2, 0, 0, 0, 0, 0, []),
  (14, .putfield 127, 17, 0, 4, 2, 0, 200, 0, []),
  (17, .iload 4, 19, 4, 0, 0, 0, 0, 0, []),
  (19, .ireturn, 20, 0, 0, 1, 0, 0, 0, [])]
def tbX6_setRule : List iE := [(0, .iload_n 1, 1, 1, 0, 0, 0, 0, 0, []),
  (1, .iconst 0, 2, 0, 0, 0, 0, 0, 0, []),
  (2, .iconst 3, 3, 0, 0, 0, 0, 0, 3, []),
  (3, .invokestatic 34, 6, 137, 3, 6, 0, 171, 0, []),
  (6, .aload_n 0, 7, 0, 0, 0, 0, 0, 0, []),
  (7, .getfield 19, 10, 6, 1, 1, 4, 179, 0, []),
  (10, .getfield 131, 13, 4, 11, 0, 0, 201, 0, []),
  (13, .istore_n 2, 14, 2, 0, 0, 0, 0, 0, []),
  (14, .aload_n 0, 15, 0, 0, 0, 0, 0, 0, []),
  (15, .getfield 19, 18, 6, 1, 1, 4, 179, 0, []),
  (18, .iload_n 1, 19, 1, 0, 0, 0, 0, 0, []),
  (19, .putfield 131, 22, 4, 11, 0, 0, 201, 0, []),
  (22, .iload_n 2, 23, 2, 0, 0, 0, 0, 0, []),
  (23, .ireturn, 24, 0, 0, 0, 0, 0, 0, [])]
def tbX6_setRope : List iE := [(0, .iload_n 1, 1, 1, 0, 0, 0, 0, 0, []),
  (1, .iconst 1, 2, 0, 0, 0, 0, 0, 1, []),
  (2, .sipush 5000, 5, 0, 0, 0, 0, 0, 5000, []),
  (5, .invokestatic 34, 8, 137, 3, 6, 0, 171, 0, []),
  (8, .aload_n 0, 9, 0, 0, 0, 0, 0, 0, []),
  (9, .getfield 19, 12, 6, 1, 1, 4, 179, 0, []),
  (12, .invokevirtual 134, 15, 35, 1, 4, 0, 202, 0, []),
  (15, .iload_n 1, 16, 1, 0, 0, 0, 0, 0, []),
  (16, .if_icmp .le 6, 19, 22, 0, 0, 0, 0, 0, []),
  (19, .bipush (-4), 21, 0, 0, 0, 0, 0, -4, []),
  (21, .ireturn, 22, 0, 0, 0, 0, 0, 0, []),
  (22, .aload_n 0, 23, 0, 0, 0, 0, 0, 0, []),
  (23, .getfield 19, 26, 6, 1, 1, 4, 179, 0, []),
  (26, .getfield 104, 29, 4, 10, 0, 0, 194, 0, []),
  (29, .istore_n 2, 30, 2, 0, 0, 0, 0, 0, []),
  (30, .aload_n 0, 31, 0, 0, 0, 0, 0, 0, []),
  (31, .getfield 19, 34, 6, 1, 1, 4, 179, 0, []),
  (34, .iload_n 1, 35, 1, 0, 0, 0, 0, 0, []),
  (35, .putfield 104, 38, 4, 10, 0, 0, 194, 0, []),
  (38, .iload_n 2, 39, 2, 0, 0, 0, 0, 0, []),
  (39, .ireturn, 40, 0, 0, 0, 0, 0, 0, [])]
def tbX6_rope : List iE := [(0, .aload_n 0, 1, 0, 0, 0, 0, 0, 0, []),
  (1, .getfield 19, 4, 6, 1, 1, 4, 179, 0, []),
  (4, .getfield 104, 7, 4, 10, 0, 0, 194, 0, []),
  (7, .ireturn, 8, 0, 0, 0, 0, 0, 0, [])]
def tbX6_stop : List iE := [(0, .aload_n 0, 1, 0, 0, 0, 0, 0, 0, []),
  (1, .iload_n 1, 2, 1, 0, 0, 0, 0, 0, []),
  (2, .invokevirtual 137, 5, 136, 2, 6, 0, 203, 0, []),
  (5, .astore_n 3, 6, 3, 0, 0, 0, 0, 0, []),
  (6, .iload_n 2, 7, 2, 0, 0, 0, 0, 0, []),
  (7, .iconst 0, 8, 0, 0, 0, 0, 0, 0, []),
  (8, .sipush 500, 11, 0, 0, 0, 0, 0, 500, []),
  (11, .invokestatic 34, 14, 137, 3, 6, 0, 171, 0, []),
  (14, .aload_n 3, 15, 3, 0, 0, 0, 0, 0, []),
  (15, .aload_n 0, 16, 0, 0, 0, 0, 0, 0, []),
  (16, .getfield 19, 19, 6, 1, 1, 4, 179, 0, []),
  (19, .getfield 94, 22, 4, 13, 0, 0, 191, 0, []),
  (22, .iload_n 2, 23, 2, 0, 0, 0, 0, 0, []),
  (23, .iadd, 24, 0, 0, 0, 0, 0, 0, []),
  (24, .putfield 141, 27, 5, 1, 0, 0, 204, 0, []),
  (27, .aload_n 3, 28, 3, 0, 0, 0, 0, 0, []),
  (28, .getfield 141, 31, 5, 1, 0, 0, 204, 0, []),
  (31, .ireturn, 32, 0, 0, 0, 0, 0, 0, [])]
def tbX6_stateOf : List iE := [(0, .aload_n 0, 1, 0, 0, 0, 0, 0, 0, []),
  (1, .iload_n 1, 2, 1, 0, 0, 0, 0, 0, []),
  (2, .invokevirtual 111, 5, 135, 2, 6, 0, 196, 0, []),
  (5, .getfield 115, 8, 0, 5, 0, 0, 197, 0, []),
  (8, .ireturn, 9, 0, 0, 0, 0, 0, 0, [])]
def tbX6_productOf : List iE := [(0, .aload_n 0, 1, 0, 0, 0, 0, 0, 0, []),
  (1, .iload_n 1, 2, 1, 0, 0, 0, 0, 0, []),
  (2, .invokevirtual 111, 5, 135, 2, 6, 0, 196, 0, []),
  (5, .getfield 146, 8, 0, 0, 0, 0, 205, 0, []),
  (8, .ireturn, 9, 0, 0, 0, 0, 0, 0, [])]
def tbX6_quantityOf : List iE := [(0, .aload_n 0, 1, 0, 0, 0, 0, 0, 0, []),
  (1, .iload_n 1, 2, 1, 0, 0, 0, 0, 0, []),
  (2, .invokevirtual 111, 5, 135, 2, 6, 0, 196, 0, []),
  (5, .getfield 149, 8, 0, 1, 0, 0, 206, 0, []),
  (8, .ireturn, 9, 0, 0, 0, 0, 0, 0, [])]
def tbX6_dueOf : List iE := [(0, .aload_n 0, 1, 0, 0, 0, 0, 0, 0, []),
  (1, .iload_n 1, 2, 1, 0, 0, 0, 0, 0, []),
  (2, .invokevirtual 111, 5, 135, 2, 6, 0, 196, 0, []),
  (5, .getfield 124, 8, 0, 2, 0, 0, 199, 0, []),
  (8, .ireturn, 9, 0, 0, 0, 0, 0, 0, [])]
def tbX6_stepOf : List iE := [(0, .aload_n 0, 1, 0, 0, 0, 0, 0, 0, []),
  (1, .iload_n 1, 2, 1, 0, 0, 0, 0, 0, []),
  (2, .invokevirtual 111, 5, 135, 2, 6, 0, 196, 0, []),
  (5, .getfield 152, 8, 0, 6, 0, 0, 207, 0, []),
  (8, .ireturn, 9, 0, 0, 0, 0, 0, 0, [])]
def tbX6_isWorkedOn : List iE := [(0, .aload_n 0, 1, 0, 0, 0, 0, 0, 0, []),
  (1, .iload_n 1, 2, 1, 0, 0, 0, 0, 0, []),
  (2, .invokevirtual 111, 5, 135, 2, 6, 0, 196, 0, []),
  (5, .getfield 155, 8, 0, 7, 0, 0, 208, 0, []),
  (8, .ifCond .le 7, 11, 15, 0, 0, 0, 0, 0, []),
  (11, .iconst 1, 12, 0, 0, 0, 0, 0, 1, []),
  (12, .goto 4, 15, 16, 0, 0, 0, 0, 0, []),
  (15, .iconst 0, 16, 0, 0, 0, 0, 0, 0, []),
  (16, .ireturn, 17, 0, 0, 1, 0, 0, 0, [])]
def tbX6_remaining : List iE := [(0, .aload_n 0, 1, 0, 0, 0, 0, 0, 0, []),
  (1, .iload_n 1, 2, 1, 0, 0, 0, 0, 0, []),
  (2, .invokevirtual 111, 5, 135, 2, 6, 0, 196, 0, []),
  (5, .getfield 155, 8, 0, 7, 0, 0, 208, 0, []),
  (8, .ireturn, 9, 0, 0, 0, 0, 0, 0, [])]
def tbX6_releasedAt : List iE := [(0, .aload_n 0, 1, 0, 0, 0, 0, 0, 0, []),
  (1, .iload_n 1, 2, 1, 0, 0, 0, 0, 0, []),
  (2, .invokevirtual 111, 5, 135, 2, 6, 0, 196, 0, []),
  (5, .getfield 158, 8, 0, 9, 0, 0, 209, 0, []),
  (8, .ireturn, 9, 0, 0, 0, 0, 0, 0, [])]
def tbX6_finishedAt : List iE := [(0, .aload_n 0, 1, 0, 0, 0, 0, 0, 0, []),
  (1, .iload_n 1, 2, 1, 0, 0, 0, 0, 0, []),
  (2, .invokevirtual 111, 5, 135, 2, 6, 0, 196, 0, []),
  (5, .getfield 161, 8, 0, 12, 0, 0, 210, 0, []),
  (8, .ireturn, 9, 0, 0, 0, 0, 0, 0, [])]
def tbX6_plannedStart : List iE := [(0, .aload_n 0, 1, 0, 0, 0, 0, 0, 0, []),
  (1, .iload_n 1, 2, 1, 0, 0, 0, 0, 0, []),
  (2, .invokevirtual 111, 5, 135, 2, 6, 0, 196, 0, []),
  (5, .astore_n 2, 6, 2, 0, 0, 0, 0, 0, []),
  (6, .aload_n 2, 7, 2, 0, 0, 0, 0, 0, []),
  (7, .getfield 164, 10, 0, 11, 0, 0, 211, 0, []),
  (10, .iconst (-1), 11, 0, 0, 0, 0, 0, -1, []),
  (11, .if_icmp .eq 8, 14, 19, 0, 0, 0, 0, 0, []),
  (14, .aload_n 2, 15, 2, 0, 0, 0, 0, 0, []),
  (15, .getfield 164, 18, 0, 11, 0, 0, 211, 0, []),
  (18, .ireturn, 19, 0, 0, 0, 0, 0, 0, []),
  (19, .aload_n 0, 20, 0, 0, 0, 0, 0, 0, []),
  (20, .getfield 19, 23, 6, 1, 1, 4, 179, 0, []),
  (23, .iload_n 1, 24, 1, 0, 0, 0, 0, 0, []),
  (24, .invokevirtual 167, 27, 37, 2, 4, 0, 212, 0, []),
  (27, .ireturn, 28, 0, 0, 0, 0, 0, 0, [])]
def tbX6_scheduleAt : List iE := [(0, .aload_n 0, 1, 0, 0, 0, 0, 0, 0, []),
  (1, .getfield 19, 4, 6, 1, 1, 4, 179, 0, []),
  (4, .getfield 170, 7, 4, 3, 1, 3, 213, 0, []),
  (7, .aload_n 0, 8, 0, 0, 0, 0, 0, 0, []),
  (8, .getfield 19, 11, 6, 1, 1, 4, 179, 0, []),
  (11, .invokevirtual 174, 14, 26, 2, 3, 0, 214, 0, []),
  (14, .iload_n 1, 15, 1, 0, 0, 0, 0, 0, []),
  (15, .ifCond .lt 17, 18, 32, 0, 0, 0, 0, 0, []),
  (18, .iload_n 1, 19, 1, 0, 0, 0, 0, 0, []),
  (19, .aload_n 0, 20, 0, 0, 0, 0, 0, 0, []),
  (20, .getfield 19, 23, 6, 1, 1, 4, 179, 0, []),
  (23, .getfield 170, 26, 4, 3, 1, 3, 213, 0, []),
  (26, .getfield 179, 29, 3, 2, 0, 0, 215, 0, []),
  (29, .if_icmp .lt 5, 32, 34, 0, 0, 0, 0, 0, []),
  (32, .iconst (-1), 33, 0, 0, 0, 0, 0, -1, []),
  (33, .ireturn, 34, 0, 0, 0, 0, 0, 0, []),
  (34, .aload_n 0, 35, 0, 0, 0, 0, 0, 0, []),
  (35, .getfield 19, 38, 6, 1, 1, 4, 179, 0, []),
  (38, .getfield 170, 41, 4, 3, 1, 3, 213, 0, []),
  (41, .getfield 182, 44, 3, 0, 1, 8, 216, 0, []),
  (44, .iload_n 1, 45, 1, 0, 0, 0, 0, 0, []),
  (45, .iaload, 46, 8, 0, 0, 0, 0, 0, []),
  (46, .ireturn, 47, 0, 0, 0, 0, 0, 0, [])]
def tbX6_isAtRisk : List iE := [(0, .aload_n 0, 1, 0, 0, 0, 0, 0, 0, []),
  (1, .iload_n 1, 2, 1, 0, 0, 0, 0, 0, []),
  (2, .invokevirtual 111, 5, 135, 2, 6, 0, 196, 0, []),
  (5, .astore_n 2, 6, 2, 0, 0, 0, 0, 0, []),
  (6, .aload_n 0, 7, 0, 0, 0, 0, 0, 0, []),
  (7, .getfield 19, 10, 6, 1, 1, 4, 179, 0, []),
  (10, .iload_n 1, 11, 1, 0, 0, 0, 0, 0, []),
  (11, .invokevirtual 167, 14, 37, 2, 4, 0, 212, 0, []),
  (14, .istore_n 3, 15, 3, 0, 0, 0, 0, 0, []),
  (15, .iload_n 3, 16, 3, 0, 0, 0, 0, 0, []),
  (16, .ldc 185, 18, 0, 0, 0, 0, 217, -1000000, []),
  (18, .if_icmp .eq 28, 21, 46, 0, 0, 0, 0, 0, []),
  (21, .iload_n 3, 22, 3, 0, 0, 0, 0, 0, []),
  (22, .aload_n 2, 23, 2, 0, 0, 0, 0, 0, []),
  (23, .getfield 186, 26, 0, 3, 0, 0, 218, 0, []),
  (26, .iadd, 27, 0, 0, 0, 0, 0, 0, []),
  (27, .aload_n 2, 28, 2, 0, 0, 0, 0, 0, []),
  (28, .getfield 124, 31, 0, 2, 0, 0, 199, 0, []),
  (31, .aload_n 0, 32, 0, 0, 0, 0, 0, 0, []),
  (32, .getfield 19, 35, 6, 1, 1, 4, 179, 0, []),
  (35, .getfield 189, 38, 4, 9, 0, 0, 219, 0, []),
  (38, .isub, 39, 0, 0, 0, 0, 0, 0, []),
  (39, .if_icmp .le 7, 42, 46, 0, 0, 0, 0, 0, []),
  (42, .iconst 1, 43, 0, 0, 0, 0, 0, 1, []),
  (43, .goto 4, 46, 47, 0, 0, 0, 0, 0, []),
  (46, .iconst 0, 47, 0, 0, 0, 0, 0, 0, []),
  (47, .ireturn, 48, 0, 0, 1, 0, 0, 0, [])]
def tbX6_ropeLoad : List iE := [(0, .aload_n 0, 1, 0, 0, 0, 0, 0, 0, []),
  (1, .getfield 19, 4, 6, 1, 1, 4, 179, 0, []),
  (4, .invokevirtual 192, 7, 39, 1, 4, 0, 220, 0, []),
  (7, .ireturn, 8, 0, 0, 0, 0, 0, 0, [])]
def tbX6_releaseTime : List iE := [(0, .aload_n 0, 1, 0, 0, 0, 0, 0, 0, []),
  (1, .iload_n 1, 2, 1, 0, 0, 0, 0, 0, []),
  (2, .invokevirtual 111, 5, 135, 2, 6, 0, 196, 0, []),
  (5, .astore_n 2, 6, 2, 0, 0, 0, 0, 0, []),
  (6, .aload_n 2, 7, 2, 0, 0, 0, 0, 0, []),
  (7, .getfield 158, 10, 0, 9, 0, 0, 209, 0, []),
  (10, .iconst (-1), 11, 0, 0, 0, 0, 0, -1, []),
  (11, .if_icmp .eq 8, 14, 19, 0, 0, 0, 0, 0, []),
  (14, .aload_n 2, 15, 2, 0, 0, 0, 0, 0, []),
  (15, .getfield 195, 18, 0, 10, 0, 0, 221, 0, []),
  (18, .ireturn, 19, 0, 0, 0, 0, 0, 0, []),
  (19, .aload_n 0, 20, 0, 0, 0, 0, 0, 0, []),
  (20, .getfield 19, 23, 6, 1, 1, 4, 179, 0, []),
  (23, .iload_n 1, 24, 1, 0, 0, 0, 0, 0, []),
  (24, .invokevirtual 167, 27, 37, 2, 4, 0, 212, 0, []),
  (27, .istore_n 3, 28, 3, 0, 0, 0, 0, 0, []),
  (28, .iload_n 3, 29, 3, 0, 0, 0, 0, 0, []),
  (29, .ldc 185, 31, 0, 0, 0, 0, 217, -1000000, []),
  (31, .if_icmp .ne 8, 34, 39, 0, 0, 0, 0, 0, []),
  (34, .ldc 185, 36, 0, 0, 0, 0, 217, -1000000, []),
  (36, .goto 12, 39, 48, 0, 0, 0, 0, 0, []),
  (39, .iload_n 3, 40, 3, 0, 0, 0, 0, 0, []),
  (40, .aload_n 0, 41, 0, 0, 0, 0, 0, 0, []),
  (41, .getfield 19, 44, 6, 1, 1, 4, 179, 0, []),
  (44, .getfield 198, 47, 4, 8, 0, 0, 222, 0, []),
  (47, .isub, 48, 0, 0, 0, 0, 0, 0, []),
  (48, .ireturn, 49, 0, 0, 0, 0, 0, 0, [])]
def tbX6_penetration : List iE := [(0, .aload_n 0, 1, 0, 0, 0, 0, 0, 0, []),
  (1, .getfield 19, 4, 6, 1, 1, 4, 179, 0, []),
  (4, .aload_n 0, 5, 0, 0, 0, 0, 0, 0, []),
  (5, .iload_n 1, 6, 1, 0, 0, 0, 0, 0, []),
  (6, .invokevirtual 111, 9, 135, 2, 6, 0, 196, 0, []),
  (9, .invokevirtual 201, 12, 40, 2, 4, 0, 223, 0, []),
  (12, .ireturn, 13, 0, 0, 0, 0, 0, 0, [])]
def tbX6_zone : List iE := [(0, .aload_n 0, 1, 0, 0, 0, 0, 0, 0, []),
  (1, .getfield 19, 4, 6, 1, 1, 4, 179, 0, []),
  (4, .aload_n 0, 5, 0, 0, 0, 0, 0, 0, []),
  (5, .iload_n 1, 6, 1, 0, 0, 0, 0, 0, []),
  (6, .invokevirtual 111, 9, 135, 2, 6, 0, 196, 0, []),
  (9, .invokevirtual 205, 12, 41, 2, 4, 0, 224, 0, []),
  (12, .ireturn, 13, 0, 0, 0, 0, 0, 0, [])]
def tbX6_inZone : List iE := [(0, .iload_n 1, 1, 1, 0, 0, 0, 0, 0, []),
  (1, .iconst 0, 2, 0, 0, 0, 0, 0, 0, []),
  (2, .iconst 3, 3, 0, 0, 0, 0, 0, 3, []),
  (3, .invokestatic 34, 6, 137, 3, 6, 0, 171, 0, []),
  (6, .iconst 0, 7, 0, 0, 0, 0, 0, 0, []),
  (7, .istore_n 2, 8, 2, 0, 0, 0, 0, 0, []),
  (8, .iconst 0, 9, 0, 0, 0, 0, 0, 0, []),
  (9, .istore_n 3, 10, 3, 0, 0, 0, 0, 0, []),
  (10, .iload_n 3, 11, 3, 0, 0, 0, 0, 0, []),
  (11, .aload_n 0, 12, 0, 0, 0, 0, 0, 0, []),
  (12, .getfield 19, 15, 6, 1, 1, 4, 179, 0, []),
  (15, .getfield 59, 18, 4, 6, 0, 0, 181, 0, []),
  (18, .if_icmp .ge 32, 21, 50, 0, 0, 0, 0, 0, []),
  (21, .aload_n 0, 22, 0, 0, 0, 0, 0, 0, []),
  (22, .getfield 19, 25, 6, 1, 1, 4, 179, 0, []),
  (25, .aload_n 0, 26, 0, 0, 0, 0, 0, 0, []),
  (26, .getfield 19, 29, 6, 1, 1, 4, 179, 0, []),
  (29, .getfield 208, 32, 4, 2, 1, 12, 225, 0, []),
  (32, .iload_n 3, 33, 3, 0, 0, 0, 0, 0, []),
  (33, .aaload, 34, 12, 0, 0, 0, 0, 0, []),
  (34, .invokevirtual 205, 37, 41, 2, 4, 0, 224, 0, []),
  (37, .iload_n 1, 38, 1, 0, 0, 0, 0, 0, []),
  (38, .if_icmp .ne 6, 41, 44, 0, 0, 0, 0, 0, []),
  (41, .iinc 2 1, 44, 2, 0, 0, 0, 0, 1, []),
  (44, .iinc 3 1, 47, 3, 0, 0, 0, 0, 1, []),
  (47, .goto (-37), 50, 10, 0, 0, 0, 0, 0, []),
  (50, .iload_n 2, 51, 2, 0, 0, 0, 0, 0, []),
  (51, .ireturn, 52, 0, 0, 0, 0, 0, 0, [])]
def tbX6_redAt : List iE := [(0, .aload_n 0, 1, 0, 0, 0, 0, 0, 0, []),
  (1, .iload_n 1, 2, 1, 0, 0, 0, 0, 0, []),
  (2, .invokevirtual 137, 5, 136, 2, 6, 0, 203, 0, []),
  (5, .getfield 212, 8, 5, 7, 0, 0, 226, 0, []),
  (8, .ireturn, 9, 0, 0, 0, 0, 0, 0, [])]
def tbX6_worstStation : List iE := [(0, .iconst (-1), 1, 0, 0, 0, 0, 0, -1, []),
  (1, .istore_n 1, 2, 1, 0, 0, 0, 0, 0, []),
  (2, .iconst 0, 3, 0, 0, 0, 0, 0, 0, []),
  (3, .istore_n 2, 4, 2, 0, 0, 0, 0, 0, []),
  (4, .iconst 0, 5, 0, 0, 0, 0, 0, 0, []),
  (5, .istore_n 3, 6, 3, 0, 0, 0, 0, 0, []),
  (6, .iload_n 3, 7, 3, 0, 0, 0, 0, 0, []),
  (7, .aload_n 0, 8, 0, 0, 0, 0, 0, 0, []),
  (8, .getfield 19, 11, 6, 1, 1, 4, 179, 0, []),
  (11, .getfield 65, 14, 4, 4, 0, 0, 183, 0, []),
  (14, .if_icmp .ge 40, 17, 54, 0, 0, 0, 0, 0, []),
  (17, .aload_n 0, 18, 0, 0, 0, 0, 0, 0, []),
  (18, .getfield 19, 21, 6, 1, 1, 4, 179, 0, []),
  (21, .getfield 215, 24, 4, 0, 1, 15, 227, 0, []),
  (24, .iload_n 3, 25, 3, 0, 0, 0, 0, 0, []),
  (25, .aaload, 26, 15, 0, 0, 5, 0, 0, []),
  (26, .getfield 212, 29, 5, 7, 0, 0, 226, 0, []),
  (29, .iload_n 2, 30, 2, 0, 0, 0, 0, 0, []),
  (30, .if_icmp .le 18, 33, 48, 0, 0, 0, 0, 0, []),
  (33, .aload_n 0, 34, 0, 0, 0, 0, 0, 0, []),
  (34, .getfield 19, 37, 6, 1, 1, 4, 179, 0, []),
  (37, .getfield 215, 40, 4, 0, 1, 15, 227, 0, []),
  (40, .iload_n 3, 41, 3, 0, 0, 0, 0, 0, []),
  (41, .aaload, 42, 15, 0, 0, 5, 0, 0, []),
  (42, .getfield 212, 45, 5, 7, 0, 0, 226, 0, []),
  (45, .istore_n 2, 46, 2, 0, 0, 0, 0, 0, []),
  (46, .iload_n 3, 47, 3, 0, 0, 0, 0, 0, []),
  (47, .istore_n 1, 48, 1, 0, 0, 0, 0, 0, []),
  (48, .iinc 3 1, 51, 3, 0, 0, 0, 0, 1, []),
  (51, .goto (-45), 54, 6, 0, 0, 0, 0, 0, []),
  (54, .iload_n 1, 55, 1, 0, 0, 0, 0, 0, []),
  (55, .ireturn, 56, 0, 0, 0, 0, 0, 0, [])]
def tbX6_workingOn : List iE := [(0, .aload_n 0, 1, 0, 0, 0, 0, 0, 0, []),
  (1, .iload_n 1, 2, 1, 0, 0, 0, 0, 0, []),
  (2, .invokevirtual 137, 5, 136, 2, 6, 0, 203, 0, []),
  (5, .getfield 219, 8, 5, 2, 0, 0, 228, 0, []),
  (8, .ireturn, 9, 0, 0, 0, 0, 0, 0, [])]
def tbX6_queueLength : List iE := [(0, .aload_n 0, 1, 0, 0, 0, 0, 0, 0, []),
  (1, .iload_n 1, 2, 1, 0, 0, 0, 0, 0, []),
  (2, .invokevirtual 137, 5, 136, 2, 6, 0, 203, 0, []),
  (5, .getfield 221, 8, 5, 4, 0, 0, 229, 0, []),
  (8, .ireturn, 9, 0, 0, 0, 0, 0, 0, [])]
def tbX6_nextChoice : List iE := [(0, .aload_n 0, 1, 0, 0, 0, 0, 0, 0, []),
  (1, .iload_n 1, 2, 1, 0, 0, 0, 0, 0, []),
  (2, .invokevirtual 137, 5, 136, 2, 6, 0, 203, 0, []),
  (5, .pop, 6, 0, 0, 0, 0, 0, 0, []),
  (6, .aload_n 0, 7, 0, 0, 0, 0, 0, 0, []),
  (7, .getfield 19, 10, 6, 1, 1, 4, 179, 0, []),
  (10, .iload_n 1, 11, 1, 0, 0, 0, 0, 0, []),
  (11, .invokevirtual 224, 14, 46, 2, 4, 0, 230, 0, []),
  (14, .ireturn, 15, 0, 0, 0, 0, 0, 0, [])]
def tbX6_downUntil : List iE := [(0, .aload_n 0, 1, 0, 0, 0, 0, 0, 0, []),
  (1, .iload_n 1, 2, 1, 0, 0, 0, 0, 0, []),
  (2, .invokevirtual 137, 5, 136, 2, 6, 0, 203, 0, []),
  (5, .astore_n 2, 6, 2, 0, 0, 0, 0, 0, []),
  (6, .aload_n 2, 7, 2, 0, 0, 0, 0, 0, []),
  (7, .aload_n 0, 8, 0, 0, 0, 0, 0, 0, []),
  (8, .getfield 19, 11, 6, 1, 1, 4, 179, 0, []),
  (11, .getfield 94, 14, 4, 13, 0, 0, 191, 0, []),
  (14, .invokevirtual 227, 17, 65, 2, 5, 0, 231, 0, []),
  (17, .ifCond .eq 10, 20, 27, 0, 0, 0, 0, 0, []),
  (20, .aload_n 2, 21, 2, 0, 0, 0, 0, 0, []),
  (21, .getfield 141, 24, 5, 1, 0, 0, 204, 0, []),
  (24, .goto 4, 27, 28, 0, 0, 0, 0, 0, []),
  (27, .iconst (-1), 28, 0, 0, 0, 0, 0, -1, []),
  (28, .ireturn, 29, 0, 0, 0, 0, 0, 0, [])]
def tbX6_busyTicks : List iE := [(0, .aload_n 0, 1, 0, 0, 0, 0, 0, 0, []),
  (1, .iload_n 1, 2, 1, 0, 0, 0, 0, 0, []),
  (2, .invokevirtual 137, 5, 136, 2, 6, 0, 203, 0, []),
  (5, .getfield 231, 8, 5, 5, 0, 0, 232, 0, []),
  (8, .ireturn, 9, 0, 0, 0, 0, 0, 0, [])]
def tbX6_setups : List iE := [(0, .aload_n 0, 1, 0, 0, 0, 0, 0, 0, []),
  (1, .iload_n 1, 2, 1, 0, 0, 0, 0, 0, []),
  (2, .invokevirtual 137, 5, 136, 2, 6, 0, 203, 0, []),
  (5, .getfield 234, 8, 5, 6, 0, 0, 233, 0, []),
  (8, .ireturn, 9, 0, 0, 0, 0, 0, 0, [])]
def tbX6_starvedTicks : List iE := [(0, .aload_n 0, 1, 0, 0, 0, 0, 0, 0, []),
  (1, .getfield 19, 4, 6, 1, 1, 4, 179, 0, []),
  (4, .getfield 237, 7, 4, 14, 0, 0, 234, 0, []),
  (7, .ireturn, 8, 0, 0, 0, 0, 0, 0, [])]
def tbX6_lateCount : List iE := [(0, .iconst 0, 1, 0, 0, 0, 0, 0, 0, []),
  (1, .istore_n 1, 2, 1, 0, 0, 0, 0, 0, []),
  (2, .iconst 0, 3, 0, 0, 0, 0, 0, 0, []),
  (3, .istore_n 2, 4, 2, 0, 0, 0, 0, 0, []),
  (4, .iload_n 2, 5, 2, 0, 0, 0, 0, 0, []),
  (5, .aload_n 0, 6, 0, 0, 0, 0, 0, 0, []),
  (6, .getfield 19, 9, 6, 1, 1, 4, 179, 0, []),
  (9, .getfield 59, 12, 4, 6, 0, 0, 181, 0, []),
  (12, .if_icmp .ge 41, 15, 53, 0, 0, 0, 0, 0, []),
  (15, .aload_n 0, 16, 0, 0, 0, 0, 0, 0, []),
  (16, .getfield 19, 19, 6, 1, 1, 4, 179, 0, []),
  (19, .getfield 208, 22, 4, 2, 1, 12, 225, 0, []),
  (22, .iload_n 2, 23, 2, 0, 0, 0, 0, 0, []),
  (23, .aaload, 24, 12, 0, 0, 0, 0, 0, []),
  (24, .astore_n 3, 25, 3, 0, 0, 0, 0, 0, []),
  (25, .aload_n 3, 26, 3, 0, 0, 0, 0, 0, []),
  (26, .getfield 115, 29, 0, 5, 0, 0, 197, 0, []),
  (29, .iconst 2, 30, 0, 0, 0, 0, 0, 2, []),
  (30, .if_icmp .ne 17, 33, 47, 0, 0, 0, 0, 0, []),
  (33, .aload_n 3, 34, 3, 0, 0, 0, 0, 0, []),
  (34, .getfield 161, 37, 0, 12, 0, 0, 210, 0, []),
  (37, .aload_n 3, 38, 3, 0, 0, 0, 0, 0, []),
  (38, .getfield 124, 41, 0, 2, 0, 0, 199, 0, []),
  (41, .if_icmp .le 6, 44, 47, 0, 0, 0, 0, 0, []),
  (44, .iinc 1 1, 47, 1, 0, 0, 0, 0, 1, []),
  (47, .iinc 2 1, 50, 2, 0, 0, 0, 0, 1, []),
  (50, .goto (-46), 53, 4, 0, 0, 0, 0, 0, []),
  (53, .iload_n 1, 54, 1, 0, 0, 0, 0, 0, []),
  (54, .ireturn, 55, 0, 0, 0, 0, 0, 0, [])]
def tbX6_tardiness : List iE := [(0, .iconst 0, 1, 0, 0, 0, 0, 0, 0, []),
  (1, .istore_n 1, 2, 1, 0, 0, 0, 0, 0, []),
  (2, .iconst 0, 3, 0, 0, 0, 0, 0, 0, []),
  (3, .istore_n 2, 4, 2, 0, 0, 0, 0, 0, []),
  (4, .iload_n 2, 5, 2, 0, 0, 0, 0, 0, []),
  (5, .aload_n 0, 6, 0, 0, 0, 0, 0, 0, []),
  (6, .getfield 19, 9, 6, 1, 1, 4, 179, 0, []),
  (9, .getfield 59, 12, 4, 6, 0, 0, 181, 0, []),
  (12, .if_icmp .ge 38, 15, 50, 0, 0, 0, 0, 0, []),
  (15, .aload_n 0, 16, 0, 0, 0, 0, 0, 0, []),
  (16, .getfield 19, 19, 6, 1, 1, 4, 179, 0, []),
  (19, .getfield 208, 22, 4, 2, 1, 12, 225, 0, []),
  (22, .iload_n 2, 23, 2, 0, 0, 0, 0, 0, []),
  (23, .aaload, 24, 12, 0, 0, 0, 0, 0, []),
  (24, .astore_n 3, 25, 3, 0, 0, 0, 0, 0, []),
  (25, .aload_n 3, 26, 3, 0, 0, 0, 0, 0, []),
  (26, .getfield 115, 29, 0, 5, 0, 0, 197, 0, []),
  (29, .iconst 2, 30, 0, 0, 0, 0, 0, 2, []),
  (30, .if_icmp .ne 14, 33, 44, 0, 0, 0, 0, 0, []),
  (33, .iload_n 1, 34, 1, 0, 0, 0, 0, 0, []),
  (34, .aload_n 3, 35, 3, 0, 0, 0, 0, 0, []),
  (35, .aload_n 3, 36, 3, 0, 0, 0, 0, 0, []),
  (36, .getfield 161, 39, 0, 12, 0, 0, 210, 0, []),
  (39, .invokevirtual 240, 42, 3, 2, 0, 0, 235, 0, []),
  (42, .iadd, 43, 0, 0, 0, 0, 0, 0, []),
  (43, .istore_n 1, 44, 1, 0, 0, 0, 0, 0, []),
  (44, .iinc 2 1, 47, 2, 0, 0, 0, 0, 1, []),
  (47, .goto (-43), 50, 4, 0, 0, 0, 0, 0, []),
  (50, .iload_n 1, 51, 1, 0, 0, 0, 0, 0, []),
  (51, .ireturn, 52, 0, 0, 0, 0, 0, 0, [])]
def tbX6_quote : List iE := [(0, .aload_n 0, 1, 0, 0, 0, 0, 0, 0, []),
  (1, .iload_n 1, 2, 1, 0, 0, 0, 0, 0, []),
  (2, .invokevirtual 71, 5, 134, 2, 6, 0, 185, 0, []),
  (5, .astore_n 3, 6, 3, 0, 0, 0, 0, 0, []),
  (6, .iload_n 2, 7, 2, 0, 0, 0, 0, 0, []),
  (7, .iconst 1, 8, 0, 0, 0, 0, 0, 1, []),
  (8, .bipush 50, 10, 0, 0, 0, 0, 0, 50, []),
  (10, .invokestatic 34, 13, 137, 3, 6, 0, 171, 0, []),
  (13, .aload_n 3, 14, 3, 0, 0, 0, 0, 0, []),
  (14, .invokevirtual 91, 17, 8, 1, 1, 0, 190, 0, []),
  (17, .iload_n 2, 18, 2, 0, 0, 0, 0, 0, []),
  (18, .imul, 19, 0, 0, 0, 0, 0, 0, []),
  (19, .istore 4, 21, 4, 0, 0, 0, 0, 0, []),
  (21, .iload 4, 23, 4, 0, 0, 0, 0, 0, []),
  (23, .aload_n 0, 24, 0, 0, 0, 0, 0, 0, []),
  (24, .getfield 19, 27, 6, 1, 1, 4, 179, 0, []),
  (27, .getfield 104, 30, 4, 10, 0, 0, 194, 0, []),
  (30, .if_icmp .le 6, 33, 36, 0, 0, 0, 0, 0, []),
  (33, .bipush (-4), 35, 0, 0, 0, 0, 0, -4, []),
  (35, .ireturn, 36, 0, 0, 0, 0, 0, 0, []),
  (36, .aload_n 0, 37, 0, 0, 0, 0, 0, 0, []),
  (37, .getfield 19, 40, 6, 1, 1, 4, 179, 0, []),
  (40, .getfield 170, 43, 4, 3, 1, 3, 213, 0, []),
  (43, .aload_n 0, 44, 0, 0, 0, 0, 0, 0, []),
  (44, .getfield 19, 47, 6, 1, 1, 4, 179, 0, []),
  (47, .invokevirtual 174, 50, 26, 2, 3, 0, 214, 0, []),
  (50, .aload_n 0, 51, 0, 0, 0, 0, 0, 0, []),
  (51, .getfield 19, 54, 6, 1, 1, 4, 179, 0, []),
  (54, .getfield 94, 57, 4, 13, 0, 0, 191, 0, []),
  (57, .aload_n 0, 58, 0, 0, 0, 0, 0, 0, []),
  (58, .getfield 19, 61, 6, 1, 1, 4, 179, 0, []),
  (61, .getfield 198, 64, 4, 8, 0, 0, 222, 0, []),
  (64, .iadd, 65, 0, 0, 0, 0, 0, 0, []),
  (65, .aload_n 0, 66, 0, 0, 0, 0, 0, 0, []),
  (66, .getfield 19, 69, 6, 1, 1, 4, 179, 0, []),
  (69, .invokevirtual 243, 72, 36, 1, 4, 0, 236, 0, []),
  (72, .invokestatic 246, 75, 0, 0, 0, 1, 237, 0, []),
  (75, .istore 5, 77, 5, 0, 0, 0, 0, 0, []),
  (77, .aload_n 0, 78, 0, 0, 0, 0, 0, 0, []),
  (78, .getfield 19, 81, 6, 1, 1, 4, 179, 0, []),
  (81, .getfield 170, 84, 4, 3, 1, 3, 213, 0, []),
  (84, .aload_n 0, 85, 0, 0, 0, 0, 0, 0, []),
  (85, .getfield 19, 88, 6, 1, 1, 4, 179, 0, []),
  (88, .iload 4, 90, 4, 0, 0, 0, 0, 0, []),
  (90, .iload 5, 92, 5, 0, 0, 0, 0, 0, []),
  (92, .invokevirtual 252, 95, 30, 4, 3, 0, 238, 0, []),
  (95, .iload 4, 97, 4, 0, 0, 0, 0, 0, []),
  (97, .iadd, 98, 0, 0, 0, 0, 0, 0, []),
  (98, .aload_n 0, 99, 0, 0, 0, 0, 0, 0, []),
  (99, .getfield 19, 102, 6, 1, 1, 4, 179, 0, []),
  (102, .getfield 189, 105, 4, 9, 0, 0, 219, 0, []),
  (105, .iadd, 106, 0, 0, 0, 0, 0, 0, []),
  (106, .ireturn, 107, 0, 0, 0, 0, 0, 0, [])]
def tbX6_finishIfAdded : List iE := [(0, .aload_n 0, 1, 0, 0, 0, 0, 0, 0, []),
  (1, .iload_n 1, 2, 1, 0, 0, 0, 0, 0, []),
  (2, .invokevirtual 71, 5, 134, 2, 6, 0, 185, 0, []),
  (5, .astore 4, 7, 4, 0, 0, 0, 0, 0, []),
  (7, .iload_n 2, 8, 2, 0, 0, 0, 0, 0, []),
  (8, .iconst 1, 9, 0, 0, 0, 0, 0, 1, []),
  (9, .bipush 50, 11, 0, 0, 0, 0, 0, 50, []),
  (11, .invokestatic 34, 14, 137, 3, 6, 0, 171, 0, []),
  (14, .iload_n 3, 15, 3, 0, 0, 0, 0, 0, []),
  (15, .iconst 0, 16, 0, 0, 0, 0, 0, 0, []),
  (16, .sipush 30000, 19, 0, 0, 0, 0, 0, 30000, []),
  (19, .invokestatic 34, 22, 137, 3, 6, 0, 171, 0, []),
  (22, .aload_n 0, 23, 0, 0, 0, 0, 0, 0, []),
  (23, .getfield 19, 26, 6, 1, 1, 4, 179, 0, []),
  (26, .getfield 59, 29, 4, 6, 0, 0, 181, 0, []),
  (29, .bipush 24, 31, 0, 0, 0, 0, 0, 24, []),
  (31, .if_icmp .lt 6, 34, 37, 0, 0, 0, 0, 0, []),
  (34, .bipush (-2), 36, 0, 0, 0, 0, 0, -2, []),
  (36, .ireturn, 37, 0, 0, 0, 0, 0, 0, []),
  (37, .aload 4, 39, 4, 0, 0, 0, 0, 0, []),
  (39, .invokevirtual 91, 42, 8, 1, 1, 0, 190, 0, []),
  (42, .iload_n 2, 43, 2, 0, 0, 0, 0, 0, []),
  (43, .imul, 44, 0, 0, 0, 0, 0, 0, []),
  (44, .aload_n 0, 45, 0, 0, 0, 0, 0, 0, []),
  (45, .getfield 19, 48, 6, 1, 1, 4, 179, 0, []),
  (48, .getfield 104, 51, 4, 10, 0, 0, 194, 0, []),
  (51, .if_icmp .le 6, 54, 57, 0, 0, 0, 0, 0, []),
  (54, .bipush (-4), 56, 0, 0, 0, 0, 0, -4, []),
  (56, .ireturn, 57, 0, 0, 0, 0, 0, 0, []),
  (57, .aload_n 0, 58, 0, 0, 0, 0, 0, 0, []),
  (58, .getfield 23, 61, 6, 2, 1, 4, 174, 0, []),
  (61, .aload_n 0, 62, 0, 0, 0, 0, 0, 0, []),
  (62, .getfield 19, 65, 6, 1, 1, 4, 179, 0, []),
  (65, .invokevirtual 56, 68, 32, 2, 4, 0, 180, 0, []),
  (68, .aload_n 0, 69, 0, 0, 0, 0, 0, 0, []),
  (69, .getfield 23, 72, 6, 2, 1, 4, 174, 0, []),
  (72, .iload_n 1, 73, 1, 0, 0, 0, 0, 0, []),
  (73, .iload_n 2, 74, 2, 0, 0, 0, 0, 0, []),
  (74, .iload_n 3, 75, 3, 0, 0, 0, 0, 0, []),
  (75, .invokevirtual 107, 78, 33, 4, 4, 0, 195, 0, []),
  (78, .istore 5, 80, 5, 0, 0, 0, 0, 0, []),
  (80, .aload_n 0, 81, 0, 0, 0, 0, 0, 0, []),
  (81, .getfield 23, 84, 6, 2, 1, 4, 174, 0, []),
  (84, .sipush 2000, 87, 0, 0, 0, 0, 0, 2000, []),
  (87, .invokevirtual 100, 90, 51, 2, 4, 0, 193, 0, []),
  (90, .aload_n 0, 91, 0, 0, 0, 0, 0, 0, []),
  (91, .getfield 23, 94, 6, 2, 1, 4, 174, 0, []),
  (94, .getfield 208, 97, 4, 2, 1, 12, 225, 0, []),
  (97, .iload 5, 99, 5, 0, 0, 0, 0, 0, []),
  (99, .aaload, 100, 12, 0, 0, 0, 0, 0, []),
  (100, .getfield 161, 103, 0, 12, 0, 0, 210, 0, []),
  (103, .ireturn, 104, 0, 0, 0, 0, 0, 0, [])]
def tbX6_finishOf : List iE := [(0, .aload_n 0, 1, 0, 0, 0, 0, 0, 0, []),
  (1, .iload_n 1, 2, 1, 0, 0, 0, 0, 0, []),
  (2, .invokevirtual 111, 5, 135, 2, 6, 0, 196, 0, []),
  (5, .astore_n 2, 6, 2, 0, 0, 0, 0, 0, []),
  (6, .aload_n 2, 7, 2, 0, 0, 0, 0, 0, []),
  (7, .invokevirtual 120, 10, 2, 1, 0, 0, 198, 0, []),
  (10, .ifCond .ne 8, 13, 18, 0, 0, 0, 0, 0, []),
  (13, .aload_n 2, 14, 2, 0, 0, 0, 0, 0, []),
  (14, .getfield 161, 17, 0, 12, 0, 0, 210, 0, []),
  (17, .ireturn, 18, 0, 0, 0, 0, 0, 0, []),
  (18, .aload_n 0, 19, 0, 0, 0, 0, 0, 0, []),
  (19, .getfield 23, 22, 6, 2, 1, 4, 174, 0, []),
  (22, .aload_n 0, 23, 0, 0, 0, 0, 0, 0, []),
  (23, .getfield 19, 26, 6, 1, 1, 4, 179, 0, []),
  (26, .invokevirtual 56, 29, 32, 2, 4, 0, 180, 0, []),
  (29, .aload_n 0, 30, 0, 0, 0, 0, 0, 0, []),
  (30, .getfield 23, 33, 6, 2, 1, 4, 174, 0, []),
  (33, .sipush 2000, 36, 0, 0, 0, 0, 0, 2000, []),
  (36, .invokevirtual 100, 39, 51, 2, 4, 0, 193, 0, []),
  (39, .aload_n 0, 40, 0, 0, 0, 0, 0, 0, []),
  (40, .getfield 23, 43, 6, 2, 1, 4, 174, 0, []),
  (43, .getfield 208, 46, 4, 2, 1, 12, 225, 0, []),
  (46, .iload_n 1, 47, 1, 0, 0, 0, 0, 0, []),
  (47, .aaload, 48, 12, 0, 0, 0, 0, 0, []),
  (48, .getfield 161, 51, 0, 12, 0, 0, 210, 0, []),
  (51, .ireturn, 52, 0, 0, 0, 0, 0, 0, [])]
def tbX6_tardinessAhead : List iE := [(0, .iload_n 1, 1, 1, 0, 0, 0, 0, 0, []),
  (1, .iconst 0, 2, 0, 0, 0, 0, 0, 0, []),
  (2, .iconst 3, 3, 0, 0, 0, 0, 0, 3, []),
  (3, .invokestatic 34, 6, 137, 3, 6, 0, 171, 0, []),
  (6, .aload_n 0, 7, 0, 0, 0, 0, 0, 0, []),
  (7, .iload_n 1, 8, 1, 0, 0, 0, 0, 0, []),
  (8, .invokevirtual 256, 11, 131, 2, 6, 0, 239, 0, []),
  (11, .ireturn, 12, 0, 0, 0, 0, 0, 0, [])]
def tbX6_bestRule : List iE := [(0, .iconst 0, 1, 0, 0, 0, 0, 0, 0, []),
  (1, .istore_n 1, 2, 1, 0, 0, 0, 0, 0, []),
  (2, .aload_n 0, 3, 0, 0, 0, 0, 0, 0, []),
  (3, .iconst 0, 4, 0, 0, 0, 0, 0, 0, []),
  (4, .invokevirtual 256, 7, 131, 2, 6, 0, 239, 0, []),
  (7, .istore_n 2, 8, 2, 0, 0, 0, 0, 0, []),
  (8, .iconst 1, 9, 0, 0, 0, 0, 0, 1, []),
  (9, .istore_n 3, 10, 3, 0, 0, 0, 0, 0, []),
  (10, .iload_n 3, 11, 3, 0, 0, 0, 0, 0, []),
  (11, .iconst 3, 12, 0, 0, 0, 0, 0, 3, []),
  (12, .if_icmp .gt 27, 15, 39, 0, 0, 0, 0, 0, []),
  (15, .aload_n 0, 16, 0, 0, 0, 0, 0, 0, []),
  (16, .iload_n 3, 17, 3, 0, 0, 0, 0, 0, []),
  (17, .invokevirtual 256, 20, 131, 2, 6, 0, 239, 0, []),
  (20, .istore 4, 22, 4, 0, 0, 0, 0, 0, []),
  (22, .iload 4, 24, 4, 0, 0, 0, 0, 0, []),
  (24, .iload_n 2, 25, 2, 0, 0, 0, 0, 0, []),
  (25, .if_icmp .ge 8, 28, 33, 0, 0, 0, 0, 0, []),
  (28, .iload 4, 30, 4, 0, 0, 0, 0, 0, []),
  (30, .istore_n 2, 31, 2, 0, 0, 0, 0, 0, []),
  (31, .iload_n 3, 32, 3, 0, 0, 0, 0, 0, []),
  (32, .istore_n 1, 33, 1, 0, 0, 0, 0, 0, []),
  (33, .iinc 3 1, 36, 3, 0, 0, 0, 0, 1, []),
  (36, .goto (-26), 39, 10, 0, 0, 0, 0, 0, []),
  (39, .iload_n 1, 40, 1, 0, 0, 0, 0, 0, []),
  (40, .ireturn, 41, 0, 0, 0, 0, 0, 0, [])]
def tbX6_neededRope : List iE := [(0, .aload_n 0, 1, 0, 0, 0, 0, 0, 0, []),
  (1, .sipush 1000, 4, 0, 0, 0, 0, 0, 1000, []),
  (4, .invokevirtual 259, 7, 132, 2, 6, 0, 240, 0, []),
  (7, .istore_n 1, 8, 1, 0, 0, 0, 0, 0, []),
  (8, .aload_n 0, 9, 0, 0, 0, 0, 0, 0, []),
  (9, .getfield 19, 12, 6, 1, 1, 4, 179, 0, []),
  (12, .invokevirtual 134, 15, 35, 1, 4, 0, 202, 0, []),
  (15, .istore_n 2, 16, 2, 0, 0, 0, 0, 0, []),
  (16, .bipush 100, 18, 0, 0, 0, 0, 0, 100, []),
  (18, .istore_n 3, 19, 3, 0, 0, 0, 0, 0, []),
  (19, .iload_n 3, 20, 3, 0, 0, 0, 0, 0, []),
  (20, .sipush 1000, 23, 0, 0, 0, 0, 0, 1000, []),
  (23, .if_icmp .ge 25, 26, 48, 0, 0, 0, 0, 0, []),
  (26, .iload_n 3, 27, 3, 0, 0, 0, 0, 0, []),
  (27, .iload_n 2, 28, 2, 0, 0, 0, 0, 0, []),
  (28, .if_icmp .lt 14, 31, 42, 0, 0, 0, 0, 0, []),
  (31, .aload_n 0, 32, 0, 0, 0, 0, 0, 0, []),
  (32, .iload_n 3, 33, 3, 0, 0, 0, 0, 0, []),
  (33, .invokevirtual 259, 36, 132, 2, 6, 0, 240, 0, []),
  (36, .iload_n 1, 37, 1, 0, 0, 0, 0, 0, []),
  (37, .if_icmp .gt 5, 40, 42, 0, 0, 0, 0, 0, []),
  (40, .iload_n 3, 41, 3, 0, 0, 0, 0, 0, []),
  (41, .ireturn, 42, 0, 0, 0, 0, 0, 0, []),
  (42, .iinc 3 100, 45, 3, 0, 0, 0, 0, 100, []),
  (45, .goto (-26), 48, 19, 0, 0, 0, 0, 0, []),
  (48, .sipush 1000, 51, 0, 0, 0, 0, 0, 1000, []),
  (51, .ireturn, 52, 0, 0, 0, 0, 0, 0, [])]
def tbX6_firstRedAt : List iE := [(0, .aload_n 0, 1, 0, 0, 0, 0, 0, 0, []),
  (1, .iload_n 1, 2, 1, 0, 0, 0, 0, 0, []),
  (2, .invokevirtual 111, 5, 135, 2, 6, 0, 196, 0, []),
  (5, .getfield 262, 8, 0, 13, 0, 0, 241, 0, []),
  (8, .ireturn, 9, 0, 0, 0, 0, 0, 0, [])]
def tbX6_flowTime : List iE := [(0, .aload_n 0, 1, 0, 0, 0, 0, 0, 0, []),
  (1, .iload_n 1, 2, 1, 0, 0, 0, 0, 0, []),
  (2, .invokevirtual 111, 5, 135, 2, 6, 0, 196, 0, []),
  (5, .aload_n 0, 6, 0, 0, 0, 0, 0, 0, []),
  (6, .getfield 19, 9, 6, 1, 1, 4, 179, 0, []),
  (9, .getfield 94, 12, 4, 13, 0, 0, 191, 0, []),
  (12, .invokevirtual 265, 15, 4, 2, 0, 0, 242, 0, []),
  (15, .ireturn, 16, 0, 0, 0, 0, 0, 0, [])]
def tbX6_meanFlow : List iE := [(0, .iconst 0, 1, 0, 0, 0, 0, 0, 0, []),
  (1, .istore_n 1, 2, 1, 0, 0, 0, 0, 0, []),
  (2, .iconst 0, 3, 0, 0, 0, 0, 0, 0, []),
  (3, .istore_n 2, 4, 2, 0, 0, 0, 0, 0, []),
  (4, .iconst 0, 5, 0, 0, 0, 0, 0, 0, []),
  (5, .istore_n 3, 6, 3, 0, 0, 0, 0, 0, []),
  (6, .iload_n 3, 7, 3, 0, 0, 0, 0, 0, []),
  (7, .aload_n 0, 8, 0, 0, 0, 0, 0, 0, []),
  (8, .getfield 19, 11, 6, 1, 1, 4, 179, 0, []),
  (11, .getfield 59, 14, 4, 6, 0, 0, 181, 0, []),
  (14, .if_icmp .ge 47, 17, 61, 0, 0, 0, 0, 0, []),
  (17, .aload_n 0, 18, 0, 0, 0, 0, 0, 0, []),
  (18, .getfield 19, 21, 6, 1, 1, 4, 179, 0, []),
  (21, .getfield 208, 24, 4, 2, 1, 12, 225, 0, []),
  (24, .iload_n 3, 25, 3, 0, 0, 0, 0, 0, []),
  (25, .aaload, 26, 12, 0, 0, 0, 0, 0, []),
  (26, .astore 4, 28, 4, 0, 0, 0, 0, 0, []),
  (28, .aload 4, 30, 4, 0, 0, 0, 0, 0, []),
  (30, .getfield 115, 33, 0, 5, 0, 0, 197, 0, []),
  (33, .iconst 2, 34, 0, 0, 0, 0, 0, 2, []),
  (34, .if_icmp .ne 21, 37, 55, 0, 0, 0, 0, 0, []),
  (37, .iload_n 1, 38, 1, 0, 0, 0, 0, 0, []),
  (38, .aload 4, 40, 4, 0, 0, 0, 0, 0, []),
  (40, .aload_n 0, 41, 0, 0, 0, 0, 0, 0, []),
  (41, .getfield 19, 44, 6, 1, 1, 4, 179, 0, []),
  (44, .getfield 94, 47, 4, 13, 0, 0, 191, 0, []),
  (47, .invokevirtual 265, 50, 4, 2, 0, 0, 242, 0, []),
  (50, .iadd, 51, 0, 0, 0, 0, 0, 0, []),
  (51, .istore_n 1, 52, 1, 0, 0, 0, 0, 0, []),
  (52, .iinc 2 1, 55, 2, 0, 0, 0, 0, 1, []),
  (55, .iinc 3 1, 58, 3, 0, 0, 0, 0, 1, []),
  (58, .goto (-52), 61, 6, 0, 0, 0, 0, 0, []),
  (61, .iload_n 2, 62, 2, 0, 0, 0, 0, 0, []),
  (62, .ifCond .ne 7, 65, 69, 0, 0, 0, 0, 0, []),
  (65, .iconst (-1), 66, 0, 0, 0, 0, 0, -1, []),
  (66, .goto 6, 69, 72, 0, 0, 0, 0, 0, []),
  (69, .iload_n 1, 70, 1, 0, 0, 0, 0, 0, []),
  (70, .iload_n 2, 71, 2, 0, 0, 0, 0, 0, []),
  (71, .idiv, 72, 0, 0, 0, 0, 0, 0, []),
  (72, .ireturn, 73, 0, 0, 0, 0, 0, 0, [])]
def tbX6_loadOf : List iE := [(0, .aload_n 0, 1, 0, 0, 0, 0, 0, 0, []),
  (1, .iload_n 1, 2, 1, 0, 0, 0, 0, 0, []),
  (2, .invokevirtual 137, 5, 136, 2, 6, 0, 203, 0, []),
  (5, .pop, 6, 0, 0, 0, 0, 0, 0, []),
  (6, .aload_n 0, 7, 0, 0, 0, 0, 0, 0, []),
  (7, .getfield 19, 10, 6, 1, 1, 4, 179, 0, []),
  (10, .iload_n 1, 11, 1, 0, 0, 0, 0, 0, []),
  (11, .invokevirtual 268, 14, 48, 2, 4, 0, 243, 0, []),
  (14, .ireturn, 15, 0, 0, 0, 0, 0, 0, [])]
def tbX6_bottleneck : List iE := [(0, .iconst 0, 1, 0, 0, 0, 0, 0, 0, []),
  (1, .istore_n 1, 2, 1, 0, 0, 0, 0, 0, []),
  (2, .iconst 0, 3, 0, 0, 0, 0, 0, 0, []),
  (3, .istore_n 2, 4, 2, 0, 0, 0, 0, 0, []),
  (4, .iconst 0, 5, 0, 0, 0, 0, 0, 0, []),
  (5, .istore_n 3, 6, 3, 0, 0, 0, 0, 0, []),
  (6, .iload_n 3, 7, 3, 0, 0, 0, 0, 0, []),
  (7, .aload_n 0, 8, 0, 0, 0, 0, 0, 0, []),
  (8, .getfield 19, 11, 6, 1, 1, 4, 179, 0, []),
  (11, .getfield 65, 14, 4, 4, 0, 0, 183, 0, []),
  (14, .if_icmp .ge 30, 17, 44, 0, 0, 0, 0, 0, []),
  (17, .aload_n 0, 18, 0, 0, 0, 0, 0, 0, []),
  (18, .getfield 19, 21, 6, 1, 1, 4, 179, 0, []),
  (21, .iload_n 3, 22, 3, 0, 0, 0, 0, 0, []),
  (22, .invokevirtual 268, 25, 48, 2, 4, 0, 243, 0, []),
  (25, .istore 4, 27, 4, 0, 0, 0, 0, 0, []),
  (27, .iload 4, 29, 4, 0, 0, 0, 0, 0, []),
  (29, .iload_n 1, 30, 1, 0, 0, 0, 0, 0, []),
  (30, .if_icmp .le 8, 33, 38, 0, 0, 0, 0, 0, []),
  (33, .iload 4, 35, 4, 0, 0, 0, 0, 0, []),
  (35, .istore_n 1, 36, 1, 0, 0, 0, 0, 0, []),
  (36, .iload_n 3, 37, 3, 0, 0, 0, 0, 0, []),
  (37, .istore_n 2, 38, 2, 0, 0, 0, 0, 0, []),
  (38, .iinc 3 1, 41, 3, 0, 0, 0, 0, 1, []),
  (41, .goto (-35), 44, 6, 0, 0, 0, 0, 0, []),
  (44, .iload_n 2, 45, 2, 0, 0, 0, 0, 0, []),
  (45, .ireturn, 46, 0, 0, 0, 0, 0, 0, [])]
def tbX6_bestExpedite : List iE := [(0, .iconst (-1), 1, 0, 0, 0, 0, 0, -1, []),
  (1, .istore_n 1, 2, 1, 0, 0, 0, 0, 0, []),
  (2, .aload_n 0, 3, 0, 0, 0, 0, 0, 0, []),
  (3, .aload_n 0, 4, 0, 0, 0, 0, 0, 0, []),
  (4, .getfield 19, 7, 6, 1, 1, 4, 179, 0, []),
  (7, .getfield 131, 10, 4, 11, 0, 0, 201, 0, []),
  (10, .invokevirtual 256, 13, 131, 2, 6, 0, 239, 0, []),
  (13, .istore_n 2, 14, 2, 0, 0, 0, 0, 0, []),
  (14, .iconst 0, 15, 0, 0, 0, 0, 0, 0, []),
  (15, .istore_n 3, 16, 3, 0, 0, 0, 0, 0, []),
  (16, .iload_n 3, 17, 3, 0, 0, 0, 0, 0, []),
  (17, .aload_n 0, 18, 0, 0, 0, 0, 0, 0, []),
  (18, .getfield 19, 21, 6, 1, 1, 4, 179, 0, []),
  (21, .getfield 59, 24, 4, 6, 0, 0, 181, 0, []),
  (24, .if_icmp .ge 54, 27, 78, 0, 0, 0, 0, 0, []),
  (27, .aload_n 0, 28, 0, 0, 0, 0, 0, 0, []),
  (28, .getfield 19, 31, 6, 1, 1, 4, 179, 0, []),
  (31, .getfield 208, 34, 4, 2, 1, 12, 225, 0, []),
  (34, .iload_n 3, 35, 3, 0, 0, 0, 0, 0, []),
  (35, .aaload, 36, 12, 0, 0, 0, 0, 0, []),
  (36, .astore 4, 38, 4, 0, 0, 0, 0, 0, []),
  (38, .aload 4, 40, 4, 0, 0, 0, 0, 0, []),
  (40, .invokevirtual 120, 43, 2, 1, 0, 0, 198, 0, []),
  (43, .ifCond .eq 29, 46, 72, 0, 0, 0, 0, 0, []),
  (46, .aload 4, 48, 4, 0, 0, 0, 0, 0, []),
  (48, .getfield 127, 51, 0, 4, 0, 0, 200, 0, []),
  (51, .ifCond .ne 21, 54, 72, 0, 0, 0, 0, 0, []),
  (54, .aload_n 0, 55, 0, 0, 0, 0, 0, 0, []),
  (55, .iload_n 3, 56, 3, 0, 0, 0, 0, 0, []),
  (56, .invokevirtual 271, 59, 133, 2, 6, 0, 244, 0, []),
  (59, .istore 5, 61, 5, 0, 0, 0, 0, 0, []),
  (61, .iload 5, 63, 5, 0, 0, 0, 0, 0, []),
  (63, .iload_n 2, 64, 2, 0, 0, 0, 0, 0, []),
  (64, .if_icmp .ge 8, 67, 72, 0, 0, 0, 0, 0, []),
  (67, .iload 5, 69, 5, 0, 0, 0, 0, 0, []),
  (69, .istore_n 2, 70, 2, 0, 0, 0, 0, 0, []),
  (70, .iload_n 3, 71, 3, 0, 0, 0, 0, 0, []),
  (71, .istore_n 1, 72, 1, 0, 0, 0, 0, 0, []),
  (72, .iinc 3 1, 75, 3, 0, 0, 0, 0, 1, []),
  (75, .goto (-59), 78, 16, 0, 0, 0, 0, 0, []),
  (78, .iload_n 1, 79, 1, 0, 0, 0, 0, 0, []),
  (79, .ireturn, 80, 0, 0, 0, 0, 0, 0, [])]
def tbX6_saveSnapshot : List iE := [(0, .iload_n 1, 1, 1, 0, 0, 0, 0, 0, []),
  (1, .iconst 0, 2, 0, 0, 0, 0, 0, 0, []),
  (2, .iconst 1, 3, 0, 0, 0, 0, 0, 1, []),
  (3, .invokestatic 34, 6, 137, 3, 6, 0, 171, 0, []),
  (6, .aload_n 0, 7, 0, 0, 0, 0, 0, 0, []),
  (7, .getfield 26, 10, 6, 3, 1, 14, 245, 0, []),
  (10, .iload_n 1, 11, 1, 0, 0, 0, 0, 0, []),
  (11, .aaload, 12, 14, 0, 0, 4, 0, 0, []),
  (12, .aload_n 0, 13, 0, 0, 0, 0, 0, 0, []),
  (13, .getfield 19, 16, 6, 1, 1, 4, 179, 0, []),
  (16, .invokevirtual 56, 19, 32, 2, 4, 0, 180, 0, []),
  (19, .aload_n 0, 20, 0, 0, 0, 0, 0, 0, []),
  (20, .getfield 30, 23, 6, 4, 1, 10, 246, 0, []),
  (23, .iload_n 1, 24, 1, 0, 0, 0, 0, 0, []),
  (24, .iconst 1, 25, 0, 0, 0, 0, 0, 1, []),
  (25, .bastore, 26, 10, 0, 0, 0, 0, 0, []),
  (26, .aload_n 0, 27, 0, 0, 0, 0, 0, 0, []),
  (27, .getfield 19, 30, 6, 1, 1, 4, 179, 0, []),
  (30, .getfield 94, 33, 4, 13, 0, 0, 191, 0, []),
  (33, .ireturn, 34, 0, 0, 0, 0, 0, 0, [])]
def tbX6_restoreSnapshot : List iE := [(0, .iload_n 1, 1, 1, 0, 0, 0, 0, 0, []),
  (1, .iconst 0, 2, 0, 0, 0, 0, 0, 0, []),
  (2, .iconst 1, 3, 0, 0, 0, 0, 0, 1, []),
  (3, .invokestatic 34, 6, 137, 3, 6, 0, 171, 0, []),
  (6, .aload_n 0, 7, 0, 0, 0, 0, 0, 0, []),
  (7, .getfield 30, 10, 6, 4, 1, 10, 246, 0, []),
  (10, .iload_n 1, 11, 1, 0, 0, 0, 0, 0, []),
  (11, .baload, 12, 10, 0, 0, 0, 0, 0, []),
  (12, .ifCond .ne 5, 15, 17, 0, 0, 0, 0, 0, []),
  (15, .iconst (-1), 16, 0, 0, 0, 0, 0, -1, []),
  (16, .ireturn, 17, 0, 0, 0, 0, 0, 0, []),
  (17, .aload_n 0, 18, 0, 0, 0, 0, 0, 0, []),
  (18, .getfield 19, 21, 6, 1, 1, 4, 179, 0, []),
  (21, .aload_n 0, 22, 0, 0, 0, 0, 0, 0, []),
  (22, .getfield 26, 25, 6, 3, 1, 14, 245, 0, []),
  (25, .iload_n 1, 26, 1, 0, 0, 0, 0, 0, []),
  (26, .aaload, 27, 14, 0, 0, 4, 0, 0, []),
  (27, .invokevirtual 56, 30, 32, 2, 4, 0, 180, 0, []),
  (30, .aload_n 0, 31, 0, 0, 0, 0, 0, 0, []),
  (31, .getfield 19, 34, 6, 1, 1, 4, 179, 0, []),
  (34, .getfield 94, 37, 4, 13, 0, 0, 191, 0, []),
  (37, .ireturn, 38, 0, 0, 0, 0, 0, 0, [])]
def tbX6_tardinessByRule : List iE := [(0, .aload_n 0, 1, 0, 0, 0, 0, 0, 0, []),
  (1, .getfield 23, 4, 6, 2, 1, 4, 174, 0, []),
  (4, .aload_n 0, 5, 0, 0, 0, 0, 0, 0, []),
  (5, .getfield 19, 8, 6, 1, 1, 4, 179, 0, []),
  (8, .invokevirtual 56, 11, 32, 2, 4, 0, 180, 0, []),
  (11, .aload_n 0, 12, 0, 0, 0, 0, 0, 0, []),
  (12, .getfield 23, 15, 6, 2, 1, 4, 174, 0, []),
  (15, .iload_n 1, 16, 1, 0, 0, 0, 0, 0, []),
  (16, .putfield 131, 19, 4, 11, 0, 0, 201, 0, []),
  (19, .aload_n 0, 20, 0, 0, 0, 0, 0, 0, []),
  (20, .getfield 23, 23, 6, 2, 1, 4, 174, 0, []),
  (23, .sipush 2000, 26, 0, 0, 0, 0, 0, 2000, []),
  (26, .invokevirtual 100, 29, 51, 2, 4, 0, 193, 0, []),
  (29, .aload_n 0, 30, 0, 0, 0, 0, 0, 0, []),
  (30, .getfield 23, 33, 6, 2, 1, 4, 174, 0, []),
  (33, .invokevirtual 274, 36, 50, 1, 4, 0, 247, 0, []),
  (36, .ireturn, 37, 0, 0, 0, 0, 0, 0, [])]
def tbX6_tardinessByRope : List iE := [(0, .aload_n 0, 1, 0, 0, 0, 0, 0, 0, []),
  (1, .getfield 23, 4, 6, 2, 1, 4, 174, 0, []),
  (4, .aload_n 0, 5, 0, 0, 0, 0, 0, 0, []),
  (5, .getfield 19, 8, 6, 1, 1, 4, 179, 0, []),
  (8, .invokevirtual 56, 11, 32, 2, 4, 0, 180, 0, []),
  (11, .aload_n 0, 12, 0, 0, 0, 0, 0, 0, []),
  (12, .getfield 23, 15, 6, 2, 1, 4, 174, 0, []),
  (15, .iload_n 1, 16, 1, 0, 0, 0, 0, 0, []),
  (16, .putfield 104, 19, 4, 10, 0, 0, 194, 0, []),
  (19, .aload_n 0, 20, 0, 0, 0, 0, 0, 0, []),
  (20, .getfield 23, 23, 6, 2, 1, 4, 174, 0, []),
  (23, .sipush 2000, 26, 0, 0, 0, 0, 0, 2000, []),
  (26, .invokevirtual 100, 29, 51, 2, 4, 0, 193, 0, []),
  (29, .aload_n 0, 30, 0, 0, 0, 0, 0, 0, []),
  (30, .getfield 23, 33, 6, 2, 1, 4, 174, 0, []),
  (33, .invokevirtual 274, 36, 50, 1, 4, 0, 247, 0, []),
  (36, .ireturn, 37, 0, 0, 0, 0, 0, 0, [])]
def tbX6_tardinessIfExpedited : List iE := [(0, .aload_n 0, 1, 0, 0, 0, 0, 0, 0, []),
  (1, .getfield 23, 4, 6, 2, 1, 4, 174, 0, []),
  (4, .aload_n 0, 5, 0, 0, 0, 0, 0, 0, []),
  (5, .getfield 19, 8, 6, 1, 1, 4, 179, 0, []),
  (8, .invokevirtual 56, 11, 32, 2, 4, 0, 180, 0, []),
  (11, .aload_n 0, 12, 0, 0, 0, 0, 0, 0, []),
  (12, .getfield 23, 15, 6, 2, 1, 4, 174, 0, []),
  (15, .getfield 208, 18, 4, 2, 1, 12, 225, 0, []),
  (18, .iload_n 1, 19, 1, 0, 0, 0, 0, 0, []),
  (19, .aaload, 20, 12, 0, 0, 0, 0, 0, []),
  (20, .iconst 1, 21, 0, 0, 0, 0, 0, 1, []),
  (21, .putfield 127, 24, 0, 4, 2, 0, 200, 0, []),
  (24, .aload_n 0, 25, 0, 0, 0, 0, 0, 0, []),
  (25, .getfield 23, 28, 6, 2, 1, 4, 174, 0, []),
  (28, .sipush 2000, 31, 0, 0, 0, 0, 0, 2000, []),
  (31, .invokevirtual 100, 34, 51, 2, 4, 0, 193, 0, []),
  (34, .aload_n 0, 35, 0, 0, 0, 0, 0, 0, []),
  (35, .getfield 23, 38, 6, 2, 1, 4, 174, 0, []),
  (38, .invokevirtual 274, 41, 50, 1, 4, 0, 247, 0, []),
  (41, .ireturn, 42, 0, 0, 0, 0, 0, 0, [])]
def tbX6_findProduct : List iE := [(0, .iload_n 1, 1, 1, 0, 0, 0, 0, 0, []),
  (1, .ifCond .lt 14, 4, 15, 0, 0, 0, 0, 0, []),
  (4, .iload_n 1, 5, 1, 0, 0, 0, 0, 0, []),
  (5, .aload_n 0, 6, 0, 0, 0, 0, 0, 0, []),
  (6, .getfield 19, 9, 6, 1, 1, 4, 179, 0, []),
  (9, .getfield 68, 12, 4, 5, 0, 0, 184, 0, []),
  (12, .if_icmp .lt 14, 15, 26, 0, 0, 0, 0, 0, []),
  (15, .new 277, 18, 0, 0, 0, 0, 0, 0, []),
  (26, .aload_n 0, 27, 0, 0, 0, 0, 0, 0, []),
  (27, .getfield 19, 30, 6, 1, 1, 4, 179, 0, []),
  (30, .getfield 284, 33, 4, 1, 1, 13, 248, 0, []),
  (33, .iload_n 1, 34, 1, 0, 0, 0, 0, 0, []),
  (34, .aaload, 35, 13, 0, 0, 1, 0, 0, []),
  (35, .areturn, 36, 0, 0, 0, 0, 0, 0, [])]
def tbX6_findOrder : List iE := [(0, .iload_n 1, 1, 1, 0, 0, 0, 0, 0, []),
  (1, .ifCond .lt 14, 4, 15, 0, 0, 0, 0, 0, []),
  (4, .iload_n 1, 5, 1, 0, 0, 0, 0, 0, []),
  (5, .aload_n 0, 6, 0, 0, 0, 0, 0, 0, []),
  (6, .getfield 19, 9, 6, 1, 1, 4, 179, 0, []),
  (9, .getfield 59, 12, 4, 6, 0, 0, 181, 0, []),
  (12, .if_icmp .lt 14, 15, 26, 0, 0, 0, 0, 0, []),
  (15, .new 277, 18, 0, 0, 0, 0, 0, 0, []),
  (26, .aload_n 0, 27, 0, 0, 0, 0, 0, 0, []),
  (27, .getfield 19, 30, 6, 1, 1, 4, 179, 0, []),
  (30, .getfield 208, 33, 4, 2, 1, 12, 225, 0, []),
  (33, .iload_n 1, 34, 1, 0, 0, 0, 0, 0, []),
  (34, .aaload, 35, 12, 0, 0, 0, 0, 0, []),
  (35, .areturn, 36, 0, 0, 0, 0, 0, 0, [])]
def tbX6_findStation : List iE := [(0, .iload_n 1, 1, 1, 0, 0, 0, 0, 0, []),
  (1, .ifCond .lt 14, 4, 15, 0, 0, 0, 0, 0, []),
  (4, .iload_n 1, 5, 1, 0, 0, 0, 0, 0, []),
  (5, .aload_n 0, 6, 0, 0, 0, 0, 0, 0, []),
  (6, .getfield 19, 9, 6, 1, 1, 4, 179, 0, []),
  (9, .getfield 65, 12, 4, 4, 0, 0, 183, 0, []),
  (12, .if_icmp .lt 14, 15, 26, 0, 0, 0, 0, 0, []),
  (15, .new 277, 18, 0, 0, 0, 0, 0, 0, []),
  (26, .aload_n 0, 27, 0, 0, 0, 0, 0, 0, []),
  (27, .getfield 19, 30, 6, 1, 1, 4, 179, 0, []),
  (30, .getfield 215, 33, 4, 0, 1, 15, 227, 0, []),
  (33, .iload_n 1, 34, 1, 0, 0, 0, 0, 0, []),
  (34, .aaload, 35, 15, 0, 0, 5, 0, 0, []),
  (35, .areturn, 36, 0, 0, 0, 0, 0, 0, [])]
def tbX6_checkRange : List iE := [(0, .iload_n 0, 1, 0, 0, 0, 0, 0, 0, []),
  (1, .iload_n 1, 2, 1, 0, 0, 0, 0, 0, []),
  (2, .if_icmp .lt 8, 5, 10, 0, 0, 0, 0, 0, []),
  (5, .iload_n 0, 6, 0, 0, 0, 0, 0, 0, []),
  (6, .iload_n 2, 7, 2, 0, 0, 0, 0, 0, []),
  (7, .if_icmp .le 14, 10, 21, 0, 0, 0, 0, 0, []),
  (10, .new 292, 13, 1, 0, 0, 0, 0, 0, []),
  (21, .return_, 22, 0, 0, 0, 0, 0, 0, [])]
def tbX7_thrown : List iE := [(0, .aload_n 0, 1, 0, 0, 0, 0, 0, 0, []),
  (1, .getfield 50, 4, 7, 5, 0, 0, 249, 0, []),
  (4, .ireturn, 5, 0, 0, 0, 0, 0, 0, [])]
def tbX7_in : List iE := [(0, .iload_n 0, 1, 0, 0, 0, 0, 0, 0, []),
  (1, .iload_n 1, 2, 1, 0, 0, 0, 0, 0, []),
  (2, .if_icmp .lt 12, 5, 14, 0, 0, 0, 0, 0, []),
  (5, .iload_n 0, 6, 0, 0, 0, 0, 0, 0, []),
  (6, .iload_n 2, 7, 2, 0, 0, 0, 0, 0, []),
  (7, .if_icmp .gt 7, 10, 14, 0, 0, 0, 0, 0, []),
  (10, .iconst 1, 11, 0, 0, 0, 0, 0, 1, []),
  (11, .goto 4, 14, 15, 0, 0, 0, 0, 0, []),
  (14, .iconst 0, 15, 0, 0, 0, 0, 0, 0, []),
  (15, .ireturn, 16, 0, 0, 1, 0, 0, 0, [])]
def tbX7_copies : List iE := [(0, .iconst 0, 1, 0, 0, 0, 0, 0, 0, []),
  (1, .istore 4, 3, 4, 0, 0, 0, 0, 0, []),
  (3, .iload 4, 5, 4, 0, 0, 0, 0, 0, []),
  (5, .sipush 467, 8, 0, 0, 0, 0, 0, 467, []),
  (8, .if_icmp .ge 29, 11, 37, 0, 0, 0, 0, 0, []),
  (11, .aload_n 2, 12, 2, 0, 0, 0, 0, 0, []),
  (12, .sipush 467, 15, 0, 0, 0, 0, 0, 467, []),
  (15, .iload_n 3, 16, 3, 0, 0, 0, 0, 0, []),
  (16, .imul, 17, 0, 0, 0, 0, 0, 0, []),
  (17, .iload 4, 19, 4, 0, 0, 0, 0, 0, []),
  (19, .iadd, 20, 0, 0, 0, 0, 0, 0, []),
  (20, .aload_n 0, 21, 0, 0, 0, 0, 0, 0, []),
  (21, .sipush 467, 24, 0, 0, 0, 0, 0, 467, []),
  (24, .iload_n 1, 25, 1, 0, 0, 0, 0, 0, []),
  (25, .imul, 26, 0, 0, 0, 0, 0, 0, []),
  (26, .iload 4, 28, 4, 0, 0, 0, 0, 0, []),
  (28, .iadd, 29, 0, 0, 0, 0, 0, 0, []),
  (29, .iaload, 30, 8, 0, 0, 0, 0, 0, []),
  (30, .iastore, 31, 8, 0, 0, 0, 0, 0, []),
  (31, .iinc 4 1, 34, 4, 0, 0, 0, 0, 1, []),
  (34, .goto (-31), 37, 3, 0, 0, 0, 0, 0, []),
  (37, .return_, 38, 0, 0, 0, 0, 0, 0, [])]
def tbX7_begins : List iE := [(0, .iconst 0, 1, 0, 0, 0, 0, 0, 0, []),
  (1, .istore_n 3, 2, 3, 0, 0, 0, 0, 0, []),
  (2, .iload_n 3, 3, 3, 0, 0, 0, 0, 0, []),
  (3, .sipush 467, 6, 0, 0, 0, 0, 0, 467, []),
  (6, .if_icmp .ge 13, 9, 19, 0, 0, 0, 0, 0, []),
  (9, .aload_n 0, 10, 0, 0, 0, 0, 0, 0, []),
  (10, .iload_n 3, 11, 3, 0, 0, 0, 0, 0, []),
  (11, .iconst 0, 12, 0, 0, 0, 0, 0, 0, []),
  (12, .iastore, 13, 8, 0, 0, 0, 0, 0, []),
  (13, .iinc 3 1, 16, 3, 0, 0, 0, 0, 1, []),
  (16, .goto (-14), 19, 2, 0, 0, 0, 0, 0, []),
  (19, .aload_n 0, 20, 0, 0, 0, 0, 0, 0, []),
  (20, .iconst 1, 21, 0, 0, 0, 0, 0, 1, []),
  (21, .iload_n 1, 22, 1, 0, 0, 0, 0, 0, []),
  (22, .iastore, 23, 8, 0, 0, 0, 0, 0, []),
  (23, .aload_n 0, 24, 0, 0, 0, 0, 0, 0, []),
  (24, .iconst 2, 25, 0, 0, 0, 0, 0, 2, []),
  (25, .iload_n 2, 26, 2, 0, 0, 0, 0, 0, []),
  (26, .iastore, 27, 8, 0, 0, 0, 0, 0, []),
  (27, .aload_n 0, 28, 0, 0, 0, 0, 0, 0, []),
  (28, .iconst 5, 29, 0, 0, 0, 0, 0, 5, []),
  (29, .bipush 20, 31, 0, 0, 0, 0, 0, 20, []),
  (31, .iastore, 32, 8, 0, 0, 0, 0, 0, []),
  (32, .aload_n 0, 33, 0, 0, 0, 0, 0, 0, []),
  (33, .bipush 6, 35, 0, 0, 0, 0, 0, 6, []),
  (35, .bipush 20, 37, 0, 0, 0, 0, 0, 20, []),
  (37, .iastore, 38, 8, 0, 0, 0, 0, 0, []),
  (38, .aload_n 0, 39, 0, 0, 0, 0, 0, 0, []),
  (39, .bipush 7, 41, 0, 0, 0, 0, 0, 7, []),
  (41, .bipush 100, 43, 0, 0, 0, 0, 0, 100, []),
  (43, .iastore, 44, 8, 0, 0, 0, 0, 0, []),
  (44, .iconst 0, 45, 0, 0, 0, 0, 0, 0, []),
  (45, .istore_n 3, 46, 3, 0, 0, 0, 0, 0, []),
  (46, .iload_n 3, 47, 3, 0, 0, 0, 0, 0, []),
  (47, .bipush 6, 49, 0, 0, 0, 0, 0, 6, []),
  (49, .if_icmp .ge 33, 52, 82, 0, 0, 0, 0, 0, []),
  (52, .aload_n 0, 53, 0, 0, 0, 0, 0, 0, []),
  (53, .bipush 11, 55, 0, 0, 0, 0, 0, 11, []),
  (55, .bipush 7, 57, 0, 0, 0, 0, 0, 7, []),
  (57, .iload_n 3, 58, 3, 0, 0, 0, 0, 0, []),
  (58, .imul, 59, 0, 0, 0, 0, 0, 0, []),
  (59, .iadd, 60, 0, 0, 0, 0, 0, 0, []),
  (60, .iconst 0, 61, 0, 0, 0, 0, 0, 0, []),
  (61, .iadd, 62, 0, 0, 0, 0, 0, 0, []),
  (62, .iconst (-1), 63, 0, 0, 0, 0, 0, -1, []),
  (63, .iastore, 64, 8, 0, 0, 0, 0, 0, []),
  (64, .aload_n 0, 65, 0, 0, 0, 0, 0, 0, []),
  (65, .bipush 11, 67, 0, 0, 0, 0, 0, 11, []),
  (67, .bipush 7, 69, 0, 0, 0, 0, 0, 7, []),
  (69, .iload_n 3, 70, 3, 0, 0, 0, 0, 0, []),
  (70, .imul, 71, 0, 0, 0, 0, 0, 0, []),
  (71, .iadd, 72, 0, 0, 0, 0, 0, 0, []),
  (72, .iconst 1, 73, 0, 0, 0, 0, 0, 1, []),
  (73, .iadd, 74, 0, 0, 0, 0, 0, 0, []),
  (74, .iconst (-1), 75, 0, 0, 0, 0, 0, -1, []),
  (75, .iastore, 76, 8, 0, 0, 0, 0, 0, []),
  (76, .iinc 3 1, 79, 3, 0, 0, 0, 0, 1, []),
  (79, .goto (-33), 82, 46, 0, 0, 0, 0, 0, []),
  (82, .return_, 83, 0, 0, 0, 0, 0, 0, [])]
def tbX7_station : List iE := [(0, .aload_n 0, 1, 0, 0, 0, 0, 0, 0, []),
  (1, .getfield 9, 4, 7, 0, 1, 8, 250, 0, []),
  (4, .bipush 11, 6, 0, 0, 0, 0, 0, 11, []),
  (6, .bipush 7, 8, 0, 0, 0, 0, 0, 7, []),
  (8, .iload_n 1, 9, 1, 0, 0, 0, 0, 0, []),
  (9, .imul, 10, 0, 0, 0, 0, 0, 0, []),
  (10, .iadd, 11, 0, 0, 0, 0, 0, 0, []),
  (11, .iload_n 2, 12, 2, 0, 0, 0, 0, 0, []),
  (12, .iadd, 13, 0, 0, 0, 0, 0, 0, []),
  (13, .iaload, 14, 8, 0, 0, 0, 0, 0, []),
  (14, .ireturn, 15, 0, 0, 0, 0, 0, 0, [])]
def tbX7_setsStation : List iE := [(0, .aload_n 0, 1, 0, 0, 0, 0, 0, 0, []),
  (1, .getfield 9, 4, 7, 0, 1, 8, 250, 0, []),
  (4, .bipush 11, 6, 0, 0, 0, 0, 0, 11, []),
  (6, .bipush 7, 8, 0, 0, 0, 0, 0, 7, []),
  (8, .iload_n 1, 9, 1, 0, 0, 0, 0, 0, []),
  (9, .imul, 10, 0, 0, 0, 0, 0, 0, []),
  (10, .iadd, 11, 0, 0, 0, 0, 0, 0, []),
  (11, .iload_n 2, 12, 2, 0, 0, 0, 0, 0, []),
  (12, .iadd, 13, 0, 0, 0, 0, 0, 0, []),
  (13, .iload_n 3, 14, 3, 0, 0, 0, 0, 0, []),
  (14, .iastore, 15, 8, 0, 0, 0, 0, 0, []),
  (15, .return_, 16, 0, 0, 0, 0, 0, 0, [])]
def tbX7_order : List iE := [(0, .aload_n 0, 1, 0, 0, 0, 0, 0, 0, []),
  (1, .getfield 9, 4, 7, 0, 1, 8, 250, 0, []),
  (4, .sipush 131, 7, 0, 0, 0, 0, 0, 131, []),
  (7, .bipush 14, 9, 0, 0, 0, 0, 0, 14, []),
  (9, .iload_n 1, 10, 1, 0, 0, 0, 0, 0, []),
  (10, .imul, 11, 0, 0, 0, 0, 0, 0, []),
  (11, .iadd, 12, 0, 0, 0, 0, 0, 0, []),
  (12, .iload_n 2, 13, 2, 0, 0, 0, 0, 0, []),
  (13, .iadd, 14, 0, 0, 0, 0, 0, 0, []),
  (14, .iaload, 15, 8, 0, 0, 0, 0, 0, []),
  (15, .ireturn, 16, 0, 0, 0, 0, 0, 0, [])]
def tbX7_setsOrder : List iE := [(0, .aload_n 0, 1, 0, 0, 0, 0, 0, 0, []),
  (1, .getfield 9, 4, 7, 0, 1, 8, 250, 0, []),
  (4, .sipush 131, 7, 0, 0, 0, 0, 0, 131, []),
  (7, .bipush 14, 9, 0, 0, 0, 0, 0, 14, []),
  (9, .iload_n 1, 10, 1, 0, 0, 0, 0, 0, []),
  (10, .imul, 11, 0, 0, 0, 0, 0, 0, []),
  (11, .iadd, 12, 0, 0, 0, 0, 0, 0, []),
  (12, .iload_n 2, 13, 2, 0, 0, 0, 0, 0, []),
  (13, .iadd, 14, 0, 0, 0, 0, 0, 0, []),
  (14, .iload_n 3, 15, 3, 0, 0, 0, 0, 0, []),
  (15, .iastore, 16, 8, 0, 0, 0, 0, 0, []),
  (16, .return_, 17, 0, 0, 0, 0, 0, 0, [])]
def tbX7_steps : List iE := [(0, .aload_n 0, 1, 0, 0, 0, 0, 0, 0, []),
  (1, .bipush 53, 3, 0, 0, 0, 0, 0, 53, []),
  (3, .bipush 13, 5, 0, 0, 0, 0, 0, 13, []),
  (5, .iload_n 1, 6, 1, 0, 0, 0, 0, 0, []),
  (6, .imul, 7, 0, 0, 0, 0, 0, 0, []),
  (7, .iadd, 8, 0, 0, 0, 0, 0, 0, []),
  (8, .iconst 0, 9, 0, 0, 0, 0, 0, 0, []),
  (9, .iadd, 10, 0, 0, 0, 0, 0, 0, []),
  (10, .iaload, 11, 8, 0, 0, 0, 0, 0, []),
  (11, .ireturn, 12, 0, 0, 0, 0, 0, 0, [])]
def tbX7_stepStation : List iE := [(0, .aload_n 0, 1, 0, 0, 0, 0, 0, 0, []),
  (1, .bipush 53, 3, 0, 0, 0, 0, 0, 53, []),
  (3, .bipush 13, 5, 0, 0, 0, 0, 0, 13, []),
  (5, .iload_n 1, 6, 1, 0, 0, 0, 0, 0, []),
  (6, .imul, 7, 0, 0, 0, 0, 0, 0, []),
  (7, .iadd, 8, 0, 0, 0, 0, 0, 0, []),
  (8, .iconst 1, 9, 0, 0, 0, 0, 0, 1, []),
  (9, .iadd, 10, 0, 0, 0, 0, 0, 0, []),
  (10, .iconst 2, 11, 0, 0, 0, 0, 0, 2, []),
  (11, .iload_n 2, 12, 2, 0, 0, 0, 0, 0, []),
  (12, .imul, 13, 0, 0, 0, 0, 0, 0, []),
  (13, .iadd, 14, 0, 0, 0, 0, 0, 0, []),
  (14, .iaload, 15, 8, 0, 0, 0, 0, 0, []),
  (15, .ireturn, 16, 0, 0, 0, 0, 0, 0, [])]
def tbX7_stepTime : List iE := [(0, .aload_n 0, 1, 0, 0, 0, 0, 0, 0, []),
  (1, .bipush 53, 3, 0, 0, 0, 0, 0, 53, []),
  (3, .bipush 13, 5, 0, 0, 0, 0, 0, 13, []),
  (5, .iload_n 1, 6, 1, 0, 0, 0, 0, 0, []),
  (6, .imul, 7, 0, 0, 0, 0, 0, 0, []),
  (7, .iadd, 8, 0, 0, 0, 0, 0, 0, []),
  (8, .iconst 1, 9, 0, 0, 0, 0, 0, 1, []),
  (9, .iadd, 10, 0, 0, 0, 0, 0, 0, []),
  (10, .iconst 2, 11, 0, 0, 0, 0, 0, 2, []),
  (11, .iload_n 2, 12, 2, 0, 0, 0, 0, 0, []),
  (12, .imul, 13, 0, 0, 0, 0, 0, 0, []),
  (13, .iadd, 14, 0, 0, 0, 0, 0, 0, []),
  (14, .iconst 1, 15, 0, 0, 0, 0, 0, 1, []),
  (15, .iadd, 16, 0, 0, 0, 0, 0, 0, []),
  (16, .iaload, 17, 8, 0, 0, 0, 0, 0, []),
  (17, .ireturn, 18, 0, 0, 0, 0, 0, 0, [])]
def tbX7_drumStep : List iE := [(0, .iconst 0, 1, 0, 0, 0, 0, 0, 0, []),
  (1, .istore_n 2, 2, 2, 0, 0, 0, 0, 0, []),
  (2, .aload_n 0, 3, 0, 0, 0, 0, 0, 0, []),
  (3, .iload_n 1, 4, 1, 0, 0, 0, 0, 0, []),
  (4, .iload_n 2, 5, 2, 0, 0, 0, 0, 0, []),
  (5, .invokestatic 53, 8, 147, 3, 7, 0, 251, 0, []),
  (8, .aload_n 0, 9, 0, 0, 0, 0, 0, 0, []),
  (9, .iconst 2, 10, 0, 0, 0, 0, 0, 2, []),
  (10, .iaload, 11, 8, 0, 0, 0, 0, 0, []),
  (11, .if_icmp .eq 9, 14, 20, 0, 0, 0, 0, 0, []),
  (14, .iinc 2 1, 17, 2, 0, 0, 0, 0, 1, []),
  (17, .goto (-15), 20, 2, 0, 0, 0, 0, 0, []),
  (20, .iload_n 2, 21, 2, 0, 0, 0, 0, 0, []),
  (21, .ireturn, 22, 0, 0, 0, 0, 0, 0, [])]
def tbX7_drumTicks : List iE := [(0, .aload_n 0, 1, 0, 0, 0, 0, 0, 0, []),
  (1, .iload_n 1, 2, 1, 0, 0, 0, 0, 0, []),
  (2, .aload_n 0, 3, 0, 0, 0, 0, 0, 0, []),
  (3, .iload_n 1, 4, 1, 0, 0, 0, 0, 0, []),
  (4, .invokestatic 57, 7, 149, 2, 7, 0, 252, 0, []),
  (7, .invokestatic 61, 10, 148, 3, 7, 0, 253, 0, []),
  (10, .iload_n 2, 11, 2, 0, 0, 0, 0, 0, []),
  (11, .imul, 12, 0, 0, 0, 0, 0, 0, []),
  (12, .ireturn, 13, 0, 0, 0, 0, 0, 0, [])]
def tbX7_laysOrder : List iE := [(0, .sipush 131, 3, 0, 0, 0, 0, 0, 131, []),
  (3, .bipush 14, 5, 0, 0, 0, 0, 0, 14, []),
  (5, .aload_n 0, 6, 0, 0, 0, 0, 0, 0, []),
  (6, .iconst 4, 7, 0, 0, 0, 0, 0, 4, []),
  (7, .iaload, 8, 8, 0, 0, 0, 0, 0, []),
  (8, .imul, 9, 0, 0, 0, 0, 0, 0, []),
  (9, .iadd, 10, 0, 0, 0, 0, 0, 0, []),
  (10, .istore 4, 12, 4, 0, 0, 0, 0, 0, []),
  (12, .iconst 0, 13, 0, 0, 0, 0, 0, 0, []),
  (13, .istore 5, 15, 5, 0, 0, 0, 0, 0, []),
  (15, .iload 5, 17, 5, 0, 0, 0, 0, 0, []),
  (17, .bipush 14, 19, 0, 0, 0, 0, 0, 14, []),
  (19, .if_icmp .ge 17, 22, 36, 0, 0, 0, 0, 0, []),
  (22, .aload_n 0, 23, 0, 0, 0, 0, 0, 0, []),
  (23, .iload 4, 25, 4, 0, 0, 0, 0, 0, []),
  (25, .iload 5, 27, 5, 0, 0, 0, 0, 0, []),
  (27, .iadd, 28, 0, 0, 0, 0, 0, 0, []),
  (28, .iconst 0, 29, 0, 0, 0, 0, 0, 0, []),
  (29, .iastore, 30, 8, 0, 0, 0, 0, 0, []),
  (30, .iinc 5 1, 33, 5, 0, 0, 0, 0, 1, []),
  (33, .goto (-18), 36, 15, 0, 0, 0, 0, 0, []),
  (36, .aload_n 0, 37, 0, 0, 0, 0, 0, 0, []),
  (37, .iload 4, 39, 4, 0, 0, 0, 0, 0, []),
  (39, .iconst 0, 40, 0, 0, 0, 0, 0, 0, []),
  (40, .iadd, 41, 0, 0, 0, 0, 0, 0, []),
  (41, .iload_n 1, 42, 1, 0, 0, 0, 0, 0, []),
  (42, .iastore, 43, 8, 0, 0, 0, 0, 0, []),
  (43, .aload_n 0, 44, 0, 0, 0, 0, 0, 0, []),
  (44, .iload 4, 46, 4, 0, 0, 0, 0, 0, []),
  (46, .iconst 1, 47, 0, 0, 0, 0, 0, 1, []),
  (47, .iadd, 48, 0, 0, 0, 0, 0, 0, []),
  (48, .iload_n 2, 49, 2, 0, 0, 0, 0, 0, []),
  (49, .iastore, 50, 8, 0, 0, 0, 0, 0, []),
  (50, .aload_n 0, 51, 0, 0, 0, 0, 0, 0, []),
  (51, .iload 4, 53, 4, 0, 0, 0, 0, 0, []),
  (53, .iconst 2, 54, 0, 0, 0, 0, 0, 2, []),
  (54, .iadd, 55, 0, 0, 0, 0, 0, 0, []),
  (55, .iload_n 3, 56, 3, 0, 0, 0, 0, 0, []),
  (56, .iastore, 57, 8, 0, 0, 0, 0, 0, []),
  (57, .aload_n 0, 58, 0, 0, 0, 0, 0, 0, []),
  (58, .iload 4, 60, 4, 0, 0, 0, 0, 0, []),
  (60, .iconst 4, 61, 0, 0, 0, 0, 0, 4, []),
  (61, .iadd, 62, 0, 0, 0, 0, 0, 0, []),
  (62, .iconst (-1), 63, 0, 0, 0, 0, 0, -1, []),
  (63, .iastore, 64, 8, 0, 0, 0, 0, 0, []),
  (64, .aload_n 0, 65, 0, 0, 0, 0, 0, 0, []),
  (65, .iload 4, 67, 4, 0, 0, 0, 0, 0, []),
  (67, .bipush 8, 69, 0, 0, 0, 0, 0, 8, []),
  (69, .iadd, 70, 0, 0, 0, 0, 0, 0, []),
  (70, .iconst (-1), 71, 0, 0, 0, 0, 0, -1, []),
  (71, .iastore, 72, 8, 0, 0, 0, 0, 0, []),
  (72, .aload_n 0, 73, 0, 0, 0, 0, 0, 0, []),
  (73, .iload 4, 75, 4, 0, 0, 0, 0, 0, []),
  (75, .bipush 11, 77, 0, 0, 0, 0, 0, 11, []),
  (77, .iadd, 78, 0, 0, 0, 0, 0, 0, []),
  (78, .iconst (-1), 79, 0, 0, 0, 0, 0, -1, []),
  (79, .iastore, 80, 8, 0, 0, 0, 0, 0, []),
  (80, .aload_n 0, 81, 0, 0, 0, 0, 0, 0, []),
  (81, .iload 4, 83, 4, 0, 0, 0, 0, 0, []),
  (83, .bipush 13, 85, 0, 0, 0, 0, 0, 13, []),
  (85, .iadd, 86, 0, 0, 0, 0, 0, 0, []),
  (86, .iconst (-1), 87, 0, 0, 0, 0, 0, -1, []),
  (87, .iastore, 88, 8, 0, 0, 0, 0, 0, []),
  (88, .aload_n 0, 89, 0, 0, 0, 0, 0, 0, []),
  (89, .iconst 4, 90, 0, 0, 0, 0, 0, 4, []),
  (90, .dup2, 91, 0, 0, 0, 0, 0, 0, []),
  (91, .iaload, 92, 8, 0, 0, 0, 0, 0, []),
  (92, .iconst 1, 93, 0, 0, 0, 0, 0, 1, []),
  (93, .iadd, 94, 0, 0, 0, 0, 0, 0, []),
  (94, .iastore, 95, 8, 0, 0, 0, 0, 0, []),
  (95, .return_, 96, 0, 0, 0, 0, 0, 0, [])]
def tbX7_isThrown : List iE := [(0, .aload_n 0, 1, 0, 0, 0, 0, 0, 0, []),
  (1, .iload_n 1, 2, 1, 0, 0, 0, 0, 0, []),
  (2, .ifCond .eq 7, 5, 9, 0, 0, 0, 0, 0, []),
  (5, .iconst 0, 6, 0, 0, 0, 0, 0, 0, []),
  (6, .goto 4, 9, 10, 0, 0, 0, 0, 0, []),
  (9, .iload_n 2, 10, 2, 0, 0, 0, 0, 0, []),
  (10, .putfield 50, 13, 7, 5, 0, 0, 249, 0, []),
  (13, .iload_n 1, 14, 1, 0, 0, 0, 0, 0, []),
  (14, .ifCond .ne 7, 17, 21, 0, 0, 0, 0, 0, []),
  (17, .iconst 1, 18, 0, 0, 0, 0, 0, 1, []),
  (18, .goto 4, 21, 22, 0, 0, 0, 0, 0, []),
  (21, .iconst 0, 22, 0, 0, 0, 0, 0, 0, []),
  (22, .ireturn, 23, 0, 0, 1, 0, 0, 0, [])]
def tbX7_isOrder : List iE := [(0, .iload_n 1, 1, 1, 0, 0, 0, 0, 0, []),
  (1, .iconst 0, 2, 0, 0, 0, 0, 0, 0, []),
  (2, .aload_n 0, 3, 0, 0, 0, 0, 0, 0, []),
  (3, .getfield 9, 6, 7, 0, 1, 8, 250, 0, []),
  (6, .iconst 4, 7, 0, 0, 0, 0, 0, 4, []),
  (7, .iaload, 8, 8, 0, 0, 0, 0, 0, []),
  (8, .iconst 1, 9, 0, 0, 0, 0, 0, 1, []),
  (9, .isub, 10, 0, 0, 0, 0, 0, 0, []),
  (10, .invokestatic 64, 13, 139, 3, 7, 0, 254, 0, []),
  (13, .ireturn, 14, 0, 0, 1, 0, 0, 0, [])]
def tbX7_isProduct : List iE := [(0, .iload_n 1, 1, 1, 0, 0, 0, 0, 0, []),
  (1, .iconst 0, 2, 0, 0, 0, 0, 0, 0, []),
  (2, .aload_n 0, 3, 0, 0, 0, 0, 0, 0, []),
  (3, .getfield 9, 6, 7, 0, 1, 8, 250, 0, []),
  (6, .iconst 3, 7, 0, 0, 0, 0, 0, 3, []),
  (7, .iaload, 8, 8, 0, 0, 0, 0, 0, []),
  (8, .iconst 1, 9, 0, 0, 0, 0, 0, 1, []),
  (9, .isub, 10, 0, 0, 0, 0, 0, 0, []),
  (10, .invokestatic 64, 13, 139, 3, 7, 0, 254, 0, []),
  (13, .ireturn, 14, 0, 0, 1, 0, 0, 0, [])]
def tbX7_isStation : List iE := [(0, .iload_n 1, 1, 1, 0, 0, 0, 0, 0, []),
  (1, .iconst 0, 2, 0, 0, 0, 0, 0, 0, []),
  (2, .aload_n 0, 3, 0, 0, 0, 0, 0, 0, []),
  (3, .getfield 9, 6, 7, 0, 1, 8, 250, 0, []),
  (6, .iconst 1, 7, 0, 0, 0, 0, 0, 1, []),
  (7, .iaload, 8, 8, 0, 0, 0, 0, 0, []),
  (8, .iconst 1, 9, 0, 0, 0, 0, 0, 1, []),
  (9, .isub, 10, 0, 0, 0, 0, 0, 0, []),
  (10, .invokestatic 64, 13, 139, 3, 7, 0, 254, 0, []),
  (13, .ireturn, 14, 0, 0, 1, 0, 0, 0, [])]
def tbX7_appendByte : List iE := [(0, .aload_n 0, 1, 0, 0, 0, 0, 0, 0, []),
  (1, .iload_n 1, 2, 1, 0, 0, 0, 0, 0, []),
  (2, .iconst 0, 3, 0, 0, 0, 0, 0, 0, []),
  (3, .sipush 255, 6, 0, 0, 0, 0, 0, 255, []),
  (6, .invokestatic 64, 9, 139, 3, 7, 0, 254, 0, []),
  (9, .iconst 1, 10, 0, 0, 0, 0, 0, 1, []),
  (10, .invokevirtual 68, 13, 152, 3, 7, 0, 255, 0, []),
  (13, .ifCond .eq 5, 16, 18, 0, 0, 0, 0, 0, []),
  (16, .iconst 0, 17, 0, 0, 0, 0, 0, 0, []),
  (17, .ireturn, 18, 0, 0, 0, 0, 0, 0, []),
  (18, .aload_n 0, 19, 0, 0, 0, 0, 0, 0, []),
  (19, .getfield 72, 22, 7, 7, 0, 0, 256, 0, []),
  (22, .sipush 700, 25, 0, 0, 0, 0, 0, 700, []),
  (25, .if_icmp .ne 6, 28, 31, 0, 0, 0, 0, 0, []),
  (28, .bipush (-2), 30, 0, 0, 0, 0, 0, -2, []),
  (30, .ireturn, 31, 0, 0, 0, 0, 0, 0, []),
  (31, .aload_n 0, 32, 0, 0, 0, 0, 0, 0, []),
  (32, .getfield 26, 35, 7, 6, 1, 9, 257, 0, []),
  (35, .aload_n 0, 36, 0, 0, 0, 0, 0, 0, []),
  (36, .getfield 72, 39, 7, 7, 0, 0, 256, 0, []),
  (39, .iload_n 1, 40, 1, 0, 0, 0, 0, 0, []),
  (40, .i2b, 41, 0, 0, 0, 0, 0, 0, []),
  (41, .bastore, 42, 9, 0, 0, 0, 0, 0, []),
  (42, .aload_n 0, 43, 0, 0, 0, 0, 0, 0, []),
  (43, .dup, 44, 0, 0, 0, 0, 0, 0, []),
  (44, .getfield 72, 47, 7, 7, 0, 0, 256, 0, []),
  (47, .iconst 1, 48, 0, 0, 0, 0, 0, 1, []),
  (48, .iadd, 49, 0, 0, 0, 0, 0, 0, []),
  (49, .putfield 72, 52, 7, 7, 0, 0, 256, 0, []),
  (52, .aload_n 0, 53, 0, 0, 0, 0, 0, 0, []),
  (53, .getfield 72, 56, 7, 7, 0, 0, 256, 0, []),
  (56, .ireturn, 57, 0, 0, 0, 0, 0, 0, [])]
def tbX7_here : List iE := [(0, .aload_n 0, 1, 0, 0, 0, 0, 0, 0, []),
  (1, .getfield 75, 4, 7, 8, 0, 0, 258, 0, []),
  (4, .aload_n 0, 5, 0, 0, 0, 0, 0, 0, []),
  (5, .getfield 72, 8, 7, 7, 0, 0, 256, 0, []),
  (8, .if_icmp .ge 19, 11, 27, 0, 0, 0, 0, 0, []),
  (11, .aload_n 0, 12, 0, 0, 0, 0, 0, 0, []),
  (12, .getfield 26, 15, 7, 6, 1, 9, 257, 0, []),
  (15, .aload_n 0, 16, 0, 0, 0, 0, 0, 0, []),
  (16, .getfield 75, 19, 7, 8, 0, 0, 258, 0, []),
  (19, .baload, 20, 9, 0, 0, 0, 0, 0, []),
  (20, .sipush 255, 23, 0, 0, 0, 0, 0, 255, []),
  (23, .iand, 24, 0, 0, 0, 0, 0, 0, []),
  (24, .goto 4, 27, 28, 0, 0, 0, 0, 0, []),
  (27, .iconst (-1), 28, 0, 0, 0, 0, 0, -1, []),
  (28, .ireturn, 29, 0, 0, 0, 0, 0, 0, [])]
def tbX7_next : List iE := [(0, .aload_n 0, 1, 0, 0, 0, 0, 0, 0, []),
  (1, .invokevirtual 78, 4, 157, 1, 7, 0, 259, 0, []),
  (4, .bipush 32, 6, 0, 0, 0, 0, 0, 32, []),
  (6, .if_icmp .ne 16, 9, 22, 0, 0, 0, 0, 0, []),
  (9, .aload_n 0, 10, 0, 0, 0, 0, 0, 0, []),
  (10, .dup, 11, 0, 0, 0, 0, 0, 0, []),
  (11, .getfield 75, 14, 7, 8, 0, 0, 258, 0, []),
  (14, .iconst 1, 15, 0, 0, 0, 0, 0, 1, []),
  (15, .iadd, 16, 0, 0, 0, 0, 0, 0, []),
  (16, .putfield 75, 19, 7, 8, 0, 0, 258, 0, []),
  (19, .goto (-19), 22, 0, 0, 0, 0, 0, 0, []),
  (22, .aload_n 0, 23, 0, 0, 0, 0, 0, 0, []),
  (23, .aload_n 0, 24, 0, 0, 0, 0, 0, 0, []),
  (24, .getfield 75, 27, 7, 8, 0, 0, 258, 0, []),
  (27, .putfield 82, 30, 7, 9, 0, 0, 260, 0, []),
  (30, .aload_n 0, 31, 0, 0, 0, 0, 0, 0, []),
  (31, .invokevirtual 78, 34, 157, 1, 7, 0, 259, 0, []),
  (34, .ireturn, 35, 0, 0, 0, 0, 0, 0, [])]
def tbX7_fails : List iE := [(0, .aload_n 0, 1, 0, 0, 0, 0, 0, 0, []),
  (1, .getfield 85, 4, 7, 10, 0, 0, 261, 0, []),
  (4, .ifCond .ne 13, 7, 17, 0, 0, 0, 0, 0, []),
  (7, .aload_n 0, 8, 0, 0, 0, 0, 0, 0, []),
  (8, .iload_n 1, 9, 1, 0, 0, 0, 0, 0, []),
  (9, .putfield 85, 12, 7, 10, 0, 0, 261, 0, []),
  (12, .aload_n 0, 13, 0, 0, 0, 0, 0, 0, []),
  (13, .iload_n 2, 14, 2, 0, 0, 0, 0, 0, []),
  (14, .putfield 88, 17, 7, 11, 0, 0, 262, 0, []),
  (17, .return_, 18, 0, 0, 0, 0, 0, 0, [])]
def tbX7_reads : List iE := [(0, .aload_n 0, 1, 0, 0, 0, 0, 0, 0, []),
  (1, .invokevirtual 91, 4, 158, 1, 7, 0, 263, 0, []),
  (4, .pop, 5, 0, 0, 0, 0, 0, 0, []),
  (5, .aload_n 0, 6, 0, 0, 0, 0, 0, 0, []),
  (6, .invokevirtual 78, 9, 157, 1, 7, 0, 259, 0, []),
  (9, .bipush 97, 11, 0, 0, 0, 0, 0, 97, []),
  (11, .bipush 122, 13, 0, 0, 0, 0, 0, 122, []),
  (13, .invokestatic 64, 16, 139, 3, 7, 0, 254, 0, []),
  (16, .ifCond .eq 16, 19, 32, 0, 0, 0, 0, 0, []),
  (19, .aload_n 0, 20, 0, 0, 0, 0, 0, 0, []),
  (20, .dup, 21, 0, 0, 0, 0, 0, 0, []),
  (21, .getfield 75, 24, 7, 8, 0, 0, 258, 0, []),
  (24, .iconst 1, 25, 0, 0, 0, 0, 0, 1, []),
  (25, .iadd, 26, 0, 0, 0, 0, 0, 0, []),
  (26, .putfield 75, 29, 7, 8, 0, 0, 258, 0, []),
  (29, .goto (-24), 32, 5, 0, 0, 0, 0, 0, []),
  (32, .return_, 33, 0, 0, 0, 0, 0, 0, [])]
def tbX7_isWord : List iE := [(0, .aload_n 0, 1, 0, 0, 0, 0, 0, 0, []),
  (1, .getfield 75, 4, 7, 8, 0, 0, 258, 0, []),
  (4, .aload_n 0, 5, 0, 0, 0, 0, 0, 0, []),
  (5, .getfield 82, 8, 7, 9, 0, 0, 260, 0, []),
  (8, .isub, 9, 0, 0, 0, 0, 0, 0, []),
  (9, .aload_n 1, 10, 1, 0, 0, 0, 0, 0, []),
  (10, .invokevirtual 94, 13, 0, 0, 0, 1, 264, 0, []),
  (13, .if_icmp .ne 7, 16, 20, 0, 0, 0, 0, 0, []),
  (16, .iconst 1, 17, 0, 0, 0, 0, 0, 1, []),
  (17, .goto 4, 20, 21, 0, 0, 0, 0, 0, []),
  (20, .iconst 0, 21, 0, 0, 0, 0, 0, 0, []),
  (21, .istore_n 2, 22, 2, 0, 0, 0, 0, 0, []),
  (22, .iconst 0, 23, 0, 0, 0, 0, 0, 0, []),
  (23, .istore_n 3, 24, 3, 0, 0, 0, 0, 0, []),
  (24, .iload_n 2, 25, 2, 0, 0, 0, 0, 0, []),
  (25, .ifCond .eq 42, 28, 67, 0, 0, 0, 0, 0, []),
  (28, .iload_n 3, 29, 3, 0, 0, 0, 0, 0, []),
  (29, .aload_n 1, 30, 1, 0, 0, 0, 0, 0, []),
  (30, .invokevirtual 94, 33, 0, 0, 0, 1, 264, 0, []),
  (33, .if_icmp .ge 34, 36, 67, 0, 0, 0, 0, 0, []),
  (36, .aload_n 0, 37, 0, 0, 0, 0, 0, 0, []),
  (37, .getfield 26, 40, 7, 6, 1, 9, 257, 0, []),
  (40, .aload_n 0, 41, 0, 0, 0, 0, 0, 0, []),
  (41, .getfield 82, 44, 7, 9, 0, 0, 260, 0, []),
  (44, .iload_n 3, 45, 3, 0, 0, 0, 0, 0, []),
  (45, .iadd, 46, 0, 0, 0, 0, 0, 0, []),
  (46, .baload, 47, 9, 0, 0, 0, 0, 0, []),
  (47, .aload_n 1, 48, 1, 0, 0, 0, 0, 0, []),
  (48, .iload_n 3, 49, 3, 0, 0, 0, 0, 0, []),
  (49, .invokevirtual 98, 52, 0, 0, 0, 2, 265, 0, []),
  (52, .if_icmp .ne 7, 55, 59, 0, 0, 0, 0, 0, []),
  (55, .iconst 1, 56, 0, 0, 0, 0, 0, 1, []),
  (56, .goto 4, 59, 60, 0, 0, 0, 0, 0, []),
  (59, .iconst 0, 60, 0, 0, 0, 0, 0, 0, []),
  (60, .istore_n 2, 61, 2, 0, 0, 0, 0, 0, []),
  (61, .iinc 3 1, 64, 3, 0, 0, 0, 0, 1, []),
  (64, .goto (-40), 67, 24, 0, 0, 0, 0, 0, []),
  (67, .iload_n 2, 68, 2, 0, 0, 0, 0, 0, []),
  (68, .ireturn, 69, 0, 0, 1, 0, 0, 0, [])]
def tbX7_number : List iE := [(0, .aload_n 0, 1, 0, 0, 0, 0, 0, 0, []),
  (1, .getfield 85, 4, 7, 10, 0, 0, 261, 0, []),
  (4, .ifCond .eq 5, 7, 9, 0, 0, 0, 0, 0, []),
  (7, .iload_n 1, 8, 1, 0, 0, 0, 0, 0, []),
  (8, .ireturn, 9, 0, 0, 0, 0, 0, 0, []),
  (9, .aload_n 0, 10, 0, 0, 0, 0, 0, 0, []),
  (10, .invokevirtual 91, 13, 158, 1, 7, 0, 263, 0, []),
  (13, .bipush 48, 15, 0, 0, 0, 0, 0, 48, []),
  (15, .bipush 57, 17, 0, 0, 0, 0, 0, 57, []),
  (17, .invokestatic 64, 20, 139, 3, 7, 0, 254, 0, []),
  (20, .ifCond .ne 14, 23, 34, 0, 0, 0, 0, 0, []),
  (23, .aload_n 0, 24, 0, 0, 0, 0, 0, 0, []),
  (24, .iconst 1, 25, 0, 0, 0, 0, 0, 1, []),
  (25, .aload_n 0, 26, 0, 0, 0, 0, 0, 0, []),
  (26, .getfield 75, 29, 7, 8, 0, 0, 258, 0, []),
  (29, .invokevirtual 102, 32, 159, 3, 7, 0, 266, 0, []),
  (32, .iload_n 1, 33, 1, 0, 0, 0, 0, 0, []),
  (33, .ireturn, 34, 0, 0, 0, 0, 0, 0, []),
  (34, .iconst 0, 35, 0, 0, 0, 0, 0, 0, []),
  (35, .istore_n 3, 36, 3, 0, 0, 0, 0, 0, []),
  (36, .aload_n 0, 37, 0, 0, 0, 0, 0, 0, []),
  (37, .invokevirtual 78, 40, 157, 1, 7, 0, 259, 0, []),
  (40, .bipush 48, 42, 0, 0, 0, 0, 0, 48, []),
  (42, .bipush 57, 44, 0, 0, 0, 0, 0, 57, []),
  (44, .invokestatic 64, 47, 139, 3, 7, 0, 254, 0, []),
  (47, .ifCond .eq 34, 50, 81, 0, 0, 0, 0, 0, []),
  (50, .ldc 106, 52, 0, 0, 0, 0, 267, 10000000, []),
  (52, .bipush 10, 54, 0, 0, 0, 0, 0, 10, []),
  (54, .iload_n 3, 55, 3, 0, 0, 0, 0, 0, []),
  (55, .imul, 56, 0, 0, 0, 0, 0, 0, []),
  (56, .aload_n 0, 57, 0, 0, 0, 0, 0, 0, []),
  (57, .invokevirtual 78, 60, 157, 1, 7, 0, 259, 0, []),
  (60, .iadd, 61, 0, 0, 0, 0, 0, 0, []),
  (61, .bipush 48, 63, 0, 0, 0, 0, 0, 48, []),
  (63, .isub, 64, 0, 0, 0, 0, 0, 0, []),
  (64, .invokestatic 107, 67, 0, 0, 0, 2, 268, 0, []),
  (67, .istore_n 3, 68, 3, 0, 0, 0, 0, 0, []),
  (68, .aload_n 0, 69, 0, 0, 0, 0, 0, 0, []),
  (69, .dup, 70, 0, 0, 0, 0, 0, 0, []),
  (70, .getfield 75, 73, 7, 8, 0, 0, 258, 0, []),
  (73, .iconst 1, 74, 0, 0, 0, 0, 0, 1, []),
  (74, .iadd, 75, 0, 0, 0, 0, 0, 0, []),
  (75, .putfield 75, 78, 7, 8, 0, 0, 258, 0, []),
  (78, .goto (-42), 81, 36, 0, 0, 0, 0, 0, []),
  (81, .iload_n 3, 82, 3, 0, 0, 0, 0, 0, []),
  (82, .iload_n 1, 83, 1, 0, 0, 0, 0, 0, []),
  (83, .iload_n 2, 84, 2, 0, 0, 0, 0, 0, []),
  (84, .invokestatic 64, 87, 139, 3, 7, 0, 254, 0, []),
  (87, .ifCond .ne 14, 90, 101, 0, 0, 0, 0, 0, []),
  (90, .aload_n 0, 91, 0, 0, 0, 0, 0, 0, []),
  (91, .iconst 2, 92, 0, 0, 0, 0, 0, 2, []),
  (92, .aload_n 0, 93, 0, 0, 0, 0, 0, 0, []),
  (93, .getfield 82, 96, 7, 9, 0, 0, 260, 0, []),
  (96, .invokevirtual 102, 99, 159, 3, 7, 0, 266, 0, []),
  (99, .iload_n 1, 100, 1, 0, 0, 0, 0, 0, []),
  (100, .ireturn, 101, 0, 0, 0, 0, 0, 0, []),
  (101, .iload_n 3, 102, 3, 0, 0, 0, 0, 0, []),
  (102, .ireturn, 103, 0, 0, 0, 0, 0, 0, [])]
def tbX7_stepPart : List iE := [(0, .aload_n 0, 1, 0, 0, 0, 0, 0, 0, []),
  (1, .iconst 0, 2, 0, 0, 0, 0, 0, 0, []),
  (2, .aload_n 0, 3, 0, 0, 0, 0, 0, 0, []),
  (3, .getfield 13, 6, 7, 1, 1, 8, 269, 0, []),
  (6, .iconst 1, 7, 0, 0, 0, 0, 0, 1, []),
  (7, .iaload, 8, 8, 0, 0, 0, 0, 0, []),
  (8, .iconst 1, 9, 0, 0, 0, 0, 0, 1, []),
  (9, .isub, 10, 0, 0, 0, 0, 0, 0, []),
  (10, .invokevirtual 113, 13, 162, 3, 7, 0, 270, 0, []),
  (13, .istore_n 2, 14, 2, 0, 0, 0, 0, 0, []),
  (14, .aload_n 0, 15, 0, 0, 0, 0, 0, 0, []),
  (15, .getfield 82, 18, 7, 9, 0, 0, 260, 0, []),
  (18, .istore_n 3, 19, 3, 0, 0, 0, 0, 0, []),
  (19, .aload_n 0, 20, 0, 0, 0, 0, 0, 0, []),
  (20, .getfield 13, 23, 7, 1, 1, 8, 269, 0, []),
  (23, .iload_n 1, 24, 1, 0, 0, 0, 0, 0, []),
  (24, .invokestatic 116, 27, 146, 2, 7, 0, 271, 0, []),
  (27, .istore 4, 29, 4, 0, 0, 0, 0, 0, []),
  (29, .iconst 0, 30, 0, 0, 0, 0, 0, 0, []),
  (30, .istore 5, 32, 5, 0, 0, 0, 0, 0, []),
  (32, .iload 5, 34, 5, 0, 0, 0, 0, 0, []),
  (34, .iload 4, 36, 4, 0, 0, 0, 0, 0, []),
  (36, .if_icmp .ge 39, 39, 75, 0, 0, 0, 0, 0, []),
  (39, .iload_n 2, 40, 2, 0, 0, 0, 0, 0, []),
  (40, .aload_n 0, 41, 0, 0, 0, 0, 0, 0, []),
  (41, .getfield 13, 44, 7, 1, 1, 8, 269, 0, []),
  (44, .iconst 2, 45, 0, 0, 0, 0, 0, 2, []),
  (45, .iaload, 46, 8, 0, 0, 0, 0, 0, []),
  (46, .if_icmp .ne 23, 49, 69, 0, 0, 0, 0, 0, []),
  (49, .aload_n 0, 50, 0, 0, 0, 0, 0, 0, []),
  (50, .getfield 13, 53, 7, 1, 1, 8, 269, 0, []),
  (53, .iload_n 1, 54, 1, 0, 0, 0, 0, 0, []),
  (54, .iload 5, 56, 5, 0, 0, 0, 0, 0, []),
  (56, .invokestatic 53, 59, 147, 3, 7, 0, 251, 0, []),
  (59, .iload_n 2, 60, 2, 0, 0, 0, 0, 0, []),
  (60, .if_icmp .ne 9, 63, 69, 0, 0, 0, 0, 0, []),
  (63, .aload_n 0, 64, 0, 0, 0, 0, 0, 0, []),
  (64, .iconst 3, 65, 0, 0, 0, 0, 0, 3, []),
  (65, .iload_n 3, 66, 3, 0, 0, 0, 0, 0, []),
  (66, .invokevirtual 102, 69, 159, 3, 7, 0, 266, 0, []),
  (69, .iinc 5 1, 72, 5, 0, 0, 0, 0, 1, []),
  (72, .goto (-40), 75, 32, 0, 0, 0, 0, 0, []),
  (75, .iload 4, 77, 4, 0, 0, 0, 0, 0, []),
  (77, .bipush 6, 79, 0, 0, 0, 0, 0, 6, []),
  (79, .if_icmp .ne 9, 82, 88, 0, 0, 0, 0, 0, []),
  (82, .aload_n 0, 83, 0, 0, 0, 0, 0, 0, []),
  (83, .iconst 4, 84, 0, 0, 0, 0, 0, 4, []),
  (84, .iload_n 3, 85, 3, 0, 0, 0, 0, 0, []),
  (85, .invokevirtual 102, 88, 159, 3, 7, 0, 266, 0, []),
  (88, .aload_n 0, 89, 0, 0, 0, 0, 0, 0, []),
  (89, .iconst 1, 90, 0, 0, 0, 0, 0, 1, []),
  (90, .bipush 20, 92, 0, 0, 0, 0, 0, 20, []),
  (92, .invokevirtual 113, 95, 162, 3, 7, 0, 270, 0, []),
  (95, .istore 5, 97, 5, 0, 0, 0, 0, 0, []),
  (97, .aload_n 0, 98, 0, 0, 0, 0, 0, 0, []),
  (98, .getfield 85, 101, 7, 10, 0, 0, 261, 0, []),
  (101, .ifCond .ne 58, 104, 159, 0, 0, 0, 0, 0, []),
  (104, .bipush 53, 106, 0, 0, 0, 0, 0, 53, []),
  (106, .bipush 13, 108, 0, 0, 0, 0, 0, 13, []),
  (108, .iload_n 1, 109, 1, 0, 0, 0, 0, 0, []),
  (109, .imul, 110, 0, 0, 0, 0, 0, 0, []),
  (110, .iadd, 111, 0, 0, 0, 0, 0, 0, []),
  (111, .istore 6, 113, 6, 0, 0, 0, 0, 0, []),
  (113, .aload_n 0, 114, 0, 0, 0, 0, 0, 0, []),
  (114, .getfield 13, 117, 7, 1, 1, 8, 269, 0, []),
  (117, .iload 6, 119, 6, 0, 0, 0, 0, 0, []),
  (119, .iconst 1, 120, 0, 0, 0, 0, 0, 1, []),
  (120, .iadd, 121, 0, 0, 0, 0, 0, 0, []),
  (121, .iconst 2, 122, 0, 0, 0, 0, 0, 2, []),
  (122, .iload 4, 124, 4, 0, 0, 0, 0, 0, []),
  (124, .imul, 125, 0, 0, 0, 0, 0, 0, []),
  (125, .iadd, 126, 0, 0, 0, 0, 0, 0, []),
  (126, .iload_n 2, 127, 2, 0, 0, 0, 0, 0, []),
  (127, .iastore, 128, 8, 0, 0, 0, 0, 0, []),
  (128, .aload_n 0, 129, 0, 0, 0, 0, 0, 0, []),
  (129, .getfield 13, 132, 7, 1, 1, 8, 269, 0, []),
  (132, .iload 6, 134, 6, 0, 0, 0, 0, 0, []),
  (134, .iconst 1, 135, 0, 0, 0, 0, 0, 1, []),
  (135, .iadd, 136, 0, 0, 0, 0, 0, 0, []),
  (136, .iconst 2, 137, 0, 0, 0, 0, 0, 2, []),
  (137, .iload 4, 139, 4, 0, 0, 0, 0, 0, []),
  (139, .imul, 140, 0, 0, 0, 0, 0, 0, []),
  (140, .iadd, 141, 0, 0, 0, 0, 0, 0, []),
  (141, .iconst 1, 142, 0, 0, 0, 0, 0, 1, []),
  (142, .iadd, 143, 0, 0, 0, 0, 0, 0, []),
  (143, .iload 5, 145, 5, 0, 0, 0, 0, 0, []),
  (145, .iastore, 146, 8, 0, 0, 0, 0, 0, []),
  (146, .aload_n 0, 147, 0, 0, 0, 0, 0, 0, []),
  (147, .getfield 13, 150, 7, 1, 1, 8, 269, 0, []),
  (150, .iload 6, 152, 6, 0, 0, 0, 0, 0, []),
  (152, .iconst 0, 153, 0, 0, 0, 0, 0, 0, []),
  (153, .iadd, 154, 0, 0, 0, 0, 0, 0, []),
  (154, .dup2, 155, 0, 0, 0, 0, 0, 0, []),
  (155, .iaload, 156, 8, 0, 0, 0, 0, 0, []),
  (156, .iconst 1, 157, 0, 0, 0, 0, 0, 1, []),
  (157, .iadd, 158, 0, 0, 0, 0, 0, 0, []),
  (158, .iastore, 159, 8, 0, 0, 0, 0, 0, []),
  (159, .return_, 160, 0, 0, 0, 0, 0, 0, [])]
def tbX7_productPart : List iE := [(0, .aload_n 0, 1, 0, 0, 0, 0, 0, 0, []),
  (1, .getfield 13, 4, 7, 1, 1, 8, 269, 0, []),
  (4, .iconst 3, 5, 0, 0, 0, 0, 0, 3, []),
  (5, .iaload, 6, 8, 0, 0, 0, 0, 0, []),
  (6, .bipush 6, 8, 0, 0, 0, 0, 0, 6, []),
  (8, .if_icmp .ne 13, 11, 21, 0, 0, 0, 0, 0, []),
  (11, .aload_n 0, 12, 0, 0, 0, 0, 0, 0, []),
  (12, .iconst 4, 13, 0, 0, 0, 0, 0, 4, []),
  (13, .aload_n 0, 14, 0, 0, 0, 0, 0, 0, []),
  (14, .getfield 82, 17, 7, 9, 0, 0, 260, 0, []),
  (17, .invokevirtual 102, 20, 159, 3, 7, 0, 266, 0, []),
  (20, .return_, 21, 0, 0, 0, 0, 0, 0, []),
  (21, .aload_n 0, 22, 0, 0, 0, 0, 0, 0, []),
  (22, .getfield 13, 25, 7, 1, 1, 8, 269, 0, []),
  (25, .iconst 3, 26, 0, 0, 0, 0, 0, 3, []),
  (26, .iaload, 27, 8, 0, 0, 0, 0, 0, []),
  (27, .istore_n 1, 28, 1, 0, 0, 0, 0, 0, []),
  (28, .aload_n 0, 29, 0, 0, 0, 0, 0, 0, []),
  (29, .iload_n 1, 30, 1, 0, 0, 0, 0, 0, []),
  (30, .invokevirtual 119, 33, 163, 2, 7, 0, 272, 0, []),
  (33, .aload_n 0, 34, 0, 0, 0, 0, 0, 0, []),
  (34, .getfield 85, 37, 7, 10, 0, 0, 261, 0, []),
  (37, .ifCond .ne 25, 40, 62, 0, 0, 0, 0, 0, []),
  (40, .aload_n 0, 41, 0, 0, 0, 0, 0, 0, []),
  (41, .invokevirtual 91, 44, 158, 1, 7, 0, 263, 0, []),
  (44, .bipush 48, 46, 0, 0, 0, 0, 0, 48, []),
  (46, .bipush 57, 48, 0, 0, 0, 0, 0, 57, []),
  (48, .invokestatic 64, 51, 139, 3, 7, 0, 254, 0, []),
  (51, .ifCond .eq 11, 54, 62, 0, 0, 0, 0, 0, []),
  (54, .aload_n 0, 55, 0, 0, 0, 0, 0, 0, []),
  (55, .iload_n 1, 56, 1, 0, 0, 0, 0, 0, []),
  (56, .invokevirtual 119, 59, 163, 2, 7, 0, 272, 0, []),
  (59, .goto (-26), 62, 33, 0, 0, 0, 0, 0, []),
  (62, .iconst 0, 63, 0, 0, 0, 0, 0, 0, []),
  (63, .istore_n 2, 64, 2, 0, 0, 0, 0, 0, []),
  (64, .iconst 0, 65, 0, 0, 0, 0, 0, 0, []),
  (65, .istore_n 3, 66, 3, 0, 0, 0, 0, 0, []),
  (66, .iload_n 3, 67, 3, 0, 0, 0, 0, 0, []),
  (67, .aload_n 0, 68, 0, 0, 0, 0, 0, 0, []),
  (68, .getfield 13, 71, 7, 1, 1, 8, 269, 0, []),
  (71, .iload_n 1, 72, 1, 0, 0, 0, 0, 0, []),
  (72, .invokestatic 116, 75, 146, 2, 7, 0, 271, 0, []),
  (75, .if_icmp .ge 37, 78, 112, 0, 0, 0, 0, 0, []),
  (78, .iload_n 2, 79, 2, 0, 0, 0, 0, 0, []),
  (79, .ifCond .ne 21, 82, 100, 0, 0, 0, 0, 0, []),
  (82, .aload_n 0, 83, 0, 0, 0, 0, 0, 0, []),
  (83, .getfield 13, 86, 7, 1, 1, 8, 269, 0, []),
  (86, .iload_n 1, 87, 1, 0, 0, 0, 0, 0, []),
  (87, .iload_n 3, 88, 3, 0, 0, 0, 0, 0, []),
  (88, .invokestatic 53, 91, 147, 3, 7, 0, 251, 0, []),
  (91, .aload_n 0, 92, 0, 0, 0, 0, 0, 0, []),
  (92, .getfield 13, 95, 7, 1, 1, 8, 269, 0, []),
  (95, .iconst 2, 96, 0, 0, 0, 0, 0, 2, []),
  (96, .iaload, 97, 8, 0, 0, 0, 0, 0, []),
  (97, .if_icmp .ne 7, 100, 104, 0, 0, 0, 0, 0, []),
  (100, .iconst 1, 101, 0, 0, 0, 0, 0, 1, []),
  (101, .goto 4, 104, 105, 0, 0, 0, 0, 0, []),
  (104, .iconst 0, 105, 0, 0, 0, 0, 0, 0, []),
  (105, .istore_n 2, 106, 2, 0, 0, 0, 0, 0, []),
  (106, .iinc 3 1, 109, 3, 0, 0, 0, 0, 1, []),
  (109, .goto (-43), 112, 66, 0, 0, 0, 0, 0, []),
  (112, .iload_n 2, 113, 2, 0, 0, 0, 0, 0, []),
  (113, .ifCond .ne 12, 116, 125, 0, 0, 0, 0, 0, []),
  (116, .aload_n 0, 117, 0, 0, 0, 0, 0, 0, []),
  (117, .iconst 3, 118, 0, 0, 0, 0, 0, 3, []),
  (118, .aload_n 0, 119, 0, 0, 0, 0, 0, 0, []),
  (119, .getfield 82, 122, 7, 9, 0, 0, 260, 0, []),
  (122, .invokevirtual 102, 125, 159, 3, 7, 0, 266, 0, []),
  (125, .aload_n 0, 126, 0, 0, 0, 0, 0, 0, []),
  (126, .getfield 13, 129, 7, 1, 1, 8, 269, 0, []),
  (129, .iconst 3, 130, 0, 0, 0, 0, 0, 3, []),
  (130, .dup2, 131, 0, 0, 0, 0, 0, 0, []),
  (131, .iaload, 132, 8, 0, 0, 0, 0, 0, []),
  (132, .iconst 1, 133, 0, 0, 0, 0, 0, 1, []),
  (133, .iadd, 134, 0, 0, 0, 0, 0, 0, []),
  (134, .iastore, 135, 8, 0, 0, 0, 0, 0, []),
  (135, .return_, 136, 0, 0, 0, 0, 0, 0, [])]
def tbX7_orderPart : List iE := [(0, .aload_n 0, 1, 0, 0, 0, 0, 0, 0, []),
  (1, .getfield 13, 4, 7, 1, 1, 8, 269, 0, []),
  (4, .iconst 4, 5, 0, 0, 0, 0, 0, 4, []),
  (5, .iaload, 6, 8, 0, 0, 0, 0, 0, []),
  (6, .bipush 24, 8, 0, 0, 0, 0, 0, 24, []),
  (8, .if_icmp .ne 13, 11, 21, 0, 0, 0, 0, 0, []),
  (11, .aload_n 0, 12, 0, 0, 0, 0, 0, 0, []),
  (12, .iconst 4, 13, 0, 0, 0, 0, 0, 4, []),
  (13, .aload_n 0, 14, 0, 0, 0, 0, 0, 0, []),
  (14, .getfield 82, 17, 7, 9, 0, 0, 260, 0, []),
  (17, .invokevirtual 102, 20, 159, 3, 7, 0, 266, 0, []),
  (20, .return_, 21, 0, 0, 0, 0, 0, 0, []),
  (21, .aload_n 0, 22, 0, 0, 0, 0, 0, 0, []),
  (22, .iconst 0, 23, 0, 0, 0, 0, 0, 0, []),
  (23, .aload_n 0, 24, 0, 0, 0, 0, 0, 0, []),
  (24, .getfield 13, 27, 7, 1, 1, 8, 269, 0, []),
  (27, .iconst 3, 28, 0, 0, 0, 0, 0, 3, []),
  (28, .iaload, 29, 8, 0, 0, 0, 0, 0, []),
  (29, .iconst 1, 30, 0, 0, 0, 0, 0, 1, []),
  (30, .isub, 31, 0, 0, 0, 0, 0, 0, []),
  (31, .invokevirtual 113, 34, 162, 3, 7, 0, 270, 0, []),
  (34, .istore_n 1, 35, 1, 0, 0, 0, 0, 0, []),
  (35, .aload_n 0, 36, 0, 0, 0, 0, 0, 0, []),
  (36, .iconst 1, 37, 0, 0, 0, 0, 0, 1, []),
  (37, .bipush 50, 39, 0, 0, 0, 0, 0, 50, []),
  (39, .invokevirtual 113, 42, 162, 3, 7, 0, 270, 0, []),
  (42, .istore_n 2, 43, 2, 0, 0, 0, 0, 0, []),
  (43, .aload_n 0, 44, 0, 0, 0, 0, 0, 0, []),
  (44, .iconst 0, 45, 0, 0, 0, 0, 0, 0, []),
  (45, .sipush 30000, 48, 0, 0, 0, 0, 0, 30000, []),
  (48, .invokevirtual 113, 51, 162, 3, 7, 0, 270, 0, []),
  (51, .istore_n 3, 52, 3, 0, 0, 0, 0, 0, []),
  (52, .aload_n 0, 53, 0, 0, 0, 0, 0, 0, []),
  (53, .getfield 34, 56, 7, 15, 1, 8, 273, 0, []),
  (56, .aload_n 0, 57, 0, 0, 0, 0, 0, 0, []),
  (57, .getfield 13, 60, 7, 1, 1, 8, 269, 0, []),
  (60, .iconst 4, 61, 0, 0, 0, 0, 0, 4, []),
  (61, .iaload, 62, 8, 0, 0, 0, 0, 0, []),
  (62, .aload_n 0, 63, 0, 0, 0, 0, 0, 0, []),
  (63, .getfield 123, 66, 7, 12, 0, 0, 274, 0, []),
  (66, .iastore, 67, 8, 0, 0, 0, 0, 0, []),
  (67, .aload_n 0, 68, 0, 0, 0, 0, 0, 0, []),
  (68, .getfield 13, 71, 7, 1, 1, 8, 269, 0, []),
  (71, .iload_n 1, 72, 1, 0, 0, 0, 0, 0, []),
  (72, .iload_n 2, 73, 2, 0, 0, 0, 0, 0, []),
  (73, .iload_n 3, 74, 3, 0, 0, 0, 0, 0, []),
  (74, .invokestatic 126, 77, 151, 4, 7, 0, 275, 0, []),
  (77, .return_, 78, 0, 0, 0, 0, 0, 0, [])]
def tbX7_setupPart : List iE := [(0, .aload_n 0, 1, 0, 0, 0, 0, 0, 0, []),
  (1, .iconst 0, 2, 0, 0, 0, 0, 0, 0, []),
  (2, .aload_n 0, 3, 0, 0, 0, 0, 0, 0, []),
  (3, .getfield 13, 6, 7, 1, 1, 8, 269, 0, []),
  (6, .iconst 1, 7, 0, 0, 0, 0, 0, 1, []),
  (7, .iaload, 8, 8, 0, 0, 0, 0, 0, []),
  (8, .iconst 1, 9, 0, 0, 0, 0, 0, 1, []),
  (9, .isub, 10, 0, 0, 0, 0, 0, 0, []),
  (10, .invokevirtual 113, 13, 162, 3, 7, 0, 270, 0, []),
  (13, .istore_n 1, 14, 1, 0, 0, 0, 0, 0, []),
  (14, .aload_n 0, 15, 0, 0, 0, 0, 0, 0, []),
  (15, .getfield 13, 18, 7, 1, 1, 8, 269, 0, []),
  (18, .bipush 11, 20, 0, 0, 0, 0, 0, 11, []),
  (20, .bipush 7, 22, 0, 0, 0, 0, 0, 7, []),
  (22, .iload_n 1, 23, 1, 0, 0, 0, 0, 0, []),
  (23, .imul, 24, 0, 0, 0, 0, 0, 0, []),
  (24, .iadd, 25, 0, 0, 0, 0, 0, 0, []),
  (25, .iconst 5, 26, 0, 0, 0, 0, 0, 5, []),
  (26, .iadd, 27, 0, 0, 0, 0, 0, 0, []),
  (27, .aload_n 0, 28, 0, 0, 0, 0, 0, 0, []),
  (28, .iconst 0, 29, 0, 0, 0, 0, 0, 0, []),
  (29, .bipush 50, 31, 0, 0, 0, 0, 0, 50, []),
  (31, .invokevirtual 113, 34, 162, 3, 7, 0, 270, 0, []),
  (34, .iastore, 35, 8, 0, 0, 0, 0, 0, []),
  (35, .return_, 36, 0, 0, 0, 0, 0, 0, [])]
def tbX7_statement : List iE := [(0, .aload_n 0, 1, 0, 0, 0, 0, 0, 0, []),
  (1, .invokevirtual 130, 4, 160, 1, 7, 0, 276, 0, []),
  (4, .aload_n 0, 5, 0, 0, 0, 0, 0, 0, []),
  (5, .ldc 133, 7, 3, 0, 1, 0, 0, 0, []),
  (7, .invokevirtual 135, 10, 161, 2, 7, 0, 277, 0, []),
  (10, .ifCond .eq 35, 13, 45, 0, 0, 0, 0, 0, []),
  (13, .aload_n 0, 14, 0, 0, 0, 0, 0, 0, []),
  (14, .getfield 13, 17, 7, 1, 1, 8, 269, 0, []),
  (17, .iconst 5, 18, 0, 0, 0, 0, 0, 5, []),
  (18, .aload_n 0, 19, 0, 0, 0, 0, 0, 0, []),
  (19, .iconst 1, 20, 0, 0, 0, 0, 0, 1, []),
  (20, .sipush 500, 23, 0, 0, 0, 0, 0, 500, []),
  (23, .invokevirtual 113, 26, 162, 3, 7, 0, 270, 0, []),
  (26, .iastore, 27, 8, 0, 0, 0, 0, 0, []),
  (27, .aload_n 0, 28, 0, 0, 0, 0, 0, 0, []),
  (28, .getfield 13, 31, 7, 1, 1, 8, 269, 0, []),
  (31, .bipush 6, 33, 0, 0, 0, 0, 0, 6, []),
  (33, .aload_n 0, 34, 0, 0, 0, 0, 0, 0, []),
  (34, .iconst 1, 35, 0, 0, 0, 0, 0, 1, []),
  (35, .sipush 500, 38, 0, 0, 0, 0, 0, 500, []),
  (38, .invokevirtual 113, 41, 162, 3, 7, 0, 270, 0, []),
  (41, .iastore, 42, 8, 0, 0, 0, 0, 0, []),
  (42, .goto 137, 45, 179, 0, 0, 0, 0, 0, []),
  (45, .aload_n 0, 46, 0, 0, 0, 0, 0, 0, []),
  (46, .ldc 139, 48, 4, 0, 1, 0, 0, 0, []),
  (48, .invokevirtual 135, 51, 161, 2, 7, 0, 277, 0, []),
  (51, .ifCond .eq 21, 54, 72, 0, 0, 0, 0, 0, []),
  (54, .aload_n 0, 55, 0, 0, 0, 0, 0, 0, []),
  (55, .getfield 13, 58, 7, 1, 1, 8, 269, 0, []),
  (58, .bipush 7, 60, 0, 0, 0, 0, 0, 7, []),
  (60, .aload_n 0, 61, 0, 0, 0, 0, 0, 0, []),
  (61, .iconst 1, 62, 0, 0, 0, 0, 0, 1, []),
  (62, .sipush 5000, 65, 0, 0, 0, 0, 0, 5000, []),
  (65, .invokevirtual 113, 68, 162, 3, 7, 0, 270, 0, []),
  (68, .iastore, 69, 8, 0, 0, 0, 0, 0, []),
  (69, .goto 110, 72, 179, 0, 0, 0, 0, 0, []),
  (72, .aload_n 0, 73, 0, 0, 0, 0, 0, 0, []),
  (73, .ldc 141, 75, 5, 0, 1, 0, 0, 0, []),
  (75, .invokevirtual 135, 78, 161, 2, 7, 0, 277, 0, []),
  (78, .ifCond .eq 19, 81, 97, 0, 0, 0, 0, 0, []),
  (81, .aload_n 0, 82, 0, 0, 0, 0, 0, 0, []),
  (82, .getfield 13, 85, 7, 1, 1, 8, 269, 0, []),
  (85, .bipush 8, 87, 0, 0, 0, 0, 0, 8, []),
  (87, .aload_n 0, 88, 0, 0, 0, 0, 0, 0, []),
  (88, .iconst 0, 89, 0, 0, 0, 0, 0, 0, []),
  (89, .iconst 3, 90, 0, 0, 0, 0, 0, 3, []),
  (90, .invokevirtual 113, 93, 162, 3, 7, 0, 270, 0, []),
  (93, .iastore, 94, 8, 0, 0, 0, 0, 0, []),
  (94, .goto 85, 97, 179, 0, 0, 0, 0, 0, []),
  (97, .aload_n 0, 98, 0, 0, 0, 0, 0, 0, []),
  (98, .ldc 143, 100, 6, 0, 1, 0, 0, 0, []),
  (100, .invokevirtual 135, 103, 161, 2, 7, 0, 277, 0, []),
  (103, .ifCond .eq 19, 106, 122, 0, 0, 0, 0, 0, []),
  (106, .aload_n 0, 107, 0, 0, 0, 0, 0, 0, []),
  (107, .getfield 13, 110, 7, 1, 1, 8, 269, 0, []),
  (110, .bipush 9, 112, 0, 0, 0, 0, 0, 9, []),
  (112, .aload_n 0, 113, 0, 0, 0, 0, 0, 0, []),
  (113, .iconst 0, 114, 0, 0, 0, 0, 0, 0, []),
  (114, .iconst 1, 115, 0, 0, 0, 0, 0, 1, []),
  (115, .invokevirtual 113, 118, 162, 3, 7, 0, 270, 0, []),
  (118, .iastore, 119, 8, 0, 0, 0, 0, 0, []),
  (119, .goto 60, 122, 179, 0, 0, 0, 0, 0, []),
  (122, .aload_n 0, 123, 0, 0, 0, 0, 0, 0, []),
  (123, .ldc 145, 125, 7, 0, 1, 0, 0, 0, []),
  (125, .invokevirtual 135, 128, 161, 2, 7, 0, 277, 0, []),
  (128, .ifCond .eq 10, 131, 138, 0, 0, 0, 0, 0, []),
  (131, .aload_n 0, 132, 0, 0, 0, 0, 0, 0, []),
  (132, .invokevirtual 147, 135, 166, 1, 7, 0, 278, 0, []),
  (135, .goto 44, 138, 179, 0, 0, 0, 0, 0, []),
  (138, .aload_n 0, 139, 0, 0, 0, 0, 0, 0, []),
  (139, .ldc 150, 141, 1, 0, 1, 0, 0, 0, []),
  (141, .invokevirtual 135, 144, 161, 2, 7, 0, 277, 0, []),
  (144, .ifCond .eq 10, 147, 154, 0, 0, 0, 0, 0, []),
  (147, .aload_n 0, 148, 0, 0, 0, 0, 0, 0, []),
  (148, .invokevirtual 152, 151, 164, 1, 7, 0, 279, 0, []),
  (151, .goto 28, 154, 179, 0, 0, 0, 0, 0, []),
  (154, .aload_n 0, 155, 0, 0, 0, 0, 0, 0, []),
  (155, .ldc 155, 157, 2, 0, 1, 0, 0, 0, []),
  (157, .invokevirtual 135, 160, 161, 2, 7, 0, 277, 0, []),
  (160, .ifCond .eq 10, 163, 170, 0, 0, 0, 0, 0, []),
  (163, .aload_n 0, 164, 0, 0, 0, 0, 0, 0, []),
  (164, .invokevirtual 157, 167, 165, 1, 7, 0, 280, 0, []),
  (167, .goto 12, 170, 179, 0, 0, 0, 0, 0, []),
  (170, .aload_n 0, 171, 0, 0, 0, 0, 0, 0, []),
  (171, .iconst 1, 172, 0, 0, 0, 0, 0, 1, []),
  (172, .aload_n 0, 173, 0, 0, 0, 0, 0, 0, []),
  (173, .getfield 82, 176, 7, 9, 0, 0, 260, 0, []),
  (176, .invokevirtual 102, 179, 159, 3, 7, 0, 266, 0, []),
  (179, .return_, 180, 0, 0, 0, 0, 0, 0, [])]
def tbX7_isMore : List iE := [(0, .aload_n 0, 1, 0, 0, 0, 0, 0, 0, []),
  (1, .getfield 85, 4, 7, 10, 0, 0, 261, 0, []),
  (4, .ifCond .ne 10, 7, 14, 0, 0, 0, 0, 0, []),
  (7, .aload_n 0, 8, 0, 0, 0, 0, 0, 0, []),
  (8, .invokevirtual 91, 11, 158, 1, 7, 0, 263, 0, []),
  (11, .ifCond .ge 5, 14, 16, 0, 0, 0, 0, 0, []),
  (14, .iconst 0, 15, 0, 0, 0, 0, 0, 0, []),
  (15, .ireturn, 16, 0, 0, 1, 0, 0, 0, []),
  (16, .aload_n 0, 17, 0, 0, 0, 0, 0, 0, []),
  (17, .invokevirtual 78, 20, 157, 1, 7, 0, 259, 0, []),
  (20, .bipush 59, 22, 0, 0, 0, 0, 0, 59, []),
  (22, .if_icmp .eq 14, 25, 36, 0, 0, 0, 0, 0, []),
  (25, .aload_n 0, 26, 0, 0, 0, 0, 0, 0, []),
  (26, .iconst 1, 27, 0, 0, 0, 0, 0, 1, []),
  (27, .aload_n 0, 28, 0, 0, 0, 0, 0, 0, []),
  (28, .getfield 75, 31, 7, 8, 0, 0, 258, 0, []),
  (31, .invokevirtual 102, 34, 159, 3, 7, 0, 266, 0, []),
  (34, .iconst 0, 35, 0, 0, 0, 0, 0, 0, []),
  (35, .ireturn, 36, 0, 0, 1, 0, 0, 0, []),
  (36, .aload_n 0, 37, 0, 0, 0, 0, 0, 0, []),
  (37, .dup, 38, 0, 0, 0, 0, 0, 0, []),
  (38, .getfield 75, 41, 7, 8, 0, 0, 258, 0, []),
  (41, .iconst 1, 42, 0, 0, 0, 0, 0, 1, []),
  (42, .iadd, 43, 0, 0, 0, 0, 0, 0, []),
  (43, .putfield 75, 46, 7, 8, 0, 0, 258, 0, []),
  (46, .aload_n 0, 47, 0, 0, 0, 0, 0, 0, []),
  (47, .dup, 48, 0, 0, 0, 0, 0, 0, []),
  (48, .getfield 123, 51, 7, 12, 0, 0, 274, 0, []),
  (51, .iconst 1, 52, 0, 0, 0, 0, 0, 1, []),
  (52, .iadd, 53, 0, 0, 0, 0, 0, 0, []),
  (53, .putfield 123, 56, 7, 12, 0, 0, 274, 0, []),
  (56, .iconst 1, 57, 0, 0, 0, 0, 0, 1, []),
  (57, .ireturn, 58, 0, 0, 1, 0, 0, 0, [])]
def tbX7_checksOrders : List iE := [(0, .iconst 0, 1, 0, 0, 0, 0, 0, 0, []),
  (1, .istore_n 1, 2, 1, 0, 0, 0, 0, 0, []),
  (2, .aload_n 0, 3, 0, 0, 0, 0, 0, 0, []),
  (3, .getfield 85, 6, 7, 10, 0, 0, 261, 0, []),
  (6, .ifCond .ne 80, 9, 86, 0, 0, 0, 0, 0, []),
  (9, .iload_n 1, 10, 1, 0, 0, 0, 0, 0, []),
  (10, .aload_n 0, 11, 0, 0, 0, 0, 0, 0, []),
  (11, .getfield 13, 14, 7, 1, 1, 8, 269, 0, []),
  (14, .iconst 4, 15, 0, 0, 0, 0, 0, 4, []),
  (15, .iaload, 16, 8, 0, 0, 0, 0, 0, []),
  (16, .if_icmp .ge 70, 19, 86, 0, 0, 0, 0, 0, []),
  (19, .sipush 131, 22, 0, 0, 0, 0, 0, 131, []),
  (22, .bipush 14, 24, 0, 0, 0, 0, 0, 14, []),
  (24, .iload_n 1, 25, 1, 0, 0, 0, 0, 0, []),
  (25, .imul, 26, 0, 0, 0, 0, 0, 0, []),
  (26, .iadd, 27, 0, 0, 0, 0, 0, 0, []),
  (27, .istore_n 2, 28, 2, 0, 0, 0, 0, 0, []),
  (28, .aload_n 0, 29, 0, 0, 0, 0, 0, 0, []),
  (29, .getfield 13, 32, 7, 1, 1, 8, 269, 0, []),
  (32, .aload_n 0, 33, 0, 0, 0, 0, 0, 0, []),
  (33, .getfield 13, 36, 7, 1, 1, 8, 269, 0, []),
  (36, .iload_n 2, 37, 2, 0, 0, 0, 0, 0, []),
  (37, .iconst 0, 38, 0, 0, 0, 0, 0, 0, []),
  (38, .iadd, 39, 0, 0, 0, 0, 0, 0, []),
  (39, .iaload, 40, 8, 0, 0, 0, 0, 0, []),
  (40, .aload_n 0, 41, 0, 0, 0, 0, 0, 0, []),
  (41, .getfield 13, 44, 7, 1, 1, 8, 269, 0, []),
  (44, .iload_n 2, 45, 2, 0, 0, 0, 0, 0, []),
  (45, .iconst 1, 46, 0, 0, 0, 0, 0, 1, []),
  (46, .iadd, 47, 0, 0, 0, 0, 0, 0, []),
  (47, .iaload, 48, 8, 0, 0, 0, 0, 0, []),
  (48, .invokestatic 160, 51, 150, 3, 7, 0, 281, 0, []),
  (51, .aload_n 0, 52, 0, 0, 0, 0, 0, 0, []),
  (52, .getfield 13, 55, 7, 1, 1, 8, 269, 0, []),
  (55, .bipush 7, 57, 0, 0, 0, 0, 0, 7, []),
  (57, .iaload, 58, 8, 0, 0, 0, 0, 0, []),
  (58, .if_icmp .le 22, 61, 80, 0, 0, 0, 0, 0, []),
  (61, .aload_n 0, 62, 0, 0, 0, 0, 0, 0, []),
  (62, .iconst 5, 63, 0, 0, 0, 0, 0, 5, []),
  (63, .aload_n 0, 64, 0, 0, 0, 0, 0, 0, []),
  (64, .getfield 72, 67, 7, 7, 0, 0, 256, 0, []),
  (67, .invokevirtual 102, 70, 159, 3, 7, 0, 266, 0, []),
  (70, .aload_n 0, 71, 0, 0, 0, 0, 0, 0, []),
  (71, .aload_n 0, 72, 0, 0, 0, 0, 0, 0, []),
  (72, .getfield 34, 75, 7, 15, 1, 8, 273, 0, []),
  (75, .iload_n 1, 76, 1, 0, 0, 0, 0, 0, []),
  (76, .iaload, 77, 8, 0, 0, 0, 0, 0, []),
  (77, .putfield 123, 80, 7, 12, 0, 0, 274, 0, []),
  (80, .iinc 1 1, 83, 1, 0, 0, 0, 0, 1, []),
  (83, .goto (-81), 86, 2, 0, 0, 0, 0, 0, []),
  (86, .return_, 87, 0, 0, 0, 0, 0, 0, [])]
def tbX7_load : List iE := [(0, .aload_n 0, 1, 0, 0, 0, 0, 0, 0, []),
  (1, .iconst 0, 2, 0, 0, 0, 0, 0, 0, []),
  (2, .putfield 50, 5, 7, 5, 0, 0, 249, 0, []),
  (5, .aload_n 0, 6, 0, 0, 0, 0, 0, 0, []),
  (6, .iconst 0, 7, 0, 0, 0, 0, 0, 0, []),
  (7, .putfield 75, 10, 7, 8, 0, 0, 258, 0, []),
  (10, .aload_n 0, 11, 0, 0, 0, 0, 0, 0, []),
  (11, .iconst 0, 12, 0, 0, 0, 0, 0, 0, []),
  (12, .putfield 85, 15, 7, 10, 0, 0, 261, 0, []),
  (15, .aload_n 0, 16, 0, 0, 0, 0, 0, 0, []),
  (16, .iconst 0, 17, 0, 0, 0, 0, 0, 0, []),
  (17, .putfield 123, 20, 7, 12, 0, 0, 274, 0, []),
  (20, .aload_n 0, 21, 0, 0, 0, 0, 0, 0, []),
  (21, .invokevirtual 130, 24, 160, 1, 7, 0, 276, 0, []),
  (24, .aload_n 0, 25, 0, 0, 0, 0, 0, 0, []),
  (25, .ldc 163, 27, 0, 0, 1, 0, 0, 0, []),
  (27, .invokevirtual 135, 30, 161, 2, 7, 0, 277, 0, []),
  (30, .ifCond .ne 12, 33, 42, 0, 0, 0, 0, 0, []),
  (33, .aload_n 0, 34, 0, 0, 0, 0, 0, 0, []),
  (34, .iconst 1, 35, 0, 0, 0, 0, 0, 1, []),
  (35, .aload_n 0, 36, 0, 0, 0, 0, 0, 0, []),
  (36, .getfield 82, 39, 7, 9, 0, 0, 260, 0, []),
  (39, .invokevirtual 102, 42, 159, 3, 7, 0, 266, 0, []),
  (42, .aload_n 0, 43, 0, 0, 0, 0, 0, 0, []),
  (43, .iconst 1, 44, 0, 0, 0, 0, 0, 1, []),
  (44, .bipush 6, 46, 0, 0, 0, 0, 0, 6, []),
  (46, .invokevirtual 113, 49, 162, 3, 7, 0, 270, 0, []),
  (49, .istore_n 1, 50, 1, 0, 0, 0, 0, 0, []),
  (50, .aload_n 0, 51, 0, 0, 0, 0, 0, 0, []),
  (51, .getfield 13, 54, 7, 1, 1, 8, 269, 0, []),
  (54, .iload_n 1, 55, 1, 0, 0, 0, 0, 0, []),
  (55, .aload_n 0, 56, 0, 0, 0, 0, 0, 0, []),
  (56, .iconst 0, 57, 0, 0, 0, 0, 0, 0, []),
  (57, .iload_n 1, 58, 1, 0, 0, 0, 0, 0, []),
  (58, .iconst 1, 59, 0, 0, 0, 0, 0, 1, []),
  (59, .isub, 60, 0, 0, 0, 0, 0, 0, []),
  (60, .invokevirtual 113, 63, 162, 3, 7, 0, 270, 0, []),
  (63, .invokestatic 46, 66, 141, 3, 7, 0, 282, 0, []),
  (66, .aload_n 0, 67, 0, 0, 0, 0, 0, 0, []),
  (67, .invokevirtual 165, 70, 168, 1, 7, 0, 283, 0, []),
  (70, .ifCond .eq 10, 73, 80, 0, 0, 0, 0, 0, []),
  (73, .aload_n 0, 74, 0, 0, 0, 0, 0, 0, []),
  (74, .invokevirtual 169, 77, 167, 1, 7, 0, 284, 0, []),
  (77, .goto (-11), 80, 66, 0, 0, 0, 0, 0, []),
  (80, .aload_n 0, 81, 0, 0, 0, 0, 0, 0, []),
  (81, .invokevirtual 171, 84, 169, 1, 7, 0, 285, 0, []),
  (84, .aload_n 0, 85, 0, 0, 0, 0, 0, 0, []),
  (85, .iconst 0, 86, 0, 0, 0, 0, 0, 0, []),
  (86, .putfield 72, 89, 7, 7, 0, 0, 256, 0, []),
  (89, .aload_n 0, 90, 0, 0, 0, 0, 0, 0, []),
  (90, .aload_n 0, 91, 0, 0, 0, 0, 0, 0, []),
  (91, .getfield 85, 94, 7, 10, 0, 0, 261, 0, []),
  (94, .putfield 174, 97, 7, 13, 0, 0, 286, 0, []),
  (97, .aload_n 0, 98, 0, 0, 0, 0, 0, 0, []),
  (98, .aload_n 0, 99, 0, 0, 0, 0, 0, 0, []),
  (99, .getfield 85, 102, 7, 10, 0, 0, 261, 0, []),
  (102, .ifCond .ne 7, 105, 109, 0, 0, 0, 0, 0, []),
  (105, .iconst (-1), 106, 0, 0, 0, 0, 0, -1, []),
  (106, .goto 7, 109, 113, 0, 0, 0, 0, 0, []),
  (109, .aload_n 0, 110, 0, 0, 0, 0, 0, 0, []),
  (110, .getfield 123, 113, 7, 12, 0, 0, 274, 0, []),
  (113, .putfield 30, 116, 7, 14, 0, 0, 287, 0, []),
  (116, .aload_n 0, 117, 0, 0, 0, 0, 0, 0, []),
  (117, .getfield 85, 120, 7, 10, 0, 0, 261, 0, []),
  (120, .ifCond .eq 11, 123, 131, 0, 0, 0, 0, 0, []),
  (123, .bipush (-100), 125, 0, 0, 0, 0, 0, -100, []),
  (125, .aload_n 0, 126, 0, 0, 0, 0, 0, 0, []),
  (126, .getfield 88, 129, 7, 11, 0, 0, 262, 0, []),
  (129, .isub, 130, 0, 0, 0, 0, 0, 0, []),
  (130, .ireturn, 131, 0, 0, 0, 0, 0, 0, []),
  (131, .aload_n 0, 132, 0, 0, 0, 0, 0, 0, []),
  (132, .getfield 13, 135, 7, 1, 1, 8, 269, 0, []),
  (135, .iconst 0, 136, 0, 0, 0, 0, 0, 0, []),
  (136, .aload_n 0, 137, 0, 0, 0, 0, 0, 0, []),
  (137, .getfield 9, 140, 7, 0, 1, 8, 250, 0, []),
  (140, .iconst 0, 141, 0, 0, 0, 0, 0, 0, []),
  (141, .invokestatic 177, 144, 140, 4, 7, 0, 288, 0, []),
  (144, .aload_n 0, 145, 0, 0, 0, 0, 0, 0, []),
  (145, .getfield 9, 148, 7, 0, 1, 8, 250, 0, []),
  (148, .iconst 4, 149, 0, 0, 0, 0, 0, 4, []),
  (149, .iaload, 150, 8, 0, 0, 0, 0, 0, []),
  (150, .ireturn, 151, 0, 0, 0, 0, 0, 0, [])]
def tbX7_loadError : List iE := [(0, .aload_n 0, 1, 0, 0, 0, 0, 0, 0, []),
  (1, .iconst 0, 2, 0, 0, 0, 0, 0, 0, []),
  (2, .putfield 50, 5, 7, 5, 0, 0, 249, 0, []),
  (5, .aload_n 0, 6, 0, 0, 0, 0, 0, 0, []),
  (6, .getfield 174, 9, 7, 13, 0, 0, 286, 0, []),
  (9, .ireturn, 10, 0, 0, 0, 0, 0, 0, [])]
def tbX7_loadStatement : List iE := [(0, .aload_n 0, 1, 0, 0, 0, 0, 0, 0, []),
  (1, .iconst 0, 2, 0, 0, 0, 0, 0, 0, []),
  (2, .putfield 50, 5, 7, 5, 0, 0, 249, 0, []),
  (5, .aload_n 0, 6, 0, 0, 0, 0, 0, 0, []),
  (6, .getfield 30, 9, 7, 14, 0, 0, 287, 0, []),
  (9, .ireturn, 10, 0, 0, 0, 0, 0, 0, [])]
def tbX7_stationCount : List iE := [(0, .aload_n 0, 1, 0, 0, 0, 0, 0, 0, []),
  (1, .iconst 0, 2, 0, 0, 0, 0, 0, 0, []),
  (2, .putfield 50, 5, 7, 5, 0, 0, 249, 0, []),
  (5, .aload_n 0, 6, 0, 0, 0, 0, 0, 0, []),
  (6, .getfield 9, 9, 7, 0, 1, 8, 250, 0, []),
  (9, .iconst 1, 10, 0, 0, 0, 0, 0, 1, []),
  (10, .iaload, 11, 8, 0, 0, 0, 0, 0, []),
  (11, .ireturn, 12, 0, 0, 0, 0, 0, 0, [])]
def tbX7_productCount : List iE := [(0, .aload_n 0, 1, 0, 0, 0, 0, 0, 0, []),
  (1, .iconst 0, 2, 0, 0, 0, 0, 0, 0, []),
  (2, .putfield 50, 5, 7, 5, 0, 0, 249, 0, []),
  (5, .aload_n 0, 6, 0, 0, 0, 0, 0, 0, []),
  (6, .getfield 9, 9, 7, 0, 1, 8, 250, 0, []),
  (9, .iconst 3, 10, 0, 0, 0, 0, 0, 3, []),
  (10, .iaload, 11, 8, 0, 0, 0, 0, 0, []),
  (11, .ireturn, 12, 0, 0, 0, 0, 0, 0, [])]
def tbX7_orderCount : List iE := [(0, .aload_n 0, 1, 0, 0, 0, 0, 0, 0, []),
  (1, .iconst 0, 2, 0, 0, 0, 0, 0, 0, []),
  (2, .putfield 50, 5, 7, 5, 0, 0, 249, 0, []),
  (5, .aload_n 0, 6, 0, 0, 0, 0, 0, 0, []),
  (6, .getfield 9, 9, 7, 0, 1, 8, 250, 0, []),
  (9, .iconst 4, 10, 0, 0, 0, 0, 0, 4, []),
  (10, .iaload, 11, 8, 0, 0, 0, 0, 0, []),
  (11, .ireturn, 12, 0, 0, 0, 0, 0, 0, [])]
def tbX7_stepCount : List iE := [(0, .aload_n 0, 1, 0, 0, 0, 0, 0, 0, []),
  (1, .aload_n 0, 2, 0, 0, 0, 0, 0, 0, []),
  (2, .iload_n 1, 3, 1, 0, 0, 0, 0, 0, []),
  (3, .invokevirtual 180, 6, 154, 2, 7, 0, 289, 0, []),
  (6, .iconst 1, 7, 0, 0, 0, 0, 0, 1, []),
  (7, .invokevirtual 68, 10, 152, 3, 7, 0, 255, 0, []),
  (10, .ifCond .eq 7, 13, 17, 0, 0, 0, 0, 0, []),
  (13, .iconst 0, 14, 0, 0, 0, 0, 0, 0, []),
  (14, .goto 11, 17, 25, 0, 0, 0, 0, 0, []),
  (17, .aload_n 0, 18, 0, 0, 0, 0, 0, 0, []),
  (18, .getfield 9, 21, 7, 0, 1, 8, 250, 0, []),
  (21, .iload_n 1, 22, 1, 0, 0, 0, 0, 0, []),
  (22, .invokestatic 116, 25, 146, 2, 7, 0, 271, 0, []),
  (25, .ireturn, 26, 0, 0, 0, 0, 0, 0, [])]
def tbX7_stepAt : List iE := [(0, .aload_n 0, 1, 0, 0, 0, 0, 0, 0, []),
  (1, .aload_n 0, 2, 0, 0, 0, 0, 0, 0, []),
  (2, .iload_n 1, 3, 1, 0, 0, 0, 0, 0, []),
  (3, .invokevirtual 180, 6, 154, 2, 7, 0, 289, 0, []),
  (6, .iconst 1, 7, 0, 0, 0, 0, 0, 1, []),
  (7, .invokevirtual 68, 10, 152, 3, 7, 0, 255, 0, []),
  (10, .ifCond .ne 17, 13, 27, 0, 0, 0, 0, 0, []),
  (13, .aload_n 0, 14, 0, 0, 0, 0, 0, 0, []),
  (14, .iload_n 3, 15, 3, 0, 0, 0, 0, 0, []),
  (15, .iconst 0, 16, 0, 0, 0, 0, 0, 0, []),
  (16, .iconst 1, 17, 0, 0, 0, 0, 0, 1, []),
  (17, .invokestatic 64, 20, 139, 3, 7, 0, 254, 0, []),
  (20, .iconst 2, 21, 0, 0, 0, 0, 0, 2, []),
  (21, .invokevirtual 68, 24, 152, 3, 7, 0, 255, 0, []),
  (24, .ifCond .eq 5, 27, 29, 0, 0, 0, 0, 0, []),
  (27, .iconst 0, 28, 0, 0, 0, 0, 0, 0, []),
  (28, .ireturn, 29, 0, 0, 0, 0, 0, 0, []),
  (29, .iload_n 2, 30, 2, 0, 0, 0, 0, 0, []),
  (30, .iconst 0, 31, 0, 0, 0, 0, 0, 0, []),
  (31, .aload_n 0, 32, 0, 0, 0, 0, 0, 0, []),
  (32, .getfield 9, 35, 7, 0, 1, 8, 250, 0, []),
  (35, .iload_n 1, 36, 1, 0, 0, 0, 0, 0, []),
  (36, .invokestatic 116, 39, 146, 2, 7, 0, 271, 0, []),
  (39, .iconst 1, 40, 0, 0, 0, 0, 0, 1, []),
  (40, .isub, 41, 0, 0, 0, 0, 0, 0, []),
  (41, .invokestatic 64, 44, 139, 3, 7, 0, 254, 0, []),
  (44, .ifCond .ne 5, 47, 49, 0, 0, 0, 0, 0, []),
  (47, .iconst (-1), 48, 0, 0, 0, 0, 0, -1, []),
  (48, .ireturn, 49, 0, 0, 0, 0, 0, 0, []),
  (49, .iload_n 3, 50, 3, 0, 0, 0, 0, 0, []),
  (50, .ifCond .ne 15, 53, 65, 0, 0, 0, 0, 0, []),
  (53, .aload_n 0, 54, 0, 0, 0, 0, 0, 0, []),
  (54, .getfield 9, 57, 7, 0, 1, 8, 250, 0, []),
  (57, .iload_n 1, 58, 1, 0, 0, 0, 0, 0, []),
  (58, .iload_n 2, 59, 2, 0, 0, 0, 0, 0, []),
  (59, .invokestatic 53, 62, 147, 3, 7, 0, 251, 0, []),
  (62, .goto 12, 65, 74, 0, 0, 0, 0, 0, []),
  (65, .aload_n 0, 66, 0, 0, 0, 0, 0, 0, []),
  (66, .getfield 9, 69, 7, 0, 1, 8, 250, 0, []),
  (69, .iload_n 1, 70, 1, 0, 0, 0, 0, 0, []),
  (70, .iload_n 2, 71, 2, 0, 0, 0, 0, 0, []),
  (71, .invokestatic 61, 74, 148, 3, 7, 0, 253, 0, []),
  (74, .ireturn, 75, 0, 0, 0, 0, 0, 0, [])]
def tbX7_isWork : List iE := [(0, .aload_n 0, 1, 0, 0, 0, 0, 0, 0, []),
  (1, .aload_n 0, 2, 0, 0, 0, 0, 0, 0, []),
  (2, .iload_n 1, 3, 1, 0, 0, 0, 0, 0, []),
  (3, .invokevirtual 180, 6, 154, 2, 7, 0, 289, 0, []),
  (6, .iconst 1, 7, 0, 0, 0, 0, 0, 1, []),
  (7, .invokevirtual 68, 10, 152, 3, 7, 0, 255, 0, []),
  (10, .ifCond .ne 22, 13, 32, 0, 0, 0, 0, 0, []),
  (13, .aload_n 0, 14, 0, 0, 0, 0, 0, 0, []),
  (14, .iload_n 2, 15, 2, 0, 0, 0, 0, 0, []),
  (15, .iconst 1, 16, 0, 0, 0, 0, 0, 1, []),
  (16, .bipush 50, 18, 0, 0, 0, 0, 0, 50, []),
  (18, .invokestatic 64, 21, 139, 3, 7, 0, 254, 0, []),
  (21, .iconst 2, 22, 0, 0, 0, 0, 0, 2, []),
  (22, .invokevirtual 68, 25, 152, 3, 7, 0, 255, 0, []),
  (25, .ifCond .ne 7, 28, 32, 0, 0, 0, 0, 0, []),
  (28, .iconst 1, 29, 0, 0, 0, 0, 0, 1, []),
  (29, .goto 4, 32, 33, 0, 0, 0, 0, 0, []),
  (32, .iconst 0, 33, 0, 0, 0, 0, 0, 0, []),
  (33, .ireturn, 34, 0, 0, 1, 0, 0, 0, [])]
def tbX7_workOf : List iE := [(0, .aload_n 0, 1, 0, 0, 0, 0, 0, 0, []),
  (1, .iload_n 1, 2, 1, 0, 0, 0, 0, 0, []),
  (2, .iload_n 2, 3, 2, 0, 0, 0, 0, 0, []),
  (3, .invokevirtual 184, 6, 178, 3, 7, 0, 290, 0, []),
  (6, .ifCond .ne 5, 9, 11, 0, 0, 0, 0, 0, []),
  (9, .iconst 0, 10, 0, 0, 0, 0, 0, 0, []),
  (10, .ireturn, 11, 0, 0, 0, 0, 0, 0, []),
  (11, .iconst 0, 12, 0, 0, 0, 0, 0, 0, []),
  (12, .istore_n 3, 13, 3, 0, 0, 0, 0, 0, []),
  (13, .iconst 0, 14, 0, 0, 0, 0, 0, 0, []),
  (14, .istore 4, 16, 4, 0, 0, 0, 0, 0, []),
  (16, .iload 4, 18, 4, 0, 0, 0, 0, 0, []),
  (18, .aload_n 0, 19, 0, 0, 0, 0, 0, 0, []),
  (19, .getfield 9, 22, 7, 0, 1, 8, 250, 0, []),
  (22, .iload_n 1, 23, 1, 0, 0, 0, 0, 0, []),
  (23, .invokestatic 116, 26, 146, 2, 7, 0, 271, 0, []),
  (26, .if_icmp .ge 24, 29, 50, 0, 0, 0, 0, 0, []),
  (29, .iload_n 3, 30, 3, 0, 0, 0, 0, 0, []),
  (30, .aload_n 0, 31, 0, 0, 0, 0, 0, 0, []),
  (31, .getfield 9, 34, 7, 0, 1, 8, 250, 0, []),
  (34, .iload_n 1, 35, 1, 0, 0, 0, 0, 0, []),
  (35, .iload 4, 37, 4, 0, 0, 0, 0, 0, []),
  (37, .invokestatic 61, 40, 148, 3, 7, 0, 253, 0, []),
  (40, .iload_n 2, 41, 2, 0, 0, 0, 0, 0, []),
  (41, .imul, 42, 0, 0, 0, 0, 0, 0, []),
  (42, .iadd, 43, 0, 0, 0, 0, 0, 0, []),
  (43, .istore_n 3, 44, 3, 0, 0, 0, 0, 0, []),
  (44, .iinc 4 1, 47, 4, 0, 0, 0, 0, 1, []),
  (47, .goto (-31), 50, 16, 0, 0, 0, 0, 0, []),
  (50, .iload_n 3, 51, 3, 0, 0, 0, 0, 0, []),
  (51, .ireturn, 52, 0, 0, 0, 0, 0, 0, [])]
def tbX7_drumWork : List iE := [(0, .aload_n 0, 1, 0, 0, 0, 0, 0, 0, []),
  (1, .iload_n 1, 2, 1, 0, 0, 0, 0, 0, []),
  (2, .iload_n 2, 3, 2, 0, 0, 0, 0, 0, []),
  (3, .invokevirtual 184, 6, 178, 3, 7, 0, 290, 0, []),
  (6, .ifCond .eq 15, 9, 21, 0, 0, 0, 0, 0, []),
  (9, .aload_n 0, 10, 0, 0, 0, 0, 0, 0, []),
  (10, .getfield 9, 13, 7, 0, 1, 8, 250, 0, []),
  (13, .iload_n 1, 14, 1, 0, 0, 0, 0, 0, []),
  (14, .iload_n 2, 15, 2, 0, 0, 0, 0, 0, []),
  (15, .invokestatic 160, 18, 150, 3, 7, 0, 281, 0, []),
  (18, .goto 4, 21, 22, 0, 0, 0, 0, 0, []),
  (21, .iconst 0, 22, 0, 0, 0, 0, 0, 0, []),
  (22, .ireturn, 23, 0, 0, 0, 0, 0, 0, [])]
def tbX7_workAtDrum : List iE := [(0, .aload_n 0, 1, 0, 0, 0, 0, 0, 0, []),
  (1, .getfield 9, 4, 7, 0, 1, 8, 250, 0, []),
  (4, .aload_n 0, 5, 0, 0, 0, 0, 0, 0, []),
  (5, .iload_n 1, 6, 1, 0, 0, 0, 0, 0, []),
  (6, .iconst 0, 7, 0, 0, 0, 0, 0, 0, []),
  (7, .invokevirtual 188, 10, 144, 3, 7, 0, 291, 0, []),
  (10, .aload_n 0, 11, 0, 0, 0, 0, 0, 0, []),
  (11, .iload_n 1, 12, 1, 0, 0, 0, 0, 0, []),
  (12, .iconst 1, 13, 0, 0, 0, 0, 0, 1, []),
  (13, .invokevirtual 188, 16, 144, 3, 7, 0, 291, 0, []),
  (16, .invokestatic 160, 19, 150, 3, 7, 0, 281, 0, []),
  (19, .ireturn, 20, 0, 0, 0, 0, 0, 0, [])]
def tbX7_isOpen : List iE := [(0, .aload_n 0, 1, 0, 0, 0, 0, 0, 0, []),
  (1, .iload_n 1, 2, 1, 0, 0, 0, 0, 0, []),
  (2, .iconst 3, 3, 0, 0, 0, 0, 0, 3, []),
  (3, .invokevirtual 188, 6, 144, 3, 7, 0, 291, 0, []),
  (6, .ifCond .eq 13, 9, 19, 0, 0, 0, 0, 0, []),
  (9, .aload_n 0, 10, 0, 0, 0, 0, 0, 0, []),
  (10, .iload_n 1, 11, 1, 0, 0, 0, 0, 0, []),
  (11, .iconst 3, 12, 0, 0, 0, 0, 0, 3, []),
  (12, .invokevirtual 188, 15, 144, 3, 7, 0, 291, 0, []),
  (15, .iconst 1, 16, 0, 0, 0, 0, 0, 1, []),
  (16, .if_icmp .ne 7, 19, 23, 0, 0, 0, 0, 0, []),
  (19, .iconst 1, 20, 0, 0, 0, 0, 0, 1, []),
  (20, .goto 4, 23, 24, 0, 0, 0, 0, 0, []),
  (23, .iconst 0, 24, 0, 0, 0, 0, 0, 0, []),
  (24, .ireturn, 25, 0, 0, 1, 0, 0, 0, [])]
def tbX7_isBeforeDrum : List iE := [(0, .aload_n 0, 1, 0, 0, 0, 0, 0, 0, []),
  (1, .iload_n 1, 2, 1, 0, 0, 0, 0, 0, []),
  (2, .invokevirtual 190, 5, 182, 2, 7, 0, 292, 0, []),
  (5, .ifCond .ne 5, 8, 10, 0, 0, 0, 0, 0, []),
  (8, .iconst 0, 9, 0, 0, 0, 0, 0, 0, []),
  (9, .ireturn, 10, 0, 0, 1, 0, 0, 0, []),
  (10, .aload_n 0, 11, 0, 0, 0, 0, 0, 0, []),
  (11, .getfield 9, 14, 7, 0, 1, 8, 250, 0, []),
  (14, .aload_n 0, 15, 0, 0, 0, 0, 0, 0, []),
  (15, .iload_n 1, 16, 1, 0, 0, 0, 0, 0, []),
  (16, .iconst 0, 17, 0, 0, 0, 0, 0, 0, []),
  (17, .invokevirtual 188, 20, 144, 3, 7, 0, 291, 0, []),
  (20, .invokestatic 57, 23, 149, 2, 7, 0, 252, 0, []),
  (23, .istore_n 2, 24, 2, 0, 0, 0, 0, 0, []),
  (24, .aload_n 0, 25, 0, 0, 0, 0, 0, 0, []),
  (25, .iload_n 1, 26, 1, 0, 0, 0, 0, 0, []),
  (26, .iconst 4, 27, 0, 0, 0, 0, 0, 4, []),
  (27, .invokevirtual 188, 30, 144, 3, 7, 0, 291, 0, []),
  (30, .istore_n 3, 31, 3, 0, 0, 0, 0, 0, []),
  (31, .iload_n 3, 32, 3, 0, 0, 0, 0, 0, []),
  (32, .iload_n 2, 33, 2, 0, 0, 0, 0, 0, []),
  (33, .if_icmp .lt 18, 36, 51, 0, 0, 0, 0, 0, []),
  (36, .iload_n 3, 37, 3, 0, 0, 0, 0, 0, []),
  (37, .iload_n 2, 38, 2, 0, 0, 0, 0, 0, []),
  (38, .if_icmp .ne 17, 41, 55, 0, 0, 0, 0, 0, []),
  (41, .aload_n 0, 42, 0, 0, 0, 0, 0, 0, []),
  (42, .iload_n 1, 43, 1, 0, 0, 0, 0, 0, []),
  (43, .bipush 6, 45, 0, 0, 0, 0, 0, 6, []),
  (45, .invokevirtual 188, 48, 144, 3, 7, 0, 291, 0, []),
  (48, .ifCond .ne 7, 51, 55, 0, 0, 0, 0, 0, []),
  (51, .iconst 1, 52, 0, 0, 0, 0, 0, 1, []),
  (52, .goto 4, 55, 56, 0, 0, 0, 0, 0, []),
  (55, .iconst 0, 56, 0, 0, 0, 0, 0, 0, []),
  (56, .ireturn, 57, 0, 0, 1, 0, 0, 0, [])]
def tbX7_isPastDrum : List iE := [(0, .aload_n 0, 1, 0, 0, 0, 0, 0, 0, []),
  (1, .iload_n 1, 2, 1, 0, 0, 0, 0, 0, []),
  (2, .iconst 4, 3, 0, 0, 0, 0, 0, 4, []),
  (3, .invokevirtual 188, 6, 144, 3, 7, 0, 291, 0, []),
  (6, .aload_n 0, 7, 0, 0, 0, 0, 0, 0, []),
  (7, .getfield 9, 10, 7, 0, 1, 8, 250, 0, []),
  (10, .aload_n 0, 11, 0, 0, 0, 0, 0, 0, []),
  (11, .iload_n 1, 12, 1, 0, 0, 0, 0, 0, []),
  (12, .iconst 0, 13, 0, 0, 0, 0, 0, 0, []),
  (13, .invokevirtual 188, 16, 144, 3, 7, 0, 291, 0, []),
  (16, .invokestatic 57, 19, 149, 2, 7, 0, 252, 0, []),
  (19, .if_icmp .le 7, 22, 26, 0, 0, 0, 0, 0, []),
  (22, .iconst 1, 23, 0, 0, 0, 0, 0, 1, []),
  (23, .goto 4, 26, 27, 0, 0, 0, 0, 0, []),
  (26, .iconst 0, 27, 0, 0, 0, 0, 0, 0, []),
  (27, .ireturn, 28, 0, 0, 1, 0, 0, 0, [])]
def tbX7_earliest : List iE := [(0, .aload_n 0, 1, 0, 0, 0, 0, 0, 0, []),
  (1, .aload_n 0, 2, 0, 0, 0, 0, 0, 0, []),
  (2, .getfield 9, 5, 7, 0, 1, 8, 250, 0, []),
  (5, .iconst 2, 6, 0, 0, 0, 0, 0, 2, []),
  (6, .iaload, 7, 8, 0, 0, 0, 0, 0, []),
  (7, .iconst 0, 8, 0, 0, 0, 0, 0, 0, []),
  (8, .invokevirtual 193, 11, 142, 3, 7, 0, 293, 0, []),
  (11, .istore_n 1, 12, 1, 0, 0, 0, 0, 0, []),
  (12, .aload_n 0, 13, 0, 0, 0, 0, 0, 0, []),
  (13, .getfield 9, 16, 7, 0, 1, 8, 250, 0, []),
  (16, .iconst 0, 17, 0, 0, 0, 0, 0, 0, []),
  (17, .iaload, 18, 8, 0, 0, 0, 0, 0, []),
  (18, .iload_n 1, 19, 1, 0, 0, 0, 0, 0, []),
  (19, .iconst (-1), 20, 0, 0, 0, 0, 0, -1, []),
  (20, .if_icmp .ne 7, 23, 27, 0, 0, 0, 0, 0, []),
  (23, .iconst 0, 24, 0, 0, 0, 0, 0, 0, []),
  (24, .goto 10, 27, 34, 0, 0, 0, 0, 0, []),
  (27, .aload_n 0, 28, 0, 0, 0, 0, 0, 0, []),
  (28, .iload_n 1, 29, 1, 0, 0, 0, 0, 0, []),
  (29, .bipush 7, 31, 0, 0, 0, 0, 0, 7, []),
  (31, .invokevirtual 188, 34, 144, 3, 7, 0, 291, 0, []),
  (34, .iadd, 35, 0, 0, 0, 0, 0, 0, []),
  (35, .ireturn, 36, 0, 0, 0, 0, 0, 0, [])]
def tbX7_laysSchedule : List iE := [(0, .aload_n 0, 1, 0, 0, 0, 0, 0, 0, []),
  (1, .iconst 0, 2, 0, 0, 0, 0, 0, 0, []),
  (2, .putfield 196, 5, 7, 19, 0, 0, 294, 0, []),
  (5, .iconst 0, 6, 0, 0, 0, 0, 0, 0, []),
  (6, .istore_n 1, 7, 1, 0, 0, 0, 0, 0, []),
  (7, .iload_n 1, 8, 1, 0, 0, 0, 0, 0, []),
  (8, .aload_n 0, 9, 0, 0, 0, 0, 0, 0, []),
  (9, .getfield 9, 12, 7, 0, 1, 8, 250, 0, []),
  (12, .iconst 4, 13, 0, 0, 0, 0, 0, 4, []),
  (13, .iaload, 14, 8, 0, 0, 0, 0, 0, []),
  (14, .if_icmp .ge 88, 17, 102, 0, 0, 0, 0, 0, []),
  (17, .aload_n 0, 18, 0, 0, 0, 0, 0, 0, []),
  (18, .iload_n 1, 19, 1, 0, 0, 0, 0, 0, []),
  (19, .invokevirtual 199, 22, 183, 2, 7, 0, 295, 0, []),
  (22, .ifCond .ne 6, 25, 28, 0, 0, 0, 0, 0, []),
  (25, .goto 71, 28, 96, 0, 0, 0, 0, 0, []),
  (28, .aload_n 0, 29, 0, 0, 0, 0, 0, 0, []),
  (29, .getfield 196, 32, 7, 19, 0, 0, 294, 0, []),
  (32, .istore_n 2, 33, 2, 0, 0, 0, 0, 0, []),
  (33, .iload_n 2, 34, 2, 0, 0, 0, 0, 0, []),
  (34, .ifCond .le 45, 37, 79, 0, 0, 0, 0, 0, []),
  (37, .aload_n 0, 38, 0, 0, 0, 0, 0, 0, []),
  (38, .aload_n 0, 39, 0, 0, 0, 0, 0, 0, []),
  (39, .getfield 37, 42, 7, 16, 1, 8, 296, 0, []),
  (42, .iload_n 2, 43, 2, 0, 0, 0, 0, 0, []),
  (43, .iconst 1, 44, 0, 0, 0, 0, 0, 1, []),
  (44, .isub, 45, 0, 0, 0, 0, 0, 0, []),
  (45, .iaload, 46, 8, 0, 0, 0, 0, 0, []),
  (46, .iconst 2, 47, 0, 0, 0, 0, 0, 2, []),
  (47, .invokevirtual 188, 50, 144, 3, 7, 0, 291, 0, []),
  (50, .aload_n 0, 51, 0, 0, 0, 0, 0, 0, []),
  (51, .iload_n 1, 52, 1, 0, 0, 0, 0, 0, []),
  (52, .iconst 2, 53, 0, 0, 0, 0, 0, 2, []),
  (53, .invokevirtual 188, 56, 144, 3, 7, 0, 291, 0, []),
  (56, .if_icmp .le 23, 59, 79, 0, 0, 0, 0, 0, []),
  (59, .aload_n 0, 60, 0, 0, 0, 0, 0, 0, []),
  (60, .getfield 37, 63, 7, 16, 1, 8, 296, 0, []),
  (63, .iload_n 2, 64, 2, 0, 0, 0, 0, 0, []),
  (64, .aload_n 0, 65, 0, 0, 0, 0, 0, 0, []),
  (65, .getfield 37, 68, 7, 16, 1, 8, 296, 0, []),
  (68, .iload_n 2, 69, 2, 0, 0, 0, 0, 0, []),
  (69, .iconst 1, 70, 0, 0, 0, 0, 0, 1, []),
  (70, .isub, 71, 0, 0, 0, 0, 0, 0, []),
  (71, .iaload, 72, 8, 0, 0, 0, 0, 0, []),
  (72, .iastore, 73, 8, 0, 0, 0, 0, 0, []),
  (73, .iinc 2 (-1), 76, 2, 0, 0, 0, 0, -1, []),
  (76, .goto (-43), 79, 33, 0, 0, 0, 0, 0, []),
  (79, .aload_n 0, 80, 0, 0, 0, 0, 0, 0, []),
  (80, .getfield 37, 83, 7, 16, 1, 8, 296, 0, []),
  (83, .iload_n 2, 84, 2, 0, 0, 0, 0, 0, []),
  (84, .iload_n 1, 85, 1, 0, 0, 0, 0, 0, []),
  (85, .iastore, 86, 8, 0, 0, 0, 0, 0, []),
  (86, .aload_n 0, 87, 0, 0, 0, 0, 0, 0, []),
  (87, .dup, 88, 0, 0, 0, 0, 0, 0, []),
  (88, .getfield 196, 91, 7, 19, 0, 0, 294, 0, []),
  (91, .iconst 1, 92, 0, 0, 0, 0, 0, 1, []),
  (92, .iadd, 93, 0, 0, 0, 0, 0, 0, []),
  (93, .putfield 196, 96, 7, 19, 0, 0, 294, 0, []),
  (96, .iinc 1 1, 99, 1, 0, 0, 0, 0, 1, []),
  (99, .goto (-92), 102, 7, 0, 0, 0, 0, 0, []),
  (102, .aload_n 0, 103, 0, 0, 0, 0, 0, 0, []),
  (103, .getfield 196, 106, 7, 19, 0, 0, 294, 0, []),
  (106, .iconst 1, 107, 0, 0, 0, 0, 0, 1, []),
  (107, .isub, 108, 0, 0, 0, 0, 0, 0, []),
  (108, .istore_n 1, 109, 1, 0, 0, 0, 0, 0, []),
  (109, .iload_n 1, 110, 1, 0, 0, 0, 0, 0, []),
  (110, .ifCond .lt 81, 113, 191, 0, 0, 0, 0, 0, []),
  (113, .aload_n 0, 114, 0, 0, 0, 0, 0, 0, []),
  (114, .getfield 37, 117, 7, 16, 1, 8, 296, 0, []),
  (117, .iload_n 1, 118, 1, 0, 0, 0, 0, 0, []),
  (118, .iaload, 119, 8, 0, 0, 0, 0, 0, []),
  (119, .istore_n 2, 120, 2, 0, 0, 0, 0, 0, []),
  (120, .aload_n 0, 121, 0, 0, 0, 0, 0, 0, []),
  (121, .iload_n 2, 122, 2, 0, 0, 0, 0, 0, []),
  (122, .iconst 2, 123, 0, 0, 0, 0, 0, 2, []),
  (123, .invokevirtual 188, 126, 144, 3, 7, 0, 291, 0, []),
  (126, .aload_n 0, 127, 0, 0, 0, 0, 0, 0, []),
  (127, .getfield 9, 130, 7, 0, 1, 8, 250, 0, []),
  (130, .bipush 6, 132, 0, 0, 0, 0, 0, 6, []),
  (132, .iaload, 133, 8, 0, 0, 0, 0, 0, []),
  (133, .isub, 134, 0, 0, 0, 0, 0, 0, []),
  (134, .istore_n 3, 135, 3, 0, 0, 0, 0, 0, []),
  (135, .aload_n 0, 136, 0, 0, 0, 0, 0, 0, []),
  (136, .getfield 43, 139, 7, 18, 1, 8, 297, 0, []),
  (139, .iload_n 1, 140, 1, 0, 0, 0, 0, 0, []),
  (140, .iload_n 1, 141, 1, 0, 0, 0, 0, 0, []),
  (141, .aload_n 0, 142, 0, 0, 0, 0, 0, 0, []),
  (142, .getfield 196, 145, 7, 19, 0, 0, 294, 0, []),
  (145, .iconst 1, 146, 0, 0, 0, 0, 0, 1, []),
  (146, .isub, 147, 0, 0, 0, 0, 0, 0, []),
  (147, .if_icmp .ne 7, 150, 154, 0, 0, 0, 0, 0, []),
  (150, .iload_n 3, 151, 3, 0, 0, 0, 0, 0, []),
  (151, .goto 15, 154, 166, 0, 0, 0, 0, 0, []),
  (154, .iload_n 3, 155, 3, 0, 0, 0, 0, 0, []),
  (155, .aload_n 0, 156, 0, 0, 0, 0, 0, 0, []),
  (156, .getfield 40, 159, 7, 17, 1, 8, 298, 0, []),
  (159, .iload_n 1, 160, 1, 0, 0, 0, 0, 0, []),
  (160, .iconst 1, 161, 0, 0, 0, 0, 0, 1, []),
  (161, .iadd, 162, 0, 0, 0, 0, 0, 0, []),
  (162, .iaload, 163, 8, 0, 0, 0, 0, 0, []),
  (163, .invokestatic 107, 166, 0, 0, 0, 2, 268, 0, []),
  (166, .iastore, 167, 8, 0, 0, 0, 0, 0, []),
  (167, .aload_n 0, 168, 0, 0, 0, 0, 0, 0, []),
  (168, .getfield 40, 171, 7, 17, 1, 8, 298, 0, []),
  (171, .iload_n 1, 172, 1, 0, 0, 0, 0, 0, []),
  (172, .aload_n 0, 173, 0, 0, 0, 0, 0, 0, []),
  (173, .getfield 43, 176, 7, 18, 1, 8, 297, 0, []),
  (176, .iload_n 1, 177, 1, 0, 0, 0, 0, 0, []),
  (177, .iaload, 178, 8, 0, 0, 0, 0, 0, []),
  (178, .aload_n 0, 179, 0, 0, 0, 0, 0, 0, []),
  (179, .iload_n 2, 180, 2, 0, 0, 0, 0, 0, []),
  (180, .invokevirtual 202, 183, 181, 2, 7, 0, 299, 0, []),
  (183, .isub, 184, 0, 0, 0, 0, 0, 0, []),
  (184, .iastore, 185, 8, 0, 0, 0, 0, 0, []),
  (185, .iinc 1 (-1), 188, 1, 0, 0, 0, 0, -1, []),
  (188, .goto (-79), 191, 109, 0, 0, 0, 0, 0, []),
  (191, .aload_n 0, 192, 0, 0, 0, 0, 0, 0, []),
  (192, .invokevirtual 206, 195, 185, 1, 7, 0, 300, 0, []),
  (195, .istore_n 1, 196, 1, 0, 0, 0, 0, 0, []),
  (196, .iconst 0, 197, 0, 0, 0, 0, 0, 0, []),
  (197, .istore_n 2, 198, 2, 0, 0, 0, 0, 0, []),
  (198, .iload_n 2, 199, 2, 0, 0, 0, 0, 0, []),
  (199, .aload_n 0, 200, 0, 0, 0, 0, 0, 0, []),
  (200, .getfield 196, 203, 7, 19, 0, 0, 294, 0, []),
  (203, .if_icmp .ge 51, 206, 254, 0, 0, 0, 0, 0, []),
  (206, .aload_n 0, 207, 0, 0, 0, 0, 0, 0, []),
  (207, .getfield 40, 210, 7, 17, 1, 8, 298, 0, []),
  (210, .iload_n 2, 211, 2, 0, 0, 0, 0, 0, []),
  (211, .iaload, 212, 8, 0, 0, 0, 0, 0, []),
  (212, .iload_n 1, 213, 1, 0, 0, 0, 0, 0, []),
  (213, .if_icmp .ge 28, 216, 241, 0, 0, 0, 0, 0, []),
  (216, .aload_n 0, 217, 0, 0, 0, 0, 0, 0, []),
  (217, .getfield 40, 220, 7, 17, 1, 8, 298, 0, []),
  (220, .iload_n 2, 221, 2, 0, 0, 0, 0, 0, []),
  (221, .iload_n 1, 222, 1, 0, 0, 0, 0, 0, []),
  (222, .iastore, 223, 8, 0, 0, 0, 0, 0, []),
  (223, .aload_n 0, 224, 0, 0, 0, 0, 0, 0, []),
  (224, .getfield 43, 227, 7, 18, 1, 8, 297, 0, []),
  (227, .iload_n 2, 228, 2, 0, 0, 0, 0, 0, []),
  (228, .iload_n 1, 229, 1, 0, 0, 0, 0, 0, []),
  (229, .aload_n 0, 230, 0, 0, 0, 0, 0, 0, []),
  (230, .aload_n 0, 231, 0, 0, 0, 0, 0, 0, []),
  (231, .getfield 37, 234, 7, 16, 1, 8, 296, 0, []),
  (234, .iload_n 2, 235, 2, 0, 0, 0, 0, 0, []),
  (235, .iaload, 236, 8, 0, 0, 0, 0, 0, []),
  (236, .invokevirtual 202, 239, 181, 2, 7, 0, 299, 0, []),
  (239, .iadd, 240, 0, 0, 0, 0, 0, 0, []),
  (240, .iastore, 241, 8, 0, 0, 0, 0, 0, []),
  (241, .aload_n 0, 242, 0, 0, 0, 0, 0, 0, []),
  (242, .getfield 43, 245, 7, 18, 1, 8, 297, 0, []),
  (245, .iload_n 2, 246, 2, 0, 0, 0, 0, 0, []),
  (246, .iaload, 247, 8, 0, 0, 0, 0, 0, []),
  (247, .istore_n 1, 248, 1, 0, 0, 0, 0, 0, []),
  (248, .iinc 2 1, 251, 2, 0, 0, 0, 0, 1, []),
  (251, .goto (-53), 254, 198, 0, 0, 0, 0, 0, []),
  (254, .return_, 255, 0, 0, 0, 0, 0, 0, [])]
def tbX7_placeOf : List iE := [(0, .aload_n 0, 1, 0, 0, 0, 0, 0, 0, []),
  (1, .invokevirtual 209, 4, 186, 1, 7, 0, 301, 0, []),
  (4, .iconst 0, 5, 0, 0, 0, 0, 0, 0, []),
  (5, .istore_n 2, 6, 2, 0, 0, 0, 0, 0, []),
  (6, .iload_n 2, 7, 2, 0, 0, 0, 0, 0, []),
  (7, .aload_n 0, 8, 0, 0, 0, 0, 0, 0, []),
  (8, .getfield 196, 11, 7, 19, 0, 0, 294, 0, []),
  (11, .if_icmp .ge 21, 14, 32, 0, 0, 0, 0, 0, []),
  (14, .aload_n 0, 15, 0, 0, 0, 0, 0, 0, []),
  (15, .getfield 37, 18, 7, 16, 1, 8, 296, 0, []),
  (18, .iload_n 2, 19, 2, 0, 0, 0, 0, 0, []),
  (19, .iaload, 20, 8, 0, 0, 0, 0, 0, []),
  (20, .iload_n 1, 21, 1, 0, 0, 0, 0, 0, []),
  (21, .if_icmp .ne 5, 24, 26, 0, 0, 0, 0, 0, []),
  (24, .iload_n 2, 25, 2, 0, 0, 0, 0, 0, []),
  (25, .ireturn, 26, 0, 0, 0, 0, 0, 0, []),
  (26, .iinc 2 1, 29, 2, 0, 0, 0, 0, 1, []),
  (29, .goto (-23), 32, 6, 0, 0, 0, 0, 0, []),
  (32, .iconst (-1), 33, 0, 0, 0, 0, 0, -1, []),
  (33, .ireturn, 34, 0, 0, 0, 0, 0, 0, [])]
def tbX7_startOf : List iE := [(0, .aload_n 0, 1, 0, 0, 0, 0, 0, 0, []),
  (1, .iload_n 1, 2, 1, 0, 0, 0, 0, 0, []),
  (2, .iconst 3, 3, 0, 0, 0, 0, 0, 3, []),
  (3, .invokevirtual 188, 6, 144, 3, 7, 0, 291, 0, []),
  (6, .iconst 3, 7, 0, 0, 0, 0, 0, 3, []),
  (7, .if_icmp .ne 6, 10, 13, 0, 0, 0, 0, 0, []),
  (10, .ldc 212, 12, 0, 0, 0, 0, 302, -1000000, []),
  (12, .ireturn, 13, 0, 0, 0, 0, 0, 0, []),
  (13, .aload_n 0, 14, 0, 0, 0, 0, 0, 0, []),
  (14, .iload_n 1, 15, 1, 0, 0, 0, 0, 0, []),
  (15, .invokevirtual 213, 18, 187, 2, 7, 0, 303, 0, []),
  (18, .istore_n 2, 19, 2, 0, 0, 0, 0, 0, []),
  (19, .iload_n 2, 20, 2, 0, 0, 0, 0, 0, []),
  (20, .iconst (-1), 21, 0, 0, 0, 0, 0, -1, []),
  (21, .if_icmp .ne 13, 24, 34, 0, 0, 0, 0, 0, []),
  (24, .aload_n 0, 25, 0, 0, 0, 0, 0, 0, []),
  (25, .iload_n 1, 26, 1, 0, 0, 0, 0, 0, []),
  (26, .bipush 10, 28, 0, 0, 0, 0, 0, 10, []),
  (28, .invokevirtual 188, 31, 144, 3, 7, 0, 291, 0, []),
  (31, .goto 9, 34, 40, 0, 0, 0, 0, 0, []),
  (34, .aload_n 0, 35, 0, 0, 0, 0, 0, 0, []),
  (35, .getfield 40, 38, 7, 17, 1, 8, 298, 0, []),
  (38, .iload_n 2, 39, 2, 0, 0, 0, 0, 0, []),
  (39, .iaload, 40, 8, 0, 0, 0, 0, 0, []),
  (40, .ireturn, 41, 0, 0, 0, 0, 0, 0, [])]
def tbX7_ropeNow : List iE := [(0, .iconst 0, 1, 0, 0, 0, 0, 0, 0, []),
  (1, .istore_n 1, 2, 1, 0, 0, 0, 0, 0, []),
  (2, .iconst 0, 3, 0, 0, 0, 0, 0, 0, []),
  (3, .istore_n 2, 4, 2, 0, 0, 0, 0, 0, []),
  (4, .iload_n 2, 5, 2, 0, 0, 0, 0, 0, []),
  (5, .aload_n 0, 6, 0, 0, 0, 0, 0, 0, []),
  (6, .getfield 9, 9, 7, 0, 1, 8, 250, 0, []),
  (9, .iconst 4, 10, 0, 0, 0, 0, 0, 4, []),
  (10, .iaload, 11, 8, 0, 0, 0, 0, 0, []),
  (11, .if_icmp .ge 39, 14, 50, 0, 0, 0, 0, 0, []),
  (14, .iload_n 1, 15, 1, 0, 0, 0, 0, 0, []),
  (15, .aload_n 0, 16, 0, 0, 0, 0, 0, 0, []),
  (16, .iload_n 2, 17, 2, 0, 0, 0, 0, 0, []),
  (17, .iconst 3, 18, 0, 0, 0, 0, 0, 3, []),
  (18, .invokevirtual 188, 21, 144, 3, 7, 0, 291, 0, []),
  (21, .iconst 1, 22, 0, 0, 0, 0, 0, 1, []),
  (22, .if_icmp .ne 19, 25, 41, 0, 0, 0, 0, 0, []),
  (25, .aload_n 0, 26, 0, 0, 0, 0, 0, 0, []),
  (26, .iload_n 2, 27, 2, 0, 0, 0, 0, 0, []),
  (27, .invokevirtual 216, 30, 184, 2, 7, 0, 304, 0, []),
  (30, .ifCond .ne 11, 33, 41, 0, 0, 0, 0, 0, []),
  (33, .aload_n 0, 34, 0, 0, 0, 0, 0, 0, []),
  (34, .iload_n 2, 35, 2, 0, 0, 0, 0, 0, []),
  (35, .invokevirtual 202, 38, 181, 2, 7, 0, 299, 0, []),
  (38, .goto 4, 41, 42, 0, 0, 0, 0, 0, []),
  (41, .iconst 0, 42, 0, 0, 0, 0, 0, 0, []),
  (42, .iadd, 43, 0, 0, 0, 0, 0, 0, []),
  (43, .istore_n 1, 44, 1, 0, 0, 0, 0, 0, []),
  (44, .iinc 2 1, 47, 2, 0, 0, 0, 0, 1, []),
  (47, .goto (-43), 50, 4, 0, 0, 0, 0, 0, []),
  (50, .iload_n 1, 51, 1, 0, 0, 0, 0, 0, []),
  (51, .ireturn, 52, 0, 0, 0, 0, 0, 0, [])]
def tbX7_penetrationOf : List iE := [(0, .aload_n 0, 1, 0, 0, 0, 0, 0, 0, []),
  (1, .iload_n 1, 2, 1, 0, 0, 0, 0, 0, []),
  (2, .iconst 3, 3, 0, 0, 0, 0, 0, 3, []),
  (3, .invokevirtual 188, 6, 144, 3, 7, 0, 291, 0, []),
  (6, .iconst 1, 7, 0, 0, 0, 0, 0, 1, []),
  (7, .if_icmp .eq 5, 10, 12, 0, 0, 0, 0, 0, []),
  (10, .iconst 0, 11, 0, 0, 0, 0, 0, 0, []),
  (11, .ireturn, 12, 0, 0, 0, 0, 0, 0, []),
  (12, .aload_n 0, 13, 0, 0, 0, 0, 0, 0, []),
  (13, .iload_n 1, 14, 1, 0, 0, 0, 0, 0, []),
  (14, .invokevirtual 199, 17, 183, 2, 7, 0, 295, 0, []),
  (17, .istore_n 2, 18, 2, 0, 0, 0, 0, 0, []),
  (18, .iload_n 2, 19, 2, 0, 0, 0, 0, 0, []),
  (19, .ifCond .eq 13, 22, 32, 0, 0, 0, 0, 0, []),
  (22, .aload_n 0, 23, 0, 0, 0, 0, 0, 0, []),
  (23, .iload_n 1, 24, 1, 0, 0, 0, 0, 0, []),
  (24, .bipush 9, 26, 0, 0, 0, 0, 0, 9, []),
  (26, .invokevirtual 188, 29, 144, 3, 7, 0, 291, 0, []),
  (29, .goto 17, 32, 46, 0, 0, 0, 0, 0, []),
  (32, .aload_n 0, 33, 0, 0, 0, 0, 0, 0, []),
  (33, .iload_n 1, 34, 1, 0, 0, 0, 0, 0, []),
  (34, .iconst 2, 35, 0, 0, 0, 0, 0, 2, []),
  (35, .invokevirtual 188, 38, 144, 3, 7, 0, 291, 0, []),
  (38, .aload_n 0, 39, 0, 0, 0, 0, 0, 0, []),
  (39, .getfield 9, 42, 7, 0, 1, 8, 250, 0, []),
  (42, .bipush 6, 44, 0, 0, 0, 0, 0, 6, []),
  (44, .iaload, 45, 8, 0, 0, 0, 0, 0, []),
  (45, .isub, 46, 0, 0, 0, 0, 0, 0, []),
  (46, .istore_n 3, 47, 3, 0, 0, 0, 0, 0, []),
  (47, .iload_n 2, 48, 2, 0, 0, 0, 0, 0, []),
  (48, .ifCond .eq 12, 51, 60, 0, 0, 0, 0, 0, []),
  (51, .aload_n 0, 52, 0, 0, 0, 0, 0, 0, []),
  (52, .getfield 9, 55, 7, 0, 1, 8, 250, 0, []),
  (55, .iconst 5, 56, 0, 0, 0, 0, 0, 5, []),
  (56, .iaload, 57, 8, 0, 0, 0, 0, 0, []),
  (57, .goto 10, 60, 67, 0, 0, 0, 0, 0, []),
  (60, .aload_n 0, 61, 0, 0, 0, 0, 0, 0, []),
  (61, .getfield 9, 64, 7, 0, 1, 8, 250, 0, []),
  (64, .bipush 6, 66, 0, 0, 0, 0, 0, 6, []),
  (66, .iaload, 67, 8, 0, 0, 0, 0, 0, []),
  (67, .istore 4, 69, 4, 0, 0, 0, 0, 0, []),
  (69, .iconst 0, 70, 0, 0, 0, 0, 0, 0, []),
  (70, .sipush 1000, 73, 0, 0, 0, 0, 0, 1000, []),
  (73, .aload_n 0, 74, 0, 0, 0, 0, 0, 0, []),
  (74, .getfield 9, 77, 7, 0, 1, 8, 250, 0, []),
  (77, .iconst 0, 78, 0, 0, 0, 0, 0, 0, []),
  (78, .iaload, 79, 8, 0, 0, 0, 0, 0, []),
  (79, .iload_n 3, 80, 3, 0, 0, 0, 0, 0, []),
  (80, .isub, 81, 0, 0, 0, 0, 0, 0, []),
  (81, .imul, 82, 0, 0, 0, 0, 0, 0, []),
  (82, .iload 4, 84, 4, 0, 0, 0, 0, 0, []),
  (84, .idiv, 85, 0, 0, 0, 0, 0, 0, []),
  (85, .invokestatic 219, 88, 0, 0, 0, 1, 305, 0, []),
  (88, .ireturn, 89, 0, 0, 0, 0, 0, 0, [])]
def tbX7_zoneOf : List iE := [(0, .aload_n 0, 1, 0, 0, 0, 0, 0, 0, []),
  (1, .iload_n 1, 2, 1, 0, 0, 0, 0, 0, []),
  (2, .iconst 3, 3, 0, 0, 0, 0, 0, 3, []),
  (3, .invokevirtual 188, 6, 144, 3, 7, 0, 291, 0, []),
  (6, .iconst 1, 7, 0, 0, 0, 0, 0, 1, []),
  (7, .if_icmp .eq 7, 10, 14, 0, 0, 0, 0, 0, []),
  (10, .iconst (-1), 11, 0, 0, 0, 0, 0, -1, []),
  (11, .goto 18, 14, 29, 0, 0, 0, 0, 0, []),
  (14, .iconst 3, 15, 0, 0, 0, 0, 0, 3, []),
  (15, .iconst 3, 16, 0, 0, 0, 0, 0, 3, []),
  (16, .aload_n 0, 17, 0, 0, 0, 0, 0, 0, []),
  (17, .iload_n 1, 18, 1, 0, 0, 0, 0, 0, []),
  (18, .invokevirtual 222, 21, 190, 2, 7, 0, 306, 0, []),
  (21, .imul, 22, 0, 0, 0, 0, 0, 0, []),
  (22, .sipush 1000, 25, 0, 0, 0, 0, 0, 1000, []),
  (25, .idiv, 26, 0, 0, 0, 0, 0, 0, []),
  (26, .invokestatic 107, 29, 0, 0, 0, 2, 268, 0, []),
  (29, .ireturn, 30, 0, 0, 0, 0, 0, 0, [])]
def tbX7_release : List iE := [(0, .aload_n 0, 1, 0, 0, 0, 0, 0, 0, []),
  (1, .iload_n 1, 2, 1, 0, 0, 0, 0, 0, []),
  (2, .iconst 3, 3, 0, 0, 0, 0, 0, 3, []),
  (3, .iconst 1, 4, 0, 0, 0, 0, 0, 1, []),
  (4, .invokevirtual 225, 7, 145, 4, 7, 0, 307, 0, []),
  (7, .aload_n 0, 8, 0, 0, 0, 0, 0, 0, []),
  (8, .iload_n 1, 9, 1, 0, 0, 0, 0, 0, []),
  (9, .iconst 4, 10, 0, 0, 0, 0, 0, 4, []),
  (10, .iconst 0, 11, 0, 0, 0, 0, 0, 0, []),
  (11, .invokevirtual 225, 14, 145, 4, 7, 0, 307, 0, []),
  (14, .aload_n 0, 15, 0, 0, 0, 0, 0, 0, []),
  (15, .iload_n 1, 16, 1, 0, 0, 0, 0, 0, []),
  (16, .iconst 5, 17, 0, 0, 0, 0, 0, 5, []),
  (17, .aload_n 0, 18, 0, 0, 0, 0, 0, 0, []),
  (18, .getfield 9, 21, 7, 0, 1, 8, 250, 0, []),
  (21, .iconst 0, 22, 0, 0, 0, 0, 0, 0, []),
  (22, .iaload, 23, 8, 0, 0, 0, 0, 0, []),
  (23, .invokevirtual 225, 26, 145, 4, 7, 0, 307, 0, []),
  (26, .aload_n 0, 27, 0, 0, 0, 0, 0, 0, []),
  (27, .iload_n 1, 28, 1, 0, 0, 0, 0, 0, []),
  (28, .bipush 8, 30, 0, 0, 0, 0, 0, 8, []),
  (30, .aload_n 0, 31, 0, 0, 0, 0, 0, 0, []),
  (31, .getfield 9, 34, 7, 0, 1, 8, 250, 0, []),
  (34, .iconst 0, 35, 0, 0, 0, 0, 0, 0, []),
  (35, .iaload, 36, 8, 0, 0, 0, 0, 0, []),
  (36, .invokevirtual 225, 39, 145, 4, 7, 0, 307, 0, []),
  (39, .aload_n 0, 40, 0, 0, 0, 0, 0, 0, []),
  (40, .iload_n 1, 41, 1, 0, 0, 0, 0, 0, []),
  (41, .bipush 9, 43, 0, 0, 0, 0, 0, 9, []),
  (43, .iload_n 2, 44, 2, 0, 0, 0, 0, 0, []),
  (44, .invokevirtual 225, 47, 145, 4, 7, 0, 307, 0, []),
  (47, .return_, 48, 0, 0, 0, 0, 0, 0, [])]
def tbX7_releases : List iE := [(0, .aload_n 0, 1, 0, 0, 0, 0, 0, 0, []),
  (1, .invokevirtual 209, 4, 186, 1, 7, 0, 301, 0, []),
  (4, .aload_n 0, 5, 0, 0, 0, 0, 0, 0, []),
  (5, .invokevirtual 229, 8, 189, 1, 7, 0, 308, 0, []),
  (8, .istore_n 1, 9, 1, 0, 0, 0, 0, 0, []),
  (9, .iconst 0, 10, 0, 0, 0, 0, 0, 0, []),
  (10, .istore_n 2, 11, 2, 0, 0, 0, 0, 0, []),
  (11, .iload_n 2, 12, 2, 0, 0, 0, 0, 0, []),
  (12, .aload_n 0, 13, 0, 0, 0, 0, 0, 0, []),
  (13, .getfield 196, 16, 7, 19, 0, 0, 294, 0, []),
  (16, .if_icmp .ge 81, 19, 97, 0, 0, 0, 0, 0, []),
  (19, .aload_n 0, 20, 0, 0, 0, 0, 0, 0, []),
  (20, .getfield 37, 23, 7, 16, 1, 8, 296, 0, []),
  (23, .iload_n 2, 24, 2, 0, 0, 0, 0, 0, []),
  (24, .iaload, 25, 8, 0, 0, 0, 0, 0, []),
  (25, .istore_n 3, 26, 3, 0, 0, 0, 0, 0, []),
  (26, .aload_n 0, 27, 0, 0, 0, 0, 0, 0, []),
  (27, .getfield 40, 30, 7, 17, 1, 8, 298, 0, []),
  (30, .iload_n 2, 31, 2, 0, 0, 0, 0, 0, []),
  (31, .iaload, 32, 8, 0, 0, 0, 0, 0, []),
  (32, .aload_n 0, 33, 0, 0, 0, 0, 0, 0, []),
  (33, .getfield 9, 36, 7, 0, 1, 8, 250, 0, []),
  (36, .iconst 5, 37, 0, 0, 0, 0, 0, 5, []),
  (37, .iaload, 38, 8, 0, 0, 0, 0, 0, []),
  (38, .isub, 39, 0, 0, 0, 0, 0, 0, []),
  (39, .istore 4, 41, 4, 0, 0, 0, 0, 0, []),
  (41, .aload_n 0, 42, 0, 0, 0, 0, 0, 0, []),
  (42, .iload_n 3, 43, 3, 0, 0, 0, 0, 0, []),
  (43, .iconst 3, 44, 0, 0, 0, 0, 0, 3, []),
  (44, .invokevirtual 188, 47, 144, 3, 7, 0, 291, 0, []),
  (47, .ifCond .ne 44, 50, 91, 0, 0, 0, 0, 0, []),
  (50, .aload_n 0, 51, 0, 0, 0, 0, 0, 0, []),
  (51, .getfield 9, 54, 7, 0, 1, 8, 250, 0, []),
  (54, .iconst 0, 55, 0, 0, 0, 0, 0, 0, []),
  (55, .iaload, 56, 8, 0, 0, 0, 0, 0, []),
  (56, .iload 4, 58, 4, 0, 0, 0, 0, 0, []),
  (58, .if_icmp .ge 6, 61, 64, 0, 0, 0, 0, 0, []),
  (61, .goto 30, 64, 91, 0, 0, 0, 0, 0, []),
  (64, .iload_n 1, 65, 1, 0, 0, 0, 0, 0, []),
  (65, .aload_n 0, 66, 0, 0, 0, 0, 0, 0, []),
  (66, .iload_n 3, 67, 3, 0, 0, 0, 0, 0, []),
  (67, .invokevirtual 202, 70, 181, 2, 7, 0, 299, 0, []),
  (70, .iadd, 71, 0, 0, 0, 0, 0, 0, []),
  (71, .istore_n 1, 72, 1, 0, 0, 0, 0, 0, []),
  (72, .iload_n 1, 73, 1, 0, 0, 0, 0, 0, []),
  (73, .aload_n 0, 74, 0, 0, 0, 0, 0, 0, []),
  (74, .getfield 9, 77, 7, 0, 1, 8, 250, 0, []),
  (77, .bipush 7, 79, 0, 0, 0, 0, 0, 7, []),
  (79, .iaload, 80, 8, 0, 0, 0, 0, 0, []),
  (80, .if_icmp .le 4, 83, 84, 0, 0, 0, 0, 0, []),
  (83, .return_, 84, 0, 0, 0, 0, 0, 0, []),
  (84, .aload_n 0, 85, 0, 0, 0, 0, 0, 0, []),
  (85, .iload_n 3, 86, 3, 0, 0, 0, 0, 0, []),
  (86, .iload 4, 88, 4, 0, 0, 0, 0, 0, []),
  (88, .invokevirtual 232, 91, 192, 3, 7, 0, 309, 0, []),
  (91, .iinc 2 1, 94, 2, 0, 0, 0, 0, 1, []),
  (94, .goto (-83), 97, 11, 0, 0, 0, 0, 0, []),
  (97, .return_, 98, 0, 0, 0, 0, 0, 0, [])]
def tbX7_waitsAt : List iE := [(0, .aload_n 0, 1, 0, 0, 0, 0, 0, 0, []),
  (1, .iload_n 1, 2, 1, 0, 0, 0, 0, 0, []),
  (2, .iconst 3, 3, 0, 0, 0, 0, 0, 3, []),
  (3, .invokevirtual 188, 6, 144, 3, 7, 0, 291, 0, []),
  (6, .iconst 1, 7, 0, 0, 0, 0, 0, 1, []),
  (7, .if_icmp .ne 40, 10, 47, 0, 0, 0, 0, 0, []),
  (10, .aload_n 0, 11, 0, 0, 0, 0, 0, 0, []),
  (11, .iload_n 1, 12, 1, 0, 0, 0, 0, 0, []),
  (12, .bipush 6, 14, 0, 0, 0, 0, 0, 6, []),
  (14, .invokevirtual 188, 17, 144, 3, 7, 0, 291, 0, []),
  (17, .ifCond .ne 30, 20, 47, 0, 0, 0, 0, 0, []),
  (20, .aload_n 0, 21, 0, 0, 0, 0, 0, 0, []),
  (21, .getfield 9, 24, 7, 0, 1, 8, 250, 0, []),
  (24, .aload_n 0, 25, 0, 0, 0, 0, 0, 0, []),
  (25, .iload_n 1, 26, 1, 0, 0, 0, 0, 0, []),
  (26, .iconst 0, 27, 0, 0, 0, 0, 0, 0, []),
  (27, .invokevirtual 188, 30, 144, 3, 7, 0, 291, 0, []),
  (30, .aload_n 0, 31, 0, 0, 0, 0, 0, 0, []),
  (31, .iload_n 1, 32, 1, 0, 0, 0, 0, 0, []),
  (32, .iconst 4, 33, 0, 0, 0, 0, 0, 4, []),
  (33, .invokevirtual 188, 36, 144, 3, 7, 0, 291, 0, []),
  (36, .invokestatic 53, 39, 147, 3, 7, 0, 251, 0, []),
  (39, .iload_n 2, 40, 2, 0, 0, 0, 0, 0, []),
  (40, .if_icmp .ne 7, 43, 47, 0, 0, 0, 0, 0, []),
  (43, .iconst 1, 44, 0, 0, 0, 0, 0, 1, []),
  (44, .goto 4, 47, 48, 0, 0, 0, 0, 0, []),
  (47, .iconst 0, 48, 0, 0, 0, 0, 0, 0, []),
  (48, .ireturn, 49, 0, 0, 1, 0, 0, 0, [])]
def tbX7_workHere : List iE := [(0, .aload_n 0, 1, 0, 0, 0, 0, 0, 0, []),
  (1, .getfield 9, 4, 7, 0, 1, 8, 250, 0, []),
  (4, .aload_n 0, 5, 0, 0, 0, 0, 0, 0, []),
  (5, .iload_n 1, 6, 1, 0, 0, 0, 0, 0, []),
  (6, .iconst 0, 7, 0, 0, 0, 0, 0, 0, []),
  (7, .invokevirtual 188, 10, 144, 3, 7, 0, 291, 0, []),
  (10, .aload_n 0, 11, 0, 0, 0, 0, 0, 0, []),
  (11, .iload_n 1, 12, 1, 0, 0, 0, 0, 0, []),
  (12, .iconst 4, 13, 0, 0, 0, 0, 0, 4, []),
  (13, .invokevirtual 188, 16, 144, 3, 7, 0, 291, 0, []),
  (16, .invokestatic 61, 19, 148, 3, 7, 0, 253, 0, []),
  (19, .aload_n 0, 20, 0, 0, 0, 0, 0, 0, []),
  (20, .iload_n 1, 21, 1, 0, 0, 0, 0, 0, []),
  (21, .iconst 1, 22, 0, 0, 0, 0, 0, 1, []),
  (22, .invokevirtual 188, 25, 144, 3, 7, 0, 291, 0, []),
  (25, .imul, 26, 0, 0, 0, 0, 0, 0, []),
  (26, .ireturn, 27, 0, 0, 0, 0, 0, 0, [])]
def tbX7_isUrgent : List iE := [(0, .aload_n 0, 1, 0, 0, 0, 0, 0, 0, []),
  (1, .iload_n 1, 2, 1, 0, 0, 0, 0, 0, []),
  (2, .bipush 12, 4, 0, 0, 0, 0, 0, 12, []),
  (4, .invokevirtual 188, 7, 144, 3, 7, 0, 291, 0, []),
  (7, .iconst 1, 8, 0, 0, 0, 0, 0, 1, []),
  (8, .if_icmp .eq 23, 11, 31, 0, 0, 0, 0, 0, []),
  (11, .aload_n 0, 12, 0, 0, 0, 0, 0, 0, []),
  (12, .getfield 9, 15, 7, 0, 1, 8, 250, 0, []),
  (15, .bipush 9, 17, 0, 0, 0, 0, 0, 9, []),
  (17, .iaload, 18, 8, 0, 0, 0, 0, 0, []),
  (18, .iconst 1, 19, 0, 0, 0, 0, 0, 1, []),
  (19, .if_icmp .ne 16, 22, 35, 0, 0, 0, 0, 0, []),
  (22, .aload_n 0, 23, 0, 0, 0, 0, 0, 0, []),
  (23, .iload_n 1, 24, 1, 0, 0, 0, 0, 0, []),
  (24, .invokevirtual 235, 27, 191, 2, 7, 0, 310, 0, []),
  (27, .iconst 2, 28, 0, 0, 0, 0, 0, 2, []),
  (28, .if_icmp .lt 7, 31, 35, 0, 0, 0, 0, 0, []),
  (31, .iconst 1, 32, 0, 0, 0, 0, 0, 1, []),
  (32, .goto 4, 35, 36, 0, 0, 0, 0, 0, []),
  (35, .iconst 0, 36, 0, 0, 0, 0, 0, 0, []),
  (36, .ireturn, 37, 0, 0, 1, 0, 0, 0, [])]
def tbX7_worth : List iE := [(0, .aload_n 0, 1, 0, 0, 0, 0, 0, 0, []),
  (1, .getfield 9, 4, 7, 0, 1, 8, 250, 0, []),
  (4, .bipush 8, 6, 0, 0, 0, 0, 0, 8, []),
  (6, .iaload, 7, 8, 0, 0, 0, 0, 0, []),
  (7, .tableswitch 46 0 2 #[25, 32, 39], 32, 53, 0, 0, 0, 0, 0, [(0, 32), (1, 39), (2, 46)]),
  (32, .aload_n 0, 33, 0, 0, 0, 0, 0, 0, []),
  (33, .iload_n 1, 34, 1, 0, 0, 0, 0, 0, []),
  (34, .iconst 5, 35, 0, 0, 0, 0, 0, 5, []),
  (35, .invokevirtual 188, 38, 144, 3, 7, 0, 291, 0, []),
  (38, .ireturn, 39, 0, 0, 0, 0, 0, 0, []),
  (39, .aload_n 0, 40, 0, 0, 0, 0, 0, 0, []),
  (40, .iload_n 1, 41, 1, 0, 0, 0, 0, 0, []),
  (41, .invokevirtual 222, 44, 190, 2, 7, 0, 306, 0, []),
  (44, .ineg, 45, 0, 0, 0, 0, 0, 0, []),
  (45, .ireturn, 46, 0, 0, 0, 0, 0, 0, []),
  (46, .aload_n 0, 47, 0, 0, 0, 0, 0, 0, []),
  (47, .iload_n 1, 48, 1, 0, 0, 0, 0, 0, []),
  (48, .iconst 2, 49, 0, 0, 0, 0, 0, 2, []),
  (49, .invokevirtual 188, 52, 144, 3, 7, 0, 291, 0, []),
  (52, .ireturn, 53, 0, 0, 0, 0, 0, 0, []),
  (53, .aload_n 0, 54, 0, 0, 0, 0, 0, 0, []),
  (54, .iload_n 1, 55, 1, 0, 0, 0, 0, 0, []),
  (55, .invokevirtual 238, 58, 195, 2, 7, 0, 311, 0, []),
  (58, .ireturn, 59, 0, 0, 0, 0, 0, 0, [])]
def tbX7_isBetter : List iE := [(0, .aload_n 0, 1, 0, 0, 0, 0, 0, 0, []),
  (1, .iload_n 1, 2, 1, 0, 0, 0, 0, 0, []),
  (2, .invokevirtual 241, 5, 196, 2, 7, 0, 312, 0, []),
  (5, .aload_n 0, 6, 0, 0, 0, 0, 0, 0, []),
  (6, .iload_n 2, 7, 2, 0, 0, 0, 0, 0, []),
  (7, .invokevirtual 241, 10, 196, 2, 7, 0, 312, 0, []),
  (10, .if_icmp .eq 9, 13, 19, 0, 0, 0, 0, 0, []),
  (13, .aload_n 0, 14, 0, 0, 0, 0, 0, 0, []),
  (14, .iload_n 1, 15, 1, 0, 0, 0, 0, 0, []),
  (15, .invokevirtual 241, 18, 196, 2, 7, 0, 312, 0, []),
  (18, .ireturn, 19, 0, 0, 1, 0, 0, 0, []),
  (19, .aload_n 0, 20, 0, 0, 0, 0, 0, 0, []),
  (20, .iload_n 1, 21, 1, 0, 0, 0, 0, 0, []),
  (21, .invokevirtual 244, 24, 197, 2, 7, 0, 313, 0, []),
  (24, .aload_n 0, 25, 0, 0, 0, 0, 0, 0, []),
  (25, .iload_n 2, 26, 2, 0, 0, 0, 0, 0, []),
  (26, .invokevirtual 244, 29, 197, 2, 7, 0, 313, 0, []),
  (29, .if_icmp .ge 7, 32, 36, 0, 0, 0, 0, 0, []),
  (32, .iconst 1, 33, 0, 0, 0, 0, 0, 1, []),
  (33, .goto 4, 36, 37, 0, 0, 0, 0, 0, []),
  (36, .iconst 0, 37, 0, 0, 0, 0, 0, 0, []),
  (37, .ireturn, 38, 0, 0, 1, 0, 0, 0, [])]
def tbX7_choice : List iE := [(0, .iconst (-1), 1, 0, 0, 0, 0, 0, -1, []),
  (1, .istore_n 2, 2, 2, 0, 0, 0, 0, 0, []),
  (2, .iconst 0, 3, 0, 0, 0, 0, 0, 0, []),
  (3, .istore_n 3, 4, 3, 0, 0, 0, 0, 0, []),
  (4, .iload_n 3, 5, 3, 0, 0, 0, 0, 0, []),
  (5, .aload_n 0, 6, 0, 0, 0, 0, 0, 0, []),
  (6, .getfield 9, 9, 7, 0, 1, 8, 250, 0, []),
  (9, .iconst 4, 10, 0, 0, 0, 0, 0, 4, []),
  (10, .iaload, 11, 8, 0, 0, 0, 0, 0, []),
  (11, .if_icmp .ge 34, 14, 45, 0, 0, 0, 0, 0, []),
  (14, .aload_n 0, 15, 0, 0, 0, 0, 0, 0, []),
  (15, .iload_n 3, 16, 3, 0, 0, 0, 0, 0, []),
  (16, .iload_n 1, 17, 1, 0, 0, 0, 0, 0, []),
  (17, .invokevirtual 247, 20, 194, 3, 7, 0, 314, 0, []),
  (20, .ifCond .eq 19, 23, 39, 0, 0, 0, 0, 0, []),
  (23, .iload_n 2, 24, 2, 0, 0, 0, 0, 0, []),
  (24, .iconst (-1), 25, 0, 0, 0, 0, 0, -1, []),
  (25, .if_icmp .eq 12, 28, 37, 0, 0, 0, 0, 0, []),
  (28, .aload_n 0, 29, 0, 0, 0, 0, 0, 0, []),
  (29, .iload_n 3, 30, 3, 0, 0, 0, 0, 0, []),
  (30, .iload_n 2, 31, 2, 0, 0, 0, 0, 0, []),
  (31, .invokevirtual 250, 34, 198, 3, 7, 0, 315, 0, []),
  (34, .ifCond .eq 5, 37, 39, 0, 0, 0, 0, 0, []),
  (37, .iload_n 3, 38, 3, 0, 0, 0, 0, 0, []),
  (38, .istore_n 2, 39, 2, 0, 0, 0, 0, 0, []),
  (39, .iinc 3 1, 42, 3, 0, 0, 0, 0, 1, []),
  (42, .goto (-38), 45, 4, 0, 0, 0, 0, 0, []),
  (45, .iload_n 2, 46, 2, 0, 0, 0, 0, 0, []),
  (46, .ireturn, 47, 0, 0, 0, 0, 0, 0, [])]
def tbX7_isDown : List iE := [(0, .aload_n 0, 1, 0, 0, 0, 0, 0, 0, []),
  (1, .getfield 9, 4, 7, 0, 1, 8, 250, 0, []),
  (4, .iconst 0, 5, 0, 0, 0, 0, 0, 0, []),
  (5, .iaload, 6, 8, 0, 0, 0, 0, 0, []),
  (6, .aload_n 0, 7, 0, 0, 0, 0, 0, 0, []),
  (7, .iload_n 1, 8, 1, 0, 0, 0, 0, 0, []),
  (8, .iconst 2, 9, 0, 0, 0, 0, 0, 2, []),
  (9, .invokevirtual 193, 12, 142, 3, 7, 0, 293, 0, []),
  (12, .if_icmp .ge 7, 15, 19, 0, 0, 0, 0, 0, []),
  (15, .iconst 1, 16, 0, 0, 0, 0, 0, 1, []),
  (16, .goto 4, 19, 20, 0, 0, 0, 0, 0, []),
  (19, .iconst 0, 20, 0, 0, 0, 0, 0, 0, []),
  (20, .ireturn, 21, 0, 0, 1, 0, 0, 0, [])]
def tbX7_begins_ : List iE := [(0, .aload_n 0, 1, 0, 0, 0, 0, 0, 0, []),
  (1, .iload_n 1, 2, 1, 0, 0, 0, 0, 0, []),
  (2, .iconst 0, 3, 0, 0, 0, 0, 0, 0, []),
  (3, .invokevirtual 193, 6, 142, 3, 7, 0, 293, 0, []),
  (6, .iconst (-1), 7, 0, 0, 0, 0, 0, -1, []),
  (7, .if_icmp .ne 11, 10, 18, 0, 0, 0, 0, 0, []),
  (10, .aload_n 0, 11, 0, 0, 0, 0, 0, 0, []),
  (11, .iload_n 1, 12, 1, 0, 0, 0, 0, 0, []),
  (12, .invokevirtual 253, 15, 200, 2, 7, 0, 316, 0, []),
  (15, .ifCond .eq 4, 18, 19, 0, 0, 0, 0, 0, []),
  (18, .return_, 19, 0, 0, 0, 0, 0, 0, []),
  (19, .aload_n 0, 20, 0, 0, 0, 0, 0, 0, []),
  (20, .iload_n 1, 21, 1, 0, 0, 0, 0, 0, []),
  (21, .invokevirtual 256, 24, 199, 2, 7, 0, 317, 0, []),
  (24, .istore_n 2, 25, 2, 0, 0, 0, 0, 0, []),
  (25, .iload_n 2, 26, 2, 0, 0, 0, 0, 0, []),
  (26, .iconst (-1), 27, 0, 0, 0, 0, 0, -1, []),
  (27, .if_icmp .ne 4, 30, 31, 0, 0, 0, 0, 0, []),
  (30, .return_, 31, 0, 0, 0, 0, 0, 0, []),
  (31, .aload_n 0, 32, 0, 0, 0, 0, 0, 0, []),
  (32, .iload_n 2, 33, 2, 0, 0, 0, 0, 0, []),
  (33, .iconst 0, 34, 0, 0, 0, 0, 0, 0, []),
  (34, .invokevirtual 188, 37, 144, 3, 7, 0, 291, 0, []),
  (37, .istore_n 3, 38, 3, 0, 0, 0, 0, 0, []),
  (38, .aload_n 0, 39, 0, 0, 0, 0, 0, 0, []),
  (39, .iload_n 2, 40, 2, 0, 0, 0, 0, 0, []),
  (40, .invokevirtual 238, 43, 195, 2, 7, 0, 311, 0, []),
  (43, .istore 4, 45, 4, 0, 0, 0, 0, 0, []),
  (45, .iload_n 3, 46, 3, 0, 0, 0, 0, 0, []),
  (46, .aload_n 0, 47, 0, 0, 0, 0, 0, 0, []),
  (47, .iload_n 1, 48, 1, 0, 0, 0, 0, 0, []),
  (48, .iconst 1, 49, 0, 0, 0, 0, 0, 1, []),
  (49, .invokevirtual 193, 52, 142, 3, 7, 0, 293, 0, []),
  (52, .if_icmp .eq 28, 55, 80, 0, 0, 0, 0, 0, []),
  (55, .iload 4, 57, 4, 0, 0, 0, 0, 0, []),
  (57, .aload_n 0, 58, 0, 0, 0, 0, 0, 0, []),
  (58, .iload_n 1, 59, 1, 0, 0, 0, 0, 0, []),
  (59, .iconst 5, 60, 0, 0, 0, 0, 0, 5, []),
  (60, .invokevirtual 193, 63, 142, 3, 7, 0, 293, 0, []),
  (63, .iadd, 64, 0, 0, 0, 0, 0, 0, []),
  (64, .istore 4, 66, 4, 0, 0, 0, 0, 0, []),
  (66, .aload_n 0, 67, 0, 0, 0, 0, 0, 0, []),
  (67, .iload_n 1, 68, 1, 0, 0, 0, 0, 0, []),
  (68, .iconst 4, 69, 0, 0, 0, 0, 0, 4, []),
  (69, .aload_n 0, 70, 0, 0, 0, 0, 0, 0, []),
  (70, .iload_n 1, 71, 1, 0, 0, 0, 0, 0, []),
  (71, .iconst 4, 72, 0, 0, 0, 0, 0, 4, []),
  (72, .invokevirtual 193, 75, 142, 3, 7, 0, 293, 0, []),
  (75, .iconst 1, 76, 0, 0, 0, 0, 0, 1, []),
  (76, .iadd, 77, 0, 0, 0, 0, 0, 0, []),
  (77, .invokevirtual 259, 80, 143, 4, 7, 0, 318, 0, []),
  (80, .aload_n 0, 81, 0, 0, 0, 0, 0, 0, []),
  (81, .iload_n 1, 82, 1, 0, 0, 0, 0, 0, []),
  (82, .iconst 1, 83, 0, 0, 0, 0, 0, 1, []),
  (83, .iload_n 3, 84, 3, 0, 0, 0, 0, 0, []),
  (84, .invokevirtual 259, 87, 143, 4, 7, 0, 318, 0, []),
  (87, .aload_n 0, 88, 0, 0, 0, 0, 0, 0, []),
  (88, .iload_n 1, 89, 1, 0, 0, 0, 0, 0, []),
  (89, .iconst 0, 90, 0, 0, 0, 0, 0, 0, []),
  (90, .iload_n 2, 91, 2, 0, 0, 0, 0, 0, []),
  (91, .invokevirtual 259, 94, 143, 4, 7, 0, 318, 0, []),
  (94, .aload_n 0, 95, 0, 0, 0, 0, 0, 0, []),
  (95, .iload_n 2, 96, 2, 0, 0, 0, 0, 0, []),
  (96, .bipush 6, 98, 0, 0, 0, 0, 0, 6, []),
  (98, .iconst 1, 99, 0, 0, 0, 0, 0, 1, []),
  (99, .invokevirtual 225, 102, 145, 4, 7, 0, 307, 0, []),
  (102, .aload_n 0, 103, 0, 0, 0, 0, 0, 0, []),
  (103, .iload_n 2, 104, 2, 0, 0, 0, 0, 0, []),
  (104, .bipush 7, 106, 0, 0, 0, 0, 0, 7, []),
  (106, .iload 4, 108, 4, 0, 0, 0, 0, 0, []),
  (108, .invokevirtual 225, 111, 145, 4, 7, 0, 307, 0, []),
  (111, .iload_n 1, 112, 1, 0, 0, 0, 0, 0, []),
  (112, .aload_n 0, 113, 0, 0, 0, 0, 0, 0, []),
  (113, .getfield 9, 116, 7, 0, 1, 8, 250, 0, []),
  (116, .iconst 2, 117, 0, 0, 0, 0, 0, 2, []),
  (117, .iaload, 118, 8, 0, 0, 0, 0, 0, []),
  (118, .if_icmp .ne 16, 121, 134, 0, 0, 0, 0, 0, []),
  (121, .aload_n 0, 122, 0, 0, 0, 0, 0, 0, []),
  (122, .iload_n 2, 123, 2, 0, 0, 0, 0, 0, []),
  (123, .bipush 10, 125, 0, 0, 0, 0, 0, 10, []),
  (125, .aload_n 0, 126, 0, 0, 0, 0, 0, 0, []),
  (126, .getfield 9, 129, 7, 0, 1, 8, 250, 0, []),
  (129, .iconst 0, 130, 0, 0, 0, 0, 0, 0, []),
  (130, .iaload, 131, 8, 0, 0, 0, 0, 0, []),
  (131, .invokevirtual 225, 134, 145, 4, 7, 0, 307, 0, []),
  (134, .return_, 135, 0, 0, 0, 0, 0, 0, [])]
def tbX7_isStarved : List iE := [(0, .aload_n 0, 1, 0, 0, 0, 0, 0, 0, []),
  (1, .aload_n 0, 2, 0, 0, 0, 0, 0, 0, []),
  (2, .getfield 9, 5, 7, 0, 1, 8, 250, 0, []),
  (5, .iconst 2, 6, 0, 0, 0, 0, 0, 2, []),
  (6, .iaload, 7, 8, 0, 0, 0, 0, 0, []),
  (7, .invokevirtual 253, 10, 200, 2, 7, 0, 316, 0, []),
  (10, .ifCond .ne 18, 13, 28, 0, 0, 0, 0, 0, []),
  (13, .aload_n 0, 14, 0, 0, 0, 0, 0, 0, []),
  (14, .aload_n 0, 15, 0, 0, 0, 0, 0, 0, []),
  (15, .getfield 9, 18, 7, 0, 1, 8, 250, 0, []),
  (18, .iconst 2, 19, 0, 0, 0, 0, 0, 2, []),
  (19, .iaload, 20, 8, 0, 0, 0, 0, 0, []),
  (20, .iconst 0, 21, 0, 0, 0, 0, 0, 0, []),
  (21, .invokevirtual 193, 24, 142, 3, 7, 0, 293, 0, []),
  (24, .iconst (-1), 25, 0, 0, 0, 0, 0, -1, []),
  (25, .if_icmp .eq 5, 28, 30, 0, 0, 0, 0, 0, []),
  (28, .iconst 0, 29, 0, 0, 0, 0, 0, 0, []),
  (29, .ireturn, 30, 0, 0, 1, 0, 0, 0, []),
  (30, .iconst 0, 31, 0, 0, 0, 0, 0, 0, []),
  (31, .istore_n 1, 32, 1, 0, 0, 0, 0, 0, []),
  (32, .iload_n 1, 33, 1, 0, 0, 0, 0, 0, []),
  (33, .aload_n 0, 34, 0, 0, 0, 0, 0, 0, []),
  (34, .getfield 9, 37, 7, 0, 1, 8, 250, 0, []),
  (37, .iconst 4, 38, 0, 0, 0, 0, 0, 4, []),
  (38, .iaload, 39, 8, 0, 0, 0, 0, 0, []),
  (39, .if_icmp .ge 27, 42, 66, 0, 0, 0, 0, 0, []),
  (42, .aload_n 0, 43, 0, 0, 0, 0, 0, 0, []),
  (43, .iload_n 1, 44, 1, 0, 0, 0, 0, 0, []),
  (44, .invokevirtual 190, 47, 182, 2, 7, 0, 292, 0, []),
  (47, .ifCond .eq 13, 50, 60, 0, 0, 0, 0, 0, []),
  (50, .aload_n 0, 51, 0, 0, 0, 0, 0, 0, []),
  (51, .iload_n 1, 52, 1, 0, 0, 0, 0, 0, []),
  (52, .invokevirtual 216, 55, 184, 2, 7, 0, 304, 0, []),
  (55, .ifCond .ne 5, 58, 60, 0, 0, 0, 0, 0, []),
  (58, .iconst 1, 59, 0, 0, 0, 0, 0, 1, []),
  (59, .ireturn, 60, 0, 0, 1, 0, 0, 0, []),
  (60, .iinc 1 1, 63, 1, 0, 0, 0, 0, 1, []),
  (63, .goto (-31), 66, 32, 0, 0, 0, 0, 0, []),
  (66, .iconst 0, 67, 0, 0, 0, 0, 0, 0, []),
  (67, .ireturn, 68, 0, 0, 1, 0, 0, 0, [])]
def tbX7_works : List iE := [(0, .aload_n 0, 1, 0, 0, 0, 0, 0, 0, []),
  (1, .iload_n 1, 2, 1, 0, 0, 0, 0, 0, []),
  (2, .iconst 0, 3, 0, 0, 0, 0, 0, 0, []),
  (3, .invokevirtual 193, 6, 142, 3, 7, 0, 293, 0, []),
  (6, .istore_n 2, 7, 2, 0, 0, 0, 0, 0, []),
  (7, .iload_n 2, 8, 2, 0, 0, 0, 0, 0, []),
  (8, .iconst (-1), 9, 0, 0, 0, 0, 0, -1, []),
  (9, .if_icmp .eq 11, 12, 20, 0, 0, 0, 0, 0, []),
  (12, .aload_n 0, 13, 0, 0, 0, 0, 0, 0, []),
  (13, .iload_n 1, 14, 1, 0, 0, 0, 0, 0, []),
  (14, .invokevirtual 253, 17, 200, 2, 7, 0, 316, 0, []),
  (17, .ifCond .eq 4, 20, 21, 0, 0, 0, 0, 0, []),
  (20, .return_, 21, 0, 0, 0, 0, 0, 0, []),
  (21, .aload_n 0, 22, 0, 0, 0, 0, 0, 0, []),
  (22, .iload_n 2, 23, 2, 0, 0, 0, 0, 0, []),
  (23, .bipush 7, 25, 0, 0, 0, 0, 0, 7, []),
  (25, .aload_n 0, 26, 0, 0, 0, 0, 0, 0, []),
  (26, .iload_n 2, 27, 2, 0, 0, 0, 0, 0, []),
  (27, .bipush 7, 29, 0, 0, 0, 0, 0, 7, []),
  (29, .invokevirtual 188, 32, 144, 3, 7, 0, 291, 0, []),
  (32, .iconst 1, 33, 0, 0, 0, 0, 0, 1, []),
  (33, .isub, 34, 0, 0, 0, 0, 0, 0, []),
  (34, .invokevirtual 225, 37, 145, 4, 7, 0, 307, 0, []),
  (37, .aload_n 0, 38, 0, 0, 0, 0, 0, 0, []),
  (38, .iload_n 1, 39, 1, 0, 0, 0, 0, 0, []),
  (39, .iconst 3, 40, 0, 0, 0, 0, 0, 3, []),
  (40, .aload_n 0, 41, 0, 0, 0, 0, 0, 0, []),
  (41, .iload_n 1, 42, 1, 0, 0, 0, 0, 0, []),
  (42, .iconst 3, 43, 0, 0, 0, 0, 0, 3, []),
  (43, .invokevirtual 193, 46, 142, 3, 7, 0, 293, 0, []),
  (46, .iconst 1, 47, 0, 0, 0, 0, 0, 1, []),
  (47, .iadd, 48, 0, 0, 0, 0, 0, 0, []),
  (48, .invokevirtual 259, 51, 143, 4, 7, 0, 318, 0, []),
  (51, .return_, 52, 0, 0, 0, 0, 0, 0, [])]
def tbX7_finishes : List iE := [(0, .aload_n 0, 1, 0, 0, 0, 0, 0, 0, []),
  (1, .iload_n 1, 2, 1, 0, 0, 0, 0, 0, []),
  (2, .iconst 0, 3, 0, 0, 0, 0, 0, 0, []),
  (3, .invokevirtual 193, 6, 142, 3, 7, 0, 293, 0, []),
  (6, .istore_n 2, 7, 2, 0, 0, 0, 0, 0, []),
  (7, .iload_n 2, 8, 2, 0, 0, 0, 0, 0, []),
  (8, .iconst (-1), 9, 0, 0, 0, 0, 0, -1, []),
  (9, .if_icmp .eq 13, 12, 22, 0, 0, 0, 0, 0, []),
  (12, .aload_n 0, 13, 0, 0, 0, 0, 0, 0, []),
  (13, .iload_n 2, 14, 2, 0, 0, 0, 0, 0, []),
  (14, .bipush 7, 16, 0, 0, 0, 0, 0, 7, []),
  (16, .invokevirtual 188, 19, 144, 3, 7, 0, 291, 0, []),
  (19, .ifCond .le 5, 22, 24, 0, 0, 0, 0, 0, []),
  (22, .iconst 0, 23, 0, 0, 0, 0, 0, 0, []),
  (23, .ireturn, 24, 0, 0, 1, 0, 0, 0, []),
  (24, .aload_n 0, 25, 0, 0, 0, 0, 0, 0, []),
  (25, .iload_n 1, 26, 1, 0, 0, 0, 0, 0, []),
  (26, .iconst 0, 27, 0, 0, 0, 0, 0, 0, []),
  (27, .iconst (-1), 28, 0, 0, 0, 0, 0, -1, []),
  (28, .invokevirtual 259, 31, 143, 4, 7, 0, 318, 0, []),
  (31, .aload_n 0, 32, 0, 0, 0, 0, 0, 0, []),
  (32, .iload_n 2, 33, 2, 0, 0, 0, 0, 0, []),
  (33, .bipush 6, 35, 0, 0, 0, 0, 0, 6, []),
  (35, .iconst 0, 36, 0, 0, 0, 0, 0, 0, []),
  (36, .invokevirtual 225, 39, 145, 4, 7, 0, 307, 0, []),
  (39, .aload_n 0, 40, 0, 0, 0, 0, 0, 0, []),
  (40, .iload_n 2, 41, 2, 0, 0, 0, 0, 0, []),
  (41, .iconst 4, 42, 0, 0, 0, 0, 0, 4, []),
  (42, .aload_n 0, 43, 0, 0, 0, 0, 0, 0, []),
  (43, .iload_n 2, 44, 2, 0, 0, 0, 0, 0, []),
  (44, .iconst 4, 45, 0, 0, 0, 0, 0, 4, []),
  (45, .invokevirtual 188, 48, 144, 3, 7, 0, 291, 0, []),
  (48, .iconst 1, 49, 0, 0, 0, 0, 0, 1, []),
  (49, .iadd, 50, 0, 0, 0, 0, 0, 0, []),
  (50, .invokevirtual 225, 53, 145, 4, 7, 0, 307, 0, []),
  (53, .aload_n 0, 54, 0, 0, 0, 0, 0, 0, []),
  (54, .iload_n 2, 55, 2, 0, 0, 0, 0, 0, []),
  (55, .iconst 5, 56, 0, 0, 0, 0, 0, 5, []),
  (56, .aload_n 0, 57, 0, 0, 0, 0, 0, 0, []),
  (57, .getfield 9, 60, 7, 0, 1, 8, 250, 0, []),
  (60, .iconst 0, 61, 0, 0, 0, 0, 0, 0, []),
  (61, .iaload, 62, 8, 0, 0, 0, 0, 0, []),
  (62, .invokevirtual 225, 65, 145, 4, 7, 0, 307, 0, []),
  (65, .aload_n 0, 66, 0, 0, 0, 0, 0, 0, []),
  (66, .iload_n 2, 67, 2, 0, 0, 0, 0, 0, []),
  (67, .iconst 4, 68, 0, 0, 0, 0, 0, 4, []),
  (68, .invokevirtual 188, 71, 144, 3, 7, 0, 291, 0, []),
  (71, .aload_n 0, 72, 0, 0, 0, 0, 0, 0, []),
  (72, .getfield 9, 75, 7, 0, 1, 8, 250, 0, []),
  (75, .aload_n 0, 76, 0, 0, 0, 0, 0, 0, []),
  (76, .iload_n 2, 77, 2, 0, 0, 0, 0, 0, []),
  (77, .iconst 0, 78, 0, 0, 0, 0, 0, 0, []),
  (78, .invokevirtual 188, 81, 144, 3, 7, 0, 291, 0, []),
  (81, .invokestatic 116, 84, 146, 2, 7, 0, 271, 0, []),
  (84, .if_icmp .ne 7, 87, 91, 0, 0, 0, 0, 0, []),
  (87, .iconst 1, 88, 0, 0, 0, 0, 0, 1, []),
  (88, .goto 4, 91, 92, 0, 0, 0, 0, 0, []),
  (91, .iconst 0, 92, 0, 0, 0, 0, 0, 0, []),
  (92, .istore_n 3, 93, 3, 0, 0, 0, 0, 0, []),
  (93, .iload_n 3, 94, 3, 0, 0, 0, 0, 0, []),
  (94, .ifCond .eq 23, 97, 117, 0, 0, 0, 0, 0, []),
  (97, .aload_n 0, 98, 0, 0, 0, 0, 0, 0, []),
  (98, .iload_n 2, 99, 2, 0, 0, 0, 0, 0, []),
  (99, .iconst 3, 100, 0, 0, 0, 0, 0, 3, []),
  (100, .iconst 2, 101, 0, 0, 0, 0, 0, 2, []),
  (101, .invokevirtual 225, 104, 145, 4, 7, 0, 307, 0, []),
  (104, .aload_n 0, 105, 0, 0, 0, 0, 0, 0, []),
  (105, .iload_n 2, 106, 2, 0, 0, 0, 0, 0, []),
  (106, .bipush 11, 108, 0, 0, 0, 0, 0, 11, []),
  (108, .aload_n 0, 109, 0, 0, 0, 0, 0, 0, []),
  (109, .getfield 9, 112, 7, 0, 1, 8, 250, 0, []),
  (112, .iconst 0, 113, 0, 0, 0, 0, 0, 0, []),
  (113, .iaload, 114, 8, 0, 0, 0, 0, 0, []),
  (114, .invokevirtual 225, 117, 145, 4, 7, 0, 307, 0, []),
  (117, .iload_n 3, 118, 3, 0, 0, 0, 0, 0, []),
  (118, .ireturn, 119, 0, 0, 1, 0, 0, 0, [])]
def tbX7_sees : List iE := [(0, .aload_n 0, 1, 0, 0, 0, 0, 0, 0, []),
  (1, .iload_n 1, 2, 1, 0, 0, 0, 0, 0, []),
  (2, .bipush 13, 4, 0, 0, 0, 0, 0, 13, []),
  (4, .invokevirtual 188, 7, 144, 3, 7, 0, 291, 0, []),
  (7, .iconst (-1), 8, 0, 0, 0, 0, 0, -1, []),
  (8, .if_icmp .ne 12, 11, 20, 0, 0, 0, 0, 0, []),
  (11, .aload_n 0, 12, 0, 0, 0, 0, 0, 0, []),
  (12, .iload_n 1, 13, 1, 0, 0, 0, 0, 0, []),
  (13, .invokevirtual 235, 16, 191, 2, 7, 0, 310, 0, []),
  (16, .iconst 2, 17, 0, 0, 0, 0, 0, 2, []),
  (17, .if_icmp .ge 4, 20, 21, 0, 0, 0, 0, 0, []),
  (20, .return_, 21, 0, 0, 0, 0, 0, 0, []),
  (21, .aload_n 0, 22, 0, 0, 0, 0, 0, 0, []),
  (22, .getfield 9, 25, 7, 0, 1, 8, 250, 0, []),
  (25, .aload_n 0, 26, 0, 0, 0, 0, 0, 0, []),
  (26, .iload_n 1, 27, 1, 0, 0, 0, 0, 0, []),
  (27, .iconst 0, 28, 0, 0, 0, 0, 0, 0, []),
  (28, .invokevirtual 188, 31, 144, 3, 7, 0, 291, 0, []),
  (31, .aload_n 0, 32, 0, 0, 0, 0, 0, 0, []),
  (32, .iload_n 1, 33, 1, 0, 0, 0, 0, 0, []),
  (33, .iconst 4, 34, 0, 0, 0, 0, 0, 4, []),
  (34, .invokevirtual 188, 37, 144, 3, 7, 0, 291, 0, []),
  (37, .invokestatic 53, 40, 147, 3, 7, 0, 251, 0, []),
  (40, .istore_n 2, 41, 2, 0, 0, 0, 0, 0, []),
  (41, .aload_n 0, 42, 0, 0, 0, 0, 0, 0, []),
  (42, .iload_n 1, 43, 1, 0, 0, 0, 0, 0, []),
  (43, .bipush 13, 45, 0, 0, 0, 0, 0, 13, []),
  (45, .iload_n 2, 46, 2, 0, 0, 0, 0, 0, []),
  (46, .invokevirtual 225, 49, 145, 4, 7, 0, 307, 0, []),
  (49, .aload_n 0, 50, 0, 0, 0, 0, 0, 0, []),
  (50, .iload_n 2, 51, 2, 0, 0, 0, 0, 0, []),
  (51, .bipush 6, 53, 0, 0, 0, 0, 0, 6, []),
  (53, .aload_n 0, 54, 0, 0, 0, 0, 0, 0, []),
  (54, .iload_n 2, 55, 2, 0, 0, 0, 0, 0, []),
  (55, .bipush 6, 57, 0, 0, 0, 0, 0, 6, []),
  (57, .invokevirtual 193, 60, 142, 3, 7, 0, 293, 0, []),
  (60, .iconst 1, 61, 0, 0, 0, 0, 0, 1, []),
  (61, .iadd, 62, 0, 0, 0, 0, 0, 0, []),
  (62, .invokevirtual 259, 65, 143, 4, 7, 0, 318, 0, []),
  (65, .return_, 66, 0, 0, 0, 0, 0, 0, [])]
def tbX7_passes : List iE := [(0, .aload_n 0, 1, 0, 0, 0, 0, 0, 0, []),
  (1, .invokevirtual 262, 4, 193, 1, 7, 0, 319, 0, []),
  (4, .iconst 0, 5, 0, 0, 0, 0, 0, 0, []),
  (5, .istore_n 1, 6, 1, 0, 0, 0, 0, 0, []),
  (6, .iload_n 1, 7, 1, 0, 0, 0, 0, 0, []),
  (7, .aload_n 0, 8, 0, 0, 0, 0, 0, 0, []),
  (8, .getfield 9, 11, 7, 0, 1, 8, 250, 0, []),
  (11, .iconst 1, 12, 0, 0, 0, 0, 0, 1, []),
  (12, .iaload, 13, 8, 0, 0, 0, 0, 0, []),
  (13, .if_icmp .ge 14, 16, 27, 0, 0, 0, 0, 0, []),
  (16, .aload_n 0, 17, 0, 0, 0, 0, 0, 0, []),
  (17, .iload_n 1, 18, 1, 0, 0, 0, 0, 0, []),
  (18, .invokevirtual 265, 21, 201, 2, 7, 0, 320, 0, []),
  (21, .iinc 1 1, 24, 1, 0, 0, 0, 0, 1, []),
  (24, .goto (-18), 27, 6, 0, 0, 0, 0, 0, []),
  (27, .aload_n 0, 28, 0, 0, 0, 0, 0, 0, []),
  (28, .getfield 9, 31, 7, 0, 1, 8, 250, 0, []),
  (31, .bipush 10, 33, 0, 0, 0, 0, 0, 10, []),
  (33, .dup2, 34, 0, 0, 0, 0, 0, 0, []),
  (34, .iaload, 35, 8, 0, 0, 0, 0, 0, []),
  (35, .aload_n 0, 36, 0, 0, 0, 0, 0, 0, []),
  (36, .invokevirtual 267, 39, 202, 1, 7, 0, 321, 0, []),
  (39, .ifCond .eq 7, 42, 46, 0, 0, 0, 0, 0, []),
  (42, .iconst 1, 43, 0, 0, 0, 0, 0, 1, []),
  (43, .goto 4, 46, 47, 0, 0, 0, 0, 0, []),
  (46, .iconst 0, 47, 0, 0, 0, 0, 0, 0, []),
  (47, .iadd, 48, 0, 0, 0, 0, 0, 0, []),
  (48, .iastore, 49, 8, 0, 0, 0, 0, 0, []),
  (49, .iconst 0, 50, 0, 0, 0, 0, 0, 0, []),
  (50, .istore_n 1, 51, 1, 0, 0, 0, 0, 0, []),
  (51, .iload_n 1, 52, 1, 0, 0, 0, 0, 0, []),
  (52, .aload_n 0, 53, 0, 0, 0, 0, 0, 0, []),
  (53, .getfield 9, 56, 7, 0, 1, 8, 250, 0, []),
  (56, .iconst 1, 57, 0, 0, 0, 0, 0, 1, []),
  (57, .iaload, 58, 8, 0, 0, 0, 0, 0, []),
  (58, .if_icmp .ge 14, 61, 72, 0, 0, 0, 0, 0, []),
  (61, .aload_n 0, 62, 0, 0, 0, 0, 0, 0, []),
  (62, .iload_n 1, 63, 1, 0, 0, 0, 0, 0, []),
  (63, .invokevirtual 270, 66, 203, 2, 7, 0, 322, 0, []),
  (66, .iinc 1 1, 69, 1, 0, 0, 0, 0, 1, []),
  (69, .goto (-18), 72, 51, 0, 0, 0, 0, 0, []),
  (72, .aload_n 0, 73, 0, 0, 0, 0, 0, 0, []),
  (73, .getfield 9, 76, 7, 0, 1, 8, 250, 0, []),
  (76, .iconst 0, 77, 0, 0, 0, 0, 0, 0, []),
  (77, .dup2, 78, 0, 0, 0, 0, 0, 0, []),
  (78, .iaload, 79, 8, 0, 0, 0, 0, 0, []),
  (79, .iconst 1, 80, 0, 0, 0, 0, 0, 1, []),
  (80, .iadd, 81, 0, 0, 0, 0, 0, 0, []),
  (81, .iastore, 82, 8, 0, 0, 0, 0, 0, []),
  (82, .iconst 0, 83, 0, 0, 0, 0, 0, 0, []),
  (83, .istore_n 1, 84, 1, 0, 0, 0, 0, 0, []),
  (84, .iconst 0, 85, 0, 0, 0, 0, 0, 0, []),
  (85, .istore_n 2, 86, 2, 0, 0, 0, 0, 0, []),
  (86, .iload_n 2, 87, 2, 0, 0, 0, 0, 0, []),
  (87, .aload_n 0, 88, 0, 0, 0, 0, 0, 0, []),
  (88, .getfield 9, 91, 7, 0, 1, 8, 250, 0, []),
  (91, .iconst 1, 92, 0, 0, 0, 0, 0, 1, []),
  (92, .iaload, 93, 8, 0, 0, 0, 0, 0, []),
  (93, .if_icmp .ge 25, 96, 118, 0, 0, 0, 0, 0, []),
  (96, .iload_n 1, 97, 1, 0, 0, 0, 0, 0, []),
  (97, .aload_n 0, 98, 0, 0, 0, 0, 0, 0, []),
  (98, .iload_n 2, 99, 2, 0, 0, 0, 0, 0, []),
  (99, .invokevirtual 273, 102, 204, 2, 7, 0, 323, 0, []),
  (102, .ifCond .eq 7, 105, 109, 0, 0, 0, 0, 0, []),
  (105, .iconst 1, 106, 0, 0, 0, 0, 0, 1, []),
  (106, .goto 4, 109, 110, 0, 0, 0, 0, 0, []),
  (109, .iconst 0, 110, 0, 0, 0, 0, 0, 0, []),
  (110, .iadd, 111, 0, 0, 0, 0, 0, 0, []),
  (111, .istore_n 1, 112, 1, 0, 0, 0, 0, 0, []),
  (112, .iinc 2 1, 115, 2, 0, 0, 0, 0, 1, []),
  (115, .goto (-29), 118, 86, 0, 0, 0, 0, 0, []),
  (118, .iconst 0, 119, 0, 0, 0, 0, 0, 0, []),
  (119, .istore_n 2, 120, 2, 0, 0, 0, 0, 0, []),
  (120, .iload_n 2, 121, 2, 0, 0, 0, 0, 0, []),
  (121, .aload_n 0, 122, 0, 0, 0, 0, 0, 0, []),
  (122, .getfield 9, 125, 7, 0, 1, 8, 250, 0, []),
  (125, .iconst 4, 126, 0, 0, 0, 0, 0, 4, []),
  (126, .iaload, 127, 8, 0, 0, 0, 0, 0, []),
  (127, .if_icmp .ge 14, 130, 141, 0, 0, 0, 0, 0, []),
  (130, .aload_n 0, 131, 0, 0, 0, 0, 0, 0, []),
  (131, .iload_n 2, 132, 2, 0, 0, 0, 0, 0, []),
  (132, .invokevirtual 276, 135, 205, 2, 7, 0, 324, 0, []),
  (135, .iinc 2 1, 138, 2, 0, 0, 0, 0, 1, []),
  (138, .goto (-18), 141, 120, 0, 0, 0, 0, 0, []),
  (141, .iload_n 1, 142, 1, 0, 0, 0, 0, 0, []),
  (142, .ireturn, 143, 0, 0, 0, 0, 0, 0, [])]
def tbX7_now : List iE := [(0, .aload_n 0, 1, 0, 0, 0, 0, 0, 0, []),
  (1, .iconst 0, 2, 0, 0, 0, 0, 0, 0, []),
  (2, .putfield 50, 5, 7, 5, 0, 0, 249, 0, []),
  (5, .aload_n 0, 6, 0, 0, 0, 0, 0, 0, []),
  (6, .getfield 9, 9, 7, 0, 1, 8, 250, 0, []),
  (9, .iconst 0, 10, 0, 0, 0, 0, 0, 0, []),
  (10, .iaload, 11, 8, 0, 0, 0, 0, 0, []),
  (11, .ireturn, 12, 0, 0, 0, 0, 0, 0, [])]
def tbX7_advance : List iE := [(0, .aload_n 0, 1, 0, 0, 0, 0, 0, 0, []),
  (1, .iload_n 1, 2, 1, 0, 0, 0, 0, 0, []),
  (2, .iconst 1, 3, 0, 0, 0, 0, 0, 1, []),
  (3, .sipush 500, 6, 0, 0, 0, 0, 0, 500, []),
  (6, .invokestatic 64, 9, 139, 3, 7, 0, 254, 0, []),
  (9, .iconst 1, 10, 0, 0, 0, 0, 0, 1, []),
  (10, .invokevirtual 68, 13, 152, 3, 7, 0, 255, 0, []),
  (13, .ifCond .eq 5, 16, 18, 0, 0, 0, 0, 0, []),
  (16, .iconst 0, 17, 0, 0, 0, 0, 0, 0, []),
  (17, .ireturn, 18, 0, 0, 0, 0, 0, 0, []),
  (18, .aload_n 0, 19, 0, 0, 0, 0, 0, 0, []),
  (19, .getfield 9, 22, 7, 0, 1, 8, 250, 0, []),
  (22, .iconst 0, 23, 0, 0, 0, 0, 0, 0, []),
  (23, .iaload, 24, 8, 0, 0, 0, 0, 0, []),
  (24, .iload_n 1, 25, 1, 0, 0, 0, 0, 0, []),
  (25, .iadd, 26, 0, 0, 0, 0, 0, 0, []),
  (26, .sipush 30000, 29, 0, 0, 0, 0, 0, 30000, []),
  (29, .if_icmp .le 6, 32, 35, 0, 0, 0, 0, 0, []),
  (32, .bipush (-2), 34, 0, 0, 0, 0, 0, -2, []),
  (34, .ireturn, 35, 0, 0, 0, 0, 0, 0, []),
  (35, .iconst 0, 36, 0, 0, 0, 0, 0, 0, []),
  (36, .istore_n 2, 37, 2, 0, 0, 0, 0, 0, []),
  (37, .iconst 0, 38, 0, 0, 0, 0, 0, 0, []),
  (38, .istore_n 3, 39, 3, 0, 0, 0, 0, 0, []),
  (39, .iload_n 3, 40, 3, 0, 0, 0, 0, 0, []),
  (40, .iload_n 1, 41, 1, 0, 0, 0, 0, 0, []),
  (41, .if_icmp .ge 16, 44, 57, 0, 0, 0, 0, 0, []),
  (44, .iload_n 2, 45, 2, 0, 0, 0, 0, 0, []),
  (45, .aload_n 0, 46, 0, 0, 0, 0, 0, 0, []),
  (46, .invokevirtual 279, 49, 206, 1, 7, 0, 325, 0, []),
  (49, .iadd, 50, 0, 0, 0, 0, 0, 0, []),
  (50, .istore_n 2, 51, 2, 0, 0, 0, 0, 0, []),
  (51, .iinc 3 1, 54, 3, 0, 0, 0, 0, 1, []),
  (54, .goto (-15), 57, 39, 0, 0, 0, 0, 0, []),
  (57, .iload_n 2, 58, 2, 0, 0, 0, 0, 0, []),
  (58, .ireturn, 59, 0, 0, 0, 0, 0, 0, [])]
def tbX7_noAdding : List iE := [(0, .aload_n 0, 1, 0, 0, 0, 0, 0, 0, []),
  (1, .getfield 9, 4, 7, 0, 1, 8, 250, 0, []),
  (4, .iconst 4, 5, 0, 0, 0, 0, 0, 4, []),
  (5, .iaload, 6, 8, 0, 0, 0, 0, 0, []),
  (6, .bipush 24, 8, 0, 0, 0, 0, 0, 24, []),
  (8, .if_icmp .ne 8, 11, 16, 0, 0, 0, 0, 0, []),
  (11, .bipush (-2), 13, 0, 0, 0, 0, 0, -2, []),
  (13, .goto 28, 16, 41, 0, 0, 0, 0, 0, []),
  (16, .aload_n 0, 17, 0, 0, 0, 0, 0, 0, []),
  (17, .getfield 9, 20, 7, 0, 1, 8, 250, 0, []),
  (20, .iload_n 1, 21, 1, 0, 0, 0, 0, 0, []),
  (21, .iload_n 2, 22, 2, 0, 0, 0, 0, 0, []),
  (22, .invokestatic 160, 25, 150, 3, 7, 0, 281, 0, []),
  (25, .aload_n 0, 26, 0, 0, 0, 0, 0, 0, []),
  (26, .getfield 9, 29, 7, 0, 1, 8, 250, 0, []),
  (29, .bipush 7, 31, 0, 0, 0, 0, 0, 7, []),
  (31, .iaload, 32, 8, 0, 0, 0, 0, 0, []),
  (32, .if_icmp .le 8, 35, 40, 0, 0, 0, 0, 0, []),
  (35, .bipush (-4), 37, 0, 0, 0, 0, 0, -4, []),
  (37, .goto 4, 40, 41, 0, 0, 0, 0, 0, []),
  (40, .iconst 0, 41, 0, 0, 0, 0, 0, 0, []),
  (41, .ireturn, 42, 0, 0, 0, 0, 0, 0, [])]
def tbX7_isNewOrder : List iE := [(0, .aload_n 0, 1, 0, 0, 0, 0, 0, 0, []),
  (1, .aload_n 0, 2, 0, 0, 0, 0, 0, 0, []),
  (2, .iload_n 1, 3, 1, 0, 0, 0, 0, 0, []),
  (3, .invokevirtual 180, 6, 154, 2, 7, 0, 289, 0, []),
  (6, .iconst 1, 7, 0, 0, 0, 0, 0, 1, []),
  (7, .invokevirtual 68, 10, 152, 3, 7, 0, 255, 0, []),
  (10, .ifCond .ne 41, 13, 51, 0, 0, 0, 0, 0, []),
  (13, .aload_n 0, 14, 0, 0, 0, 0, 0, 0, []),
  (14, .iload_n 2, 15, 2, 0, 0, 0, 0, 0, []),
  (15, .iconst 1, 16, 0, 0, 0, 0, 0, 1, []),
  (16, .bipush 50, 18, 0, 0, 0, 0, 0, 50, []),
  (18, .invokestatic 64, 21, 139, 3, 7, 0, 254, 0, []),
  (21, .ifCond .eq 18, 24, 39, 0, 0, 0, 0, 0, []),
  (24, .iload_n 3, 25, 3, 0, 0, 0, 0, 0, []),
  (25, .iconst 0, 26, 0, 0, 0, 0, 0, 0, []),
  (26, .sipush 30000, 29, 0, 0, 0, 0, 0, 30000, []),
  (29, .invokestatic 64, 32, 139, 3, 7, 0, 254, 0, []),
  (32, .ifCond .eq 7, 35, 39, 0, 0, 0, 0, 0, []),
  (35, .iconst 1, 36, 0, 0, 0, 0, 0, 1, []),
  (36, .goto 4, 39, 40, 0, 0, 0, 0, 0, []),
  (39, .iconst 0, 40, 0, 0, 0, 0, 0, 0, []),
  (40, .iconst 2, 41, 0, 0, 0, 0, 0, 2, []),
  (41, .invokevirtual 68, 44, 152, 3, 7, 0, 255, 0, []),
  (44, .ifCond .ne 7, 47, 51, 0, 0, 0, 0, 0, []),
  (47, .iconst 1, 48, 0, 0, 0, 0, 0, 1, []),
  (48, .goto 4, 51, 52, 0, 0, 0, 0, 0, []),
  (51, .iconst 0, 52, 0, 0, 0, 0, 0, 0, []),
  (52, .ireturn, 53, 0, 0, 1, 0, 0, 0, [])]
def tbX7_addOrder : List iE := [(0, .aload_n 0, 1, 0, 0, 0, 0, 0, 0, []),
  (1, .iload_n 1, 2, 1, 0, 0, 0, 0, 0, []),
  (2, .iload_n 2, 3, 2, 0, 0, 0, 0, 0, []),
  (3, .iload_n 3, 4, 3, 0, 0, 0, 0, 0, []),
  (4, .invokevirtual 282, 7, 210, 4, 7, 0, 326, 0, []),
  (7, .ifCond .ne 5, 10, 12, 0, 0, 0, 0, 0, []),
  (10, .iconst 0, 11, 0, 0, 0, 0, 0, 0, []),
  (11, .ireturn, 12, 0, 0, 0, 0, 0, 0, []),
  (12, .aload_n 0, 13, 0, 0, 0, 0, 0, 0, []),
  (13, .iload_n 1, 14, 1, 0, 0, 0, 0, 0, []),
  (14, .iload_n 2, 15, 2, 0, 0, 0, 0, 0, []),
  (15, .invokevirtual 285, 18, 209, 3, 7, 0, 327, 0, []),
  (18, .istore 4, 20, 4, 0, 0, 0, 0, 0, []),
  (20, .iload 4, 22, 4, 0, 0, 0, 0, 0, []),
  (22, .ifCond .eq 6, 25, 28, 0, 0, 0, 0, 0, []),
  (25, .iload 4, 27, 4, 0, 0, 0, 0, 0, []),
  (27, .ireturn, 28, 0, 0, 0, 0, 0, 0, []),
  (28, .aload_n 0, 29, 0, 0, 0, 0, 0, 0, []),
  (29, .getfield 9, 32, 7, 0, 1, 8, 250, 0, []),
  (32, .iload_n 1, 33, 1, 0, 0, 0, 0, 0, []),
  (33, .iload_n 2, 34, 2, 0, 0, 0, 0, 0, []),
  (34, .iload_n 3, 35, 3, 0, 0, 0, 0, 0, []),
  (35, .invokestatic 126, 38, 151, 4, 7, 0, 275, 0, []),
  (38, .aload_n 0, 39, 0, 0, 0, 0, 0, 0, []),
  (39, .getfield 9, 42, 7, 0, 1, 8, 250, 0, []),
  (42, .iconst 4, 43, 0, 0, 0, 0, 0, 4, []),
  (43, .iaload, 44, 8, 0, 0, 0, 0, 0, []),
  (44, .iconst 1, 45, 0, 0, 0, 0, 0, 1, []),
  (45, .isub, 46, 0, 0, 0, 0, 0, 0, []),
  (46, .ireturn, 47, 0, 0, 0, 0, 0, 0, [])]
def tbX7_cancel : List iE := [(0, .aload_n 0, 1, 0, 0, 0, 0, 0, 0, []),
  (1, .aload_n 0, 2, 0, 0, 0, 0, 0, 0, []),
  (2, .iload_n 1, 3, 1, 0, 0, 0, 0, 0, []),
  (3, .invokevirtual 288, 6, 153, 2, 7, 0, 328, 0, []),
  (6, .iconst 1, 7, 0, 0, 0, 0, 0, 1, []),
  (7, .invokevirtual 68, 10, 152, 3, 7, 0, 255, 0, []),
  (10, .ifCond .eq 5, 13, 15, 0, 0, 0, 0, 0, []),
  (13, .iconst 0, 14, 0, 0, 0, 0, 0, 0, []),
  (14, .ireturn, 15, 0, 0, 0, 0, 0, 0, []),
  (15, .aload_n 0, 16, 0, 0, 0, 0, 0, 0, []),
  (16, .iload_n 1, 17, 1, 0, 0, 0, 0, 0, []),
  (17, .iconst 3, 18, 0, 0, 0, 0, 0, 3, []),
  (18, .invokevirtual 188, 21, 144, 3, 7, 0, 291, 0, []),
  (21, .ifCond .eq 6, 24, 27, 0, 0, 0, 0, 0, []),
  (24, .bipush (-3), 26, 0, 0, 0, 0, 0, -3, []),
  (26, .ireturn, 27, 0, 0, 0, 0, 0, 0, []),
  (27, .aload_n 0, 28, 0, 0, 0, 0, 0, 0, []),
  (28, .iload_n 1, 29, 1, 0, 0, 0, 0, 0, []),
  (29, .iconst 3, 30, 0, 0, 0, 0, 0, 3, []),
  (30, .iconst 3, 31, 0, 0, 0, 0, 0, 3, []),
  (31, .invokevirtual 225, 34, 145, 4, 7, 0, 307, 0, []),
  (34, .iconst 0, 35, 0, 0, 0, 0, 0, 0, []),
  (35, .istore_n 2, 36, 2, 0, 0, 0, 0, 0, []),
  (36, .iconst 0, 37, 0, 0, 0, 0, 0, 0, []),
  (37, .istore_n 3, 38, 3, 0, 0, 0, 0, 0, []),
  (38, .iload_n 3, 39, 3, 0, 0, 0, 0, 0, []),
  (39, .aload_n 0, 40, 0, 0, 0, 0, 0, 0, []),
  (40, .getfield 9, 43, 7, 0, 1, 8, 250, 0, []),
  (43, .iconst 4, 44, 0, 0, 0, 0, 0, 4, []),
  (44, .iaload, 45, 8, 0, 0, 0, 0, 0, []),
  (45, .if_icmp .ge 26, 48, 71, 0, 0, 0, 0, 0, []),
  (48, .iload_n 2, 49, 2, 0, 0, 0, 0, 0, []),
  (49, .aload_n 0, 50, 0, 0, 0, 0, 0, 0, []),
  (50, .iload_n 3, 51, 3, 0, 0, 0, 0, 0, []),
  (51, .iconst 3, 52, 0, 0, 0, 0, 0, 3, []),
  (52, .invokevirtual 188, 55, 144, 3, 7, 0, 291, 0, []),
  (55, .ifCond .ne 7, 58, 62, 0, 0, 0, 0, 0, []),
  (58, .iconst 1, 59, 0, 0, 0, 0, 0, 1, []),
  (59, .goto 4, 62, 63, 0, 0, 0, 0, 0, []),
  (62, .iconst 0, 63, 0, 0, 0, 0, 0, 0, []),
  (63, .iadd, 64, 0, 0, 0, 0, 0, 0, []),
  (64, .istore_n 2, 65, 2, 0, 0, 0, 0, 0, []),
  (65, .iinc 3 1, 68, 3, 0, 0, 0, 0, 1, []),
  (68, .goto (-30), 71, 38, 0, 0, 0, 0, 0, []),
  (71, .iload_n 2, 72, 2, 0, 0, 0, 0, 0, []),
  (72, .ireturn, 73, 0, 0, 0, 0, 0, 0, [])]
def tbX7_setDue : List iE := [(0, .aload_n 0, 1, 0, 0, 0, 0, 0, 0, []),
  (1, .aload_n 0, 2, 0, 0, 0, 0, 0, 0, []),
  (2, .iload_n 1, 3, 1, 0, 0, 0, 0, 0, []),
  (3, .invokevirtual 288, 6, 153, 2, 7, 0, 328, 0, []),
  (6, .iconst 1, 7, 0, 0, 0, 0, 0, 1, []),
  (7, .invokevirtual 68, 10, 152, 3, 7, 0, 255, 0, []),
  (10, .ifCond .ne 19, 13, 29, 0, 0, 0, 0, 0, []),
  (13, .aload_n 0, 14, 0, 0, 0, 0, 0, 0, []),
  (14, .iload_n 2, 15, 2, 0, 0, 0, 0, 0, []),
  (15, .iconst 0, 16, 0, 0, 0, 0, 0, 0, []),
  (16, .sipush 30000, 19, 0, 0, 0, 0, 0, 30000, []),
  (19, .invokestatic 64, 22, 139, 3, 7, 0, 254, 0, []),
  (22, .iconst 2, 23, 0, 0, 0, 0, 0, 2, []),
  (23, .invokevirtual 68, 26, 152, 3, 7, 0, 255, 0, []),
  (26, .ifCond .eq 5, 29, 31, 0, 0, 0, 0, 0, []),
  (29, .iconst 0, 30, 0, 0, 0, 0, 0, 0, []),
  (30, .ireturn, 31, 0, 0, 0, 0, 0, 0, []),
  (31, .aload_n 0, 32, 0, 0, 0, 0, 0, 0, []),
  (32, .iload_n 1, 33, 1, 0, 0, 0, 0, 0, []),
  (33, .invokevirtual 190, 36, 182, 2, 7, 0, 292, 0, []),
  (36, .ifCond .ne 6, 39, 42, 0, 0, 0, 0, 0, []),
  (39, .bipush (-3), 41, 0, 0, 0, 0, 0, -3, []),
  (41, .ireturn, 42, 0, 0, 0, 0, 0, 0, []),
  (42, .aload_n 0, 43, 0, 0, 0, 0, 0, 0, []),
  (43, .iload_n 1, 44, 1, 0, 0, 0, 0, 0, []),
  (44, .iconst 2, 45, 0, 0, 0, 0, 0, 2, []),
  (45, .invokevirtual 188, 48, 144, 3, 7, 0, 291, 0, []),
  (48, .istore_n 3, 49, 3, 0, 0, 0, 0, 0, []),
  (49, .aload_n 0, 50, 0, 0, 0, 0, 0, 0, []),
  (50, .iload_n 1, 51, 1, 0, 0, 0, 0, 0, []),
  (51, .iconst 2, 52, 0, 0, 0, 0, 0, 2, []),
  (52, .iload_n 2, 53, 2, 0, 0, 0, 0, 0, []),
  (53, .invokevirtual 225, 56, 145, 4, 7, 0, 307, 0, []),
  (56, .iload_n 3, 57, 3, 0, 0, 0, 0, 0, []),
  (57, .ireturn, 58, 0, 0, 0, 0, 0, 0, [])]
def tbX7_expedite : List iE := [(0, .aload_n 0, 1, 0, 0, 0, 0, 0, 0, []),
  (1, .aload_n 0, 2, 0, 0, 0, 0, 0, 0, []),
  (2, .iload_n 1, 3, 1, 0, 0, 0, 0, 0, []),
  (3, .invokevirtual 288, 6, 153, 2, 7, 0, 328, 0, []),
  (6, .iconst 1, 7, 0, 0, 0, 0, 0, 1, []),
  (7, .invokevirtual 68, 10, 152, 3, 7, 0, 255, 0, []),
  (10, .ifCond .eq 5, 13, 15, 0, 0, 0, 0, 0, []),
  (13, .iconst 0, 14, 0, 0, 0, 0, 0, 0, []),
  (14, .ireturn, 15, 0, 0, 1, 0, 0, 0, []),
  (15, .aload_n 0, 16, 0, 0, 0, 0, 0, 0, []),
  (16, .iload_n 1, 17, 1, 0, 0, 0, 0, 0, []),
  (17, .bipush 12, 19, 0, 0, 0, 0, 0, 12, []),
  (19, .invokevirtual 188, 22, 144, 3, 7, 0, 291, 0, []),
  (22, .iconst 1, 23, 0, 0, 0, 0, 0, 1, []),
  (23, .if_icmp .ne 7, 26, 30, 0, 0, 0, 0, 0, []),
  (26, .iconst 1, 27, 0, 0, 0, 0, 0, 1, []),
  (27, .goto 4, 30, 31, 0, 0, 0, 0, 0, []),
  (30, .iconst 0, 31, 0, 0, 0, 0, 0, 0, []),
  (31, .istore_n 3, 32, 3, 0, 0, 0, 0, 0, []),
  (32, .aload_n 0, 33, 0, 0, 0, 0, 0, 0, []),
  (33, .iload_n 1, 34, 1, 0, 0, 0, 0, 0, []),
  (34, .bipush 12, 36, 0, 0, 0, 0, 0, 12, []),
  (36, .iload_n 2, 37, 2, 0, 0, 0, 0, 0, []),
  (37, .ifCond .eq 7, 40, 44, 0, 0, 0, 0, 0, []),
  (40, .iconst 1, 41, 0, 0, 0, 0, 0, 1, []),
  (41, .goto 4, 44, 45, 0, 0, 0, 0, 0, []),
  (44, .iconst 0, 45, 0, 0, 0, 0, 0, 0, []),
  (45, .invokevirtual 225, 48, 145, 4, 7, 0, 307, 0, []),
  (48, .iload_n 3, 49, 3, 0, 0, 0, 0, 0, []),
  (49, .ireturn, 50, 0, 0, 1, 0, 0, 0, [])]
def tbX7_setRule : List iE := [(0, .aload_n 0, 1, 0, 0, 0, 0, 0, 0, []),
  (1, .iload_n 1, 2, 1, 0, 0, 0, 0, 0, []),
  (2, .iconst 0, 3, 0, 0, 0, 0, 0, 0, []),
  (3, .iconst 3, 4, 0, 0, 0, 0, 0, 3, []),
  (4, .invokestatic 64, 7, 139, 3, 7, 0, 254, 0, []),
  (7, .iconst 1, 8, 0, 0, 0, 0, 0, 1, []),
  (8, .invokevirtual 68, 11, 152, 3, 7, 0, 255, 0, []),
  (11, .ifCond .eq 5, 14, 16, 0, 0, 0, 0, 0, []),
  (14, .iconst 0, 15, 0, 0, 0, 0, 0, 0, []),
  (15, .ireturn, 16, 0, 0, 0, 0, 0, 0, []),
  (16, .aload_n 0, 17, 0, 0, 0, 0, 0, 0, []),
  (17, .getfield 9, 20, 7, 0, 1, 8, 250, 0, []),
  (20, .bipush 8, 22, 0, 0, 0, 0, 0, 8, []),
  (22, .iaload, 23, 8, 0, 0, 0, 0, 0, []),
  (23, .istore_n 2, 24, 2, 0, 0, 0, 0, 0, []),
  (24, .aload_n 0, 25, 0, 0, 0, 0, 0, 0, []),
  (25, .getfield 9, 28, 7, 0, 1, 8, 250, 0, []),
  (28, .bipush 8, 30, 0, 0, 0, 0, 0, 8, []),
  (30, .iload_n 1, 31, 1, 0, 0, 0, 0, 0, []),
  (31, .iastore, 32, 8, 0, 0, 0, 0, 0, []),
  (32, .iload_n 2, 33, 2, 0, 0, 0, 0, 0, []),
  (33, .ireturn, 34, 0, 0, 0, 0, 0, 0, [])]
def tbX7_greatestWaiting : List iE := [(0, .iconst 0, 1, 0, 0, 0, 0, 0, 0, []),
  (1, .istore_n 1, 2, 1, 0, 0, 0, 0, 0, []),
  (2, .iconst 0, 3, 0, 0, 0, 0, 0, 0, []),
  (3, .istore_n 2, 4, 2, 0, 0, 0, 0, 0, []),
  (4, .iload_n 2, 5, 2, 0, 0, 0, 0, 0, []),
  (5, .aload_n 0, 6, 0, 0, 0, 0, 0, 0, []),
  (6, .getfield 9, 9, 7, 0, 1, 8, 250, 0, []),
  (9, .iconst 4, 10, 0, 0, 0, 0, 0, 4, []),
  (10, .iaload, 11, 8, 0, 0, 0, 0, 0, []),
  (11, .if_icmp .ge 32, 14, 43, 0, 0, 0, 0, 0, []),
  (14, .aload_n 0, 15, 0, 0, 0, 0, 0, 0, []),
  (15, .iload_n 2, 16, 2, 0, 0, 0, 0, 0, []),
  (16, .iconst 3, 17, 0, 0, 0, 0, 0, 3, []),
  (17, .invokevirtual 188, 20, 144, 3, 7, 0, 291, 0, []),
  (20, .ifCond .ne 15, 23, 35, 0, 0, 0, 0, 0, []),
  (23, .iload_n 1, 24, 1, 0, 0, 0, 0, 0, []),
  (24, .aload_n 0, 25, 0, 0, 0, 0, 0, 0, []),
  (25, .iload_n 2, 26, 2, 0, 0, 0, 0, 0, []),
  (26, .invokevirtual 202, 29, 181, 2, 7, 0, 299, 0, []),
  (29, .invokestatic 219, 32, 0, 0, 0, 1, 305, 0, []),
  (32, .goto 4, 35, 36, 0, 0, 0, 0, 0, []),
  (35, .iload_n 1, 36, 1, 0, 0, 0, 0, 0, []),
  (36, .istore_n 1, 37, 1, 0, 0, 0, 0, 0, []),
  (37, .iinc 2 1, 40, 2, 0, 0, 0, 0, 1, []),
  (40, .goto (-36), 43, 4, 0, 0, 0, 0, 0, []),
  (43, .iload_n 1, 44, 1, 0, 0, 0, 0, 0, []),
  (44, .ireturn, 45, 0, 0, 0, 0, 0, 0, [])]
def tbX7_setRope : List iE := [(0, .aload_n 0, 1, 0, 0, 0, 0, 0, 0, []),
  (1, .iload_n 1, 2, 1, 0, 0, 0, 0, 0, []),
  (2, .iconst 1, 3, 0, 0, 0, 0, 0, 1, []),
  (3, .sipush 5000, 6, 0, 0, 0, 0, 0, 5000, []),
  (6, .invokestatic 64, 9, 139, 3, 7, 0, 254, 0, []),
  (9, .iconst 1, 10, 0, 0, 0, 0, 0, 1, []),
  (10, .invokevirtual 68, 13, 152, 3, 7, 0, 255, 0, []),
  (13, .ifCond .eq 5, 16, 18, 0, 0, 0, 0, 0, []),
  (16, .iconst 0, 17, 0, 0, 0, 0, 0, 0, []),
  (17, .ireturn, 18, 0, 0, 0, 0, 0, 0, []),
  (18, .aload_n 0, 19, 0, 0, 0, 0, 0, 0, []),
  (19, .invokevirtual 291, 22, 216, 1, 7, 0, 329, 0, []),
  (22, .iload_n 1, 23, 1, 0, 0, 0, 0, 0, []),
  (23, .if_icmp .le 6, 26, 29, 0, 0, 0, 0, 0, []),
  (26, .bipush (-4), 28, 0, 0, 0, 0, 0, -4, []),
  (28, .ireturn, 29, 0, 0, 0, 0, 0, 0, []),
  (29, .aload_n 0, 30, 0, 0, 0, 0, 0, 0, []),
  (30, .getfield 9, 33, 7, 0, 1, 8, 250, 0, []),
  (33, .bipush 7, 35, 0, 0, 0, 0, 0, 7, []),
  (35, .iaload, 36, 8, 0, 0, 0, 0, 0, []),
  (36, .istore_n 2, 37, 2, 0, 0, 0, 0, 0, []),
  (37, .aload_n 0, 38, 0, 0, 0, 0, 0, 0, []),
  (38, .getfield 9, 41, 7, 0, 1, 8, 250, 0, []),
  (41, .bipush 7, 43, 0, 0, 0, 0, 0, 7, []),
  (43, .iload_n 1, 44, 1, 0, 0, 0, 0, 0, []),
  (44, .iastore, 45, 8, 0, 0, 0, 0, 0, []),
  (45, .iload_n 2, 46, 2, 0, 0, 0, 0, 0, []),
  (46, .ireturn, 47, 0, 0, 0, 0, 0, 0, [])]
def tbX7_rope : List iE := [(0, .aload_n 0, 1, 0, 0, 0, 0, 0, 0, []),
  (1, .iconst 0, 2, 0, 0, 0, 0, 0, 0, []),
  (2, .putfield 50, 5, 7, 5, 0, 0, 249, 0, []),
  (5, .aload_n 0, 6, 0, 0, 0, 0, 0, 0, []),
  (6, .getfield 9, 9, 7, 0, 1, 8, 250, 0, []),
  (9, .bipush 7, 11, 0, 0, 0, 0, 0, 7, []),
  (11, .iaload, 12, 8, 0, 0, 0, 0, 0, []),
  (12, .ireturn, 13, 0, 0, 0, 0, 0, 0, [])]
def tbX7_stop : List iE := [(0, .aload_n 0, 1, 0, 0, 0, 0, 0, 0, []),
  (1, .aload_n 0, 2, 0, 0, 0, 0, 0, 0, []),
  (2, .iload_n 1, 3, 1, 0, 0, 0, 0, 0, []),
  (3, .invokevirtual 294, 6, 155, 2, 7, 0, 330, 0, []),
  (6, .iconst 1, 7, 0, 0, 0, 0, 0, 1, []),
  (7, .invokevirtual 68, 10, 152, 3, 7, 0, 255, 0, []),
  (10, .ifCond .ne 19, 13, 29, 0, 0, 0, 0, 0, []),
  (13, .aload_n 0, 14, 0, 0, 0, 0, 0, 0, []),
  (14, .iload_n 2, 15, 2, 0, 0, 0, 0, 0, []),
  (15, .iconst 0, 16, 0, 0, 0, 0, 0, 0, []),
  (16, .sipush 500, 19, 0, 0, 0, 0, 0, 500, []),
  (19, .invokestatic 64, 22, 139, 3, 7, 0, 254, 0, []),
  (22, .iconst 2, 23, 0, 0, 0, 0, 0, 2, []),
  (23, .invokevirtual 68, 26, 152, 3, 7, 0, 255, 0, []),
  (26, .ifCond .eq 5, 29, 31, 0, 0, 0, 0, 0, []),
  (29, .iconst 0, 30, 0, 0, 0, 0, 0, 0, []),
  (30, .ireturn, 31, 0, 0, 0, 0, 0, 0, []),
  (31, .aload_n 0, 32, 0, 0, 0, 0, 0, 0, []),
  (32, .iload_n 1, 33, 1, 0, 0, 0, 0, 0, []),
  (33, .iconst 2, 34, 0, 0, 0, 0, 0, 2, []),
  (34, .aload_n 0, 35, 0, 0, 0, 0, 0, 0, []),
  (35, .getfield 9, 38, 7, 0, 1, 8, 250, 0, []),
  (38, .iconst 0, 39, 0, 0, 0, 0, 0, 0, []),
  (39, .iaload, 40, 8, 0, 0, 0, 0, 0, []),
  (40, .iload_n 2, 41, 2, 0, 0, 0, 0, 0, []),
  (41, .iadd, 42, 0, 0, 0, 0, 0, 0, []),
  (42, .invokevirtual 259, 45, 143, 4, 7, 0, 318, 0, []),
  (45, .aload_n 0, 46, 0, 0, 0, 0, 0, 0, []),
  (46, .iload_n 1, 47, 1, 0, 0, 0, 0, 0, []),
  (47, .iconst 2, 48, 0, 0, 0, 0, 0, 2, []),
  (48, .invokevirtual 193, 51, 142, 3, 7, 0, 293, 0, []),
  (51, .ireturn, 52, 0, 0, 0, 0, 0, 0, [])]
def tbX7_told : List iE := [(0, .aload_n 0, 1, 0, 0, 0, 0, 0, 0, []),
  (1, .aload_n 0, 2, 0, 0, 0, 0, 0, 0, []),
  (2, .iload_n 1, 3, 1, 0, 0, 0, 0, 0, []),
  (3, .invokevirtual 288, 6, 153, 2, 7, 0, 328, 0, []),
  (6, .iconst 1, 7, 0, 0, 0, 0, 0, 1, []),
  (7, .invokevirtual 68, 10, 152, 3, 7, 0, 255, 0, []),
  (10, .ifCond .eq 7, 13, 17, 0, 0, 0, 0, 0, []),
  (13, .iconst 0, 14, 0, 0, 0, 0, 0, 0, []),
  (14, .goto 9, 17, 23, 0, 0, 0, 0, 0, []),
  (17, .aload_n 0, 18, 0, 0, 0, 0, 0, 0, []),
  (18, .iload_n 1, 19, 1, 0, 0, 0, 0, 0, []),
  (19, .iload_n 2, 20, 2, 0, 0, 0, 0, 0, []),
  (20, .invokevirtual 188, 23, 144, 3, 7, 0, 291, 0, []),
  (23, .ireturn, 24, 0, 0, 0, 0, 0, 0, [])]
def tbX7_stateOf : List iE := [(0, .aload_n 0, 1, 0, 0, 0, 0, 0, 0, []),
  (1, .iload_n 1, 2, 1, 0, 0, 0, 0, 0, []),
  (2, .iconst 3, 3, 0, 0, 0, 0, 0, 3, []),
  (3, .invokevirtual 297, 6, 220, 3, 7, 0, 331, 0, []),
  (6, .ireturn, 7, 0, 0, 0, 0, 0, 0, [])]
def tbX7_productOf : List iE := [(0, .aload_n 0, 1, 0, 0, 0, 0, 0, 0, []),
  (1, .iload_n 1, 2, 1, 0, 0, 0, 0, 0, []),
  (2, .iconst 0, 3, 0, 0, 0, 0, 0, 0, []),
  (3, .invokevirtual 297, 6, 220, 3, 7, 0, 331, 0, []),
  (6, .ireturn, 7, 0, 0, 0, 0, 0, 0, [])]
def tbX7_quantityOf : List iE := [(0, .aload_n 0, 1, 0, 0, 0, 0, 0, 0, []),
  (1, .iload_n 1, 2, 1, 0, 0, 0, 0, 0, []),
  (2, .iconst 1, 3, 0, 0, 0, 0, 0, 1, []),
  (3, .invokevirtual 297, 6, 220, 3, 7, 0, 331, 0, []),
  (6, .ireturn, 7, 0, 0, 0, 0, 0, 0, [])]
def tbX7_dueOf : List iE := [(0, .aload_n 0, 1, 0, 0, 0, 0, 0, 0, []),
  (1, .iload_n 1, 2, 1, 0, 0, 0, 0, 0, []),
  (2, .iconst 2, 3, 0, 0, 0, 0, 0, 2, []),
  (3, .invokevirtual 297, 6, 220, 3, 7, 0, 331, 0, []),
  (6, .ireturn, 7, 0, 0, 0, 0, 0, 0, [])]
def tbX7_stepOf : List iE := [(0, .aload_n 0, 1, 0, 0, 0, 0, 0, 0, []),
  (1, .iload_n 1, 2, 1, 0, 0, 0, 0, 0, []),
  (2, .iconst 4, 3, 0, 0, 0, 0, 0, 4, []),
  (3, .invokevirtual 297, 6, 220, 3, 7, 0, 331, 0, []),
  (6, .ireturn, 7, 0, 0, 0, 0, 0, 0, [])]
def tbX7_isWorkedOn : List iE := [(0, .aload_n 0, 1, 0, 0, 0, 0, 0, 0, []),
  (1, .iload_n 1, 2, 1, 0, 0, 0, 0, 0, []),
  (2, .bipush 6, 4, 0, 0, 0, 0, 0, 6, []),
  (4, .invokevirtual 297, 7, 220, 3, 7, 0, 331, 0, []),
  (7, .iconst 1, 8, 0, 0, 0, 0, 0, 1, []),
  (8, .if_icmp .ne 7, 11, 15, 0, 0, 0, 0, 0, []),
  (11, .iconst 1, 12, 0, 0, 0, 0, 0, 1, []),
  (12, .goto 4, 15, 16, 0, 0, 0, 0, 0, []),
  (15, .iconst 0, 16, 0, 0, 0, 0, 0, 0, []),
  (16, .ireturn, 17, 0, 0, 1, 0, 0, 0, [])]
def tbX7_remaining : List iE := [(0, .aload_n 0, 1, 0, 0, 0, 0, 0, 0, []),
  (1, .iload_n 1, 2, 1, 0, 0, 0, 0, 0, []),
  (2, .bipush 7, 4, 0, 0, 0, 0, 0, 7, []),
  (4, .invokevirtual 297, 7, 220, 3, 7, 0, 331, 0, []),
  (7, .ireturn, 8, 0, 0, 0, 0, 0, 0, [])]
def tbX7_releasedAt : List iE := [(0, .aload_n 0, 1, 0, 0, 0, 0, 0, 0, []),
  (1, .iload_n 1, 2, 1, 0, 0, 0, 0, 0, []),
  (2, .bipush 8, 4, 0, 0, 0, 0, 0, 8, []),
  (4, .invokevirtual 297, 7, 220, 3, 7, 0, 331, 0, []),
  (7, .ireturn, 8, 0, 0, 0, 0, 0, 0, [])]
def tbX7_finishedAt : List iE := [(0, .aload_n 0, 1, 0, 0, 0, 0, 0, 0, []),
  (1, .iload_n 1, 2, 1, 0, 0, 0, 0, 0, []),
  (2, .bipush 11, 4, 0, 0, 0, 0, 0, 11, []),
  (4, .invokevirtual 297, 7, 220, 3, 7, 0, 331, 0, []),
  (7, .ireturn, 8, 0, 0, 0, 0, 0, 0, [])]
def tbX7_plannedStart : List iE := [(0, .aload_n 0, 1, 0, 0, 0, 0, 0, 0, []),
  (1, .aload_n 0, 2, 0, 0, 0, 0, 0, 0, []),
  (2, .iload_n 1, 3, 1, 0, 0, 0, 0, 0, []),
  (3, .invokevirtual 288, 6, 153, 2, 7, 0, 328, 0, []),
  (6, .iconst 1, 7, 0, 0, 0, 0, 0, 1, []),
  (7, .invokevirtual 68, 10, 152, 3, 7, 0, 255, 0, []),
  (10, .ifCond .eq 7, 13, 17, 0, 0, 0, 0, 0, []),
  (13, .iconst 0, 14, 0, 0, 0, 0, 0, 0, []),
  (14, .goto 8, 17, 22, 0, 0, 0, 0, 0, []),
  (17, .aload_n 0, 18, 0, 0, 0, 0, 0, 0, []),
  (18, .iload_n 1, 19, 1, 0, 0, 0, 0, 0, []),
  (19, .invokevirtual 300, 22, 188, 2, 7, 0, 332, 0, []),
  (22, .ireturn, 23, 0, 0, 0, 0, 0, 0, [])]
def tbX7_scheduleAt : List iE := [(0, .aload_n 0, 1, 0, 0, 0, 0, 0, 0, []),
  (1, .iconst 0, 2, 0, 0, 0, 0, 0, 0, []),
  (2, .putfield 50, 5, 7, 5, 0, 0, 249, 0, []),
  (5, .aload_n 0, 6, 0, 0, 0, 0, 0, 0, []),
  (6, .invokevirtual 209, 9, 186, 1, 7, 0, 301, 0, []),
  (9, .iload_n 1, 10, 1, 0, 0, 0, 0, 0, []),
  (10, .iconst 0, 11, 0, 0, 0, 0, 0, 0, []),
  (11, .aload_n 0, 12, 0, 0, 0, 0, 0, 0, []),
  (12, .getfield 196, 15, 7, 19, 0, 0, 294, 0, []),
  (15, .iconst 1, 16, 0, 0, 0, 0, 0, 1, []),
  (16, .isub, 17, 0, 0, 0, 0, 0, 0, []),
  (17, .invokestatic 64, 20, 139, 3, 7, 0, 254, 0, []),
  (20, .ifCond .eq 12, 23, 32, 0, 0, 0, 0, 0, []),
  (23, .aload_n 0, 24, 0, 0, 0, 0, 0, 0, []),
  (24, .getfield 37, 27, 7, 16, 1, 8, 296, 0, []),
  (27, .iload_n 1, 28, 1, 0, 0, 0, 0, 0, []),
  (28, .iaload, 29, 8, 0, 0, 0, 0, 0, []),
  (29, .goto 4, 32, 33, 0, 0, 0, 0, 0, []),
  (32, .iconst (-1), 33, 0, 0, 0, 0, 0, -1, []),
  (33, .ireturn, 34, 0, 0, 0, 0, 0, 0, [])]
def tbX7_isAtRisk : List iE := [(0, .aload_n 0, 1, 0, 0, 0, 0, 0, 0, []),
  (1, .aload_n 0, 2, 0, 0, 0, 0, 0, 0, []),
  (2, .iload_n 1, 3, 1, 0, 0, 0, 0, 0, []),
  (3, .invokevirtual 288, 6, 153, 2, 7, 0, 328, 0, []),
  (6, .iconst 1, 7, 0, 0, 0, 0, 0, 1, []),
  (7, .invokevirtual 68, 10, 152, 3, 7, 0, 255, 0, []),
  (10, .ifCond .eq 5, 13, 15, 0, 0, 0, 0, 0, []),
  (13, .iconst 0, 14, 0, 0, 0, 0, 0, 0, []),
  (14, .ireturn, 15, 0, 0, 1, 0, 0, 0, []),
  (15, .aload_n 0, 16, 0, 0, 0, 0, 0, 0, []),
  (16, .iload_n 1, 17, 1, 0, 0, 0, 0, 0, []),
  (17, .invokevirtual 213, 20, 187, 2, 7, 0, 303, 0, []),
  (20, .istore_n 2, 21, 2, 0, 0, 0, 0, 0, []),
  (21, .iload_n 2, 22, 2, 0, 0, 0, 0, 0, []),
  (22, .iconst (-1), 23, 0, 0, 0, 0, 0, -1, []),
  (23, .if_icmp .eq 30, 26, 53, 0, 0, 0, 0, 0, []),
  (26, .aload_n 0, 27, 0, 0, 0, 0, 0, 0, []),
  (27, .getfield 43, 30, 7, 18, 1, 8, 297, 0, []),
  (30, .iload_n 2, 31, 2, 0, 0, 0, 0, 0, []),
  (31, .iaload, 32, 8, 0, 0, 0, 0, 0, []),
  (32, .aload_n 0, 33, 0, 0, 0, 0, 0, 0, []),
  (33, .iload_n 1, 34, 1, 0, 0, 0, 0, 0, []),
  (34, .iconst 2, 35, 0, 0, 0, 0, 0, 2, []),
  (35, .invokevirtual 188, 38, 144, 3, 7, 0, 291, 0, []),
  (38, .aload_n 0, 39, 0, 0, 0, 0, 0, 0, []),
  (39, .getfield 9, 42, 7, 0, 1, 8, 250, 0, []),
  (42, .bipush 6, 44, 0, 0, 0, 0, 0, 6, []),
  (44, .iaload, 45, 8, 0, 0, 0, 0, 0, []),
  (45, .isub, 46, 0, 0, 0, 0, 0, 0, []),
  (46, .if_icmp .le 7, 49, 53, 0, 0, 0, 0, 0, []),
  (49, .iconst 1, 50, 0, 0, 0, 0, 0, 1, []),
  (50, .goto 4, 53, 54, 0, 0, 0, 0, 0, []),
  (53, .iconst 0, 54, 0, 0, 0, 0, 0, 0, []),
  (54, .ireturn, 55, 0, 0, 1, 0, 0, 0, [])]
def tbX7_ropeLoad : List iE := [(0, .aload_n 0, 1, 0, 0, 0, 0, 0, 0, []),
  (1, .iconst 0, 2, 0, 0, 0, 0, 0, 0, []),
  (2, .putfield 50, 5, 7, 5, 0, 0, 249, 0, []),
  (5, .aload_n 0, 6, 0, 0, 0, 0, 0, 0, []),
  (6, .invokevirtual 229, 9, 189, 1, 7, 0, 308, 0, []),
  (9, .ireturn, 10, 0, 0, 0, 0, 0, 0, [])]
def tbX7_releaseTime : List iE := [(0, .aload_n 0, 1, 0, 0, 0, 0, 0, 0, []),
  (1, .aload_n 0, 2, 0, 0, 0, 0, 0, 0, []),
  (2, .iload_n 1, 3, 1, 0, 0, 0, 0, 0, []),
  (3, .invokevirtual 288, 6, 153, 2, 7, 0, 328, 0, []),
  (6, .iconst 1, 7, 0, 0, 0, 0, 0, 1, []),
  (7, .invokevirtual 68, 10, 152, 3, 7, 0, 255, 0, []),
  (10, .ifCond .eq 5, 13, 15, 0, 0, 0, 0, 0, []),
  (13, .iconst 0, 14, 0, 0, 0, 0, 0, 0, []),
  (14, .ireturn, 15, 0, 0, 0, 0, 0, 0, []),
  (15, .aload_n 0, 16, 0, 0, 0, 0, 0, 0, []),
  (16, .iload_n 1, 17, 1, 0, 0, 0, 0, 0, []),
  (17, .iconst 3, 18, 0, 0, 0, 0, 0, 3, []),
  (18, .invokevirtual 188, 21, 144, 3, 7, 0, 291, 0, []),
  (21, .lookupswitch 43 #[(0, 27), (3, 40)], 48, 64, 0, 0, 0, 0, 0, [(0, 48), (3, 61)]),
  (48, .aload_n 0, 49, 0, 0, 0, 0, 0, 0, []),
  (49, .iload_n 1, 50, 1, 0, 0, 0, 0, 0, []),
  (50, .invokevirtual 300, 53, 188, 2, 7, 0, 332, 0, []),
  (53, .aload_n 0, 54, 0, 0, 0, 0, 0, 0, []),
  (54, .getfield 9, 57, 7, 0, 1, 8, 250, 0, []),
  (57, .iconst 5, 58, 0, 0, 0, 0, 0, 5, []),
  (58, .iaload, 59, 8, 0, 0, 0, 0, 0, []),
  (59, .isub, 60, 0, 0, 0, 0, 0, 0, []),
  (60, .ireturn, 61, 0, 0, 0, 0, 0, 0, []),
  (61, .ldc 212, 63, 0, 0, 0, 0, 302, -1000000, []),
  (63, .ireturn, 64, 0, 0, 0, 0, 0, 0, []),
  (64, .aload_n 0, 65, 0, 0, 0, 0, 0, 0, []),
  (65, .iload_n 1, 66, 1, 0, 0, 0, 0, 0, []),
  (66, .bipush 9, 68, 0, 0, 0, 0, 0, 9, []),
  (68, .invokevirtual 188, 71, 144, 3, 7, 0, 291, 0, []),
  (71, .ireturn, 72, 0, 0, 0, 0, 0, 0, [])]
def tbX7_penetration : List iE := [(0, .aload_n 0, 1, 0, 0, 0, 0, 0, 0, []),
  (1, .aload_n 0, 2, 0, 0, 0, 0, 0, 0, []),
  (2, .iload_n 1, 3, 1, 0, 0, 0, 0, 0, []),
  (3, .invokevirtual 288, 6, 153, 2, 7, 0, 328, 0, []),
  (6, .iconst 1, 7, 0, 0, 0, 0, 0, 1, []),
  (7, .invokevirtual 68, 10, 152, 3, 7, 0, 255, 0, []),
  (10, .ifCond .eq 7, 13, 17, 0, 0, 0, 0, 0, []),
  (13, .iconst 0, 14, 0, 0, 0, 0, 0, 0, []),
  (14, .goto 8, 17, 22, 0, 0, 0, 0, 0, []),
  (17, .aload_n 0, 18, 0, 0, 0, 0, 0, 0, []),
  (18, .iload_n 1, 19, 1, 0, 0, 0, 0, 0, []),
  (19, .invokevirtual 222, 22, 190, 2, 7, 0, 306, 0, []),
  (22, .ireturn, 23, 0, 0, 0, 0, 0, 0, [])]
def tbX7_zone : List iE := [(0, .aload_n 0, 1, 0, 0, 0, 0, 0, 0, []),
  (1, .aload_n 0, 2, 0, 0, 0, 0, 0, 0, []),
  (2, .iload_n 1, 3, 1, 0, 0, 0, 0, 0, []),
  (3, .invokevirtual 288, 6, 153, 2, 7, 0, 328, 0, []),
  (6, .iconst 1, 7, 0, 0, 0, 0, 0, 1, []),
  (7, .invokevirtual 68, 10, 152, 3, 7, 0, 255, 0, []),
  (10, .ifCond .eq 7, 13, 17, 0, 0, 0, 0, 0, []),
  (13, .iconst 0, 14, 0, 0, 0, 0, 0, 0, []),
  (14, .goto 8, 17, 22, 0, 0, 0, 0, 0, []),
  (17, .aload_n 0, 18, 0, 0, 0, 0, 0, 0, []),
  (18, .iload_n 1, 19, 1, 0, 0, 0, 0, 0, []),
  (19, .invokevirtual 235, 22, 191, 2, 7, 0, 310, 0, []),
  (22, .ireturn, 23, 0, 0, 0, 0, 0, 0, [])]
def tbX7_inZone : List iE := [(0, .aload_n 0, 1, 0, 0, 0, 0, 0, 0, []),
  (1, .iload_n 1, 2, 1, 0, 0, 0, 0, 0, []),
  (2, .iconst 0, 3, 0, 0, 0, 0, 0, 0, []),
  (3, .iconst 3, 4, 0, 0, 0, 0, 0, 3, []),
  (4, .invokestatic 64, 7, 139, 3, 7, 0, 254, 0, []),
  (7, .iconst 1, 8, 0, 0, 0, 0, 0, 1, []),
  (8, .invokevirtual 68, 11, 152, 3, 7, 0, 255, 0, []),
  (11, .ifCond .eq 5, 14, 16, 0, 0, 0, 0, 0, []),
  (14, .iconst 0, 15, 0, 0, 0, 0, 0, 0, []),
  (15, .ireturn, 16, 0, 0, 0, 0, 0, 0, []),
  (16, .iconst 0, 17, 0, 0, 0, 0, 0, 0, []),
  (17, .istore_n 2, 18, 2, 0, 0, 0, 0, 0, []),
  (18, .iconst 0, 19, 0, 0, 0, 0, 0, 0, []),
  (19, .istore_n 3, 20, 3, 0, 0, 0, 0, 0, []),
  (20, .iload_n 3, 21, 3, 0, 0, 0, 0, 0, []),
  (21, .aload_n 0, 22, 0, 0, 0, 0, 0, 0, []),
  (22, .getfield 9, 25, 7, 0, 1, 8, 250, 0, []),
  (25, .iconst 4, 26, 0, 0, 0, 0, 0, 4, []),
  (26, .iaload, 27, 8, 0, 0, 0, 0, 0, []),
  (27, .if_icmp .ge 26, 30, 53, 0, 0, 0, 0, 0, []),
  (30, .iload_n 2, 31, 2, 0, 0, 0, 0, 0, []),
  (31, .aload_n 0, 32, 0, 0, 0, 0, 0, 0, []),
  (32, .iload_n 3, 33, 3, 0, 0, 0, 0, 0, []),
  (33, .invokevirtual 235, 36, 191, 2, 7, 0, 310, 0, []),
  (36, .iload_n 1, 37, 1, 0, 0, 0, 0, 0, []),
  (37, .if_icmp .ne 7, 40, 44, 0, 0, 0, 0, 0, []),
  (40, .iconst 1, 41, 0, 0, 0, 0, 0, 1, []),
  (41, .goto 4, 44, 45, 0, 0, 0, 0, 0, []),
  (44, .iconst 0, 45, 0, 0, 0, 0, 0, 0, []),
  (45, .iadd, 46, 0, 0, 0, 0, 0, 0, []),
  (46, .istore_n 2, 47, 2, 0, 0, 0, 0, 0, []),
  (47, .iinc 3 1, 50, 3, 0, 0, 0, 0, 1, []),
  (50, .goto (-30), 53, 20, 0, 0, 0, 0, 0, []),
  (53, .iload_n 2, 54, 2, 0, 0, 0, 0, 0, []),
  (54, .ireturn, 55, 0, 0, 0, 0, 0, 0, [])]
def tbX7_firstRedAt : List iE := [(0, .aload_n 0, 1, 0, 0, 0, 0, 0, 0, []),
  (1, .iload_n 1, 2, 1, 0, 0, 0, 0, 0, []),
  (2, .bipush 13, 4, 0, 0, 0, 0, 0, 13, []),
  (4, .invokevirtual 297, 7, 220, 3, 7, 0, 331, 0, []),
  (7, .ireturn, 8, 0, 0, 0, 0, 0, 0, [])]
def tbX7_flowOf : List iE := [(0, .aload_n 0, 1, 0, 0, 0, 0, 0, 0, []),
  (1, .iload_n 1, 2, 1, 0, 0, 0, 0, 0, []),
  (2, .iconst 3, 3, 0, 0, 0, 0, 0, 3, []),
  (3, .invokevirtual 188, 6, 144, 3, 7, 0, 291, 0, []),
  (6, .iconst 2, 7, 0, 0, 0, 0, 0, 2, []),
  (7, .if_icmp .ne 13, 10, 20, 0, 0, 0, 0, 0, []),
  (10, .aload_n 0, 11, 0, 0, 0, 0, 0, 0, []),
  (11, .iload_n 1, 12, 1, 0, 0, 0, 0, 0, []),
  (12, .bipush 11, 14, 0, 0, 0, 0, 0, 11, []),
  (14, .invokevirtual 188, 17, 144, 3, 7, 0, 291, 0, []),
  (17, .goto 9, 20, 26, 0, 0, 0, 0, 0, []),
  (20, .aload_n 0, 21, 0, 0, 0, 0, 0, 0, []),
  (21, .getfield 9, 24, 7, 0, 1, 8, 250, 0, []),
  (24, .iconst 0, 25, 0, 0, 0, 0, 0, 0, []),
  (25, .iaload, 26, 8, 0, 0, 0, 0, 0, []),
  (26, .istore_n 2, 27, 2, 0, 0, 0, 0, 0, []),
  (27, .aload_n 0, 28, 0, 0, 0, 0, 0, 0, []),
  (28, .iload_n 1, 29, 1, 0, 0, 0, 0, 0, []),
  (29, .bipush 8, 31, 0, 0, 0, 0, 0, 8, []),
  (31, .invokevirtual 188, 34, 144, 3, 7, 0, 291, 0, []),
  (34, .iconst (-1), 35, 0, 0, 0, 0, 0, -1, []),
  (35, .if_icmp .ne 7, 38, 42, 0, 0, 0, 0, 0, []),
  (38, .iconst (-1), 39, 0, 0, 0, 0, 0, -1, []),
  (39, .goto 12, 42, 51, 0, 0, 0, 0, 0, []),
  (42, .iload_n 2, 43, 2, 0, 0, 0, 0, 0, []),
  (43, .aload_n 0, 44, 0, 0, 0, 0, 0, 0, []),
  (44, .iload_n 1, 45, 1, 0, 0, 0, 0, 0, []),
  (45, .bipush 8, 47, 0, 0, 0, 0, 0, 8, []),
  (47, .invokevirtual 188, 50, 144, 3, 7, 0, 291, 0, []),
  (50, .isub, 51, 0, 0, 0, 0, 0, 0, []),
  (51, .ireturn, 52, 0, 0, 0, 0, 0, 0, [])]
def tbX7_flowTime : List iE := [(0, .aload_n 0, 1, 0, 0, 0, 0, 0, 0, []),
  (1, .aload_n 0, 2, 0, 0, 0, 0, 0, 0, []),
  (2, .iload_n 1, 3, 1, 0, 0, 0, 0, 0, []),
  (3, .invokevirtual 288, 6, 153, 2, 7, 0, 328, 0, []),
  (6, .iconst 1, 7, 0, 0, 0, 0, 0, 1, []),
  (7, .invokevirtual 68, 10, 152, 3, 7, 0, 255, 0, []),
  (10, .ifCond .eq 7, 13, 17, 0, 0, 0, 0, 0, []),
  (13, .iconst 0, 14, 0, 0, 0, 0, 0, 0, []),
  (14, .goto 8, 17, 22, 0, 0, 0, 0, 0, []),
  (17, .aload_n 0, 18, 0, 0, 0, 0, 0, 0, []),
  (18, .iload_n 1, 19, 1, 0, 0, 0, 0, 0, []),
  (19, .invokevirtual 303, 22, 239, 2, 7, 0, 333, 0, []),
  (22, .ireturn, 23, 0, 0, 0, 0, 0, 0, [])]
def tbX7_meanFlow : List iE := [(0, .aload_n 0, 1, 0, 0, 0, 0, 0, 0, []),
  (1, .iconst 0, 2, 0, 0, 0, 0, 0, 0, []),
  (2, .putfield 50, 5, 7, 5, 0, 0, 249, 0, []),
  (5, .iconst 0, 6, 0, 0, 0, 0, 0, 0, []),
  (6, .istore_n 1, 7, 1, 0, 0, 0, 0, 0, []),
  (7, .iconst 0, 8, 0, 0, 0, 0, 0, 0, []),
  (8, .istore_n 2, 9, 2, 0, 0, 0, 0, 0, []),
  (9, .iconst 0, 10, 0, 0, 0, 0, 0, 0, []),
  (10, .istore_n 3, 11, 3, 0, 0, 0, 0, 0, []),
  (11, .iload_n 3, 12, 3, 0, 0, 0, 0, 0, []),
  (12, .aload_n 0, 13, 0, 0, 0, 0, 0, 0, []),
  (13, .getfield 9, 16, 7, 0, 1, 8, 250, 0, []),
  (16, .iconst 4, 17, 0, 0, 0, 0, 0, 4, []),
  (17, .iaload, 18, 8, 0, 0, 0, 0, 0, []),
  (18, .if_icmp .ge 30, 21, 48, 0, 0, 0, 0, 0, []),
  (21, .aload_n 0, 22, 0, 0, 0, 0, 0, 0, []),
  (22, .iload_n 3, 23, 3, 0, 0, 0, 0, 0, []),
  (23, .iconst 3, 24, 0, 0, 0, 0, 0, 3, []),
  (24, .invokevirtual 188, 27, 144, 3, 7, 0, 291, 0, []),
  (27, .iconst 2, 28, 0, 0, 0, 0, 0, 2, []),
  (28, .if_icmp .ne 14, 31, 42, 0, 0, 0, 0, 0, []),
  (31, .iload_n 1, 32, 1, 0, 0, 0, 0, 0, []),
  (32, .aload_n 0, 33, 0, 0, 0, 0, 0, 0, []),
  (33, .iload_n 3, 34, 3, 0, 0, 0, 0, 0, []),
  (34, .invokevirtual 303, 37, 239, 2, 7, 0, 333, 0, []),
  (37, .iadd, 38, 0, 0, 0, 0, 0, 0, []),
  (38, .istore_n 1, 39, 1, 0, 0, 0, 0, 0, []),
  (39, .iinc 2 1, 42, 2, 0, 0, 0, 0, 1, []),
  (42, .iinc 3 1, 45, 3, 0, 0, 0, 0, 1, []),
  (45, .goto (-34), 48, 11, 0, 0, 0, 0, 0, []),
  (48, .iload_n 2, 49, 2, 0, 0, 0, 0, 0, []),
  (49, .ifCond .ne 7, 52, 56, 0, 0, 0, 0, 0, []),
  (52, .iconst (-1), 53, 0, 0, 0, 0, 0, -1, []),
  (53, .goto 6, 56, 59, 0, 0, 0, 0, 0, []),
  (56, .iload_n 1, 57, 1, 0, 0, 0, 0, 0, []),
  (57, .iload_n 2, 58, 2, 0, 0, 0, 0, 0, []),
  (58, .idiv, 59, 0, 0, 0, 0, 0, 0, []),
  (59, .ireturn, 60, 0, 0, 0, 0, 0, 0, [])]
def tbX7_lateOf : List iE := [(0, .iconst 0, 1, 0, 0, 0, 0, 0, 0, []),
  (1, .iload_n 2, 2, 2, 0, 0, 0, 0, 0, []),
  (2, .aload_n 0, 3, 0, 0, 0, 0, 0, 0, []),
  (3, .iload_n 1, 4, 1, 0, 0, 0, 0, 0, []),
  (4, .iconst 2, 5, 0, 0, 0, 0, 0, 2, []),
  (5, .invokevirtual 188, 8, 144, 3, 7, 0, 291, 0, []),
  (8, .isub, 9, 0, 0, 0, 0, 0, 0, []),
  (9, .invokestatic 219, 12, 0, 0, 0, 1, 305, 0, []),
  (12, .ireturn, 13, 0, 0, 0, 0, 0, 0, [])]
def tbX7_lateCount : List iE := [(0, .aload_n 0, 1, 0, 0, 0, 0, 0, 0, []),
  (1, .iconst 0, 2, 0, 0, 0, 0, 0, 0, []),
  (2, .putfield 50, 5, 7, 5, 0, 0, 249, 0, []),
  (5, .iconst 0, 6, 0, 0, 0, 0, 0, 0, []),
  (6, .istore_n 1, 7, 1, 0, 0, 0, 0, 0, []),
  (7, .iconst 0, 8, 0, 0, 0, 0, 0, 0, []),
  (8, .istore_n 2, 9, 2, 0, 0, 0, 0, 0, []),
  (9, .iload_n 2, 10, 2, 0, 0, 0, 0, 0, []),
  (10, .aload_n 0, 11, 0, 0, 0, 0, 0, 0, []),
  (11, .getfield 9, 14, 7, 0, 1, 8, 250, 0, []),
  (14, .iconst 4, 15, 0, 0, 0, 0, 0, 4, []),
  (15, .iaload, 16, 8, 0, 0, 0, 0, 0, []),
  (16, .if_icmp .ge 42, 19, 58, 0, 0, 0, 0, 0, []),
  (19, .iload_n 1, 20, 1, 0, 0, 0, 0, 0, []),
  (20, .aload_n 0, 21, 0, 0, 0, 0, 0, 0, []),
  (21, .iload_n 2, 22, 2, 0, 0, 0, 0, 0, []),
  (22, .iconst 3, 23, 0, 0, 0, 0, 0, 3, []),
  (23, .invokevirtual 188, 26, 144, 3, 7, 0, 291, 0, []),
  (26, .iconst 2, 27, 0, 0, 0, 0, 0, 2, []),
  (27, .if_icmp .ne 22, 30, 49, 0, 0, 0, 0, 0, []),
  (30, .aload_n 0, 31, 0, 0, 0, 0, 0, 0, []),
  (31, .iload_n 2, 32, 2, 0, 0, 0, 0, 0, []),
  (32, .aload_n 0, 33, 0, 0, 0, 0, 0, 0, []),
  (33, .iload_n 2, 34, 2, 0, 0, 0, 0, 0, []),
  (34, .bipush 11, 36, 0, 0, 0, 0, 0, 11, []),
  (36, .invokevirtual 188, 39, 144, 3, 7, 0, 291, 0, []),
  (39, .invokevirtual 306, 42, 242, 3, 7, 0, 334, 0, []),
  (42, .ifCond .le 7, 45, 49, 0, 0, 0, 0, 0, []),
  (45, .iconst 1, 46, 0, 0, 0, 0, 0, 1, []),
  (46, .goto 4, 49, 50, 0, 0, 0, 0, 0, []),
  (49, .iconst 0, 50, 0, 0, 0, 0, 0, 0, []),
  (50, .iadd, 51, 0, 0, 0, 0, 0, 0, []),
  (51, .istore_n 1, 52, 1, 0, 0, 0, 0, 0, []),
  (52, .iinc 2 1, 55, 2, 0, 0, 0, 0, 1, []),
  (55, .goto (-46), 58, 9, 0, 0, 0, 0, 0, []),
  (58, .iload_n 1, 59, 1, 0, 0, 0, 0, 0, []),
  (59, .ireturn, 60, 0, 0, 0, 0, 0, 0, [])]
def tbX7_tardiness : List iE := [(0, .aload_n 0, 1, 0, 0, 0, 0, 0, 0, []),
  (1, .iconst 0, 2, 0, 0, 0, 0, 0, 0, []),
  (2, .putfield 50, 5, 7, 5, 0, 0, 249, 0, []),
  (5, .iconst 0, 6, 0, 0, 0, 0, 0, 0, []),
  (6, .istore_n 1, 7, 1, 0, 0, 0, 0, 0, []),
  (7, .iconst 0, 8, 0, 0, 0, 0, 0, 0, []),
  (8, .istore_n 2, 9, 2, 0, 0, 0, 0, 0, []),
  (9, .iload_n 2, 10, 2, 0, 0, 0, 0, 0, []),
  (10, .aload_n 0, 11, 0, 0, 0, 0, 0, 0, []),
  (11, .getfield 9, 14, 7, 0, 1, 8, 250, 0, []),
  (14, .iconst 4, 15, 0, 0, 0, 0, 0, 4, []),
  (15, .iaload, 16, 8, 0, 0, 0, 0, 0, []),
  (16, .if_icmp .ge 38, 19, 54, 0, 0, 0, 0, 0, []),
  (19, .iload_n 1, 20, 1, 0, 0, 0, 0, 0, []),
  (20, .aload_n 0, 21, 0, 0, 0, 0, 0, 0, []),
  (21, .iload_n 2, 22, 2, 0, 0, 0, 0, 0, []),
  (22, .iconst 3, 23, 0, 0, 0, 0, 0, 3, []),
  (23, .invokevirtual 188, 26, 144, 3, 7, 0, 291, 0, []),
  (26, .iconst 2, 27, 0, 0, 0, 0, 0, 2, []),
  (27, .if_icmp .ne 18, 30, 45, 0, 0, 0, 0, 0, []),
  (30, .aload_n 0, 31, 0, 0, 0, 0, 0, 0, []),
  (31, .iload_n 2, 32, 2, 0, 0, 0, 0, 0, []),
  (32, .aload_n 0, 33, 0, 0, 0, 0, 0, 0, []),
  (33, .iload_n 2, 34, 2, 0, 0, 0, 0, 0, []),
  (34, .bipush 11, 36, 0, 0, 0, 0, 0, 11, []),
  (36, .invokevirtual 188, 39, 144, 3, 7, 0, 291, 0, []),
  (39, .invokevirtual 306, 42, 242, 3, 7, 0, 334, 0, []),
  (42, .goto 4, 45, 46, 0, 0, 0, 0, 0, []),
  (45, .iconst 0, 46, 0, 0, 0, 0, 0, 0, []),
  (46, .iadd, 47, 0, 0, 0, 0, 0, 0, []),
  (47, .istore_n 1, 48, 1, 0, 0, 0, 0, 0, []),
  (48, .iinc 2 1, 51, 2, 0, 0, 0, 0, 1, []),
  (51, .goto (-42), 54, 9, 0, 0, 0, 0, 0, []),
  (54, .iload_n 1, 55, 1, 0, 0, 0, 0, 0, []),
  (55, .ireturn, 56, 0, 0, 0, 0, 0, 0, [])]
def tbX7_toldOf : List iE := [(0, .aload_n 0, 1, 0, 0, 0, 0, 0, 0, []),
  (1, .aload_n 0, 2, 0, 0, 0, 0, 0, 0, []),
  (2, .iload_n 1, 3, 1, 0, 0, 0, 0, 0, []),
  (3, .invokevirtual 294, 6, 155, 2, 7, 0, 330, 0, []),
  (6, .iconst 1, 7, 0, 0, 0, 0, 0, 1, []),
  (7, .invokevirtual 68, 10, 152, 3, 7, 0, 255, 0, []),
  (10, .ifCond .eq 7, 13, 17, 0, 0, 0, 0, 0, []),
  (13, .iconst 0, 14, 0, 0, 0, 0, 0, 0, []),
  (14, .goto 9, 17, 23, 0, 0, 0, 0, 0, []),
  (17, .aload_n 0, 18, 0, 0, 0, 0, 0, 0, []),
  (18, .iload_n 1, 19, 1, 0, 0, 0, 0, 0, []),
  (19, .iload_n 2, 20, 2, 0, 0, 0, 0, 0, []),
  (20, .invokevirtual 193, 23, 142, 3, 7, 0, 293, 0, []),
  (23, .ireturn, 24, 0, 0, 0, 0, 0, 0, [])]
def tbX7_redAt : List iE := [(0, .aload_n 0, 1, 0, 0, 0, 0, 0, 0, []),
  (1, .iload_n 1, 2, 1, 0, 0, 0, 0, 0, []),
  (2, .bipush 6, 4, 0, 0, 0, 0, 0, 6, []),
  (4, .invokevirtual 309, 7, 245, 3, 7, 0, 335, 0, []),
  (7, .ireturn, 8, 0, 0, 0, 0, 0, 0, [])]
def tbX7_worstStation : List iE := [(0, .aload_n 0, 1, 0, 0, 0, 0, 0, 0, []),
  (1, .iconst 0, 2, 0, 0, 0, 0, 0, 0, []),
  (2, .putfield 50, 5, 7, 5, 0, 0, 249, 0, []),
  (5, .iconst (-1), 6, 0, 0, 0, 0, 0, -1, []),
  (6, .istore_n 1, 7, 1, 0, 0, 0, 0, 0, []),
  (7, .iconst 0, 8, 0, 0, 0, 0, 0, 0, []),
  (8, .istore_n 2, 9, 2, 0, 0, 0, 0, 0, []),
  (9, .iconst 0, 10, 0, 0, 0, 0, 0, 0, []),
  (10, .istore_n 3, 11, 3, 0, 0, 0, 0, 0, []),
  (11, .iload_n 3, 12, 3, 0, 0, 0, 0, 0, []),
  (12, .aload_n 0, 13, 0, 0, 0, 0, 0, 0, []),
  (13, .getfield 9, 16, 7, 0, 1, 8, 250, 0, []),
  (16, .iconst 1, 17, 0, 0, 0, 0, 0, 1, []),
  (17, .iaload, 18, 8, 0, 0, 0, 0, 0, []),
  (18, .if_icmp .ge 30, 21, 48, 0, 0, 0, 0, 0, []),
  (21, .aload_n 0, 22, 0, 0, 0, 0, 0, 0, []),
  (22, .iload_n 3, 23, 3, 0, 0, 0, 0, 0, []),
  (23, .bipush 6, 25, 0, 0, 0, 0, 0, 6, []),
  (25, .invokevirtual 193, 28, 142, 3, 7, 0, 293, 0, []),
  (28, .iload_n 2, 29, 2, 0, 0, 0, 0, 0, []),
  (29, .if_icmp .le 13, 32, 42, 0, 0, 0, 0, 0, []),
  (32, .iload_n 3, 33, 3, 0, 0, 0, 0, 0, []),
  (33, .istore_n 1, 34, 1, 0, 0, 0, 0, 0, []),
  (34, .aload_n 0, 35, 0, 0, 0, 0, 0, 0, []),
  (35, .iload_n 3, 36, 3, 0, 0, 0, 0, 0, []),
  (36, .bipush 6, 38, 0, 0, 0, 0, 0, 6, []),
  (38, .invokevirtual 193, 41, 142, 3, 7, 0, 293, 0, []),
  (41, .istore_n 2, 42, 2, 0, 0, 0, 0, 0, []),
  (42, .iinc 3 1, 45, 3, 0, 0, 0, 0, 1, []),
  (45, .goto (-34), 48, 11, 0, 0, 0, 0, 0, []),
  (48, .iload_n 1, 49, 1, 0, 0, 0, 0, 0, []),
  (49, .ireturn, 50, 0, 0, 0, 0, 0, 0, [])]
def tbX7_workingOn : List iE := [(0, .aload_n 0, 1, 0, 0, 0, 0, 0, 0, []),
  (1, .iload_n 1, 2, 1, 0, 0, 0, 0, 0, []),
  (2, .iconst 0, 3, 0, 0, 0, 0, 0, 0, []),
  (3, .invokevirtual 309, 6, 245, 3, 7, 0, 335, 0, []),
  (6, .ireturn, 7, 0, 0, 0, 0, 0, 0, [])]
def tbX7_queueLength : List iE := [(0, .aload_n 0, 1, 0, 0, 0, 0, 0, 0, []),
  (1, .aload_n 0, 2, 0, 0, 0, 0, 0, 0, []),
  (2, .iload_n 1, 3, 1, 0, 0, 0, 0, 0, []),
  (3, .invokevirtual 294, 6, 155, 2, 7, 0, 330, 0, []),
  (6, .iconst 1, 7, 0, 0, 0, 0, 0, 1, []),
  (7, .invokevirtual 68, 10, 152, 3, 7, 0, 255, 0, []),
  (10, .ifCond .eq 5, 13, 15, 0, 0, 0, 0, 0, []),
  (13, .iconst 0, 14, 0, 0, 0, 0, 0, 0, []),
  (14, .ireturn, 15, 0, 0, 0, 0, 0, 0, []),
  (15, .iconst 0, 16, 0, 0, 0, 0, 0, 0, []),
  (16, .istore_n 2, 17, 2, 0, 0, 0, 0, 0, []),
  (17, .iconst 0, 18, 0, 0, 0, 0, 0, 0, []),
  (18, .istore_n 3, 19, 3, 0, 0, 0, 0, 0, []),
  (19, .iload_n 3, 20, 3, 0, 0, 0, 0, 0, []),
  (20, .aload_n 0, 21, 0, 0, 0, 0, 0, 0, []),
  (21, .getfield 9, 24, 7, 0, 1, 8, 250, 0, []),
  (24, .iconst 4, 25, 0, 0, 0, 0, 0, 4, []),
  (25, .iaload, 26, 8, 0, 0, 0, 0, 0, []),
  (26, .if_icmp .ge 26, 29, 52, 0, 0, 0, 0, 0, []),
  (29, .iload_n 2, 30, 2, 0, 0, 0, 0, 0, []),
  (30, .aload_n 0, 31, 0, 0, 0, 0, 0, 0, []),
  (31, .iload_n 3, 32, 3, 0, 0, 0, 0, 0, []),
  (32, .iload_n 1, 33, 1, 0, 0, 0, 0, 0, []),
  (33, .invokevirtual 247, 36, 194, 3, 7, 0, 314, 0, []),
  (36, .ifCond .eq 7, 39, 43, 0, 0, 0, 0, 0, []),
  (39, .iconst 1, 40, 0, 0, 0, 0, 0, 1, []),
  (40, .goto 4, 43, 44, 0, 0, 0, 0, 0, []),
  (43, .iconst 0, 44, 0, 0, 0, 0, 0, 0, []),
  (44, .iadd, 45, 0, 0, 0, 0, 0, 0, []),
  (45, .istore_n 2, 46, 2, 0, 0, 0, 0, 0, []),
  (46, .iinc 3 1, 49, 3, 0, 0, 0, 0, 1, []),
  (49, .goto (-30), 52, 19, 0, 0, 0, 0, 0, []),
  (52, .iload_n 2, 53, 2, 0, 0, 0, 0, 0, []),
  (53, .ireturn, 54, 0, 0, 0, 0, 0, 0, [])]
def tbX7_nextChoice : List iE := [(0, .aload_n 0, 1, 0, 0, 0, 0, 0, 0, []),
  (1, .aload_n 0, 2, 0, 0, 0, 0, 0, 0, []),
  (2, .iload_n 1, 3, 1, 0, 0, 0, 0, 0, []),
  (3, .invokevirtual 294, 6, 155, 2, 7, 0, 330, 0, []),
  (6, .iconst 1, 7, 0, 0, 0, 0, 0, 1, []),
  (7, .invokevirtual 68, 10, 152, 3, 7, 0, 255, 0, []),
  (10, .ifCond .eq 7, 13, 17, 0, 0, 0, 0, 0, []),
  (13, .iconst 0, 14, 0, 0, 0, 0, 0, 0, []),
  (14, .goto 8, 17, 22, 0, 0, 0, 0, 0, []),
  (17, .aload_n 0, 18, 0, 0, 0, 0, 0, 0, []),
  (18, .iload_n 1, 19, 1, 0, 0, 0, 0, 0, []),
  (19, .invokevirtual 256, 22, 199, 2, 7, 0, 317, 0, []),
  (22, .ireturn, 23, 0, 0, 0, 0, 0, 0, [])]
def tbX7_downUntil : List iE := [(0, .aload_n 0, 1, 0, 0, 0, 0, 0, 0, []),
  (1, .aload_n 0, 2, 0, 0, 0, 0, 0, 0, []),
  (2, .iload_n 1, 3, 1, 0, 0, 0, 0, 0, []),
  (3, .invokevirtual 294, 6, 155, 2, 7, 0, 330, 0, []),
  (6, .iconst 1, 7, 0, 0, 0, 0, 0, 1, []),
  (7, .invokevirtual 68, 10, 152, 3, 7, 0, 255, 0, []),
  (10, .ifCond .eq 5, 13, 15, 0, 0, 0, 0, 0, []),
  (13, .iconst 0, 14, 0, 0, 0, 0, 0, 0, []),
  (14, .ireturn, 15, 0, 0, 0, 0, 0, 0, []),
  (15, .aload_n 0, 16, 0, 0, 0, 0, 0, 0, []),
  (16, .iload_n 1, 17, 1, 0, 0, 0, 0, 0, []),
  (17, .invokevirtual 253, 20, 200, 2, 7, 0, 316, 0, []),
  (20, .ifCond .eq 12, 23, 32, 0, 0, 0, 0, 0, []),
  (23, .aload_n 0, 24, 0, 0, 0, 0, 0, 0, []),
  (24, .iload_n 1, 25, 1, 0, 0, 0, 0, 0, []),
  (25, .iconst 2, 26, 0, 0, 0, 0, 0, 2, []),
  (26, .invokevirtual 193, 29, 142, 3, 7, 0, 293, 0, []),
  (29, .goto 4, 32, 33, 0, 0, 0, 0, 0, []),
  (32, .iconst (-1), 33, 0, 0, 0, 0, 0, -1, []),
  (33, .ireturn, 34, 0, 0, 0, 0, 0, 0, [])]
def tbX7_busyTicks : List iE := [(0, .aload_n 0, 1, 0, 0, 0, 0, 0, 0, []),
  (1, .iload_n 1, 2, 1, 0, 0, 0, 0, 0, []),
  (2, .iconst 3, 3, 0, 0, 0, 0, 0, 3, []),
  (3, .invokevirtual 309, 6, 245, 3, 7, 0, 335, 0, []),
  (6, .ireturn, 7, 0, 0, 0, 0, 0, 0, [])]
def tbX7_setups : List iE := [(0, .aload_n 0, 1, 0, 0, 0, 0, 0, 0, []),
  (1, .iload_n 1, 2, 1, 0, 0, 0, 0, 0, []),
  (2, .iconst 4, 3, 0, 0, 0, 0, 0, 4, []),
  (3, .invokevirtual 309, 6, 245, 3, 7, 0, 335, 0, []),
  (6, .ireturn, 7, 0, 0, 0, 0, 0, 0, [])]
def tbX7_starvedTicks : List iE := [(0, .aload_n 0, 1, 0, 0, 0, 0, 0, 0, []),
  (1, .iconst 0, 2, 0, 0, 0, 0, 0, 0, []),
  (2, .putfield 50, 5, 7, 5, 0, 0, 249, 0, []),
  (5, .aload_n 0, 6, 0, 0, 0, 0, 0, 0, []),
  (6, .getfield 9, 9, 7, 0, 1, 8, 250, 0, []),
  (9, .bipush 10, 11, 0, 0, 0, 0, 0, 10, []),
  (11, .iaload, 12, 8, 0, 0, 0, 0, 0, []),
  (12, .ireturn, 13, 0, 0, 0, 0, 0, 0, [])]
def tbX7_loadAt : List iE := [(0, .iconst 0, 1, 0, 0, 0, 0, 0, 0, []),
  (1, .istore_n 2, 2, 2, 0, 0, 0, 0, 0, []),
  (2, .iconst 0, 3, 0, 0, 0, 0, 0, 0, []),
  (3, .istore_n 3, 4, 3, 0, 0, 0, 0, 0, []),
  (4, .iload_n 3, 5, 3, 0, 0, 0, 0, 0, []),
  (5, .aload_n 0, 6, 0, 0, 0, 0, 0, 0, []),
  (6, .getfield 9, 9, 7, 0, 1, 8, 250, 0, []),
  (9, .iconst 4, 10, 0, 0, 0, 0, 0, 4, []),
  (10, .iaload, 11, 8, 0, 0, 0, 0, 0, []),
  (11, .if_icmp .ge 168, 14, 179, 0, 0, 0, 0, 0, []),
  (14, .aload_n 0, 15, 0, 0, 0, 0, 0, 0, []),
  (15, .iload_n 3, 16, 3, 0, 0, 0, 0, 0, []),
  (16, .invokevirtual 190, 19, 182, 2, 7, 0, 292, 0, []),
  (19, .ifCond .ne 6, 22, 25, 0, 0, 0, 0, 0, []),
  (22, .goto 151, 25, 173, 0, 0, 0, 0, 0, []),
  (25, .aload_n 0, 26, 0, 0, 0, 0, 0, 0, []),
  (26, .iload_n 3, 27, 3, 0, 0, 0, 0, 0, []),
  (27, .iconst 0, 28, 0, 0, 0, 0, 0, 0, []),
  (28, .invokevirtual 188, 31, 144, 3, 7, 0, 291, 0, []),
  (31, .istore 4, 33, 4, 0, 0, 0, 0, 0, []),
  (33, .aload_n 0, 34, 0, 0, 0, 0, 0, 0, []),
  (34, .iload_n 3, 35, 3, 0, 0, 0, 0, 0, []),
  (35, .bipush 6, 37, 0, 0, 0, 0, 0, 6, []),
  (37, .invokevirtual 188, 40, 144, 3, 7, 0, 291, 0, []),
  (40, .iconst 1, 41, 0, 0, 0, 0, 0, 1, []),
  (41, .if_icmp .ne 7, 44, 48, 0, 0, 0, 0, 0, []),
  (44, .iconst 1, 45, 0, 0, 0, 0, 0, 1, []),
  (45, .goto 4, 48, 49, 0, 0, 0, 0, 0, []),
  (48, .iconst 0, 49, 0, 0, 0, 0, 0, 0, []),
  (49, .istore 5, 51, 5, 0, 0, 0, 0, 0, []),
  (51, .iconst 0, 52, 0, 0, 0, 0, 0, 0, []),
  (52, .aload_n 0, 53, 0, 0, 0, 0, 0, 0, []),
  (53, .iload_n 3, 54, 3, 0, 0, 0, 0, 0, []),
  (54, .iconst 4, 55, 0, 0, 0, 0, 0, 4, []),
  (55, .invokevirtual 188, 58, 144, 3, 7, 0, 291, 0, []),
  (58, .invokestatic 219, 61, 0, 0, 0, 1, 305, 0, []),
  (61, .istore 6, 63, 6, 0, 0, 0, 0, 0, []),
  (63, .iload_n 2, 64, 2, 0, 0, 0, 0, 0, []),
  (64, .iload 5, 66, 5, 0, 0, 0, 0, 0, []),
  (66, .ifCond .eq 28, 69, 94, 0, 0, 0, 0, 0, []),
  (69, .aload_n 0, 70, 0, 0, 0, 0, 0, 0, []),
  (70, .getfield 9, 73, 7, 0, 1, 8, 250, 0, []),
  (73, .iload 4, 75, 4, 0, 0, 0, 0, 0, []),
  (75, .iload 6, 77, 6, 0, 0, 0, 0, 0, []),
  (77, .invokestatic 53, 80, 147, 3, 7, 0, 251, 0, []),
  (80, .iload_n 1, 81, 1, 0, 0, 0, 0, 0, []),
  (81, .if_icmp .ne 13, 84, 94, 0, 0, 0, 0, 0, []),
  (84, .aload_n 0, 85, 0, 0, 0, 0, 0, 0, []),
  (85, .iload_n 3, 86, 3, 0, 0, 0, 0, 0, []),
  (86, .bipush 7, 88, 0, 0, 0, 0, 0, 7, []),
  (88, .invokevirtual 188, 91, 144, 3, 7, 0, 291, 0, []),
  (91, .goto 4, 94, 95, 0, 0, 0, 0, 0, []),
  (94, .iconst 0, 95, 0, 0, 0, 0, 0, 0, []),
  (95, .iadd, 96, 0, 0, 0, 0, 0, 0, []),
  (96, .istore_n 2, 97, 2, 0, 0, 0, 0, 0, []),
  (97, .iload 5, 99, 5, 0, 0, 0, 0, 0, []),
  (99, .ifCond .eq 10, 102, 109, 0, 0, 0, 0, 0, []),
  (102, .iload 6, 104, 6, 0, 0, 0, 0, 0, []),
  (104, .iconst 1, 105, 0, 0, 0, 0, 0, 1, []),
  (105, .iadd, 106, 0, 0, 0, 0, 0, 0, []),
  (106, .goto 5, 109, 111, 0, 0, 0, 0, 0, []),
  (109, .iload 6, 111, 6, 0, 0, 0, 0, 0, []),
  (111, .istore 7, 113, 7, 0, 0, 0, 0, 0, []),
  (113, .iload 7, 115, 7, 0, 0, 0, 0, 0, []),
  (115, .aload_n 0, 116, 0, 0, 0, 0, 0, 0, []),
  (116, .getfield 9, 119, 7, 0, 1, 8, 250, 0, []),
  (119, .iload 4, 121, 4, 0, 0, 0, 0, 0, []),
  (121, .invokestatic 116, 124, 146, 2, 7, 0, 271, 0, []),
  (124, .if_icmp .ge 49, 127, 173, 0, 0, 0, 0, 0, []),
  (127, .iload_n 2, 128, 2, 0, 0, 0, 0, 0, []),
  (128, .aload_n 0, 129, 0, 0, 0, 0, 0, 0, []),
  (129, .getfield 9, 132, 7, 0, 1, 8, 250, 0, []),
  (132, .iload 4, 134, 4, 0, 0, 0, 0, 0, []),
  (134, .iload 7, 136, 7, 0, 0, 0, 0, 0, []),
  (136, .invokestatic 53, 139, 147, 3, 7, 0, 251, 0, []),
  (139, .iload_n 1, 140, 1, 0, 0, 0, 0, 0, []),
  (140, .if_icmp .ne 24, 143, 164, 0, 0, 0, 0, 0, []),
  (143, .aload_n 0, 144, 0, 0, 0, 0, 0, 0, []),
  (144, .getfield 9, 147, 7, 0, 1, 8, 250, 0, []),
  (147, .iload 4, 149, 4, 0, 0, 0, 0, 0, []),
  (149, .iload 7, 151, 7, 0, 0, 0, 0, 0, []),
  (151, .invokestatic 61, 154, 148, 3, 7, 0, 253, 0, []),
  (154, .aload_n 0, 155, 0, 0, 0, 0, 0, 0, []),
  (155, .iload_n 3, 156, 3, 0, 0, 0, 0, 0, []),
  (156, .iconst 1, 157, 0, 0, 0, 0, 0, 1, []),
  (157, .invokevirtual 188, 160, 144, 3, 7, 0, 291, 0, []),
  (160, .imul, 161, 0, 0, 0, 0, 0, 0, []),
  (161, .goto 4, 164, 165, 0, 0, 0, 0, 0, []),
  (164, .iconst 0, 165, 0, 0, 0, 0, 0, 0, []),
  (165, .iadd, 166, 0, 0, 0, 0, 0, 0, []),
  (166, .istore_n 2, 167, 2, 0, 0, 0, 0, 0, []),
  (167, .iinc 7 1, 170, 7, 0, 0, 0, 0, 1, []),
  (170, .goto (-57), 173, 113, 0, 0, 0, 0, 0, []),
  (173, .iinc 3 1, 176, 3, 0, 0, 0, 0, 1, []),
  (176, .goto (-172), 179, 4, 0, 0, 0, 0, 0, []),
  (179, .iload_n 2, 180, 2, 0, 0, 0, 0, 0, []),
  (180, .ireturn, 181, 0, 0, 0, 0, 0, 0, [])]
def tbX7_loadOf : List iE := [(0, .aload_n 0, 1, 0, 0, 0, 0, 0, 0, []),
  (1, .aload_n 0, 2, 0, 0, 0, 0, 0, 0, []),
  (2, .iload_n 1, 3, 1, 0, 0, 0, 0, 0, []),
  (3, .invokevirtual 294, 6, 155, 2, 7, 0, 330, 0, []),
  (6, .iconst 1, 7, 0, 0, 0, 0, 0, 1, []),
  (7, .invokevirtual 68, 10, 152, 3, 7, 0, 255, 0, []),
  (10, .ifCond .eq 7, 13, 17, 0, 0, 0, 0, 0, []),
  (13, .iconst 0, 14, 0, 0, 0, 0, 0, 0, []),
  (14, .goto 8, 17, 22, 0, 0, 0, 0, 0, []),
  (17, .aload_n 0, 18, 0, 0, 0, 0, 0, 0, []),
  (18, .iload_n 1, 19, 1, 0, 0, 0, 0, 0, []),
  (19, .invokevirtual 312, 22, 255, 2, 7, 0, 336, 0, []),
  (22, .ireturn, 23, 0, 0, 0, 0, 0, 0, [])]
def tbX7_bottleneck : List iE := [(0, .aload_n 0, 1, 0, 0, 0, 0, 0, 0, []),
  (1, .iconst 0, 2, 0, 0, 0, 0, 0, 0, []),
  (2, .putfield 50, 5, 7, 5, 0, 0, 249, 0, []),
  (5, .iconst 0, 6, 0, 0, 0, 0, 0, 0, []),
  (6, .istore_n 1, 7, 1, 0, 0, 0, 0, 0, []),
  (7, .iconst 1, 8, 0, 0, 0, 0, 0, 1, []),
  (8, .istore_n 2, 9, 2, 0, 0, 0, 0, 0, []),
  (9, .iload_n 2, 10, 2, 0, 0, 0, 0, 0, []),
  (10, .aload_n 0, 11, 0, 0, 0, 0, 0, 0, []),
  (11, .getfield 9, 14, 7, 0, 1, 8, 250, 0, []),
  (14, .iconst 1, 15, 0, 0, 0, 0, 0, 1, []),
  (15, .iaload, 16, 8, 0, 0, 0, 0, 0, []),
  (16, .if_icmp .ge 28, 19, 44, 0, 0, 0, 0, 0, []),
  (19, .aload_n 0, 20, 0, 0, 0, 0, 0, 0, []),
  (20, .iload_n 2, 21, 2, 0, 0, 0, 0, 0, []),
  (21, .invokevirtual 312, 24, 255, 2, 7, 0, 336, 0, []),
  (24, .aload_n 0, 25, 0, 0, 0, 0, 0, 0, []),
  (25, .iload_n 1, 26, 1, 0, 0, 0, 0, 0, []),
  (26, .invokevirtual 312, 29, 255, 2, 7, 0, 336, 0, []),
  (29, .if_icmp .le 7, 32, 36, 0, 0, 0, 0, 0, []),
  (32, .iload_n 2, 33, 2, 0, 0, 0, 0, 0, []),
  (33, .goto 4, 36, 37, 0, 0, 0, 0, 0, []),
  (36, .iload_n 1, 37, 1, 0, 0, 0, 0, 0, []),
  (37, .istore_n 1, 38, 1, 0, 0, 0, 0, 0, []),
  (38, .iinc 2 1, 41, 2, 0, 0, 0, 0, 1, []),
  (41, .goto (-32), 44, 9, 0, 0, 0, 0, 0, []),
  (44, .iload_n 1, 45, 1, 0, 0, 0, 0, 0, []),
  (45, .ireturn, 46, 0, 0, 0, 0, 0, 0, [])]
def tbX7_isFree : List iE := [(0, .iconst 0, 1, 0, 0, 0, 0, 0, 0, []),
  (1, .istore_n 3, 2, 3, 0, 0, 0, 0, 0, []),
  (2, .iload_n 3, 3, 3, 0, 0, 0, 0, 0, []),
  (3, .aload_n 0, 4, 0, 0, 0, 0, 0, 0, []),
  (4, .getfield 196, 7, 7, 19, 0, 0, 294, 0, []),
  (7, .if_icmp .ge 33, 10, 40, 0, 0, 0, 0, 0, []),
  (10, .iload_n 1, 11, 1, 0, 0, 0, 0, 0, []),
  (11, .aload_n 0, 12, 0, 0, 0, 0, 0, 0, []),
  (12, .getfield 43, 15, 7, 18, 1, 8, 297, 0, []),
  (15, .iload_n 3, 16, 3, 0, 0, 0, 0, 0, []),
  (16, .iaload, 17, 8, 0, 0, 0, 0, 0, []),
  (17, .if_icmp .ge 17, 20, 34, 0, 0, 0, 0, 0, []),
  (20, .aload_n 0, 21, 0, 0, 0, 0, 0, 0, []),
  (21, .getfield 40, 24, 7, 17, 1, 8, 298, 0, []),
  (24, .iload_n 3, 25, 3, 0, 0, 0, 0, 0, []),
  (25, .iaload, 26, 8, 0, 0, 0, 0, 0, []),
  (26, .iload_n 1, 27, 1, 0, 0, 0, 0, 0, []),
  (27, .iload_n 2, 28, 2, 0, 0, 0, 0, 0, []),
  (28, .iadd, 29, 0, 0, 0, 0, 0, 0, []),
  (29, .if_icmp .ge 5, 32, 34, 0, 0, 0, 0, 0, []),
  (32, .iconst 0, 33, 0, 0, 0, 0, 0, 0, []),
  (33, .ireturn, 34, 0, 0, 1, 0, 0, 0, []),
  (34, .iinc 3 1, 37, 3, 0, 0, 0, 0, 1, []),
  (37, .goto (-35), 40, 2, 0, 0, 0, 0, 0, []),
  (40, .iconst 1, 41, 0, 0, 0, 0, 0, 1, []),
  (41, .ireturn, 42, 0, 0, 1, 0, 0, 0, [])]
def tbX7_quote : List iE := [(0, .aload_n 0, 1, 0, 0, 0, 0, 0, 0, []),
  (1, .iload_n 1, 2, 1, 0, 0, 0, 0, 0, []),
  (2, .iload_n 2, 3, 2, 0, 0, 0, 0, 0, []),
  (3, .invokevirtual 184, 6, 178, 3, 7, 0, 290, 0, []),
  (6, .ifCond .ne 5, 9, 11, 0, 0, 0, 0, 0, []),
  (9, .iconst 0, 10, 0, 0, 0, 0, 0, 0, []),
  (10, .ireturn, 11, 0, 0, 0, 0, 0, 0, []),
  (11, .aload_n 0, 12, 0, 0, 0, 0, 0, 0, []),
  (12, .getfield 9, 15, 7, 0, 1, 8, 250, 0, []),
  (15, .iload_n 1, 16, 1, 0, 0, 0, 0, 0, []),
  (16, .iload_n 2, 17, 2, 0, 0, 0, 0, 0, []),
  (17, .invokestatic 160, 20, 150, 3, 7, 0, 281, 0, []),
  (20, .istore_n 3, 21, 3, 0, 0, 0, 0, 0, []),
  (21, .iload_n 3, 22, 3, 0, 0, 0, 0, 0, []),
  (22, .aload_n 0, 23, 0, 0, 0, 0, 0, 0, []),
  (23, .getfield 9, 26, 7, 0, 1, 8, 250, 0, []),
  (26, .bipush 7, 28, 0, 0, 0, 0, 0, 7, []),
  (28, .iaload, 29, 8, 0, 0, 0, 0, 0, []),
  (29, .if_icmp .le 6, 32, 35, 0, 0, 0, 0, 0, []),
  (32, .bipush (-4), 34, 0, 0, 0, 0, 0, -4, []),
  (34, .ireturn, 35, 0, 0, 0, 0, 0, 0, []),
  (35, .aload_n 0, 36, 0, 0, 0, 0, 0, 0, []),
  (36, .invokevirtual 209, 39, 186, 1, 7, 0, 301, 0, []),
  (39, .aload_n 0, 40, 0, 0, 0, 0, 0, 0, []),
  (40, .invokevirtual 206, 43, 185, 1, 7, 0, 300, 0, []),
  (43, .aload_n 0, 44, 0, 0, 0, 0, 0, 0, []),
  (44, .getfield 9, 47, 7, 0, 1, 8, 250, 0, []),
  (47, .iconst 0, 48, 0, 0, 0, 0, 0, 0, []),
  (48, .iaload, 49, 8, 0, 0, 0, 0, 0, []),
  (49, .aload_n 0, 50, 0, 0, 0, 0, 0, 0, []),
  (50, .getfield 9, 53, 7, 0, 1, 8, 250, 0, []),
  (53, .iconst 5, 54, 0, 0, 0, 0, 0, 5, []),
  (54, .iaload, 55, 8, 0, 0, 0, 0, 0, []),
  (55, .iadd, 56, 0, 0, 0, 0, 0, 0, []),
  (56, .invokestatic 219, 59, 0, 0, 0, 1, 305, 0, []),
  (59, .istore 4, 61, 4, 0, 0, 0, 0, 0, []),
  (61, .aload_n 0, 62, 0, 0, 0, 0, 0, 0, []),
  (62, .iload 4, 64, 4, 0, 0, 0, 0, 0, []),
  (64, .iload_n 3, 65, 3, 0, 0, 0, 0, 0, []),
  (65, .invokevirtual 315, 68, 258, 3, 7, 0, 337, 0, []),
  (68, .ifCond .eq 8, 71, 76, 0, 0, 0, 0, 0, []),
  (71, .iload 4, 73, 4, 0, 0, 0, 0, 0, []),
  (73, .goto 6, 76, 79, 0, 0, 0, 0, 0, []),
  (76, .ldc_w 320, 79, 0, 0, 0, 0, 338, 2147483647, []),
  (79, .istore 5, 81, 5, 0, 0, 0, 0, 0, []),
  (81, .iconst 0, 82, 0, 0, 0, 0, 0, 0, []),
  (82, .istore 6, 84, 6, 0, 0, 0, 0, 0, []),
  (84, .iload 6, 86, 6, 0, 0, 0, 0, 0, []),
  (86, .aload_n 0, 87, 0, 0, 0, 0, 0, 0, []),
  (87, .getfield 196, 90, 7, 19, 0, 0, 294, 0, []),
  (90, .if_icmp .ge 57, 93, 147, 0, 0, 0, 0, 0, []),
  (93, .aload_n 0, 94, 0, 0, 0, 0, 0, 0, []),
  (94, .getfield 43, 97, 7, 18, 1, 8, 297, 0, []),
  (97, .iload 6, 99, 6, 0, 0, 0, 0, 0, []),
  (99, .iaload, 100, 8, 0, 0, 0, 0, 0, []),
  (100, .iload 4, 102, 4, 0, 0, 0, 0, 0, []),
  (102, .if_icmp .lt 39, 105, 141, 0, 0, 0, 0, 0, []),
  (105, .aload_n 0, 106, 0, 0, 0, 0, 0, 0, []),
  (106, .getfield 43, 109, 7, 18, 1, 8, 297, 0, []),
  (109, .iload 6, 111, 6, 0, 0, 0, 0, 0, []),
  (111, .iaload, 112, 8, 0, 0, 0, 0, 0, []),
  (112, .iload 5, 114, 5, 0, 0, 0, 0, 0, []),
  (114, .if_icmp .ge 27, 117, 141, 0, 0, 0, 0, 0, []),
  (117, .aload_n 0, 118, 0, 0, 0, 0, 0, 0, []),
  (118, .aload_n 0, 119, 0, 0, 0, 0, 0, 0, []),
  (119, .getfield 43, 122, 7, 18, 1, 8, 297, 0, []),
  (122, .iload 6, 124, 6, 0, 0, 0, 0, 0, []),
  (124, .iaload, 125, 8, 0, 0, 0, 0, 0, []),
  (125, .iload_n 3, 126, 3, 0, 0, 0, 0, 0, []),
  (126, .invokevirtual 315, 129, 258, 3, 7, 0, 337, 0, []),
  (129, .ifCond .eq 12, 132, 141, 0, 0, 0, 0, 0, []),
  (132, .aload_n 0, 133, 0, 0, 0, 0, 0, 0, []),
  (133, .getfield 43, 136, 7, 18, 1, 8, 297, 0, []),
  (136, .iload 6, 138, 6, 0, 0, 0, 0, 0, []),
  (138, .iaload, 139, 8, 0, 0, 0, 0, 0, []),
  (139, .istore 5, 141, 5, 0, 0, 0, 0, 0, []),
  (141, .iinc 6 1, 144, 6, 0, 0, 0, 0, 1, []),
  (144, .goto (-60), 147, 84, 0, 0, 0, 0, 0, []),
  (147, .iload 5, 149, 5, 0, 0, 0, 0, 0, []),
  (149, .iload_n 3, 150, 3, 0, 0, 0, 0, 0, []),
  (150, .iadd, 151, 0, 0, 0, 0, 0, 0, []),
  (151, .aload_n 0, 152, 0, 0, 0, 0, 0, 0, []),
  (152, .getfield 9, 155, 7, 0, 1, 8, 250, 0, []),
  (155, .bipush 6, 157, 0, 0, 0, 0, 0, 6, []),
  (157, .iaload, 158, 8, 0, 0, 0, 0, 0, []),
  (158, .iadd, 159, 0, 0, 0, 0, 0, 0, []),
  (159, .ireturn, 160, 0, 0, 0, 0, 0, 0, [])]
def tbX7_leaves : List iE := [(0, .aload_n 0, 1, 0, 0, 0, 0, 0, 0, []),
  (1, .getfield 9, 4, 7, 0, 1, 8, 250, 0, []),
  (4, .iconst 0, 5, 0, 0, 0, 0, 0, 0, []),
  (5, .aload_n 0, 6, 0, 0, 0, 0, 0, 0, []),
  (6, .getfield 16, 9, 7, 2, 1, 8, 339, 0, []),
  (9, .iconst 0, 10, 0, 0, 0, 0, 0, 0, []),
  (10, .invokestatic 177, 13, 140, 4, 7, 0, 288, 0, []),
  (13, .return_, 14, 0, 0, 0, 0, 0, 0, [])]
def tbX7_comesBack : List iE := [(0, .aload_n 0, 1, 0, 0, 0, 0, 0, 0, []),
  (1, .getfield 16, 4, 7, 2, 1, 8, 339, 0, []),
  (4, .iconst 0, 5, 0, 0, 0, 0, 0, 0, []),
  (5, .aload_n 0, 6, 0, 0, 0, 0, 0, 0, []),
  (6, .getfield 9, 9, 7, 0, 1, 8, 250, 0, []),
  (9, .iconst 0, 10, 0, 0, 0, 0, 0, 0, []),
  (10, .invokestatic 177, 13, 140, 4, 7, 0, 288, 0, []),
  (13, .return_, 14, 0, 0, 0, 0, 0, 0, [])]
def tbX7_endOf : List iE := [(0, .iconst 0, 1, 0, 0, 0, 0, 0, 0, []),
  (1, .istore_n 2, 2, 2, 0, 0, 0, 0, 0, []),
  (2, .iload_n 2, 3, 2, 0, 0, 0, 0, 0, []),
  (3, .sipush 2000, 6, 0, 0, 0, 0, 0, 2000, []),
  (6, .if_icmp .ge 24, 9, 30, 0, 0, 0, 0, 0, []),
  (9, .aload_n 0, 10, 0, 0, 0, 0, 0, 0, []),
  (10, .iload_n 1, 11, 1, 0, 0, 0, 0, 0, []),
  (11, .iconst 3, 12, 0, 0, 0, 0, 0, 3, []),
  (12, .invokevirtual 188, 15, 144, 3, 7, 0, 291, 0, []),
  (15, .iconst 2, 16, 0, 0, 0, 0, 0, 2, []),
  (16, .if_icmp .eq 14, 19, 30, 0, 0, 0, 0, 0, []),
  (19, .aload_n 0, 20, 0, 0, 0, 0, 0, 0, []),
  (20, .invokevirtual 279, 23, 206, 1, 7, 0, 325, 0, []),
  (23, .istore_n 3, 24, 3, 0, 0, 0, 0, 0, []),
  (24, .iinc 2 1, 27, 2, 0, 0, 0, 0, 1, []),
  (27, .goto (-25), 30, 2, 0, 0, 0, 0, 0, []),
  (30, .aload_n 0, 31, 0, 0, 0, 0, 0, 0, []),
  (31, .iload_n 1, 32, 1, 0, 0, 0, 0, 0, []),
  (32, .bipush 11, 34, 0, 0, 0, 0, 0, 11, []),
  (34, .invokevirtual 188, 37, 144, 3, 7, 0, 291, 0, []),
  (37, .ireturn, 38, 0, 0, 0, 0, 0, 0, [])]
def tbX7_finishIfAdded : List iE := [(0, .aload_n 0, 1, 0, 0, 0, 0, 0, 0, []),
  (1, .iload_n 1, 2, 1, 0, 0, 0, 0, 0, []),
  (2, .iload_n 2, 3, 2, 0, 0, 0, 0, 0, []),
  (3, .iload_n 3, 4, 3, 0, 0, 0, 0, 0, []),
  (4, .invokevirtual 282, 7, 210, 4, 7, 0, 326, 0, []),
  (7, .ifCond .ne 5, 10, 12, 0, 0, 0, 0, 0, []),
  (10, .iconst 0, 11, 0, 0, 0, 0, 0, 0, []),
  (11, .ireturn, 12, 0, 0, 0, 0, 0, 0, []),
  (12, .aload_n 0, 13, 0, 0, 0, 0, 0, 0, []),
  (13, .iload_n 1, 14, 1, 0, 0, 0, 0, 0, []),
  (14, .iload_n 2, 15, 2, 0, 0, 0, 0, 0, []),
  (15, .invokevirtual 285, 18, 209, 3, 7, 0, 327, 0, []),
  (18, .istore 4, 20, 4, 0, 0, 0, 0, 0, []),
  (20, .iload 4, 22, 4, 0, 0, 0, 0, 0, []),
  (22, .ifCond .eq 6, 25, 28, 0, 0, 0, 0, 0, []),
  (25, .iload 4, 27, 4, 0, 0, 0, 0, 0, []),
  (27, .ireturn, 28, 0, 0, 0, 0, 0, 0, []),
  (28, .aload_n 0, 29, 0, 0, 0, 0, 0, 0, []),
  (29, .invokevirtual 321, 32, 260, 1, 7, 0, 340, 0, []),
  (32, .aload_n 0, 33, 0, 0, 0, 0, 0, 0, []),
  (33, .getfield 9, 36, 7, 0, 1, 8, 250, 0, []),
  (36, .iload_n 1, 37, 1, 0, 0, 0, 0, 0, []),
  (37, .iload_n 2, 38, 2, 0, 0, 0, 0, 0, []),
  (38, .iload_n 3, 39, 3, 0, 0, 0, 0, 0, []),
  (39, .invokestatic 126, 42, 151, 4, 7, 0, 275, 0, []),
  (42, .aload_n 0, 43, 0, 0, 0, 0, 0, 0, []),
  (43, .aload_n 0, 44, 0, 0, 0, 0, 0, 0, []),
  (44, .getfield 9, 47, 7, 0, 1, 8, 250, 0, []),
  (47, .iconst 4, 48, 0, 0, 0, 0, 0, 4, []),
  (48, .iaload, 49, 8, 0, 0, 0, 0, 0, []),
  (49, .iconst 1, 50, 0, 0, 0, 0, 0, 1, []),
  (50, .isub, 51, 0, 0, 0, 0, 0, 0, []),
  (51, .invokevirtual 324, 54, 262, 2, 7, 0, 341, 0, []),
  (54, .istore 5, 56, 5, 0, 0, 0, 0, 0, []),
  (56, .aload_n 0, 57, 0, 0, 0, 0, 0, 0, []),
  (57, .invokevirtual 327, 60, 261, 1, 7, 0, 342, 0, []),
  (60, .iload 5, 62, 5, 0, 0, 0, 0, 0, []),
  (62, .ireturn, 63, 0, 0, 0, 0, 0, 0, [])]
def tbX7_finishOf : List iE := [(0, .aload_n 0, 1, 0, 0, 0, 0, 0, 0, []),
  (1, .aload_n 0, 2, 0, 0, 0, 0, 0, 0, []),
  (2, .iload_n 1, 3, 1, 0, 0, 0, 0, 0, []),
  (3, .invokevirtual 288, 6, 153, 2, 7, 0, 328, 0, []),
  (6, .iconst 1, 7, 0, 0, 0, 0, 0, 1, []),
  (7, .invokevirtual 68, 10, 152, 3, 7, 0, 255, 0, []),
  (10, .ifCond .eq 5, 13, 15, 0, 0, 0, 0, 0, []),
  (13, .iconst 0, 14, 0, 0, 0, 0, 0, 0, []),
  (14, .ireturn, 15, 0, 0, 0, 0, 0, 0, []),
  (15, .aload_n 0, 16, 0, 0, 0, 0, 0, 0, []),
  (16, .iload_n 1, 17, 1, 0, 0, 0, 0, 0, []),
  (17, .iconst 3, 18, 0, 0, 0, 0, 0, 3, []),
  (18, .invokevirtual 188, 21, 144, 3, 7, 0, 291, 0, []),
  (21, .iconst 3, 22, 0, 0, 0, 0, 0, 3, []),
  (22, .if_icmp .ne 5, 25, 27, 0, 0, 0, 0, 0, []),
  (25, .iconst (-1), 26, 0, 0, 0, 0, 0, -1, []),
  (26, .ireturn, 27, 0, 0, 0, 0, 0, 0, []),
  (27, .aload_n 0, 28, 0, 0, 0, 0, 0, 0, []),
  (28, .invokevirtual 321, 31, 260, 1, 7, 0, 340, 0, []),
  (31, .aload_n 0, 32, 0, 0, 0, 0, 0, 0, []),
  (32, .iload_n 1, 33, 1, 0, 0, 0, 0, 0, []),
  (33, .invokevirtual 324, 36, 262, 2, 7, 0, 341, 0, []),
  (36, .istore_n 2, 37, 2, 0, 0, 0, 0, 0, []),
  (37, .aload_n 0, 38, 0, 0, 0, 0, 0, 0, []),
  (38, .invokevirtual 327, 41, 261, 1, 7, 0, 342, 0, []),
  (41, .iload_n 2, 42, 2, 0, 0, 0, 0, 0, []),
  (42, .ireturn, 43, 0, 0, 0, 0, 0, 0, [])]
def tbX7_isAnyOpen : List iE := [(0, .iconst 0, 1, 0, 0, 0, 0, 0, 0, []),
  (1, .istore_n 1, 2, 1, 0, 0, 0, 0, 0, []),
  (2, .iload_n 1, 3, 1, 0, 0, 0, 0, 0, []),
  (3, .aload_n 0, 4, 0, 0, 0, 0, 0, 0, []),
  (4, .getfield 9, 7, 7, 0, 1, 8, 250, 0, []),
  (7, .iconst 4, 8, 0, 0, 0, 0, 0, 4, []),
  (8, .iaload, 9, 8, 0, 0, 0, 0, 0, []),
  (9, .if_icmp .ge 19, 12, 28, 0, 0, 0, 0, 0, []),
  (12, .aload_n 0, 13, 0, 0, 0, 0, 0, 0, []),
  (13, .iload_n 1, 14, 1, 0, 0, 0, 0, 0, []),
  (14, .invokevirtual 190, 17, 182, 2, 7, 0, 292, 0, []),
  (17, .ifCond .eq 5, 20, 22, 0, 0, 0, 0, 0, []),
  (20, .iconst 1, 21, 0, 0, 0, 0, 0, 1, []),
  (21, .ireturn, 22, 0, 0, 1, 0, 0, 0, []),
  (22, .iinc 1 1, 25, 1, 0, 0, 0, 0, 1, []),
  (25, .goto (-23), 28, 2, 0, 0, 0, 0, 0, []),
  (28, .iconst 0, 29, 0, 0, 0, 0, 0, 0, []),
  (29, .ireturn, 30, 0, 0, 1, 0, 0, 0, [])]
def tbX7_lateAhead : List iE := [(0, .iconst 0, 1, 0, 0, 0, 0, 0, 0, []),
  (1, .istore_n 1, 2, 1, 0, 0, 0, 0, 0, []),
  (2, .iload_n 1, 3, 1, 0, 0, 0, 0, 0, []),
  (3, .sipush 2000, 6, 0, 0, 0, 0, 0, 2000, []),
  (6, .if_icmp .ge 21, 9, 27, 0, 0, 0, 0, 0, []),
  (9, .aload_n 0, 10, 0, 0, 0, 0, 0, 0, []),
  (10, .invokevirtual 330, 13, 265, 1, 7, 0, 343, 0, []),
  (13, .ifCond .eq 14, 16, 27, 0, 0, 0, 0, 0, []),
  (16, .aload_n 0, 17, 0, 0, 0, 0, 0, 0, []),
  (17, .invokevirtual 279, 20, 206, 1, 7, 0, 325, 0, []),
  (20, .istore_n 2, 21, 2, 0, 0, 0, 0, 0, []),
  (21, .iinc 1 1, 24, 1, 0, 0, 0, 0, 1, []),
  (24, .goto (-22), 27, 2, 0, 0, 0, 0, 0, []),
  (27, .iconst 0, 28, 0, 0, 0, 0, 0, 0, []),
  (28, .istore_n 1, 29, 1, 0, 0, 0, 0, 0, []),
  (29, .iconst 0, 30, 0, 0, 0, 0, 0, 0, []),
  (30, .istore_n 2, 31, 2, 0, 0, 0, 0, 0, []),
  (31, .iload_n 2, 32, 2, 0, 0, 0, 0, 0, []),
  (32, .aload_n 0, 33, 0, 0, 0, 0, 0, 0, []),
  (33, .getfield 9, 36, 7, 0, 1, 8, 250, 0, []),
  (36, .iconst 4, 37, 0, 0, 0, 0, 0, 4, []),
  (37, .iaload, 38, 8, 0, 0, 0, 0, 0, []),
  (38, .if_icmp .ge 59, 41, 97, 0, 0, 0, 0, 0, []),
  (41, .aload_n 0, 42, 0, 0, 0, 0, 0, 0, []),
  (42, .iload_n 2, 43, 2, 0, 0, 0, 0, 0, []),
  (43, .iconst 3, 44, 0, 0, 0, 0, 0, 3, []),
  (44, .invokevirtual 188, 47, 144, 3, 7, 0, 291, 0, []),
  (47, .iconst 2, 48, 0, 0, 0, 0, 0, 2, []),
  (48, .if_icmp .ne 13, 51, 61, 0, 0, 0, 0, 0, []),
  (51, .aload_n 0, 52, 0, 0, 0, 0, 0, 0, []),
  (52, .iload_n 2, 53, 2, 0, 0, 0, 0, 0, []),
  (53, .bipush 11, 55, 0, 0, 0, 0, 0, 11, []),
  (55, .invokevirtual 188, 58, 144, 3, 7, 0, 291, 0, []),
  (58, .goto 9, 61, 67, 0, 0, 0, 0, 0, []),
  (61, .aload_n 0, 62, 0, 0, 0, 0, 0, 0, []),
  (62, .getfield 9, 65, 7, 0, 1, 8, 250, 0, []),
  (65, .iconst 0, 66, 0, 0, 0, 0, 0, 0, []),
  (66, .iaload, 67, 8, 0, 0, 0, 0, 0, []),
  (67, .istore_n 3, 68, 3, 0, 0, 0, 0, 0, []),
  (68, .iload_n 1, 69, 1, 0, 0, 0, 0, 0, []),
  (69, .aload_n 0, 70, 0, 0, 0, 0, 0, 0, []),
  (70, .iload_n 2, 71, 2, 0, 0, 0, 0, 0, []),
  (71, .iconst 3, 72, 0, 0, 0, 0, 0, 3, []),
  (72, .invokevirtual 188, 75, 144, 3, 7, 0, 291, 0, []),
  (75, .iconst 3, 76, 0, 0, 0, 0, 0, 3, []),
  (76, .if_icmp .ne 7, 79, 83, 0, 0, 0, 0, 0, []),
  (79, .iconst 0, 80, 0, 0, 0, 0, 0, 0, []),
  (80, .goto 9, 83, 89, 0, 0, 0, 0, 0, []),
  (83, .aload_n 0, 84, 0, 0, 0, 0, 0, 0, []),
  (84, .iload_n 2, 85, 2, 0, 0, 0, 0, 0, []),
  (85, .iload_n 3, 86, 3, 0, 0, 0, 0, 0, []),
  (86, .invokevirtual 306, 89, 242, 3, 7, 0, 334, 0, []),
  (89, .iadd, 90, 0, 0, 0, 0, 0, 0, []),
  (90, .istore_n 1, 91, 1, 0, 0, 0, 0, 0, []),
  (91, .iinc 2 1, 94, 2, 0, 0, 0, 0, 1, []),
  (94, .goto (-63), 97, 31, 0, 0, 0, 0, 0, []),
  (97, .aload_n 0, 98, 0, 0, 0, 0, 0, 0, []),
  (98, .invokevirtual 327, 101, 261, 1, 7, 0, 342, 0, []),
  (101, .iload_n 1, 102, 1, 0, 0, 0, 0, 0, []),
  (102, .ireturn, 103, 0, 0, 0, 0, 0, 0, [])]
def tbX7_lateBy : List iE := [(0, .aload_n 0, 1, 0, 0, 0, 0, 0, 0, []),
  (1, .getfield 9, 4, 7, 0, 1, 8, 250, 0, []),
  (4, .bipush 8, 6, 0, 0, 0, 0, 0, 8, []),
  (6, .iload_n 1, 7, 1, 0, 0, 0, 0, 0, []),
  (7, .iastore, 8, 8, 0, 0, 0, 0, 0, []),
  (8, .aload_n 0, 9, 0, 0, 0, 0, 0, 0, []),
  (9, .invokevirtual 333, 12, 266, 1, 7, 0, 344, 0, []),
  (12, .ireturn, 13, 0, 0, 0, 0, 0, 0, [])]
def tbX7_tardinessAhead : List iE := [(0, .aload_n 0, 1, 0, 0, 0, 0, 0, 0, []),
  (1, .iload_n 1, 2, 1, 0, 0, 0, 0, 0, []),
  (2, .iconst 0, 3, 0, 0, 0, 0, 0, 0, []),
  (3, .iconst 3, 4, 0, 0, 0, 0, 0, 3, []),
  (4, .invokestatic 64, 7, 139, 3, 7, 0, 254, 0, []),
  (7, .iconst 1, 8, 0, 0, 0, 0, 0, 1, []),
  (8, .invokevirtual 68, 11, 152, 3, 7, 0, 255, 0, []),
  (11, .ifCond .eq 5, 14, 16, 0, 0, 0, 0, 0, []),
  (14, .iconst 0, 15, 0, 0, 0, 0, 0, 0, []),
  (15, .ireturn, 16, 0, 0, 0, 0, 0, 0, []),
  (16, .aload_n 0, 17, 0, 0, 0, 0, 0, 0, []),
  (17, .invokevirtual 321, 20, 260, 1, 7, 0, 340, 0, []),
  (20, .aload_n 0, 21, 0, 0, 0, 0, 0, 0, []),
  (21, .iload_n 1, 22, 1, 0, 0, 0, 0, 0, []),
  (22, .invokevirtual 336, 25, 267, 2, 7, 0, 345, 0, []),
  (25, .ireturn, 26, 0, 0, 0, 0, 0, 0, [])]
def tbX7_bestRule : List iE := [(0, .aload_n 0, 1, 0, 0, 0, 0, 0, 0, []),
  (1, .iconst 0, 2, 0, 0, 0, 0, 0, 0, []),
  (2, .putfield 50, 5, 7, 5, 0, 0, 249, 0, []),
  (5, .aload_n 0, 6, 0, 0, 0, 0, 0, 0, []),
  (6, .invokevirtual 321, 9, 260, 1, 7, 0, 340, 0, []),
  (9, .iconst 0, 10, 0, 0, 0, 0, 0, 0, []),
  (10, .istore_n 1, 11, 1, 0, 0, 0, 0, 0, []),
  (11, .aload_n 0, 12, 0, 0, 0, 0, 0, 0, []),
  (12, .iconst 0, 13, 0, 0, 0, 0, 0, 0, []),
  (13, .invokevirtual 336, 16, 267, 2, 7, 0, 345, 0, []),
  (16, .istore_n 2, 17, 2, 0, 0, 0, 0, 0, []),
  (17, .iconst 1, 18, 0, 0, 0, 0, 0, 1, []),
  (18, .istore_n 3, 19, 3, 0, 0, 0, 0, 0, []),
  (19, .iload_n 3, 20, 3, 0, 0, 0, 0, 0, []),
  (20, .iconst 4, 21, 0, 0, 0, 0, 0, 4, []),
  (21, .if_icmp .ge 27, 24, 48, 0, 0, 0, 0, 0, []),
  (24, .aload_n 0, 25, 0, 0, 0, 0, 0, 0, []),
  (25, .iload_n 3, 26, 3, 0, 0, 0, 0, 0, []),
  (26, .invokevirtual 336, 29, 267, 2, 7, 0, 345, 0, []),
  (29, .istore 4, 31, 4, 0, 0, 0, 0, 0, []),
  (31, .iload 4, 33, 4, 0, 0, 0, 0, 0, []),
  (33, .iload_n 2, 34, 2, 0, 0, 0, 0, 0, []),
  (34, .if_icmp .ge 8, 37, 42, 0, 0, 0, 0, 0, []),
  (37, .iload_n 3, 38, 3, 0, 0, 0, 0, 0, []),
  (38, .istore_n 1, 39, 1, 0, 0, 0, 0, 0, []),
  (39, .iload 4, 41, 4, 0, 0, 0, 0, 0, []),
  (41, .istore_n 2, 42, 2, 0, 0, 0, 0, 0, []),
  (42, .iinc 3 1, 45, 3, 0, 0, 0, 0, 1, []),
  (45, .goto (-26), 48, 19, 0, 0, 0, 0, 0, []),
  (48, .iload_n 1, 49, 1, 0, 0, 0, 0, 0, []),
  (49, .ireturn, 50, 0, 0, 0, 0, 0, 0, [])]
def tbX7_lateByRope : List iE := [(0, .aload_n 0, 1, 0, 0, 0, 0, 0, 0, []),
  (1, .getfield 9, 4, 7, 0, 1, 8, 250, 0, []),
  (4, .bipush 7, 6, 0, 0, 0, 0, 0, 7, []),
  (6, .iload_n 1, 7, 1, 0, 0, 0, 0, 0, []),
  (7, .iastore, 8, 8, 0, 0, 0, 0, 0, []),
  (8, .aload_n 0, 9, 0, 0, 0, 0, 0, 0, []),
  (9, .invokevirtual 333, 12, 266, 1, 7, 0, 344, 0, []),
  (12, .ireturn, 13, 0, 0, 0, 0, 0, 0, [])]
def tbX7_neededRope : List iE := [(0, .aload_n 0, 1, 0, 0, 0, 0, 0, 0, []),
  (1, .iconst 0, 2, 0, 0, 0, 0, 0, 0, []),
  (2, .putfield 50, 5, 7, 5, 0, 0, 249, 0, []),
  (5, .aload_n 0, 6, 0, 0, 0, 0, 0, 0, []),
  (6, .invokevirtual 321, 9, 260, 1, 7, 0, 340, 0, []),
  (9, .aload_n 0, 10, 0, 0, 0, 0, 0, 0, []),
  (10, .sipush 1000, 13, 0, 0, 0, 0, 0, 1000, []),
  (13, .invokevirtual 339, 16, 270, 2, 7, 0, 346, 0, []),
  (16, .istore_n 1, 17, 1, 0, 0, 0, 0, 0, []),
  (17, .bipush 100, 19, 0, 0, 0, 0, 0, 100, []),
  (19, .istore_n 2, 20, 2, 0, 0, 0, 0, 0, []),
  (20, .iload_n 2, 21, 2, 0, 0, 0, 0, 0, []),
  (21, .sipush 1000, 24, 0, 0, 0, 0, 0, 1000, []),
  (24, .if_icmp .ge 26, 27, 50, 0, 0, 0, 0, 0, []),
  (27, .iload_n 2, 28, 2, 0, 0, 0, 0, 0, []),
  (28, .aload_n 0, 29, 0, 0, 0, 0, 0, 0, []),
  (29, .invokevirtual 291, 32, 216, 1, 7, 0, 329, 0, []),
  (32, .if_icmp .lt 12, 35, 44, 0, 0, 0, 0, 0, []),
  (35, .aload_n 0, 36, 0, 0, 0, 0, 0, 0, []),
  (36, .iload_n 2, 37, 2, 0, 0, 0, 0, 0, []),
  (37, .invokevirtual 339, 40, 270, 2, 7, 0, 346, 0, []),
  (40, .iload_n 1, 41, 1, 0, 0, 0, 0, 0, []),
  (41, .if_icmp .le 9, 44, 50, 0, 0, 0, 0, 0, []),
  (44, .iinc 2 100, 47, 2, 0, 0, 0, 0, 100, []),
  (47, .goto (-27), 50, 20, 0, 0, 0, 0, 0, []),
  (50, .iload_n 2, 51, 2, 0, 0, 0, 0, 0, []),
  (51, .ireturn, 52, 0, 0, 0, 0, 0, 0, [])]
def tbX7_bestExpedite : List iE := [(0, .aload_n 0, 1, 0, 0, 0, 0, 0, 0, []),
  (1, .iconst 0, 2, 0, 0, 0, 0, 0, 0, []),
  (2, .putfield 50, 5, 7, 5, 0, 0, 249, 0, []),
  (5, .aload_n 0, 6, 0, 0, 0, 0, 0, 0, []),
  (6, .invokevirtual 321, 9, 260, 1, 7, 0, 340, 0, []),
  (9, .iconst (-1), 10, 0, 0, 0, 0, 0, -1, []),
  (10, .istore_n 1, 11, 1, 0, 0, 0, 0, 0, []),
  (11, .aload_n 0, 12, 0, 0, 0, 0, 0, 0, []),
  (12, .invokevirtual 333, 15, 266, 1, 7, 0, 344, 0, []),
  (15, .istore_n 2, 16, 2, 0, 0, 0, 0, 0, []),
  (16, .iconst 0, 17, 0, 0, 0, 0, 0, 0, []),
  (17, .istore_n 3, 18, 3, 0, 0, 0, 0, 0, []),
  (18, .iload_n 3, 19, 3, 0, 0, 0, 0, 0, []),
  (19, .aload_n 0, 20, 0, 0, 0, 0, 0, 0, []),
  (20, .getfield 9, 23, 7, 0, 1, 8, 250, 0, []),
  (23, .iconst 4, 24, 0, 0, 0, 0, 0, 4, []),
  (24, .iaload, 25, 8, 0, 0, 0, 0, 0, []),
  (25, .if_icmp .ge 56, 28, 81, 0, 0, 0, 0, 0, []),
  (28, .aload_n 0, 29, 0, 0, 0, 0, 0, 0, []),
  (29, .iload_n 3, 30, 3, 0, 0, 0, 0, 0, []),
  (30, .invokevirtual 190, 33, 182, 2, 7, 0, 292, 0, []),
  (33, .ifCond .eq 42, 36, 75, 0, 0, 0, 0, 0, []),
  (36, .aload_n 0, 37, 0, 0, 0, 0, 0, 0, []),
  (37, .iload_n 3, 38, 3, 0, 0, 0, 0, 0, []),
  (38, .bipush 12, 40, 0, 0, 0, 0, 0, 12, []),
  (40, .invokevirtual 188, 43, 144, 3, 7, 0, 291, 0, []),
  (43, .iconst 1, 44, 0, 0, 0, 0, 0, 1, []),
  (44, .if_icmp .ne 6, 47, 50, 0, 0, 0, 0, 0, []),
  (47, .goto 28, 50, 75, 0, 0, 0, 0, 0, []),
  (50, .aload_n 0, 51, 0, 0, 0, 0, 0, 0, []),
  (51, .iload_n 3, 52, 3, 0, 0, 0, 0, 0, []),
  (52, .bipush 12, 54, 0, 0, 0, 0, 0, 12, []),
  (54, .iconst 1, 55, 0, 0, 0, 0, 0, 1, []),
  (55, .invokevirtual 225, 58, 145, 4, 7, 0, 307, 0, []),
  (58, .aload_n 0, 59, 0, 0, 0, 0, 0, 0, []),
  (59, .invokevirtual 333, 62, 266, 1, 7, 0, 344, 0, []),
  (62, .istore 4, 64, 4, 0, 0, 0, 0, 0, []),
  (64, .iload 4, 66, 4, 0, 0, 0, 0, 0, []),
  (66, .iload_n 2, 67, 2, 0, 0, 0, 0, 0, []),
  (67, .if_icmp .ge 8, 70, 75, 0, 0, 0, 0, 0, []),
  (70, .iload_n 3, 71, 3, 0, 0, 0, 0, 0, []),
  (71, .istore_n 1, 72, 1, 0, 0, 0, 0, 0, []),
  (72, .iload 4, 74, 4, 0, 0, 0, 0, 0, []),
  (74, .istore_n 2, 75, 2, 0, 0, 0, 0, 0, []),
  (75, .iinc 3 1, 78, 3, 0, 0, 0, 0, 1, []),
  (78, .goto (-60), 81, 18, 0, 0, 0, 0, 0, []),
  (81, .iload_n 1, 82, 1, 0, 0, 0, 0, 0, []),
  (82, .ireturn, 83, 0, 0, 0, 0, 0, 0, [])]
def tbX7_saveSnapshot : List iE := [(0, .aload_n 0, 1, 0, 0, 0, 0, 0, 0, []),
  (1, .iload_n 1, 2, 1, 0, 0, 0, 0, 0, []),
  (2, .iconst 0, 3, 0, 0, 0, 0, 0, 0, []),
  (3, .iconst 1, 4, 0, 0, 0, 0, 0, 1, []),
  (4, .invokestatic 64, 7, 139, 3, 7, 0, 254, 0, []),
  (7, .iconst 1, 8, 0, 0, 0, 0, 0, 1, []),
  (8, .invokevirtual 68, 11, 152, 3, 7, 0, 255, 0, []),
  (11, .ifCond .eq 5, 14, 16, 0, 0, 0, 0, 0, []),
  (14, .iconst 0, 15, 0, 0, 0, 0, 0, 0, []),
  (15, .ireturn, 16, 0, 0, 0, 0, 0, 0, []),
  (16, .aload_n 0, 17, 0, 0, 0, 0, 0, 0, []),
  (17, .getfield 9, 20, 7, 0, 1, 8, 250, 0, []),
  (20, .iconst 0, 21, 0, 0, 0, 0, 0, 0, []),
  (21, .aload_n 0, 22, 0, 0, 0, 0, 0, 0, []),
  (22, .getfield 19, 25, 7, 3, 1, 8, 347, 0, []),
  (25, .iload_n 1, 26, 1, 0, 0, 0, 0, 0, []),
  (26, .invokestatic 177, 29, 140, 4, 7, 0, 288, 0, []),
  (29, .aload_n 0, 30, 0, 0, 0, 0, 0, 0, []),
  (30, .getfield 22, 33, 7, 4, 1, 10, 348, 0, []),
  (33, .iload_n 1, 34, 1, 0, 0, 0, 0, 0, []),
  (34, .iconst 1, 35, 0, 0, 0, 0, 0, 1, []),
  (35, .bastore, 36, 10, 0, 0, 0, 0, 0, []),
  (36, .aload_n 0, 37, 0, 0, 0, 0, 0, 0, []),
  (37, .getfield 9, 40, 7, 0, 1, 8, 250, 0, []),
  (40, .iconst 0, 41, 0, 0, 0, 0, 0, 0, []),
  (41, .iaload, 42, 8, 0, 0, 0, 0, 0, []),
  (42, .ireturn, 43, 0, 0, 0, 0, 0, 0, [])]
def tbX7_restoreSnapshot : List iE := [(0, .aload_n 0, 1, 0, 0, 0, 0, 0, 0, []),
  (1, .iload_n 1, 2, 1, 0, 0, 0, 0, 0, []),
  (2, .iconst 0, 3, 0, 0, 0, 0, 0, 0, []),
  (3, .iconst 1, 4, 0, 0, 0, 0, 0, 1, []),
  (4, .invokestatic 64, 7, 139, 3, 7, 0, 254, 0, []),
  (7, .iconst 1, 8, 0, 0, 0, 0, 0, 1, []),
  (8, .invokevirtual 68, 11, 152, 3, 7, 0, 255, 0, []),
  (11, .ifCond .eq 5, 14, 16, 0, 0, 0, 0, 0, []),
  (14, .iconst 0, 15, 0, 0, 0, 0, 0, 0, []),
  (15, .ireturn, 16, 0, 0, 0, 0, 0, 0, []),
  (16, .aload_n 0, 17, 0, 0, 0, 0, 0, 0, []),
  (17, .getfield 22, 20, 7, 4, 1, 10, 348, 0, []),
  (20, .iload_n 1, 21, 1, 0, 0, 0, 0, 0, []),
  (21, .baload, 22, 10, 0, 0, 0, 0, 0, []),
  (22, .ifCond .ne 5, 25, 27, 0, 0, 0, 0, 0, []),
  (25, .iconst (-1), 26, 0, 0, 0, 0, 0, -1, []),
  (26, .ireturn, 27, 0, 0, 0, 0, 0, 0, []),
  (27, .aload_n 0, 28, 0, 0, 0, 0, 0, 0, []),
  (28, .getfield 19, 31, 7, 3, 1, 8, 347, 0, []),
  (31, .iload_n 1, 32, 1, 0, 0, 0, 0, 0, []),
  (32, .aload_n 0, 33, 0, 0, 0, 0, 0, 0, []),
  (33, .getfield 9, 36, 7, 0, 1, 8, 250, 0, []),
  (36, .iconst 0, 37, 0, 0, 0, 0, 0, 0, []),
  (37, .invokestatic 177, 40, 140, 4, 7, 0, 288, 0, []),
  (40, .aload_n 0, 41, 0, 0, 0, 0, 0, 0, []),
  (41, .getfield 9, 44, 7, 0, 1, 8, 250, 0, []),
  (44, .iconst 0, 45, 0, 0, 0, 0, 0, 0, []),
  (45, .iaload, 46, 8, 0, 0, 0, 0, 0, []),
  (46, .ireturn, 47, 0, 0, 0, 0, 0, 0, [])]
end
section
/-! ===== the methods and the words (written by gen.py) ===== -/
def yJ_length : MethodName := ⟨"java/lang/String", "length", "()I"⟩
def yJ_charAt : MethodName := ⟨"java/lang/String", "charAt", "(I)C"⟩
def nMt : Nat := 275
def strTab : List (String × Nat × Nat) := [(RX2, 58, 0), (RX2, 67, 1), (RX2, 73, 2), (RX2, 93, 3), (RX2, 101, 4), (RX2, 105, 5), (RX2, 109, 6), (RX2, 113, 7), (RX7, 163, 0), (RX7, 133, 3), (RX7, 139, 4), (RX7, 141, 5), (RX7, 143, 6), (RX7, 145, 7), (RX7, 150, 1), (RX7, 155, 2)]
def iTb (j : Nat) : List iE := (bif Nat.blt j 137 then (bif Nat.blt j 68 then (bif Nat.blt j 34 then (bif Nat.blt j 17 then (bif Nat.blt j 8 then (bif Nat.blt j 4 then (bif Nat.blt j 2 then (bif Nat.blt j 1 then tbX0_clear else tbX0_copyFrom) else (bif Nat.blt j 3 then tbX0_isOpen else tbX0_latenessAt)) else (bif Nat.blt j 6 then (bif Nat.blt j 5 then tbX0_flowUntil else tbX1_clear) else (bif Nat.blt j 7 then tbX1_copyFrom else tbX1_timeOfPiece))) else (bif Nat.blt j 12 then (bif Nat.blt j 10 then (bif Nat.blt j 9 then tbX1_drumTime else tbX2_append) else (bif Nat.blt j 11 then tbX2_readInto else tbX2_rewind)) else (bif Nat.blt j 14 then (bif Nat.blt j 13 then tbX2_readStatement else tbX2_readStations) else (bif Nat.blt j 15 then tbX2_readSetting else (bif Nat.blt j 16 then tbX2_readSetup else tbX2_readProduct))))) else (bif Nat.blt j 25 then (bif Nat.blt j 21 then (bif Nat.blt j 19 then (bif Nat.blt j 18 then tbX2_readStep else tbX2_readOrder) else (bif Nat.blt j 20 then tbX2_checkDrumWorks else tbX2_readNumber)) else (bif Nat.blt j 23 then (bif Nat.blt j 22 then tbX2_fail else tbX2_skipSpaces) else (bif Nat.blt j 24 then tbX2_isDigit else tbX2_isLetter))) else (bif Nat.blt j 29 then (bif Nat.blt j 27 then (bif Nat.blt j 26 then tbX2_isWord else tbX3_make) else (bif Nat.blt j 28 then tbX3_collectByDue else tbX3_planBackward)) else (bif Nat.blt j 31 then (bif Nat.blt j 30 then tbX3_planForward else tbX3_firstFit) else (bif Nat.blt j 32 then tbX4_clear else (bif Nat.blt j 33 then tbX4_copyFrom else tbX4_enter)))))) else (bif Nat.blt j 51 then (bif Nat.blt j 42 then (bif Nat.blt j 38 then (bif Nat.blt j 36 then (bif Nat.blt j 35 then tbX4_countInState else tbX4_greatestWorkNotReleased) else (bif Nat.blt j 37 then tbX4_drumFreeAt else tbX4_scheduledStart)) else (bif Nat.blt j 40 then (bif Nat.blt j 39 then tbX4_hasToPassDrum else tbX4_releasedWork) else (bif Nat.blt j 41 then tbX4_penetrationOf else tbX4_zoneOf))) else (bif Nat.blt j 46 then (bif Nat.blt j 44 then (bif Nat.blt j 43 then tbX4_isRedOrBlack else tbX4_stationOf) else (bif Nat.blt j 45 then tbX4_workOfStep else tbX4_waitsAt)) else (bif Nat.blt j 48 then (bif Nat.blt j 47 then tbX4_choiceAt else tbX4_keyByRule) else (bif Nat.blt j 49 then tbX4_workAheadOf else (bif Nat.blt j 50 then tbX4_workAheadOf_ else tbX4_tardinessIfEndedNow))))) else (bif Nat.blt j 59 then (bif Nat.blt j 55 then (bif Nat.blt j 53 then (bif Nat.blt j 52 then tbX4_pass else tbX4_quietTicks) else (bif Nat.blt j 54 then tbX4_ticksWithoutRelease else tbX4_releaseOrders)) else (bif Nat.blt j 57 then (bif Nat.blt j 56 then tbX4_arrive else tbX4_beginSteps) else (bif Nat.blt j 58 then tbX4_beginStep else tbX4_work))) else (bif Nat.blt j 63 then (bif Nat.blt j 61 then (bif Nat.blt j 60 then tbX4_isStarved else tbX4_finishSteps) else (bif Nat.blt j 62 then tbX4_leaveStation else tbX4_markReds)) else (bif Nat.blt j 65 then (bif Nat.blt j 64 then tbX5_clear else tbX5_copyFrom) else (bif Nat.blt j 66 then tbX5_isDown else (bif Nat.blt j 67 then tbX5_isWorking else tbX5_isIdle))))))) else (bif Nat.blt j 102 then (bif Nat.blt j 85 then (bif Nat.blt j 76 then (bif Nat.blt j 72 then (bif Nat.blt j 70 then (bif Nat.blt j 69 then tbX6_appendByte else tbX6_load) else (bif Nat.blt j 71 then tbX6_loadError else tbX6_loadStatement)) else (bif Nat.blt j 74 then (bif Nat.blt j 73 then tbX6_stationCount else tbX6_productCount) else (bif Nat.blt j 75 then tbX6_orderCount else tbX6_stepCount))) else (bif Nat.blt j 80 then (bif Nat.blt j 78 then (bif Nat.blt j 77 then tbX6_stepAt else tbX6_workOf) else (bif Nat.blt j 79 then tbX6_drumWork else tbX6_now)) else (bif Nat.blt j 82 then (bif Nat.blt j 81 then tbX6_advance else tbX6_addOrder) else (bif Nat.blt j 83 then tbX6_cancel else (bif Nat.blt j 84 then tbX6_setDue else tbX6_expedite))))) else (bif Nat.blt j 93 then (bif Nat.blt j 89 then (bif Nat.blt j 87 then (bif Nat.blt j 86 then tbX6_setRule else tbX6_setRope) else (bif Nat.blt j 88 then tbX6_rope else tbX6_stop)) else (bif Nat.blt j 91 then (bif Nat.blt j 90 then tbX6_stateOf else tbX6_productOf) else (bif Nat.blt j 92 then tbX6_quantityOf else tbX6_dueOf))) else (bif Nat.blt j 97 then (bif Nat.blt j 95 then (bif Nat.blt j 94 then tbX6_stepOf else tbX6_isWorkedOn) else (bif Nat.blt j 96 then tbX6_remaining else tbX6_releasedAt)) else (bif Nat.blt j 99 then (bif Nat.blt j 98 then tbX6_finishedAt else tbX6_plannedStart) else (bif Nat.blt j 100 then tbX6_scheduleAt else (bif Nat.blt j 101 then tbX6_isAtRisk else tbX6_ropeLoad)))))) else (bif Nat.blt j 119 then (bif Nat.blt j 110 then (bif Nat.blt j 106 then (bif Nat.blt j 104 then (bif Nat.blt j 103 then tbX6_releaseTime else tbX6_penetration) else (bif Nat.blt j 105 then tbX6_zone else tbX6_inZone)) else (bif Nat.blt j 108 then (bif Nat.blt j 107 then tbX6_redAt else tbX6_worstStation) else (bif Nat.blt j 109 then tbX6_workingOn else tbX6_queueLength))) else (bif Nat.blt j 114 then (bif Nat.blt j 112 then (bif Nat.blt j 111 then tbX6_nextChoice else tbX6_downUntil) else (bif Nat.blt j 113 then tbX6_busyTicks else tbX6_setups)) else (bif Nat.blt j 116 then (bif Nat.blt j 115 then tbX6_starvedTicks else tbX6_lateCount) else (bif Nat.blt j 117 then tbX6_tardiness else (bif Nat.blt j 118 then tbX6_quote else tbX6_finishIfAdded))))) else (bif Nat.blt j 128 then (bif Nat.blt j 123 then (bif Nat.blt j 121 then (bif Nat.blt j 120 then tbX6_finishOf else tbX6_tardinessAhead) else (bif Nat.blt j 122 then tbX6_bestRule else tbX6_neededRope)) else (bif Nat.blt j 125 then (bif Nat.blt j 124 then tbX6_firstRedAt else tbX6_flowTime) else (bif Nat.blt j 126 then tbX6_meanFlow else (bif Nat.blt j 127 then tbX6_loadOf else tbX6_bottleneck)))) else (bif Nat.blt j 132 then (bif Nat.blt j 130 then (bif Nat.blt j 129 then tbX6_bestExpedite else tbX6_saveSnapshot) else (bif Nat.blt j 131 then tbX6_restoreSnapshot else tbX6_tardinessByRule)) else (bif Nat.blt j 134 then (bif Nat.blt j 133 then tbX6_tardinessByRope else tbX6_tardinessIfExpedited) else (bif Nat.blt j 135 then tbX6_findProduct else (bif Nat.blt j 136 then tbX6_findOrder else tbX6_findStation)))))))) else (bif Nat.blt j 206 then (bif Nat.blt j 171 then (bif Nat.blt j 154 then (bif Nat.blt j 145 then (bif Nat.blt j 141 then (bif Nat.blt j 139 then (bif Nat.blt j 138 then tbX6_checkRange else tbX7_thrown) else (bif Nat.blt j 140 then tbX7_in else tbX7_copies)) else (bif Nat.blt j 143 then (bif Nat.blt j 142 then tbX7_begins else tbX7_station) else (bif Nat.blt j 144 then tbX7_setsStation else tbX7_order))) else (bif Nat.blt j 149 then (bif Nat.blt j 147 then (bif Nat.blt j 146 then tbX7_setsOrder else tbX7_steps) else (bif Nat.blt j 148 then tbX7_stepStation else tbX7_stepTime)) else (bif Nat.blt j 151 then (bif Nat.blt j 150 then tbX7_drumStep else tbX7_drumTicks) else (bif Nat.blt j 152 then tbX7_laysOrder else (bif Nat.blt j 153 then tbX7_isThrown else tbX7_isOrder))))) else (bif Nat.blt j 162 then (bif Nat.blt j 158 then (bif Nat.blt j 156 then (bif Nat.blt j 155 then tbX7_isProduct else tbX7_isStation) else (bif Nat.blt j 157 then tbX7_appendByte else tbX7_here)) else (bif Nat.blt j 160 then (bif Nat.blt j 159 then tbX7_next else tbX7_fails) else (bif Nat.blt j 161 then tbX7_reads else tbX7_isWord))) else (bif Nat.blt j 166 then (bif Nat.blt j 164 then (bif Nat.blt j 163 then tbX7_number else tbX7_stepPart) else (bif Nat.blt j 165 then tbX7_productPart else tbX7_orderPart)) else (bif Nat.blt j 168 then (bif Nat.blt j 167 then tbX7_setupPart else tbX7_statement) else (bif Nat.blt j 169 then tbX7_isMore else (bif Nat.blt j 170 then tbX7_checksOrders else tbX7_load)))))) else (bif Nat.blt j 188 then (bif Nat.blt j 179 then (bif Nat.blt j 175 then (bif Nat.blt j 173 then (bif Nat.blt j 172 then tbX7_loadError else tbX7_loadStatement) else (bif Nat.blt j 174 then tbX7_stationCount else tbX7_productCount)) else (bif Nat.blt j 177 then (bif Nat.blt j 176 then tbX7_orderCount else tbX7_stepCount) else (bif Nat.blt j 178 then tbX7_stepAt else tbX7_isWork))) else (bif Nat.blt j 183 then (bif Nat.blt j 181 then (bif Nat.blt j 180 then tbX7_workOf else tbX7_drumWork) else (bif Nat.blt j 182 then tbX7_workAtDrum else tbX7_isOpen)) else (bif Nat.blt j 185 then (bif Nat.blt j 184 then tbX7_isBeforeDrum else tbX7_isPastDrum) else (bif Nat.blt j 186 then tbX7_earliest else (bif Nat.blt j 187 then tbX7_laysSchedule else tbX7_placeOf))))) else (bif Nat.blt j 197 then (bif Nat.blt j 192 then (bif Nat.blt j 190 then (bif Nat.blt j 189 then tbX7_startOf else tbX7_ropeNow) else (bif Nat.blt j 191 then tbX7_penetrationOf else tbX7_zoneOf)) else (bif Nat.blt j 194 then (bif Nat.blt j 193 then tbX7_release else tbX7_releases) else (bif Nat.blt j 195 then tbX7_waitsAt else (bif Nat.blt j 196 then tbX7_workHere else tbX7_isUrgent)))) else (bif Nat.blt j 201 then (bif Nat.blt j 199 then (bif Nat.blt j 198 then tbX7_worth else tbX7_isBetter) else (bif Nat.blt j 200 then tbX7_choice else tbX7_isDown)) else (bif Nat.blt j 203 then (bif Nat.blt j 202 then tbX7_begins_ else tbX7_isStarved) else (bif Nat.blt j 204 then tbX7_works else (bif Nat.blt j 205 then tbX7_finishes else tbX7_sees))))))) else (bif Nat.blt j 240 then (bif Nat.blt j 223 then (bif Nat.blt j 214 then (bif Nat.blt j 210 then (bif Nat.blt j 208 then (bif Nat.blt j 207 then tbX7_passes else tbX7_now) else (bif Nat.blt j 209 then tbX7_advance else tbX7_noAdding)) else (bif Nat.blt j 212 then (bif Nat.blt j 211 then tbX7_isNewOrder else tbX7_addOrder) else (bif Nat.blt j 213 then tbX7_cancel else tbX7_setDue))) else (bif Nat.blt j 218 then (bif Nat.blt j 216 then (bif Nat.blt j 215 then tbX7_expedite else tbX7_setRule) else (bif Nat.blt j 217 then tbX7_greatestWaiting else tbX7_setRope)) else (bif Nat.blt j 220 then (bif Nat.blt j 219 then tbX7_rope else tbX7_stop) else (bif Nat.blt j 221 then tbX7_told else (bif Nat.blt j 222 then tbX7_stateOf else tbX7_productOf))))) else (bif Nat.blt j 231 then (bif Nat.blt j 227 then (bif Nat.blt j 225 then (bif Nat.blt j 224 then tbX7_quantityOf else tbX7_dueOf) else (bif Nat.blt j 226 then tbX7_stepOf else tbX7_isWorkedOn)) else (bif Nat.blt j 229 then (bif Nat.blt j 228 then tbX7_remaining else tbX7_releasedAt) else (bif Nat.blt j 230 then tbX7_finishedAt else tbX7_plannedStart))) else (bif Nat.blt j 235 then (bif Nat.blt j 233 then (bif Nat.blt j 232 then tbX7_scheduleAt else tbX7_isAtRisk) else (bif Nat.blt j 234 then tbX7_ropeLoad else tbX7_releaseTime)) else (bif Nat.blt j 237 then (bif Nat.blt j 236 then tbX7_penetration else tbX7_zone) else (bif Nat.blt j 238 then tbX7_inZone else (bif Nat.blt j 239 then tbX7_firstRedAt else tbX7_flowOf)))))) else (bif Nat.blt j 257 then (bif Nat.blt j 248 then (bif Nat.blt j 244 then (bif Nat.blt j 242 then (bif Nat.blt j 241 then tbX7_flowTime else tbX7_meanFlow) else (bif Nat.blt j 243 then tbX7_lateOf else tbX7_lateCount)) else (bif Nat.blt j 246 then (bif Nat.blt j 245 then tbX7_tardiness else tbX7_toldOf) else (bif Nat.blt j 247 then tbX7_redAt else tbX7_worstStation))) else (bif Nat.blt j 252 then (bif Nat.blt j 250 then (bif Nat.blt j 249 then tbX7_workingOn else tbX7_queueLength) else (bif Nat.blt j 251 then tbX7_nextChoice else tbX7_downUntil)) else (bif Nat.blt j 254 then (bif Nat.blt j 253 then tbX7_busyTicks else tbX7_setups) else (bif Nat.blt j 255 then tbX7_starvedTicks else (bif Nat.blt j 256 then tbX7_loadAt else tbX7_loadOf))))) else (bif Nat.blt j 266 then (bif Nat.blt j 261 then (bif Nat.blt j 259 then (bif Nat.blt j 258 then tbX7_bottleneck else tbX7_isFree) else (bif Nat.blt j 260 then tbX7_quote else tbX7_leaves)) else (bif Nat.blt j 263 then (bif Nat.blt j 262 then tbX7_comesBack else tbX7_endOf) else (bif Nat.blt j 264 then tbX7_finishIfAdded else (bif Nat.blt j 265 then tbX7_finishOf else tbX7_isAnyOpen)))) else (bif Nat.blt j 270 then (bif Nat.blt j 268 then (bif Nat.blt j 267 then tbX7_lateAhead else tbX7_lateBy) else (bif Nat.blt j 269 then tbX7_tardinessAhead else tbX7_bestRule)) else (bif Nat.blt j 272 then (bif Nat.blt j 271 then tbX7_lateByRope else tbX7_neededRope) else (bif Nat.blt j 273 then tbX7_bestExpedite else (bif Nat.blt j 274 then tbX7_saveSnapshot else tbX7_restoreSnapshot)))))))))
abbrev iI : Type := String × MethodName × ByteArray × Nat × Option FieldType × Nat × Bool × Nat × Nat × Nat × Nat × Nat × Nat × Nat
def iIn (j : Nat) : iI := (bif Nat.blt j 137 then (bif Nat.blt j 68 then (bif Nat.blt j 34 then (bif Nat.blt j 17 then (bif Nat.blt j 8 then (bif Nat.blt j 4 then (bif Nat.blt j 2 then (bif Nat.blt j 1 then (RX0, yX0_clear, cX0_clear, 1, none, 1, false, 0, 0, 349, 350, 351, 352, 0) else (RX0, yX0_copyFrom, cX0_copyFrom, 2, none, 2, false, 0, 0, 353, 354, 355, 352, 0)) else (bif Nat.blt j 3 then (RX0, yX0_isOpen, cX0_isOpen, 1, (some .boolean), 1, false, 0, 0, 356, 357, 358, 352, 0) else (RX0, yX0_latenessAt, cX0_latenessAt, 2, (some .int), 2, false, 0, 0, 359, 360, 361, 352, 0))) else (bif Nat.blt j 6 then (bif Nat.blt j 5 then (RX0, yX0_flowUntil, cX0_flowUntil, 2, (some .int), 2, false, 0, 0, 362, 363, 364, 352, 0) else (RX1, yX1_clear, cX1_clear, 1, none, 1, false, 0, 0, 365, 366, 367, 368, 1)) else (bif Nat.blt j 7 then (RX1, yX1_copyFrom, cX1_copyFrom, 3, none, 2, false, 0, 0, 369, 370, 371, 368, 1) else (RX1, yX1_timeOfPiece, cX1_timeOfPiece, 3, (some .int), 1, false, 0, 0, 372, 373, 374, 368, 1)))) else (bif Nat.blt j 12 then (bif Nat.blt j 10 then (bif Nat.blt j 9 then (RX1, yX1_drumTime, cX1_drumTime, 1, (some .int), 1, false, 0, 0, 375, 376, 377, 368, 1) else (RX2, yX2_append, cX2_append, 2, (some .int), 2, false, 0, 0, 378, 379, 380, 381, 2)) else (bif Nat.blt j 11 then (RX2, yX2_readInto, cX2_readInto, 3, none, 2, false, 8, 188, 382, 383, 384, 381, 2) else (RX2, yX2_rewind, cX2_rewind, 1, none, 1, false, 0, 0, 385, 386, 387, 381, 2))) else (bif Nat.blt j 14 then (bif Nat.blt j 13 then (RX2, yX2_readStatement, cX2_readStatement, 4, none, 2, false, 7, 165, 388, 389, 390, 381, 2) else (RX2, yX2_readStations, cX2_readStations, 4, none, 2, false, 2, 46, 391, 392, 393, 381, 2)) else (bif Nat.blt j 15 then (RX2, yX2_readSetting, cX2_readSetting, 3, none, 3, false, 6, 143, 394, 395, 396, 381, 2) else (bif Nat.blt j 16 then (RX2, yX2_readSetup, cX2_readSetup, 4, none, 2, false, 2, 46, 397, 398, 399, 381, 2) else (RX2, yX2_readProduct, cX2_readProduct, 5, none, 3, false, 3, 71, 400, 401, 402, 381, 2)))))) else (bif Nat.blt j 25 then (bif Nat.blt j 21 then (bif Nat.blt j 19 then (bif Nat.blt j 18 then (RX2, yX2_readStep, cX2_readStep, 6, none, 3, false, 2, 46, 403, 404, 405, 381, 2) else (RX2, yX2_readOrder, cX2_readOrder, 6, none, 3, false, 2, 46, 406, 407, 408, 381, 2)) else (bif Nat.blt j 20 then (RX2, yX2_checkDrumWorks, cX2_checkDrumWorks, 3, none, 2, false, 1, 22, 409, 410, 411, 381, 2) else (RX2, yX2_readNumber, cX2_readNumber, 5, (some .int), 3, false, 1, 22, 412, 413, 414, 381, 2))) else (bif Nat.blt j 23 then (bif Nat.blt j 22 then (RX2, yX2_fail, cX2_fail, 3, none, 3, false, 0, 0, 415, 416, 417, 381, 2) else (RX2, yX2_skipSpaces, cX2_skipSpaces, 1, none, 1, false, 0, 0, 418, 419, 420, 381, 2)) else (bif Nat.blt j 24 then (RX2, yX2_isDigit, cX2_isDigit, 1, (some .boolean), 1, false, 0, 0, 421, 422, 423, 381, 2) else (RX2, yX2_isLetter, cX2_isLetter, 1, (some .boolean), 1, false, 0, 0, 424, 425, 426, 381, 2)))) else (bif Nat.blt j 29 then (bif Nat.blt j 27 then (bif Nat.blt j 26 then (RX2, yX2_isWord, cX2_isWord, 4, (some .boolean), 3, false, 5, 120, 427, 428, 429, 381, 2) else (RX3, yX3_make, cX3_make, 2, none, 2, false, 1, 24, 430, 431, 432, 433, 3)) else (bif Nat.blt j 28 then (RX3, yX3_collectByDue, cX3_collectByDue, 5, none, 2, false, 0, 0, 434, 435, 436, 433, 3) else (RX3, yX3_planBackward, cX3_planBackward, 5, none, 2, false, 0, 0, 437, 438, 439, 433, 3))) else (bif Nat.blt j 31 then (bif Nat.blt j 30 then (RX3, yX3_planForward, cX3_planForward, 5, none, 3, false, 0, 0, 440, 441, 442, 433, 3) else (RX3, yX3_firstFit, cX3_firstFit, 6, (some .int), 4, false, 1, 21, 443, 444, 445, 433, 3)) else (bif Nat.blt j 32 then (RX4, yX4_clear, cX4_clear, 2, none, 1, false, 1, 20, 446, 447, 448, 449, 4) else (bif Nat.blt j 33 then (RX4, yX4_copyFrom, cX4_copyFrom, 3, none, 2, false, 1, 22, 450, 451, 452, 449, 4) else (RX4, yX4_enter, cX4_enter, 6, (some .int), 4, false, 1, 20, 453, 454, 455, 449, 4))))))) else (bif Nat.blt j 51 then (bif Nat.blt j 42 then (bif Nat.blt j 38 then (bif Nat.blt j 36 then (bif Nat.blt j 35 then (RX4, yX4_countInState, cX4_countInState, 4, (some .int), 2, false, 0, 0, 456, 457, 458, 449, 4) else (RX4, yX4_greatestWorkNotReleased, cX4_greatestWorkNotReleased, 3, (some .int), 1, false, 1, 21, 459, 460, 461, 449, 4)) else (bif Nat.blt j 37 then (RX4, yX4_drumFreeAt, cX4_drumFreeAt, 2, (some .int), 1, false, 0, 0, 462, 463, 464, 449, 4) else (RX4, yX4_scheduledStart, cX4_scheduledStart, 3, (some .int), 2, false, 2, 45, 465, 466, 467, 449, 4))) else (bif Nat.blt j 40 then (bif Nat.blt j 39 then (RX4, yX4_hasToPassDrum, cX4_hasToPassDrum, 2, (some .boolean), 2, false, 0, 0, 468, 469, 470, 449, 4) else (RX4, yX4_releasedWork, cX4_releasedWork, 4, (some .int), 1, false, 1, 21, 471, 472, 473, 449, 4)) else (bif Nat.blt j 41 then (RX4, yX4_penetrationOf, cX4_penetrationOf, 5, (some .int), 2, false, 0, 0, 474, 475, 476, 449, 4) else (RX4, yX4_zoneOf, cX4_zoneOf, 3, (some .int), 2, false, 1, 24, 477, 478, 479, 449, 4)))) else (bif Nat.blt j 46 then (bif Nat.blt j 44 then (bif Nat.blt j 43 then (RX4, yX4_isRedOrBlack, cX4_isRedOrBlack, 1, (some .boolean), 1, true, 0, 0, 480, 481, 0, 449, 4) else (RX4, yX4_stationOf, cX4_stationOf, 2, (some .int), 2, false, 0, 0, 482, 483, 484, 449, 4)) else (bif Nat.blt j 45 then (RX4, yX4_workOfStep, cX4_workOfStep, 2, (some .int), 2, false, 0, 0, 485, 486, 487, 449, 4) else (RX4, yX4_waitsAt, cX4_waitsAt, 3, (some .boolean), 3, false, 1, 21, 488, 489, 490, 449, 4))) else (bif Nat.blt j 48 then (bif Nat.blt j 47 then (RX4, yX4_choiceAt, cX4_choiceAt, 11, (some .int), 2, false, 2, 43, 491, 492, 493, 449, 4) else (RX4, yX4_keyByRule, cX4_keyByRule, 3, (some .int), 3, false, 1, 21, 494, 495, 496, 449, 4)) else (bif Nat.blt j 49 then (RX4, yX4_workAheadOf, cX4_workAheadOf, 4, (some .int), 2, false, 2, 47, 497, 498, 499, 449, 4) else (bif Nat.blt j 50 then (RX4, yX4_workAheadOf_, cX4_workAheadOf_, 7, (some .int), 3, false, 1, 21, 500, 501, 502, 449, 4) else (RX4, yX4_tardinessIfEndedNow, cX4_tardinessIfEndedNow, 4, (some .int), 1, false, 1, 21, 503, 504, 505, 449, 4)))))) else (bif Nat.blt j 59 then (bif Nat.blt j 55 then (bif Nat.blt j 53 then (bif Nat.blt j 52 then (RX4, yX4_pass, cX4_pass, 5, none, 2, false, 4, 95, 506, 507, 508, 449, 4) else (RX4, yX4_quietTicks, cX4_quietTicks, 5, (some .int), 2, false, 3, 69, 509, 510, 511, 449, 4)) else (bif Nat.blt j 54 then (RX4, yX4_ticksWithoutRelease, cX4_ticksWithoutRelease, 5, (some .int), 2, false, 2, 45, 512, 513, 514, 449, 4) else (RX4, yX4_releaseOrders, cX4_releaseOrders, 5, none, 1, false, 2, 45, 515, 516, 517, 449, 4))) else (bif Nat.blt j 57 then (bif Nat.blt j 56 then (RX4, yX4_arrive, cX4_arrive, 3, none, 3, false, 1, 21, 518, 519, 520, 449, 4) else (RX4, yX4_beginSteps, cX4_beginSteps, 3, none, 1, false, 3, 73, 521, 522, 523, 449, 4)) else (bif Nat.blt j 58 then (RX4, yX4_beginStep, cX4_beginStep, 5, none, 3, false, 1, 21, 524, 525, 526, 449, 4) else (RX4, yX4_work, cX4_work, 4, none, 2, false, 3, 63, 527, 528, 529, 449, 4)))) else (bif Nat.blt j 63 then (bif Nat.blt j 61 then (bif Nat.blt j 60 then (RX4, yX4_isStarved, cX4_isStarved, 2, (some .boolean), 1, false, 2, 42, 530, 531, 532, 449, 4) else (RX4, yX4_finishSteps, cX4_finishSteps, 3, none, 1, false, 3, 64, 533, 534, 535, 449, 4)) else (bif Nat.blt j 62 then (RX4, yX4_leaveStation, cX4_leaveStation, 2, none, 2, false, 2, 43, 536, 537, 538, 449, 4) else (RX4, yX4_markReds, cX4_markReds, 3, none, 1, false, 1, 24, 539, 540, 541, 449, 4))) else (bif Nat.blt j 65 then (bif Nat.blt j 64 then (RX5, yX5_clear, cX5_clear, 1, none, 1, false, 0, 0, 542, 543, 544, 545, 5) else (RX5, yX5_copyFrom, cX5_copyFrom, 2, none, 2, false, 0, 0, 546, 547, 548, 545, 5)) else (bif Nat.blt j 66 then (RX5, yX5_isDown, cX5_isDown, 2, (some .boolean), 2, false, 0, 0, 549, 550, 551, 545, 5) else (bif Nat.blt j 67 then (RX5, yX5_isWorking, cX5_isWorking, 2, (some .boolean), 2, false, 1, 21, 552, 553, 554, 545, 5) else (RX5, yX5_isIdle, cX5_isIdle, 2, (some .boolean), 2, false, 1, 21, 555, 556, 557, 545, 5)))))))) else (bif Nat.blt j 102 then (bif Nat.blt j 85 then (bif Nat.blt j 76 then (bif Nat.blt j 72 then (bif Nat.blt j 70 then (bif Nat.blt j 69 then (RX6, yX6_appendByte, cX6_appendByte, 2, (some .int), 2, false, 8, 182, 558, 559, 560, 561, 6) else (RX6, yX6_load, cX6_load, 1, (some .int), 1, false, 9, 210, 562, 563, 564, 561, 6)) else (bif Nat.blt j 71 then (RX6, yX6_loadError, cX6_loadError, 1, (some .int), 1, false, 0, 0, 565, 566, 567, 561, 6) else (RX6, yX6_loadStatement, cX6_loadStatement, 1, (some .int), 1, false, 0, 0, 568, 569, 570, 561, 6))) else (bif Nat.blt j 74 then (bif Nat.blt j 73 then (RX6, yX6_stationCount, cX6_stationCount, 1, (some .int), 1, false, 0, 0, 571, 572, 573, 561, 6) else (RX6, yX6_productCount, cX6_productCount, 1, (some .int), 1, false, 0, 0, 574, 575, 576, 561, 6)) else (bif Nat.blt j 75 then (RX6, yX6_orderCount, cX6_orderCount, 1, (some .int), 1, false, 0, 0, 577, 578, 579, 561, 6) else (RX6, yX6_stepCount, cX6_stepCount, 2, (some .int), 2, false, 8, 181, 580, 581, 582, 561, 6)))) else (bif Nat.blt j 80 then (bif Nat.blt j 78 then (bif Nat.blt j 77 then (RX6, yX6_stepAt, cX6_stepAt, 5, (some .int), 4, false, 8, 182, 583, 584, 585, 561, 6) else (RX6, yX6_workOf, cX6_workOf, 4, (some .int), 3, false, 8, 182, 586, 587, 588, 561, 6)) else (bif Nat.blt j 79 then (RX6, yX6_drumWork, cX6_drumWork, 4, (some .int), 3, false, 8, 182, 589, 590, 591, 561, 6) else (RX6, yX6_now, cX6_now, 1, (some .int), 1, false, 0, 0, 592, 593, 594, 561, 6))) else (bif Nat.blt j 82 then (bif Nat.blt j 81 then (RX6, yX6_advance, cX6_advance, 3, (some .int), 2, false, 8, 182, 595, 596, 597, 561, 6) else (RX6, yX6_addOrder, cX6_addOrder, 5, (some .int), 4, false, 8, 182, 598, 599, 600, 561, 6)) else (bif Nat.blt j 83 then (RX6, yX6_cancel, cX6_cancel, 3, (some .int), 2, false, 8, 181, 601, 602, 603, 561, 6) else (bif Nat.blt j 84 then (RX6, yX6_setDue, cX6_setDue, 5, (some .int), 3, false, 8, 182, 604, 605, 606, 561, 6) else (RX6, yX6_expedite, cX6_expedite, 5, (some .boolean), 3, false, 8, 181, 607, 608, 609, 561, 6)))))) else (bif Nat.blt j 93 then (bif Nat.blt j 89 then (bif Nat.blt j 87 then (bif Nat.blt j 86 then (RX6, yX6_setRule, cX6_setRule, 3, (some .int), 2, false, 8, 182, 610, 611, 612, 561, 6) else (RX6, yX6_setRope, cX6_setRope, 3, (some .int), 2, false, 8, 182, 613, 614, 615, 561, 6)) else (bif Nat.blt j 88 then (RX6, yX6_rope, cX6_rope, 1, (some .int), 1, false, 0, 0, 616, 617, 618, 561, 6) else (RX6, yX6_stop, cX6_stop, 4, (some .int), 3, false, 8, 182, 619, 620, 621, 561, 6))) else (bif Nat.blt j 91 then (bif Nat.blt j 90 then (RX6, yX6_stateOf, cX6_stateOf, 2, (some .int), 2, false, 8, 181, 622, 623, 624, 561, 6) else (RX6, yX6_productOf, cX6_productOf, 2, (some .int), 2, false, 8, 181, 625, 626, 627, 561, 6)) else (bif Nat.blt j 92 then (RX6, yX6_quantityOf, cX6_quantityOf, 2, (some .int), 2, false, 8, 181, 628, 629, 630, 561, 6) else (RX6, yX6_dueOf, cX6_dueOf, 2, (some .int), 2, false, 8, 181, 631, 632, 633, 561, 6)))) else (bif Nat.blt j 97 then (bif Nat.blt j 95 then (bif Nat.blt j 94 then (RX6, yX6_stepOf, cX6_stepOf, 2, (some .int), 2, false, 8, 181, 634, 635, 636, 561, 6) else (RX6, yX6_isWorkedOn, cX6_isWorkedOn, 2, (some .boolean), 2, false, 8, 181, 637, 638, 639, 561, 6)) else (bif Nat.blt j 96 then (RX6, yX6_remaining, cX6_remaining, 2, (some .int), 2, false, 8, 181, 640, 641, 642, 561, 6) else (RX6, yX6_releasedAt, cX6_releasedAt, 2, (some .int), 2, false, 8, 181, 643, 644, 645, 561, 6))) else (bif Nat.blt j 99 then (bif Nat.blt j 98 then (RX6, yX6_finishedAt, cX6_finishedAt, 2, (some .int), 2, false, 8, 181, 646, 647, 648, 561, 6) else (RX6, yX6_plannedStart, cX6_plannedStart, 3, (some .int), 2, false, 8, 181, 649, 650, 651, 561, 6)) else (bif Nat.blt j 100 then (RX6, yX6_scheduleAt, cX6_scheduleAt, 2, (some .int), 2, false, 2, 45, 652, 653, 654, 561, 6) else (bif Nat.blt j 101 then (RX6, yX6_isAtRisk, cX6_isAtRisk, 4, (some .boolean), 2, false, 8, 181, 655, 656, 657, 561, 6) else (RX6, yX6_ropeLoad, cX6_ropeLoad, 1, (some .int), 1, false, 2, 44, 658, 659, 660, 561, 6))))))) else (bif Nat.blt j 119 then (bif Nat.blt j 110 then (bif Nat.blt j 106 then (bif Nat.blt j 104 then (bif Nat.blt j 103 then (RX6, yX6_releaseTime, cX6_releaseTime, 4, (some .int), 2, false, 8, 181, 661, 662, 663, 561, 6) else (RX6, yX6_penetration, cX6_penetration, 2, (some .int), 2, false, 8, 181, 664, 665, 666, 561, 6)) else (bif Nat.blt j 105 then (RX6, yX6_zone, cX6_zone, 2, (some .int), 2, false, 8, 181, 667, 668, 669, 561, 6) else (RX6, yX6_inZone, cX6_inZone, 4, (some .int), 2, false, 8, 182, 670, 671, 672, 561, 6))) else (bif Nat.blt j 108 then (bif Nat.blt j 107 then (RX6, yX6_redAt, cX6_redAt, 2, (some .int), 2, false, 8, 181, 673, 674, 675, 561, 6) else (RX6, yX6_worstStation, cX6_worstStation, 4, (some .int), 1, false, 0, 0, 676, 677, 678, 561, 6)) else (bif Nat.blt j 109 then (RX6, yX6_workingOn, cX6_workingOn, 2, (some .int), 2, false, 8, 181, 679, 680, 681, 561, 6) else (RX6, yX6_queueLength, cX6_queueLength, 2, (some .int), 2, false, 8, 181, 682, 683, 684, 561, 6)))) else (bif Nat.blt j 114 then (bif Nat.blt j 112 then (bif Nat.blt j 111 then (RX6, yX6_nextChoice, cX6_nextChoice, 2, (some .int), 2, false, 8, 181, 685, 686, 687, 561, 6) else (RX6, yX6_downUntil, cX6_downUntil, 3, (some .int), 2, false, 8, 181, 688, 689, 690, 561, 6)) else (bif Nat.blt j 113 then (RX6, yX6_busyTicks, cX6_busyTicks, 2, (some .int), 2, false, 8, 181, 691, 692, 693, 561, 6) else (RX6, yX6_setups, cX6_setups, 2, (some .int), 2, false, 8, 181, 694, 695, 696, 561, 6))) else (bif Nat.blt j 116 then (bif Nat.blt j 115 then (RX6, yX6_starvedTicks, cX6_starvedTicks, 1, (some .int), 1, false, 0, 0, 697, 698, 699, 561, 6) else (RX6, yX6_lateCount, cX6_lateCount, 4, (some .int), 1, false, 0, 0, 700, 701, 702, 561, 6)) else (bif Nat.blt j 117 then (RX6, yX6_tardiness, cX6_tardiness, 4, (some .int), 1, false, 1, 21, 703, 704, 705, 561, 6) else (bif Nat.blt j 118 then (RX6, yX6_quote, cX6_quote, 6, (some .int), 3, false, 8, 182, 706, 707, 708, 561, 6) else (RX6, yX6_finishIfAdded, cX6_finishIfAdded, 6, (some .int), 4, false, 8, 182, 709, 710, 711, 561, 6)))))) else (bif Nat.blt j 128 then (bif Nat.blt j 123 then (bif Nat.blt j 121 then (bif Nat.blt j 120 then (RX6, yX6_finishOf, cX6_finishOf, 3, (some .int), 2, false, 8, 181, 712, 713, 714, 561, 6) else (RX6, yX6_tardinessAhead, cX6_tardinessAhead, 2, (some .int), 2, false, 8, 182, 715, 716, 717, 561, 6)) else (bif Nat.blt j 122 then (RX6, yX6_bestRule, cX6_bestRule, 5, (some .int), 1, false, 6, 140, 718, 719, 720, 561, 6) else (RX6, yX6_neededRope, cX6_neededRope, 4, (some .int), 1, false, 6, 140, 721, 722, 723, 561, 6))) else (bif Nat.blt j 125 then (bif Nat.blt j 124 then (RX6, yX6_firstRedAt, cX6_firstRedAt, 2, (some .int), 2, false, 8, 181, 724, 725, 726, 561, 6) else (RX6, yX6_flowTime, cX6_flowTime, 2, (some .int), 2, false, 8, 181, 727, 728, 729, 561, 6)) else (bif Nat.blt j 126 then (RX6, yX6_meanFlow, cX6_meanFlow, 5, (some .int), 1, false, 1, 21, 730, 731, 732, 561, 6) else (bif Nat.blt j 127 then (RX6, yX6_loadOf, cX6_loadOf, 2, (some .int), 2, false, 8, 181, 733, 734, 735, 561, 6) else (RX6, yX6_bottleneck, cX6_bottleneck, 5, (some .int), 1, false, 3, 70, 736, 737, 738, 561, 6))))) else (bif Nat.blt j 132 then (bif Nat.blt j 130 then (bif Nat.blt j 129 then (RX6, yX6_bestExpedite, cX6_bestExpedite, 6, (some .int), 1, false, 6, 140, 739, 740, 741, 561, 6) else (RX6, yX6_saveSnapshot, cX6_saveSnapshot, 2, (some .int), 2, false, 8, 182, 742, 743, 744, 561, 6)) else (bif Nat.blt j 131 then (RX6, yX6_restoreSnapshot, cX6_restoreSnapshot, 2, (some .int), 2, false, 8, 182, 745, 746, 747, 561, 6) else (RX6, yX6_tardinessByRule, cX6_tardinessByRule, 2, (some .int), 2, false, 5, 119, 748, 749, 750, 561, 6))) else (bif Nat.blt j 134 then (bif Nat.blt j 133 then (RX6, yX6_tardinessByRope, cX6_tardinessByRope, 2, (some .int), 2, false, 5, 119, 751, 752, 753, 561, 6) else (RX6, yX6_tardinessIfExpedited, cX6_tardinessIfExpedited, 2, (some .int), 2, false, 5, 119, 754, 755, 756, 561, 6)) else (bif Nat.blt j 135 then (RX6, yX6_findProduct, cX6_findProduct, 2, (some (.object "DrumRope$Product")), 2, false, 7, 160, 757, 758, 759, 561, 6) else (bif Nat.blt j 136 then (RX6, yX6_findOrder, cX6_findOrder, 2, (some (.object "DrumRope$Order")), 2, false, 7, 160, 760, 761, 762, 561, 6) else (RX6, yX6_findStation, cX6_findStation, 2, (some (.object "DrumRope$Station")), 2, false, 7, 160, 763, 764, 765, 561, 6))))))))) else (bif Nat.blt j 206 then (bif Nat.blt j 171 then (bif Nat.blt j 154 then (bif Nat.blt j 145 then (bif Nat.blt j 141 then (bif Nat.blt j 139 then (bif Nat.blt j 138 then (RX6, yX6_checkRange, cX6_checkRange, 3, none, 3, true, 7, 160, 766, 767, 0, 561, 6) else (RX7, yX7_thrown, cX7_thrown, 1, (some .int), 1, false, 0, 0, 768, 769, 770, 771, 7)) else (bif Nat.blt j 140 then (RX7, yX7_in, cX7_in, 3, (some .boolean), 3, true, 0, 0, 772, 773, 0, 771, 7) else (RX7, yX7_copies, cX7_copies, 5, none, 4, true, 0, 0, 774, 775, 0, 771, 7))) else (bif Nat.blt j 143 then (bif Nat.blt j 142 then (RX7, yX7_begins, cX7_begins, 4, none, 3, true, 0, 0, 776, 777, 0, 771, 7) else (RX7, yX7_station, cX7_station, 3, (some .int), 3, false, 0, 0, 778, 779, 780, 771, 7)) else (bif Nat.blt j 144 then (RX7, yX7_setsStation, cX7_setsStation, 4, none, 4, false, 0, 0, 781, 782, 783, 771, 7) else (RX7, yX7_order, cX7_order, 3, (some .int), 3, false, 0, 0, 784, 785, 786, 771, 7)))) else (bif Nat.blt j 149 then (bif Nat.blt j 147 then (bif Nat.blt j 146 then (RX7, yX7_setsOrder, cX7_setsOrder, 4, none, 4, false, 0, 0, 787, 788, 789, 771, 7) else (RX7, yX7_steps, cX7_steps, 2, (some .int), 2, true, 0, 0, 790, 791, 0, 771, 7)) else (bif Nat.blt j 148 then (RX7, yX7_stepStation, cX7_stepStation, 3, (some .int), 3, true, 0, 0, 792, 793, 0, 771, 7) else (RX7, yX7_stepTime, cX7_stepTime, 3, (some .int), 3, true, 0, 0, 794, 795, 0, 771, 7))) else (bif Nat.blt j 151 then (bif Nat.blt j 150 then (RX7, yX7_drumStep, cX7_drumStep, 3, (some .int), 2, true, 1, 22, 796, 797, 0, 771, 7) else (RX7, yX7_drumTicks, cX7_drumTicks, 3, (some .int), 3, true, 2, 44, 798, 799, 0, 771, 7)) else (bif Nat.blt j 152 then (RX7, yX7_laysOrder, cX7_laysOrder, 6, none, 4, true, 0, 0, 800, 801, 0, 771, 7) else (bif Nat.blt j 153 then (RX7, yX7_isThrown, cX7_isThrown, 3, (some .boolean), 3, false, 0, 0, 802, 803, 804, 771, 7) else (RX7, yX7_isOrder, cX7_isOrder, 2, (some .boolean), 2, false, 1, 22, 805, 806, 807, 771, 7)))))) else (bif Nat.blt j 162 then (bif Nat.blt j 158 then (bif Nat.blt j 156 then (bif Nat.blt j 155 then (RX7, yX7_isProduct, cX7_isProduct, 2, (some .boolean), 2, false, 1, 22, 808, 809, 810, 771, 7) else (RX7, yX7_isStation, cX7_isStation, 2, (some .boolean), 2, false, 1, 22, 811, 812, 813, 771, 7)) else (bif Nat.blt j 157 then (RX7, yX7_appendByte, cX7_appendByte, 2, (some .int), 2, false, 1, 22, 814, 815, 816, 771, 7) else (RX7, yX7_here, cX7_here, 1, (some .int), 1, false, 0, 0, 817, 818, 819, 771, 7))) else (bif Nat.blt j 160 then (bif Nat.blt j 159 then (RX7, yX7_next, cX7_next, 1, (some .int), 1, false, 1, 20, 820, 821, 822, 771, 7) else (RX7, yX7_fails, cX7_fails, 3, none, 3, false, 0, 0, 823, 824, 825, 771, 7)) else (bif Nat.blt j 161 then (RX7, yX7_reads, cX7_reads, 1, none, 1, false, 2, 40, 826, 827, 828, 771, 7) else (RX7, yX7_isWord, cX7_isWord, 4, (some .boolean), 2, false, 5, 120, 829, 830, 831, 771, 7)))) else (bif Nat.blt j 166 then (bif Nat.blt j 164 then (bif Nat.blt j 163 then (RX7, yX7_number, cX7_number, 4, (some .int), 3, false, 2, 40, 832, 833, 834, 771, 7) else (RX7, yX7_stepPart, cX7_stepPart, 7, none, 2, false, 3, 63, 835, 836, 837, 771, 7)) else (bif Nat.blt j 165 then (RX7, yX7_productPart, cX7_productPart, 4, none, 1, false, 4, 89, 838, 839, 840, 771, 7) else (RX7, yX7_orderPart, cX7_orderPart, 4, none, 1, false, 3, 63, 841, 842, 843, 771, 7))) else (bif Nat.blt j 168 then (bif Nat.blt j 167 then (RX7, yX7_setupPart, cX7_setupPart, 2, none, 1, false, 3, 63, 844, 845, 846, 771, 7) else (RX7, yX7_statement, cX7_statement, 1, none, 1, false, 6, 143, 847, 848, 849, 771, 7)) else (bif Nat.blt j 169 then (RX7, yX7_isMore, cX7_isMore, 1, (some .boolean), 1, false, 2, 40, 850, 851, 852, 771, 7) else (bif Nat.blt j 170 then (RX7, yX7_checksOrders, cX7_checksOrders, 3, none, 1, false, 3, 66, 853, 854, 855, 771, 7) else (RX7, yX7_load, cX7_load, 2, (some .int), 1, false, 7, 163, 856, 857, 858, 771, 7))))))) else (bif Nat.blt j 188 then (bif Nat.blt j 179 then (bif Nat.blt j 175 then (bif Nat.blt j 173 then (bif Nat.blt j 172 then (RX7, yX7_loadError, cX7_loadError, 1, (some .int), 1, false, 0, 0, 859, 860, 861, 771, 7) else (RX7, yX7_loadStatement, cX7_loadStatement, 1, (some .int), 1, false, 0, 0, 862, 863, 864, 771, 7)) else (bif Nat.blt j 174 then (RX7, yX7_stationCount, cX7_stationCount, 1, (some .int), 1, false, 0, 0, 865, 866, 867, 771, 7) else (RX7, yX7_productCount, cX7_productCount, 1, (some .int), 1, false, 0, 0, 868, 869, 870, 771, 7))) else (bif Nat.blt j 177 then (bif Nat.blt j 176 then (RX7, yX7_orderCount, cX7_orderCount, 1, (some .int), 1, false, 0, 0, 871, 872, 873, 771, 7) else (RX7, yX7_stepCount, cX7_stepCount, 2, (some .int), 2, false, 2, 43, 874, 875, 876, 771, 7)) else (bif Nat.blt j 178 then (RX7, yX7_stepAt, cX7_stepAt, 4, (some .int), 4, false, 2, 43, 877, 878, 879, 771, 7) else (RX7, yX7_isWork, cX7_isWork, 3, (some .boolean), 3, false, 2, 43, 880, 881, 882, 771, 7)))) else (bif Nat.blt j 183 then (bif Nat.blt j 181 then (bif Nat.blt j 180 then (RX7, yX7_workOf, cX7_workOf, 5, (some .int), 3, false, 3, 65, 883, 884, 885, 771, 7) else (RX7, yX7_drumWork, cX7_drumWork, 3, (some .int), 3, false, 3, 66, 886, 887, 888, 771, 7)) else (bif Nat.blt j 182 then (RX7, yX7_workAtDrum, cX7_workAtDrum, 2, (some .int), 2, false, 3, 66, 889, 890, 891, 771, 7) else (RX7, yX7_isOpen, cX7_isOpen, 2, (some .boolean), 2, false, 1, 22, 892, 893, 894, 771, 7))) else (bif Nat.blt j 185 then (bif Nat.blt j 184 then (RX7, yX7_isBeforeDrum, cX7_isBeforeDrum, 4, (some .boolean), 2, false, 2, 44, 895, 896, 897, 771, 7) else (RX7, yX7_isPastDrum, cX7_isPastDrum, 2, (some .boolean), 2, false, 2, 44, 898, 899, 900, 771, 7)) else (bif Nat.blt j 186 then (RX7, yX7_earliest, cX7_earliest, 2, (some .int), 1, false, 1, 22, 901, 902, 903, 771, 7) else (bif Nat.blt j 187 then (RX7, yX7_laysSchedule, cX7_laysSchedule, 4, none, 1, false, 4, 87, 904, 905, 906, 771, 7) else (RX7, yX7_placeOf, cX7_placeOf, 3, (some .int), 2, false, 5, 110, 907, 908, 909, 771, 7)))))) else (bif Nat.blt j 197 then (bif Nat.blt j 192 then (bif Nat.blt j 190 then (bif Nat.blt j 189 then (RX7, yX7_startOf, cX7_startOf, 3, (some .int), 2, false, 6, 132, 910, 911, 912, 771, 7) else (RX7, yX7_ropeNow, cX7_ropeNow, 3, (some .int), 1, false, 4, 87, 913, 914, 915, 771, 7)) else (bif Nat.blt j 191 then (RX7, yX7_penetrationOf, cX7_penetrationOf, 5, (some .int), 2, false, 3, 67, 916, 917, 918, 771, 7) else (RX7, yX7_zoneOf, cX7_zoneOf, 2, (some .int), 2, false, 4, 91, 919, 920, 921, 771, 7))) else (bif Nat.blt j 194 then (bif Nat.blt j 193 then (RX7, yX7_release, cX7_release, 3, none, 3, false, 1, 23, 922, 923, 924, 771, 7) else (RX7, yX7_releases, cX7_releases, 5, none, 1, false, 5, 110, 925, 926, 927, 771, 7)) else (bif Nat.blt j 195 then (RX7, yX7_waitsAt, cX7_waitsAt, 3, (some .boolean), 3, false, 1, 22, 928, 929, 930, 771, 7) else (bif Nat.blt j 196 then (RX7, yX7_workHere, cX7_workHere, 2, (some .int), 2, false, 1, 22, 931, 932, 933, 771, 7) else (RX7, yX7_isUrgent, cX7_isUrgent, 2, (some .boolean), 2, false, 5, 112, 934, 935, 936, 771, 7))))) else (bif Nat.blt j 201 then (bif Nat.blt j 199 then (bif Nat.blt j 198 then (RX7, yX7_worth, cX7_worth, 2, (some .int), 2, false, 4, 91, 937, 938, 939, 771, 7) else (RX7, yX7_isBetter, cX7_isBetter, 3, (some .boolean), 3, false, 6, 133, 940, 941, 942, 771, 7)) else (bif Nat.blt j 200 then (RX7, yX7_choice, cX7_choice, 4, (some .int), 2, false, 7, 155, 943, 944, 945, 771, 7) else (RX7, yX7_isDown, cX7_isDown, 2, (some .boolean), 2, false, 1, 22, 946, 947, 948, 771, 7))) else (bif Nat.blt j 203 then (bif Nat.blt j 202 then (RX7, yX7_begins_, cX7_begins_, 5, none, 2, false, 8, 178, 949, 950, 951, 771, 7) else (RX7, yX7_isStarved, cX7_isStarved, 2, (some .boolean), 1, false, 3, 65, 952, 953, 954, 771, 7)) else (bif Nat.blt j 204 then (RX7, yX7_works, cX7_works, 3, none, 2, false, 2, 43, 955, 956, 957, 771, 7) else (bif Nat.blt j 205 then (RX7, yX7_finishes, cX7_finishes, 4, (some .boolean), 2, false, 1, 23, 958, 959, 960, 771, 7) else (RX7, yX7_sees, cX7_sees, 3, none, 2, false, 5, 112, 961, 962, 963, 771, 7)))))))) else (bif Nat.blt j 240 then (bif Nat.blt j 223 then (bif Nat.blt j 214 then (bif Nat.blt j 210 then (bif Nat.blt j 208 then (bif Nat.blt j 207 then (RX7, yX7_passes, cX7_passes, 3, (some .int), 1, false, 9, 202, 964, 965, 966, 771, 7) else (RX7, yX7_now, cX7_now, 1, (some .int), 1, false, 0, 0, 967, 968, 969, 771, 7)) else (bif Nat.blt j 209 then (RX7, yX7_advance, cX7_advance, 4, (some .int), 2, false, 10, 224, 970, 971, 972, 771, 7) else (RX7, yX7_noAdding, cX7_noAdding, 3, (some .int), 3, false, 3, 66, 973, 974, 975, 771, 7))) else (bif Nat.blt j 212 then (bif Nat.blt j 211 then (RX7, yX7_isNewOrder, cX7_isNewOrder, 4, (some .boolean), 4, false, 2, 43, 976, 977, 978, 771, 7) else (RX7, yX7_addOrder, cX7_addOrder, 5, (some .int), 4, false, 4, 88, 979, 980, 981, 771, 7)) else (bif Nat.blt j 213 then (RX7, yX7_cancel, cX7_cancel, 4, (some .int), 2, false, 2, 43, 982, 983, 984, 771, 7) else (RX7, yX7_setDue, cX7_setDue, 4, (some .int), 3, false, 2, 43, 985, 986, 987, 771, 7)))) else (bif Nat.blt j 218 then (bif Nat.blt j 216 then (bif Nat.blt j 215 then (RX7, yX7_expedite, cX7_expedite, 4, (some .boolean), 3, false, 2, 43, 988, 989, 990, 771, 7) else (RX7, yX7_setRule, cX7_setRule, 3, (some .int), 2, false, 1, 22, 991, 992, 993, 771, 7)) else (bif Nat.blt j 217 then (RX7, yX7_greatestWaiting, cX7_greatestWaiting, 3, (some .int), 1, false, 4, 87, 994, 995, 996, 771, 7) else (RX7, yX7_setRope, cX7_setRope, 3, (some .int), 2, false, 5, 109, 997, 998, 999, 771, 7))) else (bif Nat.blt j 220 then (bif Nat.blt j 219 then (RX7, yX7_rope, cX7_rope, 1, (some .int), 1, false, 0, 0, 1000, 1001, 1002, 771, 7) else (RX7, yX7_stop, cX7_stop, 3, (some .int), 3, false, 2, 43, 1003, 1004, 1005, 771, 7)) else (bif Nat.blt j 221 then (RX7, yX7_told, cX7_told, 3, (some .int), 3, false, 2, 43, 1006, 1007, 1008, 771, 7) else (bif Nat.blt j 222 then (RX7, yX7_stateOf, cX7_stateOf, 2, (some .int), 2, false, 3, 65, 1009, 1010, 1011, 771, 7) else (RX7, yX7_productOf, cX7_productOf, 2, (some .int), 2, false, 3, 65, 1012, 1013, 1014, 771, 7)))))) else (bif Nat.blt j 231 then (bif Nat.blt j 227 then (bif Nat.blt j 225 then (bif Nat.blt j 224 then (RX7, yX7_quantityOf, cX7_quantityOf, 2, (some .int), 2, false, 3, 65, 1015, 1016, 1017, 771, 7) else (RX7, yX7_dueOf, cX7_dueOf, 2, (some .int), 2, false, 3, 65, 1018, 1019, 1020, 771, 7)) else (bif Nat.blt j 226 then (RX7, yX7_stepOf, cX7_stepOf, 2, (some .int), 2, false, 3, 65, 1021, 1022, 1023, 771, 7) else (RX7, yX7_isWorkedOn, cX7_isWorkedOn, 2, (some .boolean), 2, false, 3, 65, 1024, 1025, 1026, 771, 7))) else (bif Nat.blt j 229 then (bif Nat.blt j 228 then (RX7, yX7_remaining, cX7_remaining, 2, (some .int), 2, false, 3, 65, 1027, 1028, 1029, 771, 7) else (RX7, yX7_releasedAt, cX7_releasedAt, 2, (some .int), 2, false, 3, 65, 1030, 1031, 1032, 771, 7)) else (bif Nat.blt j 230 then (RX7, yX7_finishedAt, cX7_finishedAt, 2, (some .int), 2, false, 3, 65, 1033, 1034, 1035, 771, 7) else (RX7, yX7_plannedStart, cX7_plannedStart, 2, (some .int), 2, false, 7, 154, 1036, 1037, 1038, 771, 7)))) else (bif Nat.blt j 235 then (bif Nat.blt j 233 then (bif Nat.blt j 232 then (RX7, yX7_scheduleAt, cX7_scheduleAt, 2, (some .int), 2, false, 5, 110, 1039, 1040, 1041, 771, 7) else (RX7, yX7_isAtRisk, cX7_isAtRisk, 3, (some .boolean), 2, false, 6, 132, 1042, 1043, 1044, 771, 7)) else (bif Nat.blt j 234 then (RX7, yX7_ropeLoad, cX7_ropeLoad, 1, (some .int), 1, false, 5, 109, 1045, 1046, 1047, 771, 7) else (RX7, yX7_releaseTime, cX7_releaseTime, 2, (some .int), 2, false, 7, 154, 1048, 1049, 1050, 771, 7))) else (bif Nat.blt j 237 then (bif Nat.blt j 236 then (RX7, yX7_penetration, cX7_penetration, 2, (some .int), 2, false, 4, 91, 1051, 1052, 1053, 771, 7) else (RX7, yX7_zone, cX7_zone, 2, (some .int), 2, false, 5, 112, 1054, 1055, 1056, 771, 7)) else (bif Nat.blt j 238 then (RX7, yX7_inZone, cX7_inZone, 4, (some .int), 2, false, 5, 112, 1057, 1058, 1059, 771, 7) else (bif Nat.blt j 239 then (RX7, yX7_firstRedAt, cX7_firstRedAt, 2, (some .int), 2, false, 3, 65, 1060, 1061, 1062, 771, 7) else (RX7, yX7_flowOf, cX7_flowOf, 3, (some .int), 2, false, 1, 22, 1063, 1064, 1065, 771, 7))))))) else (bif Nat.blt j 257 then (bif Nat.blt j 248 then (bif Nat.blt j 244 then (bif Nat.blt j 242 then (bif Nat.blt j 241 then (RX7, yX7_flowTime, cX7_flowTime, 2, (some .int), 2, false, 2, 44, 1066, 1067, 1068, 771, 7) else (RX7, yX7_meanFlow, cX7_meanFlow, 4, (some .int), 1, false, 2, 44, 1069, 1070, 1071, 771, 7)) else (bif Nat.blt j 243 then (RX7, yX7_lateOf, cX7_lateOf, 3, (some .int), 3, false, 1, 22, 1072, 1073, 1074, 771, 7) else (RX7, yX7_lateCount, cX7_lateCount, 3, (some .int), 1, false, 2, 44, 1075, 1076, 1077, 771, 7))) else (bif Nat.blt j 246 then (bif Nat.blt j 245 then (RX7, yX7_tardiness, cX7_tardiness, 3, (some .int), 1, false, 2, 44, 1078, 1079, 1080, 771, 7) else (RX7, yX7_toldOf, cX7_toldOf, 3, (some .int), 3, false, 2, 43, 1081, 1082, 1083, 771, 7)) else (bif Nat.blt j 247 then (RX7, yX7_redAt, cX7_redAt, 2, (some .int), 2, false, 3, 65, 1084, 1085, 1086, 771, 7) else (RX7, yX7_worstStation, cX7_worstStation, 4, (some .int), 1, false, 1, 22, 1087, 1088, 1089, 771, 7)))) else (bif Nat.blt j 252 then (bif Nat.blt j 250 then (bif Nat.blt j 249 then (RX7, yX7_workingOn, cX7_workingOn, 2, (some .int), 2, false, 3, 65, 1090, 1091, 1092, 771, 7) else (RX7, yX7_queueLength, cX7_queueLength, 4, (some .int), 2, false, 2, 44, 1093, 1094, 1095, 771, 7)) else (bif Nat.blt j 251 then (RX7, yX7_nextChoice, cX7_nextChoice, 2, (some .int), 2, false, 8, 178, 1096, 1097, 1098, 771, 7) else (RX7, yX7_downUntil, cX7_downUntil, 2, (some .int), 2, false, 2, 43, 1099, 1100, 1101, 771, 7))) else (bif Nat.blt j 254 then (bif Nat.blt j 253 then (RX7, yX7_busyTicks, cX7_busyTicks, 2, (some .int), 2, false, 3, 65, 1102, 1103, 1104, 771, 7) else (RX7, yX7_setups, cX7_setups, 2, (some .int), 2, false, 3, 65, 1105, 1106, 1107, 771, 7)) else (bif Nat.blt j 255 then (RX7, yX7_starvedTicks, cX7_starvedTicks, 1, (some .int), 1, false, 0, 0, 1108, 1109, 1110, 771, 7) else (bif Nat.blt j 256 then (RX7, yX7_loadAt, cX7_loadAt, 8, (some .int), 2, false, 2, 43, 1111, 1112, 1113, 771, 7) else (RX7, yX7_loadOf, cX7_loadOf, 2, (some .int), 2, false, 3, 70, 1114, 1115, 1116, 771, 7)))))) else (bif Nat.blt j 266 then (bif Nat.blt j 261 then (bif Nat.blt j 259 then (bif Nat.blt j 258 then (RX7, yX7_bottleneck, cX7_bottleneck, 3, (some .int), 1, false, 3, 70, 1117, 1118, 1119, 771, 7) else (RX7, yX7_isFree, cX7_isFree, 4, (some .boolean), 3, false, 0, 0, 1120, 1121, 1122, 771, 7)) else (bif Nat.blt j 260 then (RX7, yX7_quote, cX7_quote, 7, (some .int), 3, false, 5, 110, 1123, 1124, 1125, 771, 7) else (RX7, yX7_leaves, cX7_leaves, 1, none, 1, false, 1, 24, 1126, 1127, 1128, 771, 7))) else (bif Nat.blt j 263 then (bif Nat.blt j 262 then (RX7, yX7_comesBack, cX7_comesBack, 1, none, 1, false, 1, 24, 1129, 1130, 1131, 771, 7) else (RX7, yX7_endOf, cX7_endOf, 4, (some .int), 2, false, 10, 224, 1132, 1133, 1134, 771, 7)) else (bif Nat.blt j 264 then (RX7, yX7_finishIfAdded, cX7_finishIfAdded, 6, (some .int), 4, false, 11, 247, 1135, 1136, 1137, 771, 7) else (bif Nat.blt j 265 then (RX7, yX7_finishOf, cX7_finishOf, 3, (some .int), 2, false, 11, 247, 1138, 1139, 1140, 771, 7) else (RX7, yX7_isAnyOpen, cX7_isAnyOpen, 2, (some .boolean), 1, false, 2, 43, 1141, 1142, 1143, 771, 7))))) else (bif Nat.blt j 270 then (bif Nat.blt j 268 then (bif Nat.blt j 267 then (RX7, yX7_lateAhead, cX7_lateAhead, 4, (some .int), 1, false, 10, 224, 1144, 1145, 1146, 771, 7) else (RX7, yX7_lateBy, cX7_lateBy, 2, (some .int), 2, false, 11, 247, 1147, 1148, 1149, 771, 7)) else (bif Nat.blt j 269 then (RX7, yX7_tardinessAhead, cX7_tardinessAhead, 2, (some .int), 2, false, 12, 268, 1150, 1151, 1152, 771, 7) else (RX7, yX7_bestRule, cX7_bestRule, 5, (some .int), 1, false, 12, 268, 1153, 1154, 1155, 771, 7))) else (bif Nat.blt j 272 then (bif Nat.blt j 271 then (RX7, yX7_lateByRope, cX7_lateByRope, 2, (some .int), 2, false, 11, 247, 1156, 1157, 1158, 771, 7) else (RX7, yX7_neededRope, cX7_neededRope, 3, (some .int), 1, false, 12, 268, 1159, 1160, 1161, 771, 7)) else (bif Nat.blt j 273 then (RX7, yX7_bestExpedite, cX7_bestExpedite, 5, (some .int), 1, false, 11, 247, 1162, 1163, 1164, 771, 7) else (bif Nat.blt j 274 then (RX7, yX7_saveSnapshot, cX7_saveSnapshot, 2, (some .int), 2, false, 1, 24, 1165, 1166, 1167, 771, 7) else (RX7, yX7_restoreSnapshot, cX7_restoreSnapshot, 2, (some .int), 2, false, 1, 24, 1168, 1169, 1170, 771, 7))))))))))
def twr_0 : List Cond := [.fieldLink RX0 9 "DrumRope$Order" "isExpedited" "Z", .fieldLink RX0 15 "DrumRope$Order" "state" "I", .fieldLink RX0 19 "DrumRope$Order" "step" "I", .fieldLink RX0 22 "DrumRope$Order" "remaining" "I", .fieldLink RX0 25 "DrumRope$Order" "arrivedAt" "I", .fieldLink RX0 28 "DrumRope$Order" "releasedAt" "I", .constant RX0 31 (-1000000), .fieldLink RX0 32 "DrumRope$Order" "keptReleaseTime" "I", .fieldLink RX0 35 "DrumRope$Order" "drumBegunAt" "I", .fieldLink RX0 38 "DrumRope$Order" "finishedAt" "I", .fieldLink RX0 41 "DrumRope$Order" "firstRed" "I", .fieldLink RX0 44 "DrumRope$Order" "product" "I", .fieldLink RX0 47 "DrumRope$Order" "quantity" "I", .fieldLink RX0 50 "DrumRope$Order" "due" "I", .fieldLink RX0 53 "DrumRope$Order" "drumWork" "I", .fieldLink RX1 22 "DrumRope$Product" "steps" "I", .fieldLink RX1 18 "DrumRope$Product" "drumStep" "I", .fieldLink RX1 9 "DrumRope$Product" "station" "[I", .fieldLink RX1 15 "DrumRope$Product" "time" "[I", .fieldLink RX2 22 "DrumRope$Reader" "length" "I", .fieldLink RX2 9 "DrumRope$Reader" "text" "[I", .methodLink RX2 25 yX2_rewind, .methodLink RX2 28 yX2_readStatement, .fieldLink RX2 32 "DrumRope$Reader" "error" "I", .fieldLink RX2 35 "DrumRope$Reader" "at" "I", .fieldLink RX2 38 "DrumRope$Reader" "statement" "I", .methodLink RX2 41 yX2_fail, .methodLink RX2 45 yX2_checkDrumWorks, .fieldLink RX2 48 "DrumRope$Reader" "errorPosition" "I", .fieldLink RX2 15 "DrumRope$Reader" "errorStatement" "I", .methodLink RX2 51 yX2_skipSpaces, .methodLink RX2 54 yX2_isLetter, .methodLink RX2 60 yX2_isWord, .methodLink RX2 64 yX2_readStations, .methodLink RX2 69 yX2_readProduct, .methodLink RX2 75 yX2_readOrder, .methodLink RX2 78 yX2_readSetting, .methodLink RX2 81 yX2_readNumber, .fieldLink RX2 85 "DrumRope$Shop" "stationCount" "I", .fieldLink RX2 90 "DrumRope$Shop" "drum" "I", .fieldLink RX2 95 "DrumRope$Shop" "buffer" "I", .fieldLink RX2 98 "DrumRope$Shop" "shipping" "I", .fieldLink RX2 103 "DrumRope$Shop" "rope" "I", .fieldLink RX2 107 "DrumRope$Shop" "rule" "I", .fieldLink RX2 111 "DrumRope$Shop" "auto" "I", .methodLink RX2 115 yX2_readSetup, .fieldLink RX2 118 "DrumRope$Shop" "stations" "[LDrumRope$Station;", .fieldLink RX2 121 "DrumRope$Station" "setup" "I", .fieldLink RX2 125 "DrumRope$Shop" "productCount" "I", .fieldLink RX2 128 "DrumRope$Shop" "products" "[LDrumRope$Product;", .methodLink RX2 132 yX1_clear, .methodLink RX2 137 yX2_isDigit, .methodLink RX2 140 yX2_readStep, .fieldLink RX2 144 "DrumRope$Product" "drumStep" "I", .fieldLink RX2 147 "DrumRope$Product" "steps" "I", .fieldLink RX2 150 "DrumRope$Product" "station" "[I", .fieldLink RX2 153 "DrumRope$Product" "time" "[I", .fieldLink RX2 156 "DrumRope$Shop" "orderCount" "I", .fieldLink RX2 19 "DrumRope$Reader" "statementOfOrder" "[I", .methodLink RX2 159 yX4_enter]
def twr_1 : List Cond := [.fieldLink RX2 163 "DrumRope$Shop" "orders" "[LDrumRope$Order;", .fieldLink RX2 167 "DrumRope$Order" "drumWork" "I", .constant RX2 172 (1000000), .methodLink RX2 173 Lib.Math.min.name, .methodLink RX2 178 yJ_length, .methodLink RX2 183 yJ_charAt, .methodLink RX3 18 yX3_collectByDue, .methodLink RX3 22 yX3_planBackward, .methodLink RX3 25 yX4_drumFreeAt, .methodLink RX3 31 yX3_planForward, .fieldLink RX3 35 "DrumRope$Schedule" "count" "I", .fieldLink RX3 39 "DrumRope$Shop" "orderCount" "I", .fieldLink RX3 42 "DrumRope$Shop" "orders" "[LDrumRope$Order;", .fieldLink RX3 46 "DrumRope$Order" "state" "I", .fieldLink RX3 51 "DrumRope$Order" "drumBegunAt" "I", .fieldLink RX3 9 "DrumRope$Schedule" "order" "[I", .fieldLink RX3 54 "DrumRope$Order" "due" "I", .fieldLink RX3 57 "DrumRope$Shop" "shipping" "I", .fieldLink RX3 15 "DrumRope$Schedule" "start" "[I", .fieldLink RX3 60 "DrumRope$Order" "drumWork" "I", .methodLink RX3 63 Lib.Math.max.name, .fieldLink RX4 42 "DrumRope$Shop" "stationCount" "I", .fieldLink RX4 46 "DrumRope$Shop" "productCount" "I", .fieldLink RX4 49 "DrumRope$Shop" "orderCount" "I", .fieldLink RX4 52 "DrumRope$Shop" "drum" "I", .fieldLink RX4 55 "DrumRope$Shop" "buffer" "I", .fieldLink RX4 58 "DrumRope$Shop" "shipping" "I", .fieldLink RX4 61 "DrumRope$Shop" "rope" "I", .fieldLink RX4 64 "DrumRope$Shop" "rule" "I", .fieldLink RX4 67 "DrumRope$Shop" "auto" "I", .fieldLink RX4 70 "DrumRope$Shop" "now" "I", .fieldLink RX4 73 "DrumRope$Shop" "starved" "I", .fieldLink RX4 11 "DrumRope$Shop" "stations" "[LDrumRope$Station;", .methodLink RX4 76 yX5_clear, .methodLink RX4 77 yX5_copyFrom, .fieldLink RX4 19 "DrumRope$Shop" "products" "[LDrumRope$Product;", .methodLink RX4 81 yX1_copyFrom, .fieldLink RX4 25 "DrumRope$Shop" "orders" "[LDrumRope$Order;", .methodLink RX4 84 yX0_copyFrom, .methodLink RX4 87 yX0_clear, .fieldLink RX4 88 "DrumRope$Order" "product" "I", .fieldLink RX4 91 "DrumRope$Order" "quantity" "I", .fieldLink RX4 94 "DrumRope$Order" "due" "I", .methodLink RX4 97 yX1_drumTime, .fieldLink RX4 101 "DrumRope$Order" "drumWork" "I", .fieldLink RX4 104 "DrumRope$Order" "state" "I", .methodLink RX4 107 Lib.Math.max.name, .fieldLink RX4 113 "DrumRope$Station" "order" "I", .fieldLink RX4 116 "DrumRope$Order" "remaining" "I", .fieldLink RX4 32 "DrumRope$Shop" "schedule" "LDrumRope$Schedule;", .methodLink RX4 119 yX3_make, .fieldLink RX4 123 "DrumRope$Schedule" "count" "I", .fieldLink RX4 126 "DrumRope$Schedule" "order" "[I", .fieldLink RX4 129 "DrumRope$Schedule" "start" "[I", .constant RX4 132 (-1000000), .fieldLink RX4 133 "DrumRope$Order" "step" "I", .fieldLink RX4 136 "DrumRope$Product" "drumStep" "I", .methodLink RX4 139 yX4_hasToPassDrum, .fieldLink RX4 143 "DrumRope$Order" "drumBegunAt" "I", .fieldLink RX4 146 "DrumRope$Order" "keptReleaseTime" "I"]
def twr_2 : List Cond := [.methodLink RX4 149 yX4_penetrationOf, .fieldLink RX4 153 "DrumRope$Product" "station" "[I", .fieldLink RX4 156 "DrumRope$Product" "time" "[I", .methodLink RX4 159 yX4_stationOf, .methodLink RX4 162 yX4_waitsAt, .methodLink RX4 166 yX4_keyByRule, .fieldLink RX4 170 "DrumRope$Order" "isExpedited" "Z", .methodLink RX4 174 yX4_isRedOrBlack, .methodLink RX4 178 yX4_workOfStep, .fieldLink RX4 181 "DrumRope$Order" "arrivedAt" "I", .methodLink RX4 184 yX0_isOpen, .methodLink RX4 188 yX4_workAheadOf_, .fieldLink RX4 191 "DrumRope$Product" "steps" "I", .fieldLink RX4 194 "DrumRope$Order" "finishedAt" "I", .methodLink RX4 197 yX0_latenessAt, .methodLink RX4 201 yX4_quietTicks, .methodLink RX4 204 yX4_releaseOrders, .methodLink RX4 207 yX4_beginSteps, .methodLink RX4 210 yX4_work, .methodLink RX4 214 yX4_finishSteps, .methodLink RX4 217 yX4_markReds, .methodLink RX4 220 yX5_isDown, .fieldLink RX4 223 "DrumRope$Station" "downUntil" "I", .methodLink RX4 226 Lib.Math.min.name, .fieldLink RX4 229 "DrumRope$Station" "waiting" "I", .methodLink RX4 232 yX4_ticksWithoutRelease, .methodLink RX4 235 yX4_countInState, .methodLink RX4 238 yX4_releasedWork, .fieldLink RX4 241 "DrumRope$Order" "releasedAt" "I", .methodLink RX4 244 yX4_arrive, .methodLink RX4 248 yX5_isIdle, .methodLink RX4 251 yX4_choiceAt, .methodLink RX4 254 yX4_beginStep, .fieldLink RX4 258 "DrumRope$Station" "lastProduct" "I", .fieldLink RX4 261 "DrumRope$Station" "setup" "I", .fieldLink RX4 264 "DrumRope$Station" "setupsDone" "I", .methodLink RX4 267 yX4_isStarved, .methodLink RX4 270 yX5_isWorking, .fieldLink RX4 273 "DrumRope$Station" "busy" "I", .methodLink RX4 276 yX4_leaveStation, .fieldLink RX4 279 "DrumRope$Order" "firstRed" "I", .fieldLink RX4 282 "DrumRope$Station" "reds" "I", .fieldLink RX5 18 "DrumRope$Station" "setup" "I", .fieldLink RX5 21 "DrumRope$Station" "downUntil" "I", .fieldLink RX5 9 "DrumRope$Station" "order" "I", .fieldLink RX5 15 "DrumRope$Station" "lastProduct" "I", .fieldLink RX5 24 "DrumRope$Station" "waiting" "I", .fieldLink RX5 27 "DrumRope$Station" "busy" "I", .fieldLink RX5 30 "DrumRope$Station" "setupsDone" "I", .fieldLink RX5 33 "DrumRope$Station" "reds" "I", .methodLink RX5 36 yX5_isDown, .methodLink RX6 34 yX6_checkRange, .fieldLink RX6 10 "DrumRope" "reader" "LDrumRope$Reader;", .methodLink RX6 38 yX2_append, .fieldLink RX6 23 "DrumRope" "trial" "LDrumRope$Shop;", .methodLink RX6 42 yX4_clear, .methodLink RX6 45 yX2_readInto, .fieldLink RX6 49 "DrumRope$Reader" "error" "I", .fieldLink RX6 53 "DrumRope$Reader" "errorPosition" "I", .fieldLink RX6 19 "DrumRope" "shop" "LDrumRope$Shop;"]
def twr_3 : List Cond := [.methodLink RX6 56 yX4_copyFrom, .fieldLink RX6 59 "DrumRope$Shop" "orderCount" "I", .fieldLink RX6 62 "DrumRope$Reader" "errorStatement" "I", .fieldLink RX6 65 "DrumRope$Shop" "stationCount" "I", .fieldLink RX6 68 "DrumRope$Shop" "productCount" "I", .methodLink RX6 71 yX6_findProduct, .fieldLink RX6 75 "DrumRope$Product" "steps" "I", .fieldLink RX6 80 "DrumRope$Product" "station" "[I", .fieldLink RX6 84 "DrumRope$Product" "time" "[I", .methodLink RX6 87 yX1_timeOfPiece, .methodLink RX6 91 yX1_drumTime, .fieldLink RX6 94 "DrumRope$Shop" "now" "I", .methodLink RX6 97 yX4_countInState, .methodLink RX6 100 yX4_pass, .fieldLink RX6 104 "DrumRope$Shop" "rope" "I", .methodLink RX6 107 yX4_enter, .methodLink RX6 111 yX6_findOrder, .fieldLink RX6 115 "DrumRope$Order" "state" "I", .methodLink RX6 120 yX0_isOpen, .fieldLink RX6 124 "DrumRope$Order" "due" "I", .fieldLink RX6 127 "DrumRope$Order" "isExpedited" "Z", .fieldLink RX6 131 "DrumRope$Shop" "rule" "I", .methodLink RX6 134 yX4_greatestWorkNotReleased, .methodLink RX6 137 yX6_findStation, .fieldLink RX6 141 "DrumRope$Station" "downUntil" "I", .fieldLink RX6 146 "DrumRope$Order" "product" "I", .fieldLink RX6 149 "DrumRope$Order" "quantity" "I", .fieldLink RX6 152 "DrumRope$Order" "step" "I", .fieldLink RX6 155 "DrumRope$Order" "remaining" "I", .fieldLink RX6 158 "DrumRope$Order" "releasedAt" "I", .fieldLink RX6 161 "DrumRope$Order" "finishedAt" "I", .fieldLink RX6 164 "DrumRope$Order" "drumBegunAt" "I", .methodLink RX6 167 yX4_scheduledStart, .fieldLink RX6 170 "DrumRope$Shop" "schedule" "LDrumRope$Schedule;", .methodLink RX6 174 yX3_make, .fieldLink RX6 179 "DrumRope$Schedule" "count" "I", .fieldLink RX6 182 "DrumRope$Schedule" "order" "[I", .constant RX6 185 (-1000000), .fieldLink RX6 186 "DrumRope$Order" "drumWork" "I", .fieldLink RX6 189 "DrumRope$Shop" "shipping" "I", .methodLink RX6 192 yX4_releasedWork, .fieldLink RX6 195 "DrumRope$Order" "keptReleaseTime" "I", .fieldLink RX6 198 "DrumRope$Shop" "buffer" "I", .methodLink RX6 201 yX4_penetrationOf, .methodLink RX6 205 yX4_zoneOf, .fieldLink RX6 208 "DrumRope$Shop" "orders" "[LDrumRope$Order;", .fieldLink RX6 212 "DrumRope$Station" "reds" "I", .fieldLink RX6 215 "DrumRope$Shop" "stations" "[LDrumRope$Station;", .fieldLink RX6 219 "DrumRope$Station" "order" "I", .fieldLink RX6 221 "DrumRope$Station" "waiting" "I", .methodLink RX6 224 yX4_choiceAt, .methodLink RX6 227 yX5_isDown, .fieldLink RX6 231 "DrumRope$Station" "busy" "I", .fieldLink RX6 234 "DrumRope$Station" "setupsDone" "I", .fieldLink RX6 237 "DrumRope$Shop" "starved" "I", .methodLink RX6 240 yX0_latenessAt, .methodLink RX6 243 yX4_drumFreeAt, .methodLink RX6 246 Lib.Math.max.name, .methodLink RX6 252 yX3_firstFit, .methodLink RX6 256 yX6_tardinessByRule]
def twr_4 : List Cond := [.methodLink RX6 259 yX6_tardinessByRope, .fieldLink RX6 262 "DrumRope$Order" "firstRed" "I", .methodLink RX6 265 yX0_flowUntil, .methodLink RX6 268 yX4_workAheadOf, .methodLink RX6 271 yX6_tardinessIfExpedited, .fieldLink RX6 26 "DrumRope" "saved" "[LDrumRope$Shop;", .fieldLink RX6 30 "DrumRope" "isSaved" "[Z", .methodLink RX6 274 yX4_tardinessIfEndedNow, .fieldLink RX6 284 "DrumRope$Shop" "products" "[LDrumRope$Product;", .fieldLink RX7 50 "DrumRopeModel" "thrown" "I", .fieldLink RX7 9 "DrumRopeModel" "now" "[I", .methodLink RX7 53 yX7_stepStation, .methodLink RX7 57 yX7_drumStep, .methodLink RX7 61 yX7_stepTime, .methodLink RX7 64 yX7_in, .methodLink RX7 68 yX7_isThrown, .fieldLink RX7 72 "DrumRopeModel" "length" "I", .fieldLink RX7 26 "DrumRopeModel" "buffer" "[B", .fieldLink RX7 75 "DrumRopeModel" "at" "I", .methodLink RX7 78 yX7_here, .fieldLink RX7 82 "DrumRopeModel" "begin" "I", .fieldLink RX7 85 "DrumRopeModel" "error" "I", .fieldLink RX7 88 "DrumRopeModel" "errorAt" "I", .methodLink RX7 91 yX7_next, .methodLink RX7 94 yJ_length, .methodLink RX7 98 yJ_charAt, .methodLink RX7 102 yX7_fails, .constant RX7 106 (10000000), .methodLink RX7 107 Lib.Math.min.name, .fieldLink RX7 13 "DrumRopeModel" "read" "[I", .methodLink RX7 113 yX7_number, .methodLink RX7 116 yX7_steps, .methodLink RX7 119 yX7_stepPart, .fieldLink RX7 34 "DrumRopeModel" "statementOf" "[I", .fieldLink RX7 123 "DrumRopeModel" "statement" "I", .methodLink RX7 126 yX7_laysOrder, .methodLink RX7 130 yX7_reads, .methodLink RX7 135 yX7_isWord, .methodLink RX7 147 yX7_setupPart, .methodLink RX7 152 yX7_productPart, .methodLink RX7 157 yX7_orderPart, .methodLink RX7 160 yX7_drumTicks, .methodLink RX7 46 yX7_begins, .methodLink RX7 165 yX7_isMore, .methodLink RX7 169 yX7_statement, .methodLink RX7 171 yX7_checksOrders, .fieldLink RX7 174 "DrumRopeModel" "lastError" "I", .fieldLink RX7 30 "DrumRopeModel" "lastStatement" "I", .methodLink RX7 177 yX7_copies, .methodLink RX7 180 yX7_isProduct, .methodLink RX7 184 yX7_isWork, .methodLink RX7 188 yX7_order, .methodLink RX7 190 yX7_isOpen, .methodLink RX7 193 yX7_station, .fieldLink RX7 196 "DrumRopeModel" "scheduled" "I", .methodLink RX7 199 yX7_isBeforeDrum, .fieldLink RX7 37 "DrumRopeModel" "schedule" "[I", .fieldLink RX7 43 "DrumRopeModel" "ends" "[I", .fieldLink RX7 40 "DrumRopeModel" "starts" "[I", .methodLink RX7 202 yX7_workAtDrum]
def twr_5 : List Cond := [.methodLink RX7 206 yX7_earliest, .methodLink RX7 209 yX7_laysSchedule, .constant RX7 212 (-1000000), .methodLink RX7 213 yX7_placeOf, .methodLink RX7 216 yX7_isPastDrum, .methodLink RX7 219 Lib.Math.max.name, .methodLink RX7 222 yX7_penetrationOf, .methodLink RX7 225 yX7_setsOrder, .methodLink RX7 229 yX7_ropeNow, .methodLink RX7 232 yX7_release, .methodLink RX7 235 yX7_zoneOf, .methodLink RX7 238 yX7_workHere, .methodLink RX7 241 yX7_isUrgent, .methodLink RX7 244 yX7_worth, .methodLink RX7 247 yX7_waitsAt, .methodLink RX7 250 yX7_isBetter, .methodLink RX7 253 yX7_isDown, .methodLink RX7 256 yX7_choice, .methodLink RX7 259 yX7_setsStation, .methodLink RX7 262 yX7_releases, .methodLink RX7 265 yX7_begins_, .methodLink RX7 267 yX7_isStarved, .methodLink RX7 270 yX7_works, .methodLink RX7 273 yX7_finishes, .methodLink RX7 276 yX7_sees, .methodLink RX7 279 yX7_passes, .methodLink RX7 282 yX7_isNewOrder, .methodLink RX7 285 yX7_noAdding, .methodLink RX7 288 yX7_isOrder, .methodLink RX7 291 yX7_greatestWaiting, .methodLink RX7 294 yX7_isStation, .methodLink RX7 297 yX7_told, .methodLink RX7 300 yX7_startOf, .methodLink RX7 303 yX7_flowOf, .methodLink RX7 306 yX7_lateOf, .methodLink RX7 309 yX7_toldOf, .methodLink RX7 312 yX7_loadAt, .methodLink RX7 315 yX7_isFree, .constant RX7 320 (2147483647), .fieldLink RX7 16 "DrumRopeModel" "aside" "[I", .methodLink RX7 321 yX7_leaves, .methodLink RX7 324 yX7_endOf, .methodLink RX7 327 yX7_comesBack, .methodLink RX7 330 yX7_isAnyOpen, .methodLink RX7 333 yX7_lateAhead, .methodLink RX7 336 yX7_lateBy, .methodLink RX7 339 yX7_lateByRope, .fieldLink RX7 19 "DrumRopeModel" "copies" "[I", .fieldLink RX7 22 "DrumRopeModel" "isSaved" "[Z", .code yX0_clear cX0_clear 1 none, .instanceMethod yX0_clear, .selects RX0 yX0_clear yX0_clear, .initialized RX0, .code yX0_copyFrom cX0_copyFrom 2 none, .instanceMethod yX0_copyFrom, .selects RX0 yX0_copyFrom yX0_copyFrom, .code yX0_isOpen cX0_isOpen 1 (some .boolean), .instanceMethod yX0_isOpen, .selects RX0 yX0_isOpen yX0_isOpen, .code yX0_latenessAt cX0_latenessAt 2 (some .int)]
def twr_6 : List Cond := [.instanceMethod yX0_latenessAt, .selects RX0 yX0_latenessAt yX0_latenessAt, .code yX0_flowUntil cX0_flowUntil 2 (some .int), .instanceMethod yX0_flowUntil, .selects RX0 yX0_flowUntil yX0_flowUntil, .code yX1_clear cX1_clear 1 none, .instanceMethod yX1_clear, .selects RX1 yX1_clear yX1_clear, .initialized RX1, .code yX1_copyFrom cX1_copyFrom 3 none, .instanceMethod yX1_copyFrom, .selects RX1 yX1_copyFrom yX1_copyFrom, .code yX1_timeOfPiece cX1_timeOfPiece 3 (some .int), .instanceMethod yX1_timeOfPiece, .selects RX1 yX1_timeOfPiece yX1_timeOfPiece, .code yX1_drumTime cX1_drumTime 1 (some .int), .instanceMethod yX1_drumTime, .selects RX1 yX1_drumTime yX1_drumTime, .code yX2_append cX2_append 2 (some .int), .instanceMethod yX2_append, .selects RX2 yX2_append yX2_append, .initialized RX2, .code yX2_readInto cX2_readInto 3 none, .instanceMethod yX2_readInto, .selects RX2 yX2_readInto yX2_readInto, .code yX2_rewind cX2_rewind 1 none, .instanceMethod yX2_rewind, .selects RX2 yX2_rewind yX2_rewind, .code yX2_readStatement cX2_readStatement 4 none, .instanceMethod yX2_readStatement, .selects RX2 yX2_readStatement yX2_readStatement, .code yX2_readStations cX2_readStations 4 none, .instanceMethod yX2_readStations, .selects RX2 yX2_readStations yX2_readStations, .code yX2_readSetting cX2_readSetting 3 none, .instanceMethod yX2_readSetting, .selects RX2 yX2_readSetting yX2_readSetting, .code yX2_readSetup cX2_readSetup 4 none, .instanceMethod yX2_readSetup, .selects RX2 yX2_readSetup yX2_readSetup, .code yX2_readProduct cX2_readProduct 5 none, .instanceMethod yX2_readProduct, .selects RX2 yX2_readProduct yX2_readProduct, .code yX2_readStep cX2_readStep 6 none, .instanceMethod yX2_readStep, .selects RX2 yX2_readStep yX2_readStep, .code yX2_readOrder cX2_readOrder 6 none, .instanceMethod yX2_readOrder, .selects RX2 yX2_readOrder yX2_readOrder, .code yX2_checkDrumWorks cX2_checkDrumWorks 3 none, .instanceMethod yX2_checkDrumWorks, .selects RX2 yX2_checkDrumWorks yX2_checkDrumWorks, .code yX2_readNumber cX2_readNumber 5 (some .int), .instanceMethod yX2_readNumber, .selects RX2 yX2_readNumber yX2_readNumber, .code yX2_fail cX2_fail 3 none, .instanceMethod yX2_fail, .selects RX2 yX2_fail yX2_fail, .code yX2_skipSpaces cX2_skipSpaces 1 none, .instanceMethod yX2_skipSpaces]
def twr_7 : List Cond := [.selects RX2 yX2_skipSpaces yX2_skipSpaces, .code yX2_isDigit cX2_isDigit 1 (some .boolean), .instanceMethod yX2_isDigit, .selects RX2 yX2_isDigit yX2_isDigit, .code yX2_isLetter cX2_isLetter 1 (some .boolean), .instanceMethod yX2_isLetter, .selects RX2 yX2_isLetter yX2_isLetter, .code yX2_isWord cX2_isWord 4 (some .boolean), .instanceMethod yX2_isWord, .selects RX2 yX2_isWord yX2_isWord, .code yX3_make cX3_make 2 none, .instanceMethod yX3_make, .selects RX3 yX3_make yX3_make, .initialized RX3, .code yX3_collectByDue cX3_collectByDue 5 none, .instanceMethod yX3_collectByDue, .selects RX3 yX3_collectByDue yX3_collectByDue, .code yX3_planBackward cX3_planBackward 5 none, .instanceMethod yX3_planBackward, .selects RX3 yX3_planBackward yX3_planBackward, .code yX3_planForward cX3_planForward 5 none, .instanceMethod yX3_planForward, .selects RX3 yX3_planForward yX3_planForward, .code yX3_firstFit cX3_firstFit 6 (some .int), .instanceMethod yX3_firstFit, .selects RX3 yX3_firstFit yX3_firstFit, .code yX4_clear cX4_clear 2 none, .instanceMethod yX4_clear, .selects RX4 yX4_clear yX4_clear, .initialized RX4, .code yX4_copyFrom cX4_copyFrom 3 none, .instanceMethod yX4_copyFrom, .selects RX4 yX4_copyFrom yX4_copyFrom, .code yX4_enter cX4_enter 6 (some .int), .instanceMethod yX4_enter, .selects RX4 yX4_enter yX4_enter, .code yX4_countInState cX4_countInState 4 (some .int), .instanceMethod yX4_countInState, .selects RX4 yX4_countInState yX4_countInState, .code yX4_greatestWorkNotReleased cX4_greatestWorkNotReleased 3 (some .int), .instanceMethod yX4_greatestWorkNotReleased, .selects RX4 yX4_greatestWorkNotReleased yX4_greatestWorkNotReleased, .code yX4_drumFreeAt cX4_drumFreeAt 2 (some .int), .instanceMethod yX4_drumFreeAt, .selects RX4 yX4_drumFreeAt yX4_drumFreeAt, .code yX4_scheduledStart cX4_scheduledStart 3 (some .int), .instanceMethod yX4_scheduledStart, .selects RX4 yX4_scheduledStart yX4_scheduledStart, .code yX4_hasToPassDrum cX4_hasToPassDrum 2 (some .boolean), .instanceMethod yX4_hasToPassDrum, .selects RX4 yX4_hasToPassDrum yX4_hasToPassDrum, .code yX4_releasedWork cX4_releasedWork 4 (some .int), .instanceMethod yX4_releasedWork, .selects RX4 yX4_releasedWork yX4_releasedWork, .code yX4_penetrationOf cX4_penetrationOf 5 (some .int), .instanceMethod yX4_penetrationOf, .selects RX4 yX4_penetrationOf yX4_penetrationOf, .code yX4_zoneOf cX4_zoneOf 3 (some .int), .instanceMethod yX4_zoneOf, .selects RX4 yX4_zoneOf yX4_zoneOf]
def twr_8 : List Cond := [.code yX4_isRedOrBlack cX4_isRedOrBlack 1 (some .boolean), .static yX4_isRedOrBlack, .code yX4_stationOf cX4_stationOf 2 (some .int), .instanceMethod yX4_stationOf, .selects RX4 yX4_stationOf yX4_stationOf, .code yX4_workOfStep cX4_workOfStep 2 (some .int), .instanceMethod yX4_workOfStep, .selects RX4 yX4_workOfStep yX4_workOfStep, .code yX4_waitsAt cX4_waitsAt 3 (some .boolean), .instanceMethod yX4_waitsAt, .selects RX4 yX4_waitsAt yX4_waitsAt, .code yX4_choiceAt cX4_choiceAt 11 (some .int), .instanceMethod yX4_choiceAt, .selects RX4 yX4_choiceAt yX4_choiceAt, .code yX4_keyByRule cX4_keyByRule 3 (some .int), .instanceMethod yX4_keyByRule, .selects RX4 yX4_keyByRule yX4_keyByRule, .code yX4_workAheadOf cX4_workAheadOf 4 (some .int), .instanceMethod yX4_workAheadOf, .selects RX4 yX4_workAheadOf yX4_workAheadOf, .code yX4_workAheadOf_ cX4_workAheadOf_ 7 (some .int), .instanceMethod yX4_workAheadOf_, .selects RX4 yX4_workAheadOf_ yX4_workAheadOf_, .code yX4_tardinessIfEndedNow cX4_tardinessIfEndedNow 4 (some .int), .instanceMethod yX4_tardinessIfEndedNow, .selects RX4 yX4_tardinessIfEndedNow yX4_tardinessIfEndedNow, .code yX4_pass cX4_pass 5 none, .instanceMethod yX4_pass, .selects RX4 yX4_pass yX4_pass, .code yX4_quietTicks cX4_quietTicks 5 (some .int), .instanceMethod yX4_quietTicks, .selects RX4 yX4_quietTicks yX4_quietTicks, .code yX4_ticksWithoutRelease cX4_ticksWithoutRelease 5 (some .int), .instanceMethod yX4_ticksWithoutRelease, .selects RX4 yX4_ticksWithoutRelease yX4_ticksWithoutRelease, .code yX4_releaseOrders cX4_releaseOrders 5 none, .instanceMethod yX4_releaseOrders, .selects RX4 yX4_releaseOrders yX4_releaseOrders, .code yX4_arrive cX4_arrive 3 none, .instanceMethod yX4_arrive, .selects RX4 yX4_arrive yX4_arrive, .code yX4_beginSteps cX4_beginSteps 3 none, .instanceMethod yX4_beginSteps, .selects RX4 yX4_beginSteps yX4_beginSteps, .code yX4_beginStep cX4_beginStep 5 none, .instanceMethod yX4_beginStep, .selects RX4 yX4_beginStep yX4_beginStep, .code yX4_work cX4_work 4 none, .instanceMethod yX4_work, .selects RX4 yX4_work yX4_work, .code yX4_isStarved cX4_isStarved 2 (some .boolean), .instanceMethod yX4_isStarved, .selects RX4 yX4_isStarved yX4_isStarved, .code yX4_finishSteps cX4_finishSteps 3 none, .instanceMethod yX4_finishSteps, .selects RX4 yX4_finishSteps yX4_finishSteps, .code yX4_leaveStation cX4_leaveStation 2 none, .instanceMethod yX4_leaveStation, .selects RX4 yX4_leaveStation yX4_leaveStation, .code yX4_markReds cX4_markReds 3 none]
def twr_9 : List Cond := [.instanceMethod yX4_markReds, .selects RX4 yX4_markReds yX4_markReds, .code yX5_clear cX5_clear 1 none, .instanceMethod yX5_clear, .selects RX5 yX5_clear yX5_clear, .initialized RX5, .code yX5_copyFrom cX5_copyFrom 2 none, .instanceMethod yX5_copyFrom, .selects RX5 yX5_copyFrom yX5_copyFrom, .code yX5_isDown cX5_isDown 2 (some .boolean), .instanceMethod yX5_isDown, .selects RX5 yX5_isDown yX5_isDown, .code yX5_isWorking cX5_isWorking 2 (some .boolean), .instanceMethod yX5_isWorking, .selects RX5 yX5_isWorking yX5_isWorking, .code yX5_isIdle cX5_isIdle 2 (some .boolean), .instanceMethod yX5_isIdle, .selects RX5 yX5_isIdle yX5_isIdle, .code yX6_appendByte cX6_appendByte 2 (some .int), .instanceMethod yX6_appendByte, .selects RX6 yX6_appendByte yX6_appendByte, .initialized RX6, .code yX6_load cX6_load 1 (some .int), .instanceMethod yX6_load, .selects RX6 yX6_load yX6_load, .code yX6_loadError cX6_loadError 1 (some .int), .instanceMethod yX6_loadError, .selects RX6 yX6_loadError yX6_loadError, .code yX6_loadStatement cX6_loadStatement 1 (some .int), .instanceMethod yX6_loadStatement, .selects RX6 yX6_loadStatement yX6_loadStatement, .code yX6_stationCount cX6_stationCount 1 (some .int), .instanceMethod yX6_stationCount, .selects RX6 yX6_stationCount yX6_stationCount, .code yX6_productCount cX6_productCount 1 (some .int), .instanceMethod yX6_productCount, .selects RX6 yX6_productCount yX6_productCount, .code yX6_orderCount cX6_orderCount 1 (some .int), .instanceMethod yX6_orderCount, .selects RX6 yX6_orderCount yX6_orderCount, .code yX6_stepCount cX6_stepCount 2 (some .int), .instanceMethod yX6_stepCount, .selects RX6 yX6_stepCount yX6_stepCount, .code yX6_stepAt cX6_stepAt 5 (some .int), .instanceMethod yX6_stepAt, .selects RX6 yX6_stepAt yX6_stepAt, .code yX6_workOf cX6_workOf 4 (some .int), .instanceMethod yX6_workOf, .selects RX6 yX6_workOf yX6_workOf, .code yX6_drumWork cX6_drumWork 4 (some .int), .instanceMethod yX6_drumWork, .selects RX6 yX6_drumWork yX6_drumWork, .code yX6_now cX6_now 1 (some .int), .instanceMethod yX6_now, .selects RX6 yX6_now yX6_now, .code yX6_advance cX6_advance 3 (some .int), .instanceMethod yX6_advance, .selects RX6 yX6_advance yX6_advance, .code yX6_addOrder cX6_addOrder 5 (some .int), .instanceMethod yX6_addOrder]
def twr_10 : List Cond := [.selects RX6 yX6_addOrder yX6_addOrder, .code yX6_cancel cX6_cancel 3 (some .int), .instanceMethod yX6_cancel, .selects RX6 yX6_cancel yX6_cancel, .code yX6_setDue cX6_setDue 5 (some .int), .instanceMethod yX6_setDue, .selects RX6 yX6_setDue yX6_setDue, .code yX6_expedite cX6_expedite 5 (some .boolean), .instanceMethod yX6_expedite, .selects RX6 yX6_expedite yX6_expedite, .code yX6_setRule cX6_setRule 3 (some .int), .instanceMethod yX6_setRule, .selects RX6 yX6_setRule yX6_setRule, .code yX6_setRope cX6_setRope 3 (some .int), .instanceMethod yX6_setRope, .selects RX6 yX6_setRope yX6_setRope, .code yX6_rope cX6_rope 1 (some .int), .instanceMethod yX6_rope, .selects RX6 yX6_rope yX6_rope, .code yX6_stop cX6_stop 4 (some .int), .instanceMethod yX6_stop, .selects RX6 yX6_stop yX6_stop, .code yX6_stateOf cX6_stateOf 2 (some .int), .instanceMethod yX6_stateOf, .selects RX6 yX6_stateOf yX6_stateOf, .code yX6_productOf cX6_productOf 2 (some .int), .instanceMethod yX6_productOf, .selects RX6 yX6_productOf yX6_productOf, .code yX6_quantityOf cX6_quantityOf 2 (some .int), .instanceMethod yX6_quantityOf, .selects RX6 yX6_quantityOf yX6_quantityOf, .code yX6_dueOf cX6_dueOf 2 (some .int), .instanceMethod yX6_dueOf, .selects RX6 yX6_dueOf yX6_dueOf, .code yX6_stepOf cX6_stepOf 2 (some .int), .instanceMethod yX6_stepOf, .selects RX6 yX6_stepOf yX6_stepOf, .code yX6_isWorkedOn cX6_isWorkedOn 2 (some .boolean), .instanceMethod yX6_isWorkedOn, .selects RX6 yX6_isWorkedOn yX6_isWorkedOn, .code yX6_remaining cX6_remaining 2 (some .int), .instanceMethod yX6_remaining, .selects RX6 yX6_remaining yX6_remaining, .code yX6_releasedAt cX6_releasedAt 2 (some .int), .instanceMethod yX6_releasedAt, .selects RX6 yX6_releasedAt yX6_releasedAt, .code yX6_finishedAt cX6_finishedAt 2 (some .int), .instanceMethod yX6_finishedAt, .selects RX6 yX6_finishedAt yX6_finishedAt, .code yX6_plannedStart cX6_plannedStart 3 (some .int), .instanceMethod yX6_plannedStart, .selects RX6 yX6_plannedStart yX6_plannedStart, .code yX6_scheduleAt cX6_scheduleAt 2 (some .int), .instanceMethod yX6_scheduleAt, .selects RX6 yX6_scheduleAt yX6_scheduleAt, .code yX6_isAtRisk cX6_isAtRisk 4 (some .boolean), .instanceMethod yX6_isAtRisk, .selects RX6 yX6_isAtRisk yX6_isAtRisk, .code yX6_ropeLoad cX6_ropeLoad 1 (some .int), .instanceMethod yX6_ropeLoad]
def twr_11 : List Cond := [.selects RX6 yX6_ropeLoad yX6_ropeLoad, .code yX6_releaseTime cX6_releaseTime 4 (some .int), .instanceMethod yX6_releaseTime, .selects RX6 yX6_releaseTime yX6_releaseTime, .code yX6_penetration cX6_penetration 2 (some .int), .instanceMethod yX6_penetration, .selects RX6 yX6_penetration yX6_penetration, .code yX6_zone cX6_zone 2 (some .int), .instanceMethod yX6_zone, .selects RX6 yX6_zone yX6_zone, .code yX6_inZone cX6_inZone 4 (some .int), .instanceMethod yX6_inZone, .selects RX6 yX6_inZone yX6_inZone, .code yX6_redAt cX6_redAt 2 (some .int), .instanceMethod yX6_redAt, .selects RX6 yX6_redAt yX6_redAt, .code yX6_worstStation cX6_worstStation 4 (some .int), .instanceMethod yX6_worstStation, .selects RX6 yX6_worstStation yX6_worstStation, .code yX6_workingOn cX6_workingOn 2 (some .int), .instanceMethod yX6_workingOn, .selects RX6 yX6_workingOn yX6_workingOn, .code yX6_queueLength cX6_queueLength 2 (some .int), .instanceMethod yX6_queueLength, .selects RX6 yX6_queueLength yX6_queueLength, .code yX6_nextChoice cX6_nextChoice 2 (some .int), .instanceMethod yX6_nextChoice, .selects RX6 yX6_nextChoice yX6_nextChoice, .code yX6_downUntil cX6_downUntil 3 (some .int), .instanceMethod yX6_downUntil, .selects RX6 yX6_downUntil yX6_downUntil, .code yX6_busyTicks cX6_busyTicks 2 (some .int), .instanceMethod yX6_busyTicks, .selects RX6 yX6_busyTicks yX6_busyTicks, .code yX6_setups cX6_setups 2 (some .int), .instanceMethod yX6_setups, .selects RX6 yX6_setups yX6_setups, .code yX6_starvedTicks cX6_starvedTicks 1 (some .int), .instanceMethod yX6_starvedTicks, .selects RX6 yX6_starvedTicks yX6_starvedTicks, .code yX6_lateCount cX6_lateCount 4 (some .int), .instanceMethod yX6_lateCount, .selects RX6 yX6_lateCount yX6_lateCount, .code yX6_tardiness cX6_tardiness 4 (some .int), .instanceMethod yX6_tardiness, .selects RX6 yX6_tardiness yX6_tardiness, .code yX6_quote cX6_quote 6 (some .int), .instanceMethod yX6_quote, .selects RX6 yX6_quote yX6_quote, .code yX6_finishIfAdded cX6_finishIfAdded 6 (some .int), .instanceMethod yX6_finishIfAdded, .selects RX6 yX6_finishIfAdded yX6_finishIfAdded, .code yX6_finishOf cX6_finishOf 3 (some .int), .instanceMethod yX6_finishOf, .selects RX6 yX6_finishOf yX6_finishOf, .code yX6_tardinessAhead cX6_tardinessAhead 2 (some .int), .instanceMethod yX6_tardinessAhead, .selects RX6 yX6_tardinessAhead yX6_tardinessAhead, .code yX6_bestRule cX6_bestRule 5 (some .int), .instanceMethod yX6_bestRule]
def twr_12 : List Cond := [.selects RX6 yX6_bestRule yX6_bestRule, .code yX6_neededRope cX6_neededRope 4 (some .int), .instanceMethod yX6_neededRope, .selects RX6 yX6_neededRope yX6_neededRope, .code yX6_firstRedAt cX6_firstRedAt 2 (some .int), .instanceMethod yX6_firstRedAt, .selects RX6 yX6_firstRedAt yX6_firstRedAt, .code yX6_flowTime cX6_flowTime 2 (some .int), .instanceMethod yX6_flowTime, .selects RX6 yX6_flowTime yX6_flowTime, .code yX6_meanFlow cX6_meanFlow 5 (some .int), .instanceMethod yX6_meanFlow, .selects RX6 yX6_meanFlow yX6_meanFlow, .code yX6_loadOf cX6_loadOf 2 (some .int), .instanceMethod yX6_loadOf, .selects RX6 yX6_loadOf yX6_loadOf, .code yX6_bottleneck cX6_bottleneck 5 (some .int), .instanceMethod yX6_bottleneck, .selects RX6 yX6_bottleneck yX6_bottleneck, .code yX6_bestExpedite cX6_bestExpedite 6 (some .int), .instanceMethod yX6_bestExpedite, .selects RX6 yX6_bestExpedite yX6_bestExpedite, .code yX6_saveSnapshot cX6_saveSnapshot 2 (some .int), .instanceMethod yX6_saveSnapshot, .selects RX6 yX6_saveSnapshot yX6_saveSnapshot, .code yX6_restoreSnapshot cX6_restoreSnapshot 2 (some .int), .instanceMethod yX6_restoreSnapshot, .selects RX6 yX6_restoreSnapshot yX6_restoreSnapshot, .code yX6_tardinessByRule cX6_tardinessByRule 2 (some .int), .instanceMethod yX6_tardinessByRule, .selects RX6 yX6_tardinessByRule yX6_tardinessByRule, .code yX6_tardinessByRope cX6_tardinessByRope 2 (some .int), .instanceMethod yX6_tardinessByRope, .selects RX6 yX6_tardinessByRope yX6_tardinessByRope, .code yX6_tardinessIfExpedited cX6_tardinessIfExpedited 2 (some .int), .instanceMethod yX6_tardinessIfExpedited, .selects RX6 yX6_tardinessIfExpedited yX6_tardinessIfExpedited, .code yX6_findProduct cX6_findProduct 2 (some (.object "DrumRope$Product")), .instanceMethod yX6_findProduct, .selects RX6 yX6_findProduct yX6_findProduct, .code yX6_findOrder cX6_findOrder 2 (some (.object "DrumRope$Order")), .instanceMethod yX6_findOrder, .selects RX6 yX6_findOrder yX6_findOrder, .code yX6_findStation cX6_findStation 2 (some (.object "DrumRope$Station")), .instanceMethod yX6_findStation, .selects RX6 yX6_findStation yX6_findStation, .code yX6_checkRange cX6_checkRange 3 none, .static yX6_checkRange, .code yX7_thrown cX7_thrown 1 (some .int), .instanceMethod yX7_thrown, .selects RX7 yX7_thrown yX7_thrown, .initialized RX7, .code yX7_in cX7_in 3 (some .boolean), .static yX7_in, .code yX7_copies cX7_copies 5 none, .static yX7_copies, .code yX7_begins cX7_begins 4 none, .static yX7_begins, .code yX7_station cX7_station 3 (some .int), .instanceMethod yX7_station]
def twr_13 : List Cond := [.selects RX7 yX7_station yX7_station, .code yX7_setsStation cX7_setsStation 4 none, .instanceMethod yX7_setsStation, .selects RX7 yX7_setsStation yX7_setsStation, .code yX7_order cX7_order 3 (some .int), .instanceMethod yX7_order, .selects RX7 yX7_order yX7_order, .code yX7_setsOrder cX7_setsOrder 4 none, .instanceMethod yX7_setsOrder, .selects RX7 yX7_setsOrder yX7_setsOrder, .code yX7_steps cX7_steps 2 (some .int), .static yX7_steps, .code yX7_stepStation cX7_stepStation 3 (some .int), .static yX7_stepStation, .code yX7_stepTime cX7_stepTime 3 (some .int), .static yX7_stepTime, .code yX7_drumStep cX7_drumStep 3 (some .int), .static yX7_drumStep, .code yX7_drumTicks cX7_drumTicks 3 (some .int), .static yX7_drumTicks, .code yX7_laysOrder cX7_laysOrder 6 none, .static yX7_laysOrder, .code yX7_isThrown cX7_isThrown 3 (some .boolean), .instanceMethod yX7_isThrown, .selects RX7 yX7_isThrown yX7_isThrown, .code yX7_isOrder cX7_isOrder 2 (some .boolean), .instanceMethod yX7_isOrder, .selects RX7 yX7_isOrder yX7_isOrder, .code yX7_isProduct cX7_isProduct 2 (some .boolean), .instanceMethod yX7_isProduct, .selects RX7 yX7_isProduct yX7_isProduct, .code yX7_isStation cX7_isStation 2 (some .boolean), .instanceMethod yX7_isStation, .selects RX7 yX7_isStation yX7_isStation, .code yX7_appendByte cX7_appendByte 2 (some .int), .instanceMethod yX7_appendByte, .selects RX7 yX7_appendByte yX7_appendByte, .code yX7_here cX7_here 1 (some .int), .instanceMethod yX7_here, .selects RX7 yX7_here yX7_here, .code yX7_next cX7_next 1 (some .int), .instanceMethod yX7_next, .selects RX7 yX7_next yX7_next, .code yX7_fails cX7_fails 3 none, .instanceMethod yX7_fails, .selects RX7 yX7_fails yX7_fails, .code yX7_reads cX7_reads 1 none, .instanceMethod yX7_reads, .selects RX7 yX7_reads yX7_reads, .code yX7_isWord cX7_isWord 4 (some .boolean), .instanceMethod yX7_isWord, .selects RX7 yX7_isWord yX7_isWord, .code yX7_number cX7_number 4 (some .int), .instanceMethod yX7_number, .selects RX7 yX7_number yX7_number, .code yX7_stepPart cX7_stepPart 7 none, .instanceMethod yX7_stepPart, .selects RX7 yX7_stepPart yX7_stepPart, .code yX7_productPart cX7_productPart 4 none, .instanceMethod yX7_productPart]
def twr_14 : List Cond := [.selects RX7 yX7_productPart yX7_productPart, .code yX7_orderPart cX7_orderPart 4 none, .instanceMethod yX7_orderPart, .selects RX7 yX7_orderPart yX7_orderPart, .code yX7_setupPart cX7_setupPart 2 none, .instanceMethod yX7_setupPart, .selects RX7 yX7_setupPart yX7_setupPart, .code yX7_statement cX7_statement 1 none, .instanceMethod yX7_statement, .selects RX7 yX7_statement yX7_statement, .code yX7_isMore cX7_isMore 1 (some .boolean), .instanceMethod yX7_isMore, .selects RX7 yX7_isMore yX7_isMore, .code yX7_checksOrders cX7_checksOrders 3 none, .instanceMethod yX7_checksOrders, .selects RX7 yX7_checksOrders yX7_checksOrders, .code yX7_load cX7_load 2 (some .int), .instanceMethod yX7_load, .selects RX7 yX7_load yX7_load, .code yX7_loadError cX7_loadError 1 (some .int), .instanceMethod yX7_loadError, .selects RX7 yX7_loadError yX7_loadError, .code yX7_loadStatement cX7_loadStatement 1 (some .int), .instanceMethod yX7_loadStatement, .selects RX7 yX7_loadStatement yX7_loadStatement, .code yX7_stationCount cX7_stationCount 1 (some .int), .instanceMethod yX7_stationCount, .selects RX7 yX7_stationCount yX7_stationCount, .code yX7_productCount cX7_productCount 1 (some .int), .instanceMethod yX7_productCount, .selects RX7 yX7_productCount yX7_productCount, .code yX7_orderCount cX7_orderCount 1 (some .int), .instanceMethod yX7_orderCount, .selects RX7 yX7_orderCount yX7_orderCount, .code yX7_stepCount cX7_stepCount 2 (some .int), .instanceMethod yX7_stepCount, .selects RX7 yX7_stepCount yX7_stepCount, .code yX7_stepAt cX7_stepAt 4 (some .int), .instanceMethod yX7_stepAt, .selects RX7 yX7_stepAt yX7_stepAt, .code yX7_isWork cX7_isWork 3 (some .boolean), .instanceMethod yX7_isWork, .selects RX7 yX7_isWork yX7_isWork, .code yX7_workOf cX7_workOf 5 (some .int), .instanceMethod yX7_workOf, .selects RX7 yX7_workOf yX7_workOf, .code yX7_drumWork cX7_drumWork 3 (some .int), .instanceMethod yX7_drumWork, .selects RX7 yX7_drumWork yX7_drumWork, .code yX7_workAtDrum cX7_workAtDrum 2 (some .int), .instanceMethod yX7_workAtDrum, .selects RX7 yX7_workAtDrum yX7_workAtDrum, .code yX7_isOpen cX7_isOpen 2 (some .boolean), .instanceMethod yX7_isOpen, .selects RX7 yX7_isOpen yX7_isOpen, .code yX7_isBeforeDrum cX7_isBeforeDrum 4 (some .boolean), .instanceMethod yX7_isBeforeDrum, .selects RX7 yX7_isBeforeDrum yX7_isBeforeDrum, .code yX7_isPastDrum cX7_isPastDrum 2 (some .boolean), .instanceMethod yX7_isPastDrum]
def twr_15 : List Cond := [.selects RX7 yX7_isPastDrum yX7_isPastDrum, .code yX7_earliest cX7_earliest 2 (some .int), .instanceMethod yX7_earliest, .selects RX7 yX7_earliest yX7_earliest, .code yX7_laysSchedule cX7_laysSchedule 4 none, .instanceMethod yX7_laysSchedule, .selects RX7 yX7_laysSchedule yX7_laysSchedule, .code yX7_placeOf cX7_placeOf 3 (some .int), .instanceMethod yX7_placeOf, .selects RX7 yX7_placeOf yX7_placeOf, .code yX7_startOf cX7_startOf 3 (some .int), .instanceMethod yX7_startOf, .selects RX7 yX7_startOf yX7_startOf, .code yX7_ropeNow cX7_ropeNow 3 (some .int), .instanceMethod yX7_ropeNow, .selects RX7 yX7_ropeNow yX7_ropeNow, .code yX7_penetrationOf cX7_penetrationOf 5 (some .int), .instanceMethod yX7_penetrationOf, .selects RX7 yX7_penetrationOf yX7_penetrationOf, .code yX7_zoneOf cX7_zoneOf 2 (some .int), .instanceMethod yX7_zoneOf, .selects RX7 yX7_zoneOf yX7_zoneOf, .code yX7_release cX7_release 3 none, .instanceMethod yX7_release, .selects RX7 yX7_release yX7_release, .code yX7_releases cX7_releases 5 none, .instanceMethod yX7_releases, .selects RX7 yX7_releases yX7_releases, .code yX7_waitsAt cX7_waitsAt 3 (some .boolean), .instanceMethod yX7_waitsAt, .selects RX7 yX7_waitsAt yX7_waitsAt, .code yX7_workHere cX7_workHere 2 (some .int), .instanceMethod yX7_workHere, .selects RX7 yX7_workHere yX7_workHere, .code yX7_isUrgent cX7_isUrgent 2 (some .boolean), .instanceMethod yX7_isUrgent, .selects RX7 yX7_isUrgent yX7_isUrgent, .code yX7_worth cX7_worth 2 (some .int), .instanceMethod yX7_worth, .selects RX7 yX7_worth yX7_worth, .code yX7_isBetter cX7_isBetter 3 (some .boolean), .instanceMethod yX7_isBetter, .selects RX7 yX7_isBetter yX7_isBetter, .code yX7_choice cX7_choice 4 (some .int), .instanceMethod yX7_choice, .selects RX7 yX7_choice yX7_choice, .code yX7_isDown cX7_isDown 2 (some .boolean), .instanceMethod yX7_isDown, .selects RX7 yX7_isDown yX7_isDown, .code yX7_begins_ cX7_begins_ 5 none, .instanceMethod yX7_begins_, .selects RX7 yX7_begins_ yX7_begins_, .code yX7_isStarved cX7_isStarved 2 (some .boolean), .instanceMethod yX7_isStarved, .selects RX7 yX7_isStarved yX7_isStarved, .code yX7_works cX7_works 3 none, .instanceMethod yX7_works, .selects RX7 yX7_works yX7_works, .code yX7_finishes cX7_finishes 4 (some .boolean), .instanceMethod yX7_finishes]
def twr_16 : List Cond := [.selects RX7 yX7_finishes yX7_finishes, .code yX7_sees cX7_sees 3 none, .instanceMethod yX7_sees, .selects RX7 yX7_sees yX7_sees, .code yX7_passes cX7_passes 3 (some .int), .instanceMethod yX7_passes, .selects RX7 yX7_passes yX7_passes, .code yX7_now cX7_now 1 (some .int), .instanceMethod yX7_now, .selects RX7 yX7_now yX7_now, .code yX7_advance cX7_advance 4 (some .int), .instanceMethod yX7_advance, .selects RX7 yX7_advance yX7_advance, .code yX7_noAdding cX7_noAdding 3 (some .int), .instanceMethod yX7_noAdding, .selects RX7 yX7_noAdding yX7_noAdding, .code yX7_isNewOrder cX7_isNewOrder 4 (some .boolean), .instanceMethod yX7_isNewOrder, .selects RX7 yX7_isNewOrder yX7_isNewOrder, .code yX7_addOrder cX7_addOrder 5 (some .int), .instanceMethod yX7_addOrder, .selects RX7 yX7_addOrder yX7_addOrder, .code yX7_cancel cX7_cancel 4 (some .int), .instanceMethod yX7_cancel, .selects RX7 yX7_cancel yX7_cancel, .code yX7_setDue cX7_setDue 4 (some .int), .instanceMethod yX7_setDue, .selects RX7 yX7_setDue yX7_setDue, .code yX7_expedite cX7_expedite 4 (some .boolean), .instanceMethod yX7_expedite, .selects RX7 yX7_expedite yX7_expedite, .code yX7_setRule cX7_setRule 3 (some .int), .instanceMethod yX7_setRule, .selects RX7 yX7_setRule yX7_setRule, .code yX7_greatestWaiting cX7_greatestWaiting 3 (some .int), .instanceMethod yX7_greatestWaiting, .selects RX7 yX7_greatestWaiting yX7_greatestWaiting, .code yX7_setRope cX7_setRope 3 (some .int), .instanceMethod yX7_setRope, .selects RX7 yX7_setRope yX7_setRope, .code yX7_rope cX7_rope 1 (some .int), .instanceMethod yX7_rope, .selects RX7 yX7_rope yX7_rope, .code yX7_stop cX7_stop 3 (some .int), .instanceMethod yX7_stop, .selects RX7 yX7_stop yX7_stop, .code yX7_told cX7_told 3 (some .int), .instanceMethod yX7_told, .selects RX7 yX7_told yX7_told, .code yX7_stateOf cX7_stateOf 2 (some .int), .instanceMethod yX7_stateOf, .selects RX7 yX7_stateOf yX7_stateOf, .code yX7_productOf cX7_productOf 2 (some .int), .instanceMethod yX7_productOf, .selects RX7 yX7_productOf yX7_productOf, .code yX7_quantityOf cX7_quantityOf 2 (some .int), .instanceMethod yX7_quantityOf, .selects RX7 yX7_quantityOf yX7_quantityOf, .code yX7_dueOf cX7_dueOf 2 (some .int), .instanceMethod yX7_dueOf]
def twr_17 : List Cond := [.selects RX7 yX7_dueOf yX7_dueOf, .code yX7_stepOf cX7_stepOf 2 (some .int), .instanceMethod yX7_stepOf, .selects RX7 yX7_stepOf yX7_stepOf, .code yX7_isWorkedOn cX7_isWorkedOn 2 (some .boolean), .instanceMethod yX7_isWorkedOn, .selects RX7 yX7_isWorkedOn yX7_isWorkedOn, .code yX7_remaining cX7_remaining 2 (some .int), .instanceMethod yX7_remaining, .selects RX7 yX7_remaining yX7_remaining, .code yX7_releasedAt cX7_releasedAt 2 (some .int), .instanceMethod yX7_releasedAt, .selects RX7 yX7_releasedAt yX7_releasedAt, .code yX7_finishedAt cX7_finishedAt 2 (some .int), .instanceMethod yX7_finishedAt, .selects RX7 yX7_finishedAt yX7_finishedAt, .code yX7_plannedStart cX7_plannedStart 2 (some .int), .instanceMethod yX7_plannedStart, .selects RX7 yX7_plannedStart yX7_plannedStart, .code yX7_scheduleAt cX7_scheduleAt 2 (some .int), .instanceMethod yX7_scheduleAt, .selects RX7 yX7_scheduleAt yX7_scheduleAt, .code yX7_isAtRisk cX7_isAtRisk 3 (some .boolean), .instanceMethod yX7_isAtRisk, .selects RX7 yX7_isAtRisk yX7_isAtRisk, .code yX7_ropeLoad cX7_ropeLoad 1 (some .int), .instanceMethod yX7_ropeLoad, .selects RX7 yX7_ropeLoad yX7_ropeLoad, .code yX7_releaseTime cX7_releaseTime 2 (some .int), .instanceMethod yX7_releaseTime, .selects RX7 yX7_releaseTime yX7_releaseTime, .code yX7_penetration cX7_penetration 2 (some .int), .instanceMethod yX7_penetration, .selects RX7 yX7_penetration yX7_penetration, .code yX7_zone cX7_zone 2 (some .int), .instanceMethod yX7_zone, .selects RX7 yX7_zone yX7_zone, .code yX7_inZone cX7_inZone 4 (some .int), .instanceMethod yX7_inZone, .selects RX7 yX7_inZone yX7_inZone, .code yX7_firstRedAt cX7_firstRedAt 2 (some .int), .instanceMethod yX7_firstRedAt, .selects RX7 yX7_firstRedAt yX7_firstRedAt, .code yX7_flowOf cX7_flowOf 3 (some .int), .instanceMethod yX7_flowOf, .selects RX7 yX7_flowOf yX7_flowOf, .code yX7_flowTime cX7_flowTime 2 (some .int), .instanceMethod yX7_flowTime, .selects RX7 yX7_flowTime yX7_flowTime, .code yX7_meanFlow cX7_meanFlow 4 (some .int), .instanceMethod yX7_meanFlow, .selects RX7 yX7_meanFlow yX7_meanFlow, .code yX7_lateOf cX7_lateOf 3 (some .int), .instanceMethod yX7_lateOf, .selects RX7 yX7_lateOf yX7_lateOf, .code yX7_lateCount cX7_lateCount 3 (some .int), .instanceMethod yX7_lateCount, .selects RX7 yX7_lateCount yX7_lateCount, .code yX7_tardiness cX7_tardiness 3 (some .int), .instanceMethod yX7_tardiness]
def twr_18 : List Cond := [.selects RX7 yX7_tardiness yX7_tardiness, .code yX7_toldOf cX7_toldOf 3 (some .int), .instanceMethod yX7_toldOf, .selects RX7 yX7_toldOf yX7_toldOf, .code yX7_redAt cX7_redAt 2 (some .int), .instanceMethod yX7_redAt, .selects RX7 yX7_redAt yX7_redAt, .code yX7_worstStation cX7_worstStation 4 (some .int), .instanceMethod yX7_worstStation, .selects RX7 yX7_worstStation yX7_worstStation, .code yX7_workingOn cX7_workingOn 2 (some .int), .instanceMethod yX7_workingOn, .selects RX7 yX7_workingOn yX7_workingOn, .code yX7_queueLength cX7_queueLength 4 (some .int), .instanceMethod yX7_queueLength, .selects RX7 yX7_queueLength yX7_queueLength, .code yX7_nextChoice cX7_nextChoice 2 (some .int), .instanceMethod yX7_nextChoice, .selects RX7 yX7_nextChoice yX7_nextChoice, .code yX7_downUntil cX7_downUntil 2 (some .int), .instanceMethod yX7_downUntil, .selects RX7 yX7_downUntil yX7_downUntil, .code yX7_busyTicks cX7_busyTicks 2 (some .int), .instanceMethod yX7_busyTicks, .selects RX7 yX7_busyTicks yX7_busyTicks, .code yX7_setups cX7_setups 2 (some .int), .instanceMethod yX7_setups, .selects RX7 yX7_setups yX7_setups, .code yX7_starvedTicks cX7_starvedTicks 1 (some .int), .instanceMethod yX7_starvedTicks, .selects RX7 yX7_starvedTicks yX7_starvedTicks, .code yX7_loadAt cX7_loadAt 8 (some .int), .instanceMethod yX7_loadAt, .selects RX7 yX7_loadAt yX7_loadAt, .code yX7_loadOf cX7_loadOf 2 (some .int), .instanceMethod yX7_loadOf, .selects RX7 yX7_loadOf yX7_loadOf, .code yX7_bottleneck cX7_bottleneck 3 (some .int), .instanceMethod yX7_bottleneck, .selects RX7 yX7_bottleneck yX7_bottleneck, .code yX7_isFree cX7_isFree 4 (some .boolean), .instanceMethod yX7_isFree, .selects RX7 yX7_isFree yX7_isFree, .code yX7_quote cX7_quote 7 (some .int), .instanceMethod yX7_quote, .selects RX7 yX7_quote yX7_quote, .code yX7_leaves cX7_leaves 1 none, .instanceMethod yX7_leaves, .selects RX7 yX7_leaves yX7_leaves, .code yX7_comesBack cX7_comesBack 1 none, .instanceMethod yX7_comesBack, .selects RX7 yX7_comesBack yX7_comesBack, .code yX7_endOf cX7_endOf 4 (some .int), .instanceMethod yX7_endOf, .selects RX7 yX7_endOf yX7_endOf, .code yX7_finishIfAdded cX7_finishIfAdded 6 (some .int), .instanceMethod yX7_finishIfAdded, .selects RX7 yX7_finishIfAdded yX7_finishIfAdded, .code yX7_finishOf cX7_finishOf 3 (some .int), .instanceMethod yX7_finishOf]
def twr_19 : List Cond := [.selects RX7 yX7_finishOf yX7_finishOf, .code yX7_isAnyOpen cX7_isAnyOpen 2 (some .boolean), .instanceMethod yX7_isAnyOpen, .selects RX7 yX7_isAnyOpen yX7_isAnyOpen, .code yX7_lateAhead cX7_lateAhead 4 (some .int), .instanceMethod yX7_lateAhead, .selects RX7 yX7_lateAhead yX7_lateAhead, .code yX7_lateBy cX7_lateBy 2 (some .int), .instanceMethod yX7_lateBy, .selects RX7 yX7_lateBy yX7_lateBy, .code yX7_tardinessAhead cX7_tardinessAhead 2 (some .int), .instanceMethod yX7_tardinessAhead, .selects RX7 yX7_tardinessAhead yX7_tardinessAhead, .code yX7_bestRule cX7_bestRule 5 (some .int), .instanceMethod yX7_bestRule, .selects RX7 yX7_bestRule yX7_bestRule, .code yX7_lateByRope cX7_lateByRope 2 (some .int), .instanceMethod yX7_lateByRope, .selects RX7 yX7_lateByRope yX7_lateByRope, .code yX7_neededRope cX7_neededRope 3 (some .int), .instanceMethod yX7_neededRope, .selects RX7 yX7_neededRope yX7_neededRope, .code yX7_bestExpedite cX7_bestExpedite 5 (some .int), .instanceMethod yX7_bestExpedite, .selects RX7 yX7_bestExpedite yX7_bestExpedite, .code yX7_saveSnapshot cX7_saveSnapshot 2 (some .int), .instanceMethod yX7_saveSnapshot, .selects RX7 yX7_saveSnapshot yX7_saveSnapshot, .code yX7_restoreSnapshot cX7_restoreSnapshot 2 (some .int), .instanceMethod yX7_restoreSnapshot, .selects RX7 yX7_restoreSnapshot yX7_restoreSnapshot, .code Lib.Math.max.name Lib.Math.max.code 2 (some .int), .static Lib.Math.max.name, .code Lib.Math.min.name Lib.Math.min.code 2 (some .int), .static Lib.Math.min.name, .initialized "java/lang/Math"]
def twr : List Cond := twr_0 ++ (twr_1 ++ (twr_2 ++ (twr_3 ++ (twr_4 ++ (twr_5 ++ (twr_6 ++ (twr_7 ++ (twr_8 ++ (twr_9 ++ (twr_10 ++ (twr_11 ++ (twr_12 ++ (twr_13 ++ (twr_14 ++ (twr_15 ++ (twr_16 ++ (twr_17 ++ (twr_18 ++ (twr_19)))))))))))))))))))
end
section
/-! ===== the tables agree with the bytecode and the words: by program ===== -/
def iOwn (j : Nat) : String := (iIn j).1
def iY (j : Nat) : MethodName := (iIn j).2.1
def iCd (j : Nat) : ByteArray := (iIn j).2.2.1
def iMl (j : Nat) : Nat := (iIn j).2.2.2.1
def iRt (j : Nat) : Option FieldType := (iIn j).2.2.2.2.1
def iNa (j : Nat) : Nat := (iIn j).2.2.2.2.2.1
def iStt (j : Nat) : Bool := (iIn j).2.2.2.2.2.2.1
def iFr (j : Nat) : Nat := (iIn j).2.2.2.2.2.2.2.1
def iLo (j : Nat) : Nat := (iIn j).2.2.2.2.2.2.2.2.1
def iP0 (j : Nat) : Nat := (iIn j).2.2.2.2.2.2.2.2.2.1
def iP1 (j : Nat) : Nat := (iIn j).2.2.2.2.2.2.2.2.2.2.1
def iP2 (j : Nat) : Nat := (iIn j).2.2.2.2.2.2.2.2.2.2.2.1
def iP3 (j : Nat) : Nat := (iIn j).2.2.2.2.2.2.2.2.2.2.2.2.1
def iKd (j : Nat) : Nat := (iIn j).2.2.2.2.2.2.2.2.2.2.2.2.2
abbrev iEn (j : Nat) (as : List iV) : iL := as.map some ++ List.replicate (iMl j - as.length) none
def iCl (k : Nat) : vw_C := vwCl.getD k (RX0, TX0, 14)
def iTerm : Instr → Bool
  | .goto _ => true | .ireturn => true | .areturn => true | .return_ => true | .new _ => true
  | .tableswitch _ _ _ _ => true | .lookupswitch _ _ => true | _ => false
def swOk (pc : Nat) (lo : Int) : List Int → List (Int32 × Nat) → Bool
  | [], [] => true
  | o :: os, (v, t) :: ts => decide (v.toInt = lo) && decide ((pc : Int) + o = (t : Int)) && swOk pc (lo + 1) os ts
  | _, _ => false
def lkOk (pc : Nat) : List (Int × Int) → List (Int32 × Nat) → Bool
  | [], [] => true
  | (k, o) :: os, (v, t) :: ts => decide (v.toInt = k) && decide ((pc : Int) + o = (t : Int)) && lkOk pc os ts
  | _, _ => false
def chk (j : Nat) (e : iE) : Bool :=
  match e with
  | (pc, ins, nx, a, b, c, d, w, v, ts) =>
    decide (decode (iCd j) pc = .ok (ins, nx - pc)) && Nat.ble pc nx &&
    (match ins with
    | .iload_n k => Nat.beq k.val a && Nat.beq nx (pc + 1)
    | .iload k => Nat.beq k a && Nat.beq nx (pc + 2)
    | .aload_n k => Nat.beq k.val a && Nat.beq nx (pc + 1)
    | .aload k => Nat.beq k a && Nat.beq nx (pc + 2)
    | .istore_n k => Nat.beq k.val a && Nat.beq nx (pc + 1)
    | .istore k => Nat.beq k a && Nat.beq nx (pc + 2)
    | .astore_n k => Nat.beq k.val a && Nat.beq nx (pc + 1)
    | .astore k => Nat.beq k a && Nat.beq nx (pc + 2)
    | .iinc k n => Nat.beq k a && decide (Int32.ofInt n = v) && Nat.beq nx (pc + 3)
    | .iconst n => decide (Int32.ofInt n = v) && Nat.beq nx (pc + 1)
    | .bipush n => decide ((Int8.ofInt n).toInt32 = v) && Nat.beq nx (pc + 2)
    | .sipush n => decide ((Int16.ofInt n).toInt32 = v) && Nat.beq nx (pc + 3)
    | .ldc i => Nat.beq nx (pc + 2) && (bif Nat.beq c 0 then decide (twr[w]? = some (.constant (iOwn j) i v)) else (Nat.blt a 8 && decide ((iOwn j, i, a) ∈ strTab)))
    | .ldc_w i => Nat.beq nx (pc + 3) && Nat.beq c 0 && decide (twr[w]? = some (.constant (iOwn j) i v))
    | .iadd => Nat.beq nx (pc + 1)
    | .isub => Nat.beq nx (pc + 1)
    | .imul => Nat.beq nx (pc + 1)
    | .iand => Nat.beq nx (pc + 1)
    | .idiv => Nat.beq nx (pc + 1)
    | .ineg => Nat.beq nx (pc + 1)
    | .i2b => Nat.beq nx (pc + 1)
    | .dup => Nat.beq nx (pc + 1)
    | .dup2 => Nat.beq nx (pc + 1)
    | .pop => Nat.beq nx (pc + 1)
    | .getfield i => Nat.beq nx (pc + 3) && Nat.blt a 8 && Nat.blt b (iCl a).2.2 && decide (twr[w]? = some (.fieldLink (iOwn j) i ((iCl a).2.1 b).1 ((iCl a).2.1 b).2.1 ((iCl a).2.1 b).2.2.1)) && (bif Nat.beq c 0 then Nat.beq (iRk a b) 0 else Nat.beq (iRk a b) (d + 1))
    | .putfield i => Nat.beq nx (pc + 3) && Nat.blt a 8 && Nat.blt b (iCl a).2.2 && decide (twr[w]? = some (.fieldLink (iOwn j) i ((iCl a).2.1 b).1 ((iCl a).2.1 b).2.1 ((iCl a).2.1 b).2.2.1)) && Nat.beq (iRk a b) 0 && decide (((iCl a).2.1 b).2.2.2 = false) && decide (parseFieldDescriptor ((iCl a).2.1 b).2.2.1 = some (bif Nat.beq c 0 then .int else .boolean))
    | .iaload => Nat.beq nx (pc + 1)
    | .baload => Nat.beq nx (pc + 1) && (Nat.beq a 9 || Nat.beq a 10)
    | .aaload => Nat.beq nx (pc + 1) && Nat.ble 12 a && Nat.ble a 15 && Nat.beq d (iEk a)
    | .iastore => Nat.beq nx (pc + 1)
    | .bastore => Nat.beq nx (pc + 1) && (Nat.beq a 9 || Nat.beq a 10)
    | .arraylength => Nat.beq nx (pc + 1) && Nat.ble 8 a && Nat.ble a 15 && !(Nat.beq a 11)
    | .goto o => Nat.beq nx (pc + 3) && decide ((pc : Int) + o = (a : Int))
    | .if_icmp _ o => Nat.beq nx (pc + 3) && decide ((pc : Int) + o = (a : Int))
    | .ifCond _ o => Nat.beq nx (pc + 3) && decide ((pc : Int) + o = (a : Int))
    | .tableswitch df lo hi os => decide ((pc : Int) + df = (a : Int)) && swOk pc lo os.toList ts && decide (hi = lo + (os.toList.length : Int) - 1)
    | .lookupswitch df os => decide ((pc : Int) + df = (a : Int)) && lkOk pc os.toList ts && (os.toList.zip (os.toList.drop 1)).all (fun (a, next) => a.1 < next.1)
    | .invokevirtual i => Nat.beq nx (pc + 3) && (match d with
      | 0 => Nat.blt a nMt && decide (twr[w]? = some (.methodLink (iOwn j) i (iY a))) && !(iStt a) && Nat.beq b (iNa a) && Nat.beq c (iKd a) && Nat.ble (iFr a + 1) (iFr j) && Nat.ble (8 + (iMl a + 11) + iLo a) (iLo j)
      | 1 => decide (twr[w]? = some (.methodLink (iOwn j) i yJ_length)) && Nat.ble 5 (iFr j) && Nat.ble 120 (iLo j)
      | 2 => decide (twr[w]? = some (.methodLink (iOwn j) i yJ_charAt)) && Nat.ble 5 (iFr j) && Nat.ble 120 (iLo j)
      | _ => false)
    | .invokestatic i => Nat.beq nx (pc + 3) && (match d with
      | 0 => Nat.blt a nMt && decide (twr[w]? = some (.methodLink (iOwn j) i (iY a))) && iStt a && decide (iOwn a = iOwn j) && Nat.beq b (iNa a) && Nat.ble (iFr a + 1) (iFr j) && Nat.ble (8 + (iMl a + 11) + iLo a) (iLo j)
      | 1 => decide (twr[w]? = some (.methodLink (iOwn j) i Lib.Math.max.name)) && Nat.ble 1 (iFr j) && Nat.ble 21 (iLo j)
      | 2 => decide (twr[w]? = some (.methodLink (iOwn j) i Lib.Math.min.name)) && Nat.ble 1 (iFr j) && Nat.ble 21 (iLo j)
      | _ => false)
    | .ireturn => Nat.beq nx (pc + 1) && decide (iRt j = some (bif Nat.beq c 0 then .int else .boolean))
    | .areturn => Nat.beq nx (pc + 1) && (match iRt j with | some (.object _) => true | _ => false)
    | .return_ => Nat.beq nx (pc + 1) && decide (iRt j = none)
    | .new _ => true
    | _ => false)
def chn : List iE → Bool
  | [] => true
  | [_] => true
  | e :: e' :: t => (Nat.beq e.2.2.1 e'.1 || iTerm e.2.1) && chn (e' :: t)
def chkM (j : Nat) : Bool :=
  decide (twr[iP0 j]? = some (.code (iY j) (iCd j) (iMl j) (iRt j))) &&
  decide (twr[iP1 j]? = some (bif iStt j then .static (iY j) else .instanceMethod (iY j))) &&
  (iStt j || decide (twr[iP2 j]? = some (.selects (iOwn j) (iY j) (iY j)))) &&
  decide (twr[iP3 j]? = some (.initialized (iOwn j))) &&
  decide ((iY j).cls = iOwn j) && Nat.blt (iKd j) 8 && decide ((iCl (iKd j)).1 = iOwn j) && plainName (iOwn j) &&
  decide (iOwn j ≠ "java/lang/invoke/MethodHandle" ∧ iOwn j ≠ "java/lang/invoke/VarHandle") &&
  decide ((parseMethodDescriptor (iY j).desc).map (fun d => d.parameters.length) = some (bif iStt j then iNa j else iNa j - 1)) && Nat.ble (bif iStt j then 0 else 1) (iNa j) && Nat.ble (iNa j) (iMl j) &&
  (iTb j).all (chk j) && chn (iTb j) && (match iTb j with | e :: _ => Nat.beq e.1 0 | [] => false)
end
section
set_option maxRecDepth 100000 in
theorem ckc_0 : ((List.range' 0 25).all chkM) = true := by decide +kernel
set_option maxRecDepth 100000 in
theorem ckc_1 : ((List.range' 25 25).all chkM) = true := by decide +kernel
set_option maxRecDepth 100000 in
theorem ckc_2 : ((List.range' 50 25).all chkM) = true := by decide +kernel
set_option maxRecDepth 100000 in
theorem ckc_3 : ((List.range' 75 25).all chkM) = true := by decide +kernel
set_option maxRecDepth 100000 in
theorem ckc_4 : ((List.range' 100 25).all chkM) = true := by decide +kernel
set_option maxRecDepth 100000 in
theorem ckc_5 : ((List.range' 125 25).all chkM) = true := by decide +kernel
set_option maxRecDepth 100000 in
theorem ckc_6 : ((List.range' 150 25).all chkM) = true := by decide +kernel
set_option maxRecDepth 100000 in
theorem ckc_7 : ((List.range' 175 25).all chkM) = true := by decide +kernel
set_option maxRecDepth 100000 in
theorem ckc_8 : ((List.range' 200 25).all chkM) = true := by decide +kernel
set_option maxRecDepth 100000 in
theorem ckc_9 : ((List.range' 225 25).all chkM) = true := by decide +kernel
set_option maxRecDepth 100000 in
theorem ckc_10 : ((List.range' 250 25).all chkM) = true := by decide +kernel
theorem ck_in {a n j : Nat} (h : ((List.range' a n).all chkM) = true) (h1 : a ≤ j) (h2 : j < a + n) : chkM j = true := List.all_eq_true.mp h j (List.mem_range'_1.mpr ⟨h1, h2⟩)
theorem ck_all (j : Nat) (h : j < nMt) : chkM j = true := by
  have h : j < 275 := h
  by_cases h0 : j < 25
  · exact ck_in ckc_0 (by omega) (by omega)
  by_cases h1 : j < 50
  · exact ck_in ckc_1 (by omega) (by omega)
  by_cases h2 : j < 75
  · exact ck_in ckc_2 (by omega) (by omega)
  by_cases h3 : j < 100
  · exact ck_in ckc_3 (by omega) (by omega)
  by_cases h4 : j < 125
  · exact ck_in ckc_4 (by omega) (by omega)
  by_cases h5 : j < 150
  · exact ck_in ckc_5 (by omega) (by omega)
  by_cases h6 : j < 175
  · exact ck_in ckc_6 (by omega) (by omega)
  by_cases h7 : j < 200
  · exact ck_in ckc_7 (by omega) (by omega)
  by_cases h8 : j < 225
  · exact ck_in ckc_8 (by omega) (by omega)
  by_cases h9 : j < 250
  · exact ck_in ckc_9 (by omega) (by omega)
  exact ck_in ckc_10 (by omega) (by omega)
end
section
/-! ===== the rules: how a run of the interpreter is shown ===== -/
def At (j pc : Nat) (L : iL) (S : iS) (σ : iM) (r : iRes) : Prop := ∃ n, run iTb iEn n j pc L S σ = some r
/-- a whole method -/
abbrev Ev (j : Nat) (as : List iV) (σ : iM) (r : iRes) : Prop := At j 0 (iEn j as) [] σ r
section
variable {j pc t t1 t2 : Nat} {L L' : iL} {S S' : iS} {σ σ' σ1 : iM} {r : iRes} {c : Prop}
theorem At.J (h : blk (sfx (iTb j) pc) L S σ = evJ t L' S' σ') (k : At j t L' S' σ' r) : At j pc L S σ r := by
  obtain ⟨n, hn⟩ := k
  exact ⟨n + 1, by rw [run_succ]; unfold rst; rw [h]; exact hn⟩
/-- straight on: both places come to the same -/
theorem At.F (t : Nat) (L' : iL) (S' : iS) (σ' : iM) (h : blk (sfx (iTb j) pc) L S σ = blk (sfx (iTb j) t) L' S' σ') (k : At j t L' S' σ' r) : At j pc L S σ r := by
  obtain ⟨n, hn⟩ := k
  cases n with
  | zero => cases hn
  | succ n => exact ⟨n + 1, by rw [run_succ] at hn ⊢; unfold rst at hn ⊢; rw [h]; exact hn⟩
theorem At.B (h : blk (sfx (iTb j) pc) L S σ = evB c t1 t2 L' S' σ') (k1 : c → At j t1 L' S' σ' r) (k2 : ¬ c → At j t2 L' S' σ' r) : At j pc L S σ r := by
  by_cases hc : c
  · obtain ⟨n, hn⟩ := k1 hc
    exact ⟨n + 1, by rw [run_succ]; unfold rst; rw [h]; simp only [if_pos hc]; exact hn⟩
  · obtain ⟨n, hn⟩ := k2 hc
    exact ⟨n + 1, by rw [run_succ]; unfold rst; rw [h]; simp only [if_neg hc]; exact hn⟩
/-- a branch whose side is known -/
theorem At.Bt (h : blk (sfx (iTb j) pc) L S σ = evB c t1 t2 L' S' σ') (hc : c) (k1 : At j t1 L' S' σ' r) : At j pc L S σ r := At.B h (fun _ => k1) (fun h => absurd hc h)
theorem At.Bf (h : blk (sfx (iTb j) pc) L S σ = evB c t1 t2 L' S' σ') (hc : ¬ c) (k2 : At j t2 L' S' σ' r) : At j pc L S σ r := At.B h (fun h => absurd h hc) (fun _ => k2)
theorem At.N (h : blk (sfx (iTb j) pc) L S σ = evN c t L' S' σ') (hc : c) (k : At j t L' S' σ' r) : At j pc L S σ r := by
  obtain ⟨n, hn⟩ := k
  exact ⟨n + 1, by rw [run_succ]; unfold rst; rw [h]; simp only [if_pos hc]; exact hn⟩
theorem At.C {m : Nat} {as : List iV} {v : Option iV} (h : blk (sfx (iTb j) pc) L S σ = evC m as t L' S' σ') (hv : vokO v) (hm : Ev m as σ' (.inl v, σ1)) (k : At j t L' (v.toList ++ S') σ1 r) : At j pc L S σ r := by
  obtain ⟨n, hn⟩ := hm
  obtain ⟨n2, hn2⟩ := k
  refine ⟨(n + n2) + 1, ?_⟩
  rw [run_succ]
  unfold rst
  rw [h]
  simp only [run_le iTb iEn (show n ≤ n + n2 by omega) hn, if_pos hv]
  exact run_le iTb iEn (by omega) hn2
theorem At.Ci {m : Nat} {as : List iV} {v : Int32} (h : blk (sfx (iTb j) pc) L S σ = evC m as t L' S' σ') (hm : Ev m as σ' (.inl (some (.inl v)), σ1)) (k : At j t L' (.inl v :: S') σ1 r) : At j pc L S σ r := At.C (v := some (.inl v)) h trivial hm k
theorem At.Cr {m : Nat} {as : List iV} {v w : Nat} (h : blk (sfx (iTb j) pc) L S σ = evC m as t L' S' σ') (hm : Ev m as σ' (.inl (some (.inr (v, w))), σ1)) (hv : w < iCnt v) (k : At j t L' (.inr (v, w) :: S') σ1 r) : At j pc L S σ r := At.C (v := some (.inr (v, w))) h hv hm k
theorem At.Cv {m : Nat} {as : List iV} (h : blk (sfx (iTb j) pc) L S σ = evC m as t L' S' σ') (hm : Ev m as σ' (.inl none, σ1)) (k : At j t L' S' σ1 r) : At j pc L S σ r := At.C (v := none) h trivial hm k
theorem At.X {m x : Nat} {as : List iV} (h : blk (sfx (iTb j) pc) L S σ = evC m as t L' S' σ') (hm : Ev m as σ' (.inr x, σ1)) : At j pc L S σ (.inr x, σ1) := by
  obtain ⟨n, hn⟩ := hm
  refine ⟨n + 1, ?_⟩
  rw [run_succ]
  unfold rst
  rw [h]
  simp only [hn]
theorem At.R {v : Option iV} (h : blk (sfx (iTb j) pc) L S σ = evR v σ') : At j pc L S σ (.inl v, σ') := ⟨1, by rw [run_succ]; unfold rst; rw [h]⟩
theorem At.Z {v : Int32} (h : blk (sfx (iTb j) pc) L S σ = evZ v σ') (hv : v = 0 ∨ v = 1) : At j pc L S σ (.inl (some (.inl v)), σ') := ⟨1, by rw [run_succ]; unfold rst; rw [h]; simp only [if_pos hv]⟩
theorem At.Sw {x : Int32} {ts : List (Int32 × Nat)} (h : blk (sfx (iTb j) pc) L S σ = evS x ts t L' S' σ') (k : At j (swT x ts t) L' S' σ' r) : At j pc L S σ r := by
  obtain ⟨n, hn⟩ := k
  exact ⟨n + 1, by rw [run_succ]; unfold rst; rw [h]; exact hn⟩
theorem At.T {k : Nat} (h : blk (sfx (iTb j) pc) L S σ = evT k σ') : At j pc L S σ (.inr k, σ') := ⟨1, by rw [run_succ]; unfold rst; rw [h]⟩
end
end
section
/-! the numbers of the methods -/
abbrev mX0_clear : Nat := 0
abbrev mX0_copyFrom : Nat := 1
abbrev mX0_isOpen : Nat := 2
abbrev mX0_latenessAt : Nat := 3
abbrev mX0_flowUntil : Nat := 4
abbrev mX1_clear : Nat := 5
abbrev mX1_copyFrom : Nat := 6
abbrev mX1_timeOfPiece : Nat := 7
abbrev mX1_drumTime : Nat := 8
abbrev mX2_append : Nat := 9
abbrev mX2_readInto : Nat := 10
abbrev mX2_rewind : Nat := 11
abbrev mX2_readStatement : Nat := 12
abbrev mX2_readStations : Nat := 13
abbrev mX2_readSetting : Nat := 14
abbrev mX2_readSetup : Nat := 15
abbrev mX2_readProduct : Nat := 16
abbrev mX2_readStep : Nat := 17
abbrev mX2_readOrder : Nat := 18
abbrev mX2_checkDrumWorks : Nat := 19
abbrev mX2_readNumber : Nat := 20
abbrev mX2_fail : Nat := 21
abbrev mX2_skipSpaces : Nat := 22
abbrev mX2_isDigit : Nat := 23
abbrev mX2_isLetter : Nat := 24
abbrev mX2_isWord : Nat := 25
abbrev mX3_make : Nat := 26
abbrev mX3_collectByDue : Nat := 27
abbrev mX3_planBackward : Nat := 28
abbrev mX3_planForward : Nat := 29
abbrev mX3_firstFit : Nat := 30
abbrev mX4_clear : Nat := 31
abbrev mX4_copyFrom : Nat := 32
abbrev mX4_enter : Nat := 33
abbrev mX4_countInState : Nat := 34
abbrev mX4_greatestWorkNotReleased : Nat := 35
abbrev mX4_drumFreeAt : Nat := 36
abbrev mX4_scheduledStart : Nat := 37
abbrev mX4_hasToPassDrum : Nat := 38
abbrev mX4_releasedWork : Nat := 39
abbrev mX4_penetrationOf : Nat := 40
abbrev mX4_zoneOf : Nat := 41
abbrev mX4_isRedOrBlack : Nat := 42
abbrev mX4_stationOf : Nat := 43
abbrev mX4_workOfStep : Nat := 44
abbrev mX4_waitsAt : Nat := 45
abbrev mX4_choiceAt : Nat := 46
abbrev mX4_keyByRule : Nat := 47
abbrev mX4_workAheadOf : Nat := 48
abbrev mX4_workAheadOf_ : Nat := 49
abbrev mX4_tardinessIfEndedNow : Nat := 50
abbrev mX4_pass : Nat := 51
abbrev mX4_quietTicks : Nat := 52
abbrev mX4_ticksWithoutRelease : Nat := 53
abbrev mX4_releaseOrders : Nat := 54
abbrev mX4_arrive : Nat := 55
abbrev mX4_beginSteps : Nat := 56
abbrev mX4_beginStep : Nat := 57
abbrev mX4_work : Nat := 58
abbrev mX4_isStarved : Nat := 59
abbrev mX4_finishSteps : Nat := 60
abbrev mX4_leaveStation : Nat := 61
abbrev mX4_markReds : Nat := 62
abbrev mX5_clear : Nat := 63
abbrev mX5_copyFrom : Nat := 64
abbrev mX5_isDown : Nat := 65
abbrev mX5_isWorking : Nat := 66
abbrev mX5_isIdle : Nat := 67
abbrev mX6_appendByte : Nat := 68
abbrev mX6_load : Nat := 69
abbrev mX6_loadError : Nat := 70
abbrev mX6_loadStatement : Nat := 71
abbrev mX6_stationCount : Nat := 72
abbrev mX6_productCount : Nat := 73
abbrev mX6_orderCount : Nat := 74
abbrev mX6_stepCount : Nat := 75
abbrev mX6_stepAt : Nat := 76
abbrev mX6_workOf : Nat := 77
abbrev mX6_drumWork : Nat := 78
abbrev mX6_now : Nat := 79
abbrev mX6_advance : Nat := 80
abbrev mX6_addOrder : Nat := 81
abbrev mX6_cancel : Nat := 82
abbrev mX6_setDue : Nat := 83
abbrev mX6_expedite : Nat := 84
abbrev mX6_setRule : Nat := 85
abbrev mX6_setRope : Nat := 86
abbrev mX6_rope : Nat := 87
abbrev mX6_stop : Nat := 88
abbrev mX6_stateOf : Nat := 89
abbrev mX6_productOf : Nat := 90
abbrev mX6_quantityOf : Nat := 91
abbrev mX6_dueOf : Nat := 92
abbrev mX6_stepOf : Nat := 93
abbrev mX6_isWorkedOn : Nat := 94
abbrev mX6_remaining : Nat := 95
abbrev mX6_releasedAt : Nat := 96
abbrev mX6_finishedAt : Nat := 97
abbrev mX6_plannedStart : Nat := 98
abbrev mX6_scheduleAt : Nat := 99
abbrev mX6_isAtRisk : Nat := 100
abbrev mX6_ropeLoad : Nat := 101
abbrev mX6_releaseTime : Nat := 102
abbrev mX6_penetration : Nat := 103
abbrev mX6_zone : Nat := 104
abbrev mX6_inZone : Nat := 105
abbrev mX6_redAt : Nat := 106
abbrev mX6_worstStation : Nat := 107
abbrev mX6_workingOn : Nat := 108
abbrev mX6_queueLength : Nat := 109
abbrev mX6_nextChoice : Nat := 110
abbrev mX6_downUntil : Nat := 111
abbrev mX6_busyTicks : Nat := 112
abbrev mX6_setups : Nat := 113
abbrev mX6_starvedTicks : Nat := 114
abbrev mX6_lateCount : Nat := 115
abbrev mX6_tardiness : Nat := 116
abbrev mX6_quote : Nat := 117
abbrev mX6_finishIfAdded : Nat := 118
abbrev mX6_finishOf : Nat := 119
abbrev mX6_tardinessAhead : Nat := 120
abbrev mX6_bestRule : Nat := 121
abbrev mX6_neededRope : Nat := 122
abbrev mX6_firstRedAt : Nat := 123
abbrev mX6_flowTime : Nat := 124
abbrev mX6_meanFlow : Nat := 125
abbrev mX6_loadOf : Nat := 126
abbrev mX6_bottleneck : Nat := 127
abbrev mX6_bestExpedite : Nat := 128
abbrev mX6_saveSnapshot : Nat := 129
abbrev mX6_restoreSnapshot : Nat := 130
abbrev mX6_tardinessByRule : Nat := 131
abbrev mX6_tardinessByRope : Nat := 132
abbrev mX6_tardinessIfExpedited : Nat := 133
abbrev mX6_findProduct : Nat := 134
abbrev mX6_findOrder : Nat := 135
abbrev mX6_findStation : Nat := 136
abbrev mX6_checkRange : Nat := 137
abbrev mX7_thrown : Nat := 138
abbrev mX7_in : Nat := 139
abbrev mX7_copies : Nat := 140
abbrev mX7_begins : Nat := 141
abbrev mX7_station : Nat := 142
abbrev mX7_setsStation : Nat := 143
abbrev mX7_order : Nat := 144
abbrev mX7_setsOrder : Nat := 145
abbrev mX7_steps : Nat := 146
abbrev mX7_stepStation : Nat := 147
abbrev mX7_stepTime : Nat := 148
abbrev mX7_drumStep : Nat := 149
abbrev mX7_drumTicks : Nat := 150
abbrev mX7_laysOrder : Nat := 151
abbrev mX7_isThrown : Nat := 152
abbrev mX7_isOrder : Nat := 153
abbrev mX7_isProduct : Nat := 154
abbrev mX7_isStation : Nat := 155
abbrev mX7_appendByte : Nat := 156
abbrev mX7_here : Nat := 157
abbrev mX7_next : Nat := 158
abbrev mX7_fails : Nat := 159
abbrev mX7_reads : Nat := 160
abbrev mX7_isWord : Nat := 161
abbrev mX7_number : Nat := 162
abbrev mX7_stepPart : Nat := 163
abbrev mX7_productPart : Nat := 164
abbrev mX7_orderPart : Nat := 165
abbrev mX7_setupPart : Nat := 166
abbrev mX7_statement : Nat := 167
abbrev mX7_isMore : Nat := 168
abbrev mX7_checksOrders : Nat := 169
abbrev mX7_load : Nat := 170
abbrev mX7_loadError : Nat := 171
abbrev mX7_loadStatement : Nat := 172
abbrev mX7_stationCount : Nat := 173
abbrev mX7_productCount : Nat := 174
abbrev mX7_orderCount : Nat := 175
abbrev mX7_stepCount : Nat := 176
abbrev mX7_stepAt : Nat := 177
abbrev mX7_isWork : Nat := 178
abbrev mX7_workOf : Nat := 179
abbrev mX7_drumWork : Nat := 180
abbrev mX7_workAtDrum : Nat := 181
abbrev mX7_isOpen : Nat := 182
abbrev mX7_isBeforeDrum : Nat := 183
abbrev mX7_isPastDrum : Nat := 184
abbrev mX7_earliest : Nat := 185
abbrev mX7_laysSchedule : Nat := 186
abbrev mX7_placeOf : Nat := 187
abbrev mX7_startOf : Nat := 188
abbrev mX7_ropeNow : Nat := 189
abbrev mX7_penetrationOf : Nat := 190
abbrev mX7_zoneOf : Nat := 191
abbrev mX7_release : Nat := 192
abbrev mX7_releases : Nat := 193
abbrev mX7_waitsAt : Nat := 194
abbrev mX7_workHere : Nat := 195
abbrev mX7_isUrgent : Nat := 196
abbrev mX7_worth : Nat := 197
abbrev mX7_isBetter : Nat := 198
abbrev mX7_choice : Nat := 199
abbrev mX7_isDown : Nat := 200
abbrev mX7_begins_ : Nat := 201
abbrev mX7_isStarved : Nat := 202
abbrev mX7_works : Nat := 203
abbrev mX7_finishes : Nat := 204
abbrev mX7_sees : Nat := 205
abbrev mX7_passes : Nat := 206
abbrev mX7_now : Nat := 207
abbrev mX7_advance : Nat := 208
abbrev mX7_noAdding : Nat := 209
abbrev mX7_isNewOrder : Nat := 210
abbrev mX7_addOrder : Nat := 211
abbrev mX7_cancel : Nat := 212
abbrev mX7_setDue : Nat := 213
abbrev mX7_expedite : Nat := 214
abbrev mX7_setRule : Nat := 215
abbrev mX7_greatestWaiting : Nat := 216
abbrev mX7_setRope : Nat := 217
abbrev mX7_rope : Nat := 218
abbrev mX7_stop : Nat := 219
abbrev mX7_told : Nat := 220
abbrev mX7_stateOf : Nat := 221
abbrev mX7_productOf : Nat := 222
abbrev mX7_quantityOf : Nat := 223
abbrev mX7_dueOf : Nat := 224
abbrev mX7_stepOf : Nat := 225
abbrev mX7_isWorkedOn : Nat := 226
abbrev mX7_remaining : Nat := 227
abbrev mX7_releasedAt : Nat := 228
abbrev mX7_finishedAt : Nat := 229
abbrev mX7_plannedStart : Nat := 230
abbrev mX7_scheduleAt : Nat := 231
abbrev mX7_isAtRisk : Nat := 232
abbrev mX7_ropeLoad : Nat := 233
abbrev mX7_releaseTime : Nat := 234
abbrev mX7_penetration : Nat := 235
abbrev mX7_zone : Nat := 236
abbrev mX7_inZone : Nat := 237
abbrev mX7_firstRedAt : Nat := 238
abbrev mX7_flowOf : Nat := 239
abbrev mX7_flowTime : Nat := 240
abbrev mX7_meanFlow : Nat := 241
abbrev mX7_lateOf : Nat := 242
abbrev mX7_lateCount : Nat := 243
abbrev mX7_tardiness : Nat := 244
abbrev mX7_toldOf : Nat := 245
abbrev mX7_redAt : Nat := 246
abbrev mX7_worstStation : Nat := 247
abbrev mX7_workingOn : Nat := 248
abbrev mX7_queueLength : Nat := 249
abbrev mX7_nextChoice : Nat := 250
abbrev mX7_downUntil : Nat := 251
abbrev mX7_busyTicks : Nat := 252
abbrev mX7_setups : Nat := 253
abbrev mX7_starvedTicks : Nat := 254
abbrev mX7_loadAt : Nat := 255
abbrev mX7_loadOf : Nat := 256
abbrev mX7_bottleneck : Nat := 257
abbrev mX7_isFree : Nat := 258
abbrev mX7_quote : Nat := 259
abbrev mX7_leaves : Nat := 260
abbrev mX7_comesBack : Nat := 261
abbrev mX7_endOf : Nat := 262
abbrev mX7_finishIfAdded : Nat := 263
abbrev mX7_finishOf : Nat := 264
abbrev mX7_isAnyOpen : Nat := 265
abbrev mX7_lateAhead : Nat := 266
abbrev mX7_lateBy : Nat := 267
abbrev mX7_tardinessAhead : Nat := 268
abbrev mX7_bestRule : Nat := 269
abbrev mX7_lateByRope : Nat := 270
abbrev mX7_neededRope : Nat := 271
abbrev mX7_bestExpedite : Nat := 272
abbrev mX7_saveSnapshot : Nat := 273
abbrev mX7_restoreSnapshot : Nat := 274
end
section
/-! ===== the world: where the cells lie, what they hold ===== -/
def emb (ad : Nat → Nat → Nat) (v : iV) : Value := match v with
  | .inl x => .int x
  | .inr q => .ref (ad q.1 q.2)
theorem emb_cat (ad : Nat → Nat → Nat) (v : iV) : (emb ad v).category = 1 := by cases v <;> rfl
theorem cat_sum (ad : Nat → Nat → Nat) (S : iS) : ((S.map (emb ad)).map fun v => v.category).sum = S.length := by
  induction S with
  | nil => rfl
  | cons v S ih => simp only [List.map_cons, List.sum_cons, List.length_cons, emb_cat, ih]; omega
def prs (ad : Nat → Nat → Nat) (L : iL) : List (Nat × Value) := (List.range L.length).filterMap (fun i => match L[i]? with | some (some v) => some (i, emb ad v) | _ => none)
theorem prs_mem {ad : Nat → Nat → Nat} {L : iL} {i : Nat} {w : Value} : (i, w) ∈ prs ad L ↔ ∃ v, L[i]? = some (some v) ∧ w = emb ad v := by
  unfold prs
  rw [List.mem_filterMap]
  constructor
  · rintro ⟨k, -, hk⟩
    split at hk
    · rename_i v hv
      cases hk
      exact ⟨v, hv, rfl⟩
    · cases hk
  · rintro ⟨v, hv, rfl⟩
    exact ⟨i, List.mem_range.mpr (List.getElem?_eq_some_iff.mp hv).1, by rw [hv]⟩
def LR (ad : Nat → Nat → Nat) (ls : Array Slot) (L : iL) : Prop := lv_has ls L.length (prs ad L)
theorem LR.at {ad : Nat → Nat → Nat} {ls : Array Slot} {L : iL} (h : LR ad ls L) {i : Nat} {v : iV} (hi : L[i]? = some (some v)) : ls[i]? = some (.val (emb ad v)) := h.2.2 (i, emb ad v) (prs_mem.mpr ⟨v, hi, rfl⟩)
theorem LR.set {ad : Nat → Nat → Nat} {ls' : Array Slot} {L : iL} {i : Nat} {v : iV} {x : Value} (hx : x = emb ad v) (hi : i < L.length) (h : lv_has ls' L.length ((i, x) :: (prs ad L).filter (fun q => !(q.1 == i) && !(q.1 + 1 == i && q.2.category == 2)))) : LR ad ls' (L.set i (some v)) := by
  subst hx
  refine ⟨by rw [h.1, List.length_set], h.2.1, fun q hq => ?_⟩
  obtain ⟨n, w⟩ := q
  obtain ⟨u, hu, rfl⟩ := prs_mem.mp hq
  by_cases hn : n = i
  · subst hn
    rw [List.getElem?_set_self hi] at hu
    cases hu
    exact h.2.2 _ List.mem_cons_self
  · rw [List.getElem?_set_ne (Ne.symm hn)] at hu
    refine h.2.2 (n, emb ad u) (List.mem_cons_of_mem _ (List.mem_filter.mpr ⟨prs_mem.mpr ⟨u, hu, rfl⟩, ?_⟩))
    simp [hn, emb_cat]
theorem LR.len {ad : Nat → Nat → Nat} {ls : Array Slot} {L : iL} (h : LR ad ls L) : ls.size = L.length := h.1
theorem lv_args_mem (ad : Nat → Nat → Nat) : ∀ (as : List iV) (b i : Nat) (v : iV), as[i]? = some v → (b + i, emb ad v) ∈ lv_args b (as.map (emb ad)) := by
  intro as
  induction as with
  | nil => intro b i v h; simp at h
  | cons a as ih =>
    intro b i v h
    rw [List.map_cons, lv_args]
    cases i with
    | zero => simp at h; subst h; exact List.mem_cons_self
    | succ i =>
      rw [List.getElem?_cons_succ] at h
      have h2 := ih (b + 1) i v h
      rw [emb_cat, if_neg (by decide)]
      rw [show b + (i + 1) = b + 1 + i by omega]
      exact List.mem_cons_of_mem _ h2
theorem sl_len (ad : Nat → Nat → Nat) (as : List iV) : (lg_sl (as.map (emb ad))).length = as.length := by
  unfold lg_sl
  induction as with
  | nil => rfl
  | cons a as ih =>
    rw [List.map_cons, List.flatMap_cons, List.length_append, ih, List.length_cons]
    cases a <;> (simp [emb, Value.category]; omega)
theorem LR.entry (ad : Nat → Nat → Nat) (as : List iV) (n : Nat) (h : as.length ≤ n) : LR ad ((lg_sl (as.map (emb ad)) ++ List.replicate (n - (lg_sl (as.map (emb ad))).length) Slot.unset).toArray) (as.map some ++ List.replicate (n - as.length) none) := by
  have h0 := lv_entry (as.map (emb ad)) (n := n) (by rw [sl_len]; exact h)
  refine ⟨by rw [h0.1]; simp; omega, h0.2.1, fun q hq => ?_⟩
  obtain ⟨i, w⟩ := q
  obtain ⟨v, hv, rfl⟩ := prs_mem.mp hq
  have hi : as[i]? = some v := by
    by_cases hl : i < as.length
    · rw [List.getElem?_append_left (by simpa using hl), List.getElem?_map] at hv
      cases ha : as[i]? with
      | none => rw [ha] at hv; cases hv
      | some a => rw [ha] at hv; simpa using hv
    · rw [List.getElem?_append_right (by simpa using hl)] at hv
      have := List.mem_replicate.mp (List.mem_of_getElem? hv)
      cases this.2
  have := lv_args_mem ad as 0 i v hi
  rw [Nat.zero_add] at this
  exact h0.2.2 _ this
/-- what a field holds -/
def wV (ad : Nat → Nat → Nat) (σ : iM) (k i s : Nat) : Value := if iRk k s = 0 then .int (σ k i s) else .ref (ad (iRk k s - 1) (rfK k i s id))
/-- a cell -/
def wE (ad : Nat → Nat → Nat) (cy : Nat → ClassId) (σ : iM) (k i : Nat) : va_E :=
  if k < 8 then .inr (k, (List.range (iCl k).2.2).map (wV ad σ k i)) else if k < 12 then .inl (cy k, iN k i, .inl (fun n => σ k i n))
  else .inl (cy k, iN k i, .inr (.inr (.inr (.inr (fun n => some (ad (iEk k) (raK k i n id)))))))
def iAll : List (Nat × Nat) := (List.range 16).flatMap (fun k => (List.range (iCnt k)).map (fun i => (k, i)))
theorem iAll_nd : iAll.Nodup := by decide +kernel
theorem iAll_mem {k i : Nat} : (k, i) ∈ iAll ↔ k < 16 ∧ i < iCnt k := by
  unfold iAll
  rw [List.mem_flatMap]
  constructor
  · rintro ⟨a, ha, h⟩
    obtain ⟨b, hb, h2⟩ := List.mem_map.mp h
    cases h2
    exact ⟨List.mem_range.mp ha, List.mem_range.mp hb⟩
  · rintro ⟨h1, h2⟩
    exact ⟨k, List.mem_range.mpr h1, List.mem_map.mpr ⟨i, List.mem_range.mpr h2, rfl⟩⟩
def wW (ad : Nat → Nat → Nat) (cy : Nat → ClassId) (σ : iM) : va_W := iAll.map (fun q => (ad q.1 q.2, wE ad cy σ q.1 q.2))
def wT (cy : Nat → ClassId) : List (ClassId × FieldType) := [(cy 8, .int), (cy 9, .byte), (cy 10, .boolean), (cy 12, .object RX0), (cy 13, .object RX1), (cy 14, .object RX4), (cy 15, .object RX5)]
def wA (ad : Nat → Nat → Nat) : Nat → Prop := fun q => ∃ k i, k < 16 ∧ i < iCnt k ∧ q = ad k i
/-- no two cells lie at one place -/
def wI (ad : Nat → Nat → Nat) : Prop := ∀ k i k' i', k < 16 → i < iCnt k → k' < 16 → i' < iCnt k' → ad k i = ad k' i' → k = k' ∧ i = i'
theorem wW_get {ad : Nat → Nat → Nat} {cy : Nat → ClassId} {σ : iM} {k i : Nat} (hk : k < 16) (hi : i < iCnt k) : ∃ q0 : Nat, (wW ad cy σ)[q0]? = some (ad k i, wE ad cy σ k i) := by
  obtain ⟨q, hq⟩ := List.getElem?_of_mem (iAll_mem.mpr ⟨hk, hi⟩)
  exact ⟨q, by unfold wW; rw [List.getElem?_map, hq]; rfl⟩
theorem wW_at {ad : Nat → Nat → Nat} {cy : Nat → ClassId} {σ : iM} {n : Nat} {q : Nat × va_E} (h : (wW ad cy σ)[n]? = some q) : ∃ k i, iAll[n]? = some (k, i) ∧ k < 16 ∧ i < iCnt k ∧ q = (ad k i, wE ad cy σ k i) := by
  unfold wW at h
  rw [List.getElem?_map] at h
  cases ha : iAll[n]? with
  | none => rw [ha] at h; cases h
  | some a =>
    rw [ha] at h
    obtain ⟨k, i⟩ := a
    have := iAll_mem.mp (List.mem_of_getElem? ha)
    exact ⟨k, i, rfl, this.1, this.2, (Option.some.inj h).symm⟩
theorem wW_D {ad : Nat → Nat → Nat} (hi : wI ad) (cy : Nat → ClassId) (σ : iM) : va_D (wA ad) (wW ad cy σ) := by
  refine ⟨fun a b x y h1 h2 hxy => ?_, fun n q h => ?_⟩
  · obtain ⟨k, i, e1, b1, b2, rfl⟩ := wW_at h1
    obtain ⟨k', i', e2, b3, b4, rfl⟩ := wW_at h2
    obtain ⟨rfl, rfl⟩ := hi k i k' i' b1 b2 b3 b4 hxy
    exact (List.getElem?_inj (List.getElem?_eq_some_iff.mp e1).1 iAll_nd).mp (e1.trans e2.symm)
  · obtain ⟨k, i, -, b1, b2, rfl⟩ := wW_at h
    exact ⟨k, i, b1, b2, rfl⟩
theorem wW_set {ad : Nat → Nat → Nat} (hI : wI ad) {cy : Nat → ClassId} {σ σ' : iM} {k i q0 : Nat} (hk : k < 16) (hi : i < iCnt k) (hq : (wW ad cy σ)[q0]? = some (ad k i, wE ad cy σ k i)) (hs : ∀ k' i', ¬ (k' = k ∧ i' = i) → wE ad cy σ' k' i' = wE ad cy σ k' i') : (wW ad cy σ).set q0 (ad k i, wE ad cy σ' k i) = wW ad cy σ' := by
  have hl := (List.getElem?_eq_some_iff.mp hq).1
  apply List.ext_getElem?
  intro n
  by_cases hn : n = q0
  · subst hn
    rw [List.getElem?_set_self hl]
    obtain ⟨k', i', e1, b1, b2, e2⟩ := wW_at hq
    obtain ⟨rfl, rfl⟩ := hI k i k' i' hk hi b1 b2 (congrArg Prod.fst e2)
    unfold wW
    rw [List.getElem?_map, e1]
    rfl
  · rw [List.getElem?_set_ne (Ne.symm hn)]
    unfold wW
    rw [List.getElem?_map, List.getElem?_map]
    cases ha : iAll[n]? with
    | none => rfl
    | some a =>
      obtain ⟨k', i'⟩ := a
      have hv := iAll_mem.mp (List.mem_of_getElem? ha)
      show some (ad k' i', wE ad cy σ k' i') = some (ad k' i', wE ad cy σ' k' i')
      rw [hs k' i']
      rintro ⟨rfl, rfl⟩
      obtain ⟨k2, i2, e1, b1, b2, e2⟩ := wW_at hq
      obtain ⟨rfl, rfl⟩ := hI k' i' k2 i2 hk hi b1 b2 (congrArg Prod.fst e2)
      exact hn ((List.getElem?_inj (List.getElem?_eq_some_iff.mp ha).1 iAll_nd).mp (ha.trans e1.symm))
theorem wE_other {ad : Nat → Nat → Nat} {cy : Nat → ClassId} {σ : iM} {k i s : Nat} {x : Int32} : ∀ k' i', ¬ (k' = k ∧ i' = i) → wE ad cy (iU σ k i s x) k' i' = wE ad cy σ k' i' := by
  intro k' i' h
  have h2 : ∀ n, iU σ k i s x k' i' n = σ k' i' n := fun n => by
    unfold iU
    rw [if_neg]
    rintro ⟨a, b, -⟩
    exact h ⟨a, b⟩
  unfold wE wV
  simp only [h2]
theorem wE_obj {ad : Nat → Nat → Nat} {cy : Nat → ClassId} {σ : iM} {k i : Nat} (h : k < 8) : wE ad cy σ k i = .inr (k, (List.range (iCl k).2.2).map (wV ad σ k i)) := if_pos h
theorem wE_arr {ad : Nat → Nat → Nat} {cy : Nat → ClassId} {σ : iM} {k i : Nat} (h : 8 ≤ k) (h2 : k < 12) : wE ad cy σ k i = .inl (cy k, iN k i, .inl (fun n => σ k i n)) := by
  unfold wE; rw [if_neg (by omega), if_pos h2]
theorem wE_refs {ad : Nat → Nat → Nat} {cy : Nat → ClassId} {σ : iM} {k i : Nat} (h : 12 ≤ k) : wE ad cy σ k i = .inl (cy k, iN k i, .inr (.inr (.inr (.inr (fun n => some (ad (iEk k) (raK k i n id))))))) := by
  unfold wE; rw [if_neg (by omega), if_neg (by omega)]
theorem wE_put {ad : Nat → Nat → Nat} {cy : Nat → ClassId} {σ : iM} {k i s : Nat} {x : Int32} (h : k < 8) (h0 : iRk k s = 0) : (.inr (k, ((List.range (iCl k).2.2).map (wV ad σ k i)).set s (.int x)) : va_E) = wE ad cy (iU σ k i s x) k i := by
  rw [wE_obj h]
  congr 2
  apply List.ext_getElem?
  intro n
  by_cases hn : n = s
  · subst hn
    by_cases hl : n < (iCl k).2.2
    · rw [List.getElem?_set_self (by simpa using hl), List.getElem?_map, List.getElem?_range hl]
      simp [wV, h0, iU]
    · rw [List.getElem?_eq_none (by simpa using hl), List.getElem?_eq_none (by simpa using hl)]
  · rw [List.getElem?_set_ne (Ne.symm hn), List.getElem?_map, List.getElem?_map]
    by_cases hl : n < (iCl k).2.2
    · rw [List.getElem?_range hl]
      simp [wV, iU, hn]
    · rw [List.getElem?_eq_none (by simpa using hl)]; rfl
theorem wE_ast {ad : Nat → Nat → Nat} {cy : Nat → ClassId} {σ : iM} {k i n : Nat} {x : Int32} (h : 8 ≤ k) (h2 : k < 12) : (.inl (cy k, iN k i, .inl (upd (fun n => σ k i n) n x)) : va_E) = wE ad cy (iU σ k i n x) k i := by
  rw [wE_arr h h2]
  have : upd (fun n => σ k i n) n x = fun m => iU σ k i n x k i m := by
    funext m
    simp [upd, iU]
  rw [this]
theorem rfK_id {α : Type} (k i s : Nat) (f : Nat → α) : rfK k i s f = f (rfK k i s id) := by
  unfold rfK
  repeat' (first | rfl | split)
theorem raK_id {α : Type} (k i s : Nat) (f : Nat → α) : raK k i s f = f (raK k i s id) := by
  unfold raK
  split <;> rfl
theorem lt8 {P : Nat → Prop} (h0 : P 0) (h1 : P 1) (h2 : P 2) (h3 : P 3) (h4 : P 4) (h5 : P 5) (h6 : P 6) (h7 : P 7) (k : Nat) (h : k < 8) : P k := by
  match k, h with
  | 0, _ => exact h0
  | 1, _ => exact h1
  | 2, _ => exact h2
  | 3, _ => exact h3
  | 4, _ => exact h4
  | 5, _ => exact h5
  | 6, _ => exact h6
  | 7, _ => exact h7
  | n + 8, h => omega
theorem cl_get (k : Nat) (h : k < 8) : vwCl[k]? = some ((iCl k).1, (iCl k).2.1, (iCl k).2.2) := lt8 (P := fun k => vwCl[k]? = some ((iCl k).1, (iCl k).2.1, (iCl k).2.2)) rfl rfl rfl rfl rfl rfl rfl rfl k h
theorem cl_ty (k : Nat) (h : k < 8) : ∃ ty0 : Nat → FieldType, ∀ s, s < (iCl k).2.2 → parseFieldDescriptor ((iCl k).2.1 s).2.2.1 = some (ty0 s) :=
  lt8 (P := fun k => ∃ ty0 : Nat → FieldType, ∀ s, s < (iCl k).2.2 → parseFieldDescriptor ((iCl k).2.1 s).2.2.1 = some (ty0 s)) ⟨_, tyX0_ok⟩ ⟨_, tyX1_ok⟩ ⟨_, tyX2_ok⟩ ⟨_, tyX3_ok⟩ ⟨_, tyX4_ok⟩ ⟨_, tyX5_ok⟩ ⟨_, tyX6_ok⟩ ⟨_, tyX7_ok⟩ k h
theorem cl_nm (k : Nat) (h : k < 8) : ∀ a, a < (iCl k).2.2 → ∀ b, b < (iCl k).2.2 → a ≠ b → ((iCl k).2.1 a).2.1 ≠ ((iCl k).2.1 b).2.1 :=
  lt8 (P := fun k => ∀ a, a < (iCl k).2.2 → ∀ b, b < (iCl k).2.2 → a ≠ b → ((iCl k).2.1 a).2.1 ≠ ((iCl k).2.1 b).2.1) nmX0 nmX1 nmX2 nmX3 nmX4 nmX5 nmX6 nmX7 k h
/-- what a field refers to is there -/
theorem rf_ok (k s i d : Nat) (hk : k < 8) (hs : s < (iCl k).2.2) (hi : i < iCnt k) (hd : iRk k s = d + 1) : rfK k i s id < iCnt d ∧ d < 16 := by
  revert hk hs hi hd
  refine fun hk => lt8 (P := fun k => s < (iCl k).2.2 → i < iCnt k → iRk k s = d + 1 → rfK k i s id < iCnt d ∧ d < 16) ?_ ?_ ?_ ?_ ?_ ?_ ?_ ?_ k hk
  all_goals (intro hs hi hd)
  · simp [iRk] at hd
  · simp only [iRk] at hd
    simp only [iCnt] at hi
    split at hd <;> first | (obtain rfl : d = 8 := by omega); simp only [rfK, iCnt, id]; omega | omega
  · simp only [iRk] at hd
    simp only [iCnt] at hi
    split at hd <;> first | (obtain rfl : d = 8 := by omega); simp only [rfK, iCnt, id]; omega | omega
  · simp only [iRk] at hd
    simp only [iCnt] at hi
    split at hd <;> first | (obtain rfl : d = 8 := by omega); simp only [rfK, iCnt, id]; omega | omega
  · simp only [iRk] at hd
    simp only [iCnt] at hi
    split at hd
    · obtain rfl : d = 15 := by omega
      simp only [rfK, iCnt, id]; omega
    · obtain rfl : d = 13 := by omega
      simp only [rfK, iCnt, id]; omega
    · obtain rfl : d = 12 := by omega
      simp only [rfK, iCnt, id]; omega
    · obtain rfl : d = 3 := by omega
      simp only [rfK, iCnt, id]; omega
    · omega
  · simp [iRk] at hd
  · have hs : s < 5 := hs
    simp only [iCnt] at hi
    have hss : s = 0 ∨ s = 1 ∨ s = 2 ∨ s = 3 ∨ s = 4 := by omega
    rcases hss with rfl | rfl | rfl | rfl | rfl <;> simp only [iRk] at hd <;> cases hd <;> exact ⟨by simp only [rfK, iCnt, id]; omega, by omega⟩
  · have hs : s < 20 := hs
    simp only [iCnt] at hi
    have hss : s = 0 ∨ s = 1 ∨ s = 2 ∨ s = 3 ∨ s = 4 ∨ s = 5 ∨ s = 6 ∨ s = 7 ∨ s = 8 ∨ s = 9 ∨ s = 10 ∨ s = 11 ∨ s = 12 ∨ s = 13 ∨ s = 14 ∨ s = 15 ∨ s = 16 ∨ s = 17 ∨ s = 18 ∨ s = 19 := by omega
    rcases hss with rfl | rfl | rfl | rfl | rfl | rfl | rfl | rfl | rfl | rfl | rfl | rfl | rfl | rfl | rfl | rfl | rfl | rfl | rfl | rfl <;> simp only [iRk] at hd <;> cases hd <;> exact ⟨by simp only [rfK, iCnt, id]; omega, by omega⟩
theorem ra_ok (k i n : Nat) (h1 : 12 ≤ k) (h2 : k ≤ 15) (hi : i < iCnt k) (hn : n < iN k i) : raK k i n id < iCnt (iEk k) := by
  have : k = 12 ∨ k = 13 ∨ k = 14 ∨ k = 15 := by omega
  rcases this with rfl | rfl | rfl | rfl <;> simp only [iCnt] at hi <;> simp only [iN] at hn <;> simp only [raK, iEk, iCnt, id] <;> omega
end
section
/-! ===== soundness: what the interpreter answers, the machine does ===== -/
def twu : List Cond := u_ws RX0 TX0 14 ++ (u_ws RX1 TX1 4 ++ (u_ws RX2 TX2 8 ++ (u_ws RX3 TX3 3 ++ (u_ws RX4 TX4 15 ++ (u_ws RX5 TX5 8 ++ (u_ws RX6 TX6 5 ++ u_ws RX7 TX7 20))))))
def twj : List Cond := [.code yJ0_length_8abf5 cJ0_length_8abf5 1 (some .int), .instanceMethod yJ0_length_8abf5, .selects RJ0 yJ0_length_8abf5 yJ0_length_8abf5, .initialized RJ0, .code yJ0_charAt_5068e cJ0_charAt_5068e 2 (some .char), .instanceMethod yJ0_charAt_5068e, .selects RJ0 yJ0_charAt_5068e yJ0_charAt_5068e, .fieldLink RJ0 9 "java/lang/String" "value" "[B", .methodLink RJ0 335 yJ0_coder_7d493, .instanceMethod yJ0_coder_7d493, .selects RJ0 yJ0_coder_7d493 yJ0_coder_7d493, .code yJ0_coder_7d493 cJ0_coder_7d493 1 (some .byte), .fieldLink RJ0 38 "java/lang/String" "COMPACT_STRINGS" "Z", .fieldLink RJ0 15 "java/lang/String" "coder" "B", .methodLink RJ0 492 yJ0_isLatin1_aae02, .instanceMethod yJ0_isLatin1_aae02, .selects RJ0 yJ0_isLatin1_aae02 yJ0_isLatin1_aae02, .code yJ0_isLatin1_aae02 cJ0_isLatin1_aae02 1 (some .boolean), .methodLink RJ0 495 yJ1_charAt_3b067, .static yJ1_charAt_3b067, .initialized RJ1, .code yJ1_charAt_3b067 cJ1_charAt_3b067 2 (some .char), .methodLink RJ1 9 yJ0_checkIndex_df160, .static yJ0_checkIndex_df160, .code yJ0_checkIndex_df160 cJ0_checkIndex_df160 2 none, .fieldLink RJ0 1053 "jdk/internal/util/Preconditions" "SIOOBE_FORMATTER" "Ljava/util/function/BiFunction;", .methodLink RJ0 1059 yJ3_checkIndex_8e157, .static yJ3_checkIndex_8e157, .initialized RJ3, .code yJ3_checkIndex_8e157 cJ3_checkIndex_8e157 3 (some .int)]
def tw : List Cond := twu ++ (twr ++ twj)
theorem tw_good : tw.all goodWord = true := by decide +kernel
theorem in_r {w : Cond} {i : Nat} (h : twr[i]? = some w) : w ∈ tw := List.mem_append_right _ (List.mem_append_left _ (List.mem_of_getElem? h))
theorem in_j {w : Cond} {i : Nat} (h : twj[i]? = some w) : w ∈ tw := List.mem_append_right _ (List.mem_append_right _ (List.mem_of_getElem? h))
theorem in_u : ∀ (k : Nat), k < 8 → ∀ w ∈ u_ws (iCl k).1 (iCl k).2.1 (iCl k).2.2, w ∈ tw := by
  have key : ∀ (k : Nat), k < 8 → ∀ w ∈ u_ws (iCl k).1 (iCl k).2.1 (iCl k).2.2, w ∈ twu := by
    refine fun k hk => lt8 (P := fun k => ∀ w ∈ u_ws (iCl k).1 (iCl k).2.1 (iCl k).2.2, w ∈ twu) ?_ ?_ ?_ ?_ ?_ ?_ ?_ ?_ k hk
    · exact fun w h => List.mem_append_left _ h
    · exact fun w h => List.mem_append_right _ (List.mem_append_left _ h)
    · exact fun w h => List.mem_append_right _ (List.mem_append_right _ (List.mem_append_left _ h))
    · exact fun w h => List.mem_append_right _ (List.mem_append_right _ (List.mem_append_right _ (List.mem_append_left _ h)))
    · exact fun w h => List.mem_append_right _ (List.mem_append_right _ (List.mem_append_right _ (List.mem_append_right _ (List.mem_append_left _ h))))
    · exact fun w h => List.mem_append_right _ (List.mem_append_right _ (List.mem_append_right _ (List.mem_append_right _ (List.mem_append_right _ (List.mem_append_left _ h)))))
    · exact fun w h => List.mem_append_right _ (List.mem_append_right _ (List.mem_append_right _ (List.mem_append_right _ (List.mem_append_right _ (List.mem_append_right _ (List.mem_append_left _ h))))))
    · exact fun w h => List.mem_append_right _ (List.mem_append_right _ (List.mem_append_right _ (List.mem_append_right _ (List.mem_append_right _ (List.mem_append_right _ (List.mem_append_right _ h))))))
  exact fun k hk w h => List.mem_append_left _ (key k hk w h)
def iWs (j : Nat) : List Cond := .code (iY j) (iCd j) (iMl j) (iRt j) :: tw
theorem ws_tw {j : Nat} {w : Cond} (h : w ∈ tw) : w ∈ iWs j := List.mem_cons_of_mem _ h
theorem tw_good1 {w : Cond} (h : w ∈ tw) : (w.onTables && w.keeps) = true ∨ ∃ ty, w = .arrayClass ty := good_of_word (List.all_eq_true.mp tw_good w h)
theorem good_tw {j : Nat} {ws : List Cond} (h : ∀ w ∈ ws, w ∈ tw) : GoodIn (iWs j) ws := fun w hw => ⟨ws_tw (h w hw), tw_good1 (h w hw)⟩
abbrev iRm (j : Nat) : Room := { frames := iFr j, cells := 0, slots := 0, locals := iLo j }
/-- what chkM says of a method -/
theorem ckM {j : Nat} (h : j < nMt) : Cond.code (iY j) (iCd j) (iMl j) (iRt j) ∈ tw ∧ (bif iStt j then Cond.static (iY j) else Cond.instanceMethod (iY j)) ∈ tw ∧ (iStt j = true ∨ Cond.selects (iOwn j) (iY j) (iY j) ∈ tw) ∧ Cond.initialized (iOwn j) ∈ tw ∧ (iY j).cls = iOwn j ∧ iKd j < 8 ∧ (iCl (iKd j)).1 = iOwn j ∧ plainName (iOwn j) = true ∧ (iOwn j ≠ "java/lang/invoke/MethodHandle" ∧ iOwn j ≠ "java/lang/invoke/VarHandle") ∧ (parseMethodDescriptor (iY j).desc).map (fun d => d.parameters.length) = some (bif iStt j then iNa j else iNa j - 1) ∧ (bif iStt j then 0 else 1) ≤ iNa j ∧ iNa j ≤ iMl j ∧ (∀ e ∈ iTb j, chk j e = true) ∧ chn (iTb j) = true ∧ (∃ e t, iTb j = e :: t ∧ e.1 = 0) := by
  have hc := ck_all j h
  unfold chkM at hc
  simp only [Bool.and_eq_true, Bool.or_eq_true, decide_eq_true_eq, Nat.blt_eq, Nat.ble_eq] at hc
  obtain ⟨⟨⟨⟨⟨⟨⟨⟨⟨⟨⟨⟨⟨⟨c1, c2⟩, c3⟩, c4⟩, c5⟩, c6⟩, c7⟩, c8⟩, c9⟩, c10⟩, c11⟩, c12⟩, c13⟩, c14⟩, c15⟩ := hc
  refine ⟨in_r c1, in_r c2, c3.imp id in_r, in_r c4, c5, c6, c7, c8, c9, c10, c11, c12, fun e he => List.all_eq_true.mp c13 e he, c14, ?_⟩
  split at c15
  · rename_i e t he
    exact ⟨e, t, he, Nat.eq_of_beq_eq_true c15⟩
  · cases c15
theorem geL_spec : ∀ {L : iL} {i : Nat} {k : iV → Option iEv} {ev : iEv}, geL L i k = some ev → ∃ v, L[i]? = some (some v) ∧ k v = some ev
  | [], _, _, _, h => by cases h
  | none :: _, 0, _, _, h => by cases h
  | some v :: _, 0, _, _, h => ⟨v, rfl, h⟩
  | _ :: t, i + 1, k, ev, h => by
    obtain ⟨v, h1, h2⟩ := geL_spec (L := t) (i := i) (k := k) (ev := ev) h
    exact ⟨v, by rw [List.getElem?_cons_succ]; exact h1, h2⟩
theorem geI_spec {L : iL} {i : Nat} {k : Int32 → Option iEv} {ev : iEv} (h : geI L i k = some ev) : ∃ x, L[i]? = some (some (.inl x)) ∧ k x = some ev := by
  obtain ⟨v, h1, h2⟩ := geL_spec h
  cases v with
  | inl x => exact ⟨x, h1, h2⟩
  | inr q => cases h2
theorem geR_spec {L : iL} {i : Nat} {k : Nat → Nat → Option iEv} {ev : iEv} (h : geR L i k = some ev) : ∃ x y, L[i]? = some (some (.inr (x, y))) ∧ k x y = some ev := by
  obtain ⟨v, h1, h2⟩ := geL_spec h
  cases v with
  | inl x => cases h2
  | inr q => exact ⟨q.1, q.2, h1, h2⟩
theorem seL_spec : ∀ {L : iL} {i : Nat} {v : iV} {k : iL → Option iEv} {ev : iEv}, seL L i v k = some ev → i < L.length ∧ k (L.set i (some v)) = some ev
  | [], _, _, _, _, h => by cases h
  | _ :: _, 0, _, _, _, h => ⟨Nat.succ_pos _, h⟩
  | o :: t, i + 1, v, k, ev, h => by
    obtain ⟨h1, h2⟩ := seL_spec (L := t) (i := i) (v := v) (k := fun t' => k (o :: t')) (ev := ev) h
    exact ⟨Nat.succ_lt_succ h1, h2⟩
theorem popN_spec : ∀ {n : Nat} {S : iS} {acc : List iV} {k : List iV → iS → Option iEv} {ev : iEv}, popN n S acc k = some ev → ∃ T S', S = T ++ S' ∧ T.length = n ∧ k (T.reverse ++ acc) S' = some ev
  | 0, S, acc, k, ev, h => ⟨[], S, rfl, rfl, h⟩
  | _ + 1, [], _, _, _, h => by cases h
  | n + 1, v :: S, acc, k, ev, h => by
    obtain ⟨T, S', h1, h2, h3⟩ := popN_spec (n := n) (S := S) (acc := v :: acc) (k := k) (ev := ev) h
    exact ⟨v :: T, S', by rw [h1]; rfl, by simp [h2], by simpa using h3⟩
/-- what a contract says: the start, the end -/
def iPc (dC : Nat → ClassId) (dI : Nat → Nat → Nat) (ad : Nat → Nat → Nat) (cy : Nat → ClassId) (EX : State → Prop) (as : List iV) (σ : iM) : Array Value → State → Prop := va_Pc (as.map (emb ad)) (fun U => va_P (dC, dI) vwCl (wW ad cy σ) U.heap ∧ va_K (dC, dI) vwCl (wT cy) U ∧ EX U)
def iQc (dC : Nat → ClassId) (dI : Nat → Nat → Nat) (ad : Nat → Nat → Nat) (cy : Nat → ClassId) (v : Option iV) (σ : iM) : Array Value → State → Outcome → State → Prop := fun _ st o t => o = .returned (v.map (emb ad)) ∧ va_P (dC, dI) vwCl (wW ad cy σ) t.heap ∧ va_F (wA ad) st t
/-- what must be given of the texts -/
def iEX (l : Launch) (ad : Nat → Nat → Nat) (EX : State → Prop) : Prop :=
  (∀ (s U : State) (locs : List Loc), EX s → s.WarmedH U.vm → va_S (wA ad) s.heap U.heap locs → EX U) ∧
  (∀ (U : State) (g : JFrame) (mk : MethodId) (a : Array Value), EX U → EX (U.calling g mk a)) ∧
  (∀ (s : State), EX s → ∀ q ∈ strTab, ∃ tx, vk_R q.1 q.2.1 tx (ad 16 q.2.2) s) ∧
  (∀ (s : State), EX s → ∀ (H : Heap) (locs : List Loc), va_S (wA ad) s.heap H locs → ∀ i, i < 8 → ∃ cell : Cell, H[ad 16 i]? = some cell ∧ cell.vm.isStatics = false ∧ s.vm.findClass RJ0 = some cell.cls) ∧
  (∀ i, i < 8 → Met l yJ0_length_8abf5 (.code yJ0_length_8abf5 cJ0_length_8abf5 1 (some .int) :: tw) { frames := 4, cells := 0, slots := 0, locals := 100 } (va_Pc [.ref (ad 16 i)] EX) (fun _ st o t => o = .returned (some (.int (Int32.ofNat (sLen i)))) ∧ t.heap = st.heap) 0 0 (fun _ => False)) ∧
  (∀ i, i < 8 → ∀ k : Int32, vp_in k (sLen i) → Met l yJ0_charAt_5068e (.code yJ0_charAt_5068e cJ0_charAt_5068e 2 (some .char) :: tw) { frames := 4, cells := 0, slots := 0, locals := 99 } (va_Pc [.ref (ad 16 i), .int k] EX) (fun _ st o t => o = .returned (some (.int (sCh i k.toNatClampNeg))) ∧ t.heap = st.heap) 0 0 (fun _ => False))
section SND
variable {p : Program} {l : Launch} {e : Env} {s : State} {m : MethodId} {args : Array Value} {below : List Frame} {meth : Method} {c : Code} {dC : Nat → ClassId} {dI : Nat → Nat → Nat} {ad : Nat → Nat → Nat} {cy : Nat → ClassId} {EX : State → Prop}
/-- the machine at a place of method j comes to Q -/
def WAt (p : Program) (l : Launch) (e : Env) (s : State) (m : MethodId) (args : Array Value) (below : List Frame) (meth : Method) (c : Code) (dC : Nat → ClassId) (dI : Nat → Nat → Nat) (ad : Nat → Nat → Nat) (cy : Nat → ClassId) (R : Room) (Q : State → Prop) (j : Nat) (pc : Nat) (L : iL) (S : iS) (σ : iM) : Prop :=
  ∀ (H : Heap) (locs : List Loc) (ls : Array Slot), va_P (dC, dI) vwCl (wW ad cy σ) H → va_S (wA ad) s.heap H locs → LR ad ls L → L.length = iMl j → (∀ v ∈ S, vok v) → (∀ v, some v ∈ L → vok v) →
    W p l e R s m args below meth c H locs 0 0 Q (F0 m pc ls (S.map (emb ad)))
/-- what is known in the body of method j -/
def iCF (p : Program) (l : Launch) (s : State) (m : MethodId) (args : Array Value) (meth : Method) (c : Code) (dC : Nat → ClassId) (dI : Nat → Nat → Nat) (ad : Nat → Nat → Nat) (cy : Nat → ClassId) (EX : State → Prop) (j : Nat) : Prop :=
  j < nMt ∧ p.tables.exec = Jvm.exec ∧ c.code = iCd j ∧ meth.sig.returnType = iRt j ∧ c.maxLocals = iMl j ∧ (∀ w ∈ iWs j, w.before args s = true) ∧ s.vm.findClass (iOwn j) = some m.cls ∧ meth.locks = false ∧ va_K (dC, dI) vwCl (wT cy) s ∧ EX s ∧ iEX l ad EX ∧ wI ad ∧ c.exceptionTable.toList = []
/-- a call's contract -/
def iMet (l : Launch) (dC : Nat → ClassId) (dI : Nat → Nat → Nat) (ad : Nat → Nat → Nat) (cy : Nat → ClassId) (EX : State → Prop) (k : Nat) (as : List iV) (σ : iM) (v : Option iV) (σ1 : iM) : Prop := Met l (iY k) (iWs k) (iRm k) (iPc dC dI ad cy EX as σ) (iQc dC dI ad cy v σ1) 0 0 (wA ad)
def EvW (WA : Nat → iL → iS → iM → Prop) (WC : Nat → List iV → Nat → iL → iS → iM → Prop) (PR : Option iV → iM → Prop) (PT : Nat → iM → Prop) : iEv → Prop
  | .inl (t, L, S, σ) => WA t L S σ
  | .inr (.inl (c, t1, t2, L, S, σ)) => (c → WA t1 L S σ) ∧ (¬ c → WA t2 L S σ)
  | .inr (.inr (.inl (c, t, L, S, σ))) => c ∧ WA t L S σ
  | .inr (.inr (.inr (.inl (k, as, t, L, S, σ)))) => WC k as t L S σ
  | .inr (.inr (.inr (.inr (.inl (v, σ))))) => PR v σ
  | .inr (.inr (.inr (.inr (.inr (.inl (x, σ)))))) => (x = 0 ∨ x = 1) ∧ PR (some (.inl x)) σ
  | .inr (.inr (.inr (.inr (.inr (.inr (.inl (x, ts, t, L, S, σ))))))) => WA (swT x ts t) L S σ
  | .inr (.inr (.inr (.inr (.inr (.inr (.inr (k, σ))))))) => PT k σ
/-- a call's place: a virtual one, or a static one -/
def iCS (j a : Nat) (as : List iV) (pc : Nat) : Prop :=
  (∃ (idx i : Nat) (As : List iV), as = .inr (iKd a, i) :: As ∧ decode (iCd j) pc = .ok (.invokevirtual idx, 3) ∧ Cond.methodLink (iOwn j) idx (iY a) ∈ tw ∧ iStt a = false) ∨
  (∃ (idx : Nat), decode (iCd j) pc = .ok (.invokestatic idx, 3) ∧ Cond.methodLink (iOwn j) idx (iY a) ∈ tw ∧ iStt a = true ∧ iOwn a = iOwn j)
/-- a return's place -/
def iRS (j : Nat) (v : Option iV) (pc : Nat) : Prop :=
  (∃ x : Int32, v = some (.inl x) ∧ decode (iCd j) pc = .ok (.ireturn, 1) ∧ iRt j = some .int) ∨
  (∃ x : Int32, v = some (.inl x) ∧ decode (iCd j) pc = .ok (.ireturn, 1) ∧ iRt j = some .boolean ∧ (x = 0 ∨ x = 1)) ∨
  (∃ (k i : Nat) (nm : String), v = some (.inr (k, i)) ∧ decode (iCd j) pc = .ok (.areturn, 1) ∧ iRt j = some (.object nm)) ∨
  (v = none ∧ decode (iCd j) pc = .ok (.return_, 1) ∧ iRt j = none)
def iNw : Instr → Bool
  | .new _ => true
  | _ => false
theorem vok_cons {v : iV} {S : iS} (h : vok v) (hS : ∀ w ∈ S, vok w) : ∀ w ∈ v :: S, vok w := fun w hw => (List.mem_cons.mp hw).elim (fun q => q ▸ h) (hS w)
theorem vok_set {L : iL} {i : Nat} {v : iV} (hv : vok v) (hL : ∀ w, some w ∈ L → vok w) : ∀ w, some w ∈ L.set i (some v) → vok w := fun w hw => (List.mem_or_eq_of_mem_set hw).elim (hL w) (fun q => by cases q; exact hv)
/-- behind a call -/
theorem call_go {R : Room} {H : Heap} {locs : List Loc} {Q : State → Prop} {pc : Nat} {ls : Array Slot} {st0 rest : List Value} {Qa : State → Outcome → State → Prop} {free : Addr → Prop} (hr : va_Run p l e R s m args below meth c H locs 0 0 0 0 (F0 m pc ls st0) rest Qa free)
    (kk : ∀ (v : Option Value) (st t : State) (H1 : Heap) (L1 : List Loc), st.heap = H → H1 = t.heap → Qa st (.returned v) t → (∀ q ∈ L1, free q.base) → W p l e R s m args below meth c H1 (locs ++ L1) 0 0 Q (F0 m (pc + 3) ls (v.toList ++ rest))) : W p l e R s m args below meth c H locs 0 0 Q (F0 m pc ls st0) := by
  intro T hT X
  obtain ⟨v, st₀, t, T', L, h0, X', hL, e1, e2, hq, st⟩ := hr T hT X
  obtain ⟨t2, a1, b1⟩ := kk v st₀ t T'.heap L h0 e1 hq hL T' rfl X'
  exact ⟨t2, st t2 a1, b1⟩
theorem va_S.call {A free : Nat → Prop} {H0 H H1 : Heap} {locs L : List Loc} (hS : va_S A H0 H locs) (h1 : H.size ≤ H1.size) (h2 : ∀ q : Nat, q < H.size → ¬ A q → H1[q]? = H[q]?) (hL : ∀ q ∈ L, A q.base) : va_S A H0 H1 (locs ++ L) :=
  ⟨Nat.le_trans hS.1 h1, fun q a b => (h2 q (Nat.lt_of_lt_of_le a hS.1) b).trans (hS.2.1 q a b), fun q hq => (List.mem_append.mp hq).elim (hS.2.2 q) (hL q)⟩
end SND
end
section
/-! ===== soundness, one instruction ===== -/
theorem no_ev {P : Prop} {ev : iEv} (h : (none : Option iEv) = some ev) : P := by cases h
theorem fld_at {ad : Nat → Nat → Nat} {σ : iM} {a i b N : Nat} (hb : b < N) : ((List.range N).map (wV ad σ a i))[b]? = some (wV ad σ a i b) := by
  rw [List.getElem?_map, List.getElem?_range hb]; rfl
theorem wT_at {cy : Nat → ClassId} {k : Nat} (h1 : 12 ≤ k) (h2 : k ≤ 15) : ∃ (t0 : Nat) (C : String), (wT cy)[t0]? = some (cy k, .object C) := by
  have : k = 12 ∨ k = 13 ∨ k = 14 ∨ k = 15 := by omega
  rcases this with rfl | rfl | rfl | rfl
  · exact ⟨3, _, rfl⟩
  · exact ⟨4, _, rfl⟩
  · exact ⟨5, _, rfl⟩
  · exact ⟨6, _, rfl⟩
theorem wT_any {cy : Nat → ClassId} {k : Nat} (h1 : 8 ≤ k) (h2 : k ≤ 15) (h3 : k ≠ 11) : ∃ (t0 : Nat) (ty : FieldType), (wT cy)[t0]? = some (cy k, ty) := by
  have : k = 8 ∨ k = 9 ∨ k = 10 ∨ k = 12 ∨ k = 13 ∨ k = 14 ∨ k = 15 := by omega
  rcases this with rfl | rfl | rfl | rfl | rfl | rfl | rfl
  · exact ⟨0, _, rfl⟩
  · exact ⟨1, _, rfl⟩
  · exact ⟨2, _, rfl⟩
  · exact ⟨3, _, rfl⟩
  · exact ⟨4, _, rfl⟩
  · exact ⟨5, _, rfl⟩
  · exact ⟨6, _, rfl⟩
theorem wE_len {ad : Nat → Nat → Nat} {cy : Nat → ClassId} {σ : iM} {k i : Nat} (h : 8 ≤ k) : ∃ x : vp_A, x.1 = iN k i ∧ wE ad cy σ k i = .inl (cy k, x) := by
  by_cases h2 : k < 12
  · exact ⟨_, rfl, wE_arr h h2⟩
  · exact ⟨_, rfl, wE_refs (by omega)⟩
theorem tabT (pc : Nat) (x : Int32) (d : Nat) : ∀ (os : List Int) (ts : List (Int32 × Nat)) (lo : Int), swOk pc lo os ts = true → lo ≤ x.toInt → x.toInt < lo + os.length → ∃ off, os[(x.toInt - lo).toNat]? = some off ∧ (pc : Int) + off = (swT x ts d : Nat)
  | [], _, lo, _, h1, h2 => by simp at h2; omega
  | _ :: _, [], _, h, _, _ => by cases h
  | o :: os, (v, t) :: ts, lo, h, h1, h2 => by
    simp only [swOk, Bool.and_eq_true, decide_eq_true_eq] at h
    obtain ⟨⟨e1, e2⟩, e3⟩ := h
    by_cases hx : x = v
    · subst hx
      refine ⟨o, ?_, ?_⟩
      · rw [e1, show (lo - lo).toNat = 0 by omega]; rfl
      · simp only [swT, if_true]; exact e2
    · have hne : x.toInt ≠ lo := fun q => hx (Int32.toInt_inj.mp (q.trans e1.symm))
      obtain ⟨off, g1, g2⟩ := tabT pc x d os ts (lo + 1) e3 (by omega) (by simp at h2; omega)
      refine ⟨off, ?_, ?_⟩
      · rw [show (x.toInt - lo).toNat = (x.toInt - (lo + 1)).toNat + 1 by omega, List.getElem?_cons_succ]; exact g1
      · simp only [swT, if_neg hx]; exact g2
theorem tabF (pc : Nat) (x : Int32) (d : Nat) : ∀ (os : List Int) (ts : List (Int32 × Nat)) (lo : Int), swOk pc lo os ts = true → (x.toInt < lo ∨ lo + os.length ≤ x.toInt) → swT x ts d = d
  | [], [], _, _, _ => rfl
  | [], _ :: _, _, h, _ => by cases h
  | _ :: _, [], _, h, _ => by cases h
  | o :: os, (v, t) :: ts, lo, h, h2 => by
    simp only [swOk, Bool.and_eq_true, decide_eq_true_eq] at h
    obtain ⟨⟨e1, e2⟩, e3⟩ := h
    have hx : ¬ x = v := fun q => by subst q; simp at h2; omega
    simp only [swT, if_neg hx]
    exact tabF pc x d os ts (lo + 1) e3 (by simp at h2; omega)
theorem lkT (pc : Nat) (x : Int32) (d : Nat) (df : Int) (hd : (pc : Int) + df = (d : Int)) : ∀ (os : List (Int × Int)) (ts : List (Int32 × Nat)), lkOk pc os ts = true → (pc : Int) + Op.lookupswitch.offset os df x.toInt = (swT x ts d : Nat)
  | [], [], _ => hd
  | [], _ :: _, h => by cases h
  | _ :: _, [], h => by cases h
  | (k, o) :: os, (v, t) :: ts, h => by
    simp only [lkOk, Bool.and_eq_true, decide_eq_true_eq] at h
    obtain ⟨⟨e1, e2⟩, e3⟩ := h
    have ih := lkT pc x d df hd os ts e3
    by_cases hx : x = v
    · subst hx
      simp only [swT, if_true]
      rw [← e2]
      simp [Op.lookupswitch.offset, e1]
    · have hne : ¬ x.toInt = k := fun q => hx (Int32.toInt_inj.mp (q.trans e1.symm))
      simp only [swT, if_neg hx]
      rw [← ih]
      simp [Op.lookupswitch.offset, hne, Ne.symm hne]
end
section
/-! ===== soundness, one instruction: all of them (written by mk14.py) ===== -/
section SND2
variable {p : Program} {l : Launch} {e : Env} {s : State} {m : MethodId} {args : Array Value} {below : List Frame} {meth : Method} {c : Code} {dC : Nat → ClassId} {dI : Nat → Nat → Nat} {ad : Nat → Nat → Nat} {cy : Nat → ClassId} {EX : State → Prop}
set_option maxHeartbeats 4000000 in
theorem snd_stp {j : Nat} {R : Room} {Q : State → Prop} {PR : Option iV → iM → Prop} {PT : Nat → iM → Prop} {WC : Nat → List iV → Nat → iL → iS → iM → Prop} (hRf : R.frames = iFr j) (hRl : R.locals = iLo j) (C : iCF p l s m args meth c dC dI ad cy EX j) (e9 : iE) (hmem : e9 ∈ iTb j) (hc : chk j e9 = true) (f : iL → iS → iM → Option iEv)
    (hn : iTerm e9.2.1 = false → ∀ L S σ ev, f L S σ = some ev → EvW (WAt p l e s m args below meth c dC dI ad cy R Q j) WC PR PT ev → WAt p l e s m args below meth c dC dI ad cy R Q j e9.2.2.1 L S σ)
    (hcall : ∀ (a : Nat) (as : List iV) (pc : Nat) (L : iL) (S : iS) (σ : iM), a < nMt → as.length = iNa a → S.length ≤ 8 → iFr a + 1 ≤ iFr j → 8 + (iMl a + 11) + iLo a ≤ iLo j → iCS j a as pc → WC a as (pc + 3) L S σ → WAt p l e s m args below meth c dC dI ad cy R Q j pc L (as.reverse ++ S) σ)
    (hret : ∀ (v : Option iV) (σ : iM) (pc : Nat) (L : iL), iRS j v pc → PR v σ → WAt p l e s m args below meth c dC dI ad cy R Q j pc L v.toList σ)
    (hthr : ∀ (x : iE) (L : iL) (S : iS) (σ : iM), x ∈ iTb j → iNw x.2.1 = true → PT x.2.2.2.1 σ → WAt p l e s m args below meth c dC dI ad cy R Q j x.1 L S σ)
    (L : iL) (S : iS) (σ : iM) (ev : iEv) (h : stp e9 f L S σ = some ev) (hE : EvW (WAt p l e s m args below meth c dC dI ad cy R Q j) WC PR PT ev) : WAt p l e s m args below meth c dC dI ad cy R Q j e9.1 L S σ := by
  obtain ⟨hj, hx, hb, hr, hml, hts, hown, hlocks, hK, hex, hEX, hI, htab⟩ := C
  obtain ⟨pc, ins, nx, a, b, c9, d, w, v, ts⟩ := e9
  simp only [chk, Bool.and_eq_true, decide_eq_true_eq, Nat.beq_eq] at hc
  obtain ⟨⟨hdg, hle⟩, hc⟩ := hc
  dsimp only at hn ⊢
  intro H locs ls hP hS hL hLl hSv hLv
  have hn1 : ∀ {x : Nat}, (pc + x) - pc = x := fun {x} => Nat.add_sub_cancel_left pc x
  cases ins with
  | iload_n k =>
    replace h : geI L a (fun x => f L (.inl x :: S) σ) = some ev := h
    obtain ⟨x, hx1, g⟩ := geI_spec h
    clear h
    have h := g
    clear g
    simp only [Nat.beq_eq, Bool.and_eq_true, decide_eq_true_eq] at hc
    obtain ⟨hk, rfl⟩ := hc
    subst hk
    rw [hn1] at hdg
    exact lv_iload_n hx hb hdg rfl (hL.at hx1) (hn rfl _ _ _ _ h hE H locs ls hP hS hL hLl (vok_cons (v := .inl _) trivial hSv) hLv)
  | iload k =>
    replace h : geI L a (fun x => f L (.inl x :: S) σ) = some ev := h
    obtain ⟨x, hx1, g⟩ := geI_spec h
    clear h
    have h := g
    clear g
    simp only [Nat.beq_eq, Bool.and_eq_true, decide_eq_true_eq] at hc
    obtain ⟨hk, rfl⟩ := hc
    subst hk
    rw [hn1] at hdg
    exact lv_iload hx hb hdg (hL.at hx1) (hn rfl _ _ _ _ h hE H locs ls hP hS hL hLl (vok_cons (v := .inl _) trivial hSv) hLv)
  | aload_n k =>
    replace h : geR L a (fun k i => f L (.inr (k, i) :: S) σ) = some ev := h
    obtain ⟨x, y, hx1, g⟩ := geR_spec h
    clear h
    have h := g
    clear g
    simp only [Nat.beq_eq, Bool.and_eq_true, decide_eq_true_eq] at hc
    obtain ⟨hk, rfl⟩ := hc
    subst hk
    rw [hn1] at hdg
    exact lv_aload_n hx hb hdg rfl (hL.at hx1) (hn rfl _ _ _ _ h hE H locs ls hP hS hL hLl (vok_cons (hLv _ (List.mem_of_getElem? hx1)) hSv) hLv)
  | aload k =>
    replace h : geR L a (fun k i => f L (.inr (k, i) :: S) σ) = some ev := h
    obtain ⟨x, y, hx1, g⟩ := geR_spec h
    clear h
    have h := g
    clear g
    simp only [Nat.beq_eq, Bool.and_eq_true, decide_eq_true_eq] at hc
    obtain ⟨hk, rfl⟩ := hc
    subst hk
    rw [hn1] at hdg
    exact lv_aload hx hb hdg (hL.at hx1) (hn rfl _ _ _ _ h hE H locs ls hP hS hL hLl (vok_cons (hLv _ (List.mem_of_getElem? hx1)) hSv) hLv)
  | istore_n k =>
    cases S with
    | nil => exact no_ev h
    | cons u S =>
      cases u with
      | inr q => exact no_ev h
      | inl x =>
        replace h : seL L a (.inl x) (fun L => f L S σ) = some ev := h
        obtain ⟨hl, g⟩ := seL_spec h
        clear h
        have h := g
        clear g
        simp only [Nat.beq_eq, Bool.and_eq_true, decide_eq_true_eq] at hc
        obtain ⟨hk, rfl⟩ := hc
        subst hk
        rw [hn1] at hdg
        refine lv_istore_n hx hb hdg rfl hL hl rfl (fun ls' hL' => ?_)
        exact hn rfl _ _ _ _ h hE H locs ls' hP hS (LR.set rfl hl hL') (by rw [List.length_set]; exact hLl) (fun v hv => hSv v (List.mem_cons_of_mem _ hv)) (vok_set (hSv _ List.mem_cons_self) hLv)
  | istore k =>
    cases S with
    | nil => exact no_ev h
    | cons u S =>
      cases u with
      | inr q => exact no_ev h
      | inl x =>
        replace h : seL L a (.inl x) (fun L => f L S σ) = some ev := h
        obtain ⟨hl, g⟩ := seL_spec h
        clear h
        have h := g
        clear g
        simp only [Nat.beq_eq, Bool.and_eq_true, decide_eq_true_eq] at hc
        obtain ⟨hk, rfl⟩ := hc
        subst hk
        rw [hn1] at hdg
        refine lv_istore hx hb hdg hL hl rfl (fun ls' hL' => ?_)
        exact hn rfl _ _ _ _ h hE H locs ls' hP hS (LR.set rfl hl hL') (by rw [List.length_set]; exact hLl) (fun v hv => hSv v (List.mem_cons_of_mem _ hv)) (vok_set (hSv _ List.mem_cons_self) hLv)
  | astore_n k =>
    cases S with
    | nil => exact no_ev h
    | cons u S =>
      cases u with
      | inl q => exact no_ev h
      | inr q =>
        obtain ⟨x, y⟩ := q
        replace h : seL L a (.inr (x, y)) (fun L => f L S σ) = some ev := h
        obtain ⟨hl, g⟩ := seL_spec h
        clear h
        have h := g
        clear g
        simp only [Nat.beq_eq, Bool.and_eq_true, decide_eq_true_eq] at hc
        obtain ⟨hk, rfl⟩ := hc
        subst hk
        rw [hn1] at hdg
        refine lv_astore_n hx hb hdg rfl hL hl rfl (fun ls' hL' => ?_)
        exact hn rfl _ _ _ _ h hE H locs ls' hP hS (LR.set rfl hl hL') (by rw [List.length_set]; exact hLl) (fun v hv => hSv v (List.mem_cons_of_mem _ hv)) (vok_set (hSv _ List.mem_cons_self) hLv)
  | astore k =>
    cases S with
    | nil => exact no_ev h
    | cons u S =>
      cases u with
      | inl q => exact no_ev h
      | inr q =>
        obtain ⟨x, y⟩ := q
        replace h : seL L a (.inr (x, y)) (fun L => f L S σ) = some ev := h
        obtain ⟨hl, g⟩ := seL_spec h
        clear h
        have h := g
        clear g
        simp only [Nat.beq_eq, Bool.and_eq_true, decide_eq_true_eq] at hc
        obtain ⟨hk, rfl⟩ := hc
        subst hk
        rw [hn1] at hdg
        refine lv_astore hx hb hdg hL hl rfl (fun ls' hL' => ?_)
        exact hn rfl _ _ _ _ h hE H locs ls' hP hS (LR.set rfl hl hL') (by rw [List.length_set]; exact hLl) (fun v hv => hSv v (List.mem_cons_of_mem _ hv)) (vok_set (hSv _ List.mem_cons_self) hLv)
  | iinc k n =>
    replace h : geI L a (fun x => seL L a (.inl (x + v)) (fun L => f L S σ)) = some ev := h
    obtain ⟨x, hx1, g⟩ := geI_spec h
    clear h
    have h := g
    clear g
    obtain ⟨hl, g⟩ := seL_spec h
    clear h
    have h := g
    clear g
    simp only [Nat.beq_eq, Bool.and_eq_true, decide_eq_true_eq] at hc
    obtain ⟨⟨hk, hv⟩, rfl⟩ := hc
    subst hk
    rw [hn1] at hdg
    obtain ⟨q, hq⟩ := List.getElem?_of_mem (prs_mem.mpr ⟨_, hx1, rfl⟩ : (k, emb ad (.inl x)) ∈ prs ad L)
    refine lv_iinc (v := x + v) hx hb hdg hL hq (by rw [hv]) hl rfl (fun ls' hL' => ?_)
    exact hn rfl _ _ _ _ h hE H locs ls' hP hS (LR.set (v := .inl (x + v)) rfl hl hL') (by rw [List.length_set]; exact hLl) hSv (vok_set (v := .inl (x + v)) trivial hLv)
  | iconst n =>
    replace h : f L (.inl v :: S) σ = some ev := h
    simp only [Nat.beq_eq, decide_eq_true_eq, Bool.and_eq_true] at hc
    obtain ⟨hv, rfl⟩ := hc
    rw [hn1] at hdg
    exact lv_iconst hx hb hdg hv (hn rfl _ _ _ _ h hE H locs ls hP hS hL hLl (vok_cons (v := .inl _) trivial hSv) hLv)
  | bipush n =>
    replace h : f L (.inl v :: S) σ = some ev := h
    simp only [Nat.beq_eq, decide_eq_true_eq, Bool.and_eq_true] at hc
    obtain ⟨hv, rfl⟩ := hc
    rw [hn1] at hdg
    exact lv_bipush hx hb hdg hv (hn rfl _ _ _ _ h hE H locs ls hP hS hL hLl (vok_cons (v := .inl _) trivial hSv) hLv)
  | sipush n =>
    replace h : f L (.inl v :: S) σ = some ev := h
    simp only [Nat.beq_eq, decide_eq_true_eq, Bool.and_eq_true] at hc
    obtain ⟨hv, rfl⟩ := hc
    rw [hn1] at hdg
    exact lv_sipush hx hb hdg hv (hn rfl _ _ _ _ h hE H locs ls hP hS hL hLl (vok_cons (v := .inl _) trivial hSv) hLv)
  | ldc i =>
    replace h : (bif Nat.beq c9 0 then f L (.inl v :: S) σ else f L (.inr (16, a) :: S) σ) = some ev := h
    simp only [Nat.beq_eq, Bool.and_eq_true, decide_eq_true_eq] at hc
    obtain ⟨rfl, hc⟩ := hc
    rw [hn1] at hdg
    cases h0 : Nat.beq c9 0 with
    | true =>
      rw [h0] at h hc
      simp only [cond_true, decide_eq_true_eq] at h hc
      exact lv_ldc hx hb hown (hts _ (ws_tw (in_r hc))) hdg (hn rfl _ _ _ _ h hE H locs ls hP hS hL hLl (vok_cons (v := .inl _) trivial hSv) hLv)
    | false =>
      rw [h0] at h hc
      simp only [cond_false, decide_eq_true_eq, Bool.and_eq_true, Nat.blt_eq] at h hc
      obtain ⟨tx, hZ⟩ := hEX.2.2.1 s hex _ hc.2
      exact va_ldcS hx hb hown hZ hdg (hn rfl _ _ _ _ h hE H locs ls hP hS hL hLl (vok_cons (v := .inr (16, a)) hc.1 hSv) hLv)
  | ldc_w i =>
    replace h : f L (.inl v :: S) σ = some ev := h
    simp only [Nat.beq_eq, decide_eq_true_eq, Bool.and_eq_true] at hc
    obtain ⟨⟨rfl, -⟩, hc⟩ := hc
    rw [hn1] at hdg
    exact lv_ldcw hx hb hown (hts _ (ws_tw (in_r hc))) hdg (hn rfl _ _ _ _ h hE H locs ls hP hS hL hLl (vok_cons (v := .inl _) trivial hSv) hLv)
  | iadd =>
    cases S with
    | nil => exact no_ev h
    | cons u S =>
      cases u with
      | inr q => exact no_ev h
      | inl y =>
        cases S with
        | nil => exact no_ev h
        | cons u S =>
          cases u with
          | inr q => exact no_ev h
          | inl x =>
            replace h : f L (.inl (x + y) :: S) σ = some ev := h
            simp only [Nat.beq_eq, Bool.and_eq_true, decide_eq_true_eq] at hc
            subst hc
            rw [hn1] at hdg
            have hSv2 : ∀ v ∈ S, vok v := fun v hv => hSv v (List.mem_cons_of_mem _ (List.mem_cons_of_mem _ hv))
            exact lv_iadd hx hb hdg (hn rfl _ _ _ _ h hE H locs ls hP hS hL hLl (vok_cons (v := .inl _) trivial hSv2) hLv)
  | isub =>
    cases S with
    | nil => exact no_ev h
    | cons u S =>
      cases u with
      | inr q => exact no_ev h
      | inl y =>
        cases S with
        | nil => exact no_ev h
        | cons u S =>
          cases u with
          | inr q => exact no_ev h
          | inl x =>
            replace h : f L (.inl (x - y) :: S) σ = some ev := h
            simp only [Nat.beq_eq, Bool.and_eq_true, decide_eq_true_eq] at hc
            subst hc
            rw [hn1] at hdg
            have hSv2 : ∀ v ∈ S, vok v := fun v hv => hSv v (List.mem_cons_of_mem _ (List.mem_cons_of_mem _ hv))
            exact lv_isub hx hb hdg (hn rfl _ _ _ _ h hE H locs ls hP hS hL hLl (vok_cons (v := .inl _) trivial hSv2) hLv)
  | imul =>
    cases S with
    | nil => exact no_ev h
    | cons u S =>
      cases u with
      | inr q => exact no_ev h
      | inl y =>
        cases S with
        | nil => exact no_ev h
        | cons u S =>
          cases u with
          | inr q => exact no_ev h
          | inl x =>
            replace h : f L (.inl (x * y) :: S) σ = some ev := h
            simp only [Nat.beq_eq, Bool.and_eq_true, decide_eq_true_eq] at hc
            subst hc
            rw [hn1] at hdg
            have hSv2 : ∀ v ∈ S, vok v := fun v hv => hSv v (List.mem_cons_of_mem _ (List.mem_cons_of_mem _ hv))
            exact lv_imul hx hb hdg (hn rfl _ _ _ _ h hE H locs ls hP hS hL hLl (vok_cons (v := .inl _) trivial hSv2) hLv)
  | iand =>
    cases S with
    | nil => exact no_ev h
    | cons u S =>
      cases u with
      | inr q => exact no_ev h
      | inl y =>
        cases S with
        | nil => exact no_ev h
        | cons u S =>
          cases u with
          | inr q => exact no_ev h
          | inl x =>
            replace h : f L (.inl (x &&& y) :: S) σ = some ev := h
            simp only [Nat.beq_eq, Bool.and_eq_true, decide_eq_true_eq] at hc
            subst hc
            rw [hn1] at hdg
            have hSv2 : ∀ v ∈ S, vok v := fun v hv => hSv v (List.mem_cons_of_mem _ (List.mem_cons_of_mem _ hv))
            exact lv_iand hx hb hdg (hn rfl _ _ _ _ h hE H locs ls hP hS hL hLl (vok_cons (v := .inl _) trivial hSv2) hLv)
  | idiv =>
    cases S with
    | nil => exact no_ev h
    | cons u S =>
      cases u with
      | inr q => exact no_ev h
      | inl y =>
        cases S with
        | nil => exact no_ev h
        | cons u S =>
          cases u with
          | inr q => exact no_ev h
          | inl x =>
            replace h : evN (¬ y = 0) nx L (.inl (x / y) :: S) σ = some ev := h
            simp only [Nat.beq_eq, Bool.and_eq_true, decide_eq_true_eq] at hc
            subst hc
            rw [hn1] at hdg
            cases h
            have hSv2 : ∀ v ∈ S, vok v := fun v hv => hSv v (List.mem_cons_of_mem _ (List.mem_cons_of_mem _ hv))
            exact lv_idiv hx hb hdg hE.1 (hE.2 H locs ls hP hS hL hLl (vok_cons (v := .inl _) trivial hSv2) hLv)
  | ineg =>
    cases S with
    | nil => exact no_ev h
    | cons u S =>
      cases u with
      | inr q => exact no_ev h
      | inl x =>
        replace h : f L (.inl (-x) :: S) σ = some ev := h
        simp only [Nat.beq_eq, Bool.and_eq_true, decide_eq_true_eq] at hc
        subst hc
        rw [hn1] at hdg
        have hSv2 : ∀ v ∈ S, vok v := fun v hv => hSv v (List.mem_cons_of_mem _ hv)
        exact lv_ineg hx hb hdg (hn rfl _ _ _ _ h hE H locs ls hP hS hL hLl (vok_cons (v := .inl _) trivial hSv2) hLv)
  | i2b =>
    cases S with
    | nil => exact no_ev h
    | cons u S =>
      cases u with
      | inr q => exact no_ev h
      | inl x =>
        replace h : f L (.inl (x.toInt8.toInt32) :: S) σ = some ev := h
        simp only [Nat.beq_eq, Bool.and_eq_true, decide_eq_true_eq] at hc
        subst hc
        rw [hn1] at hdg
        have hSv2 : ∀ v ∈ S, vok v := fun v hv => hSv v (List.mem_cons_of_mem _ hv)
        exact lv_i2b hx hb hdg rfl (hn rfl _ _ _ _ h hE H locs ls hP hS hL hLl (vok_cons (v := .inl _) trivial hSv2) hLv)
  | dup =>
    cases S with
    | nil => exact no_ev h
    | cons u S =>
      replace h : f L (u :: u :: S) σ = some ev := h
      simp only [Nat.beq_eq, Bool.and_eq_true, decide_eq_true_eq] at hc
      subst hc
      rw [hn1] at hdg
      exact lv_dup hx hb hdg (emb_cat ad u) (hn rfl _ _ _ _ h hE H locs ls hP hS hL hLl (vok_cons (hSv u List.mem_cons_self) hSv) hLv)
  | dup2 =>
    cases S with
    | nil => exact no_ev h
    | cons u S =>
      cases S with
      | nil => exact no_ev h
      | cons u2 S =>
        replace h : f L (u :: u2 :: u :: u2 :: S) σ = some ev := h
        simp only [Nat.beq_eq, Bool.and_eq_true, decide_eq_true_eq] at hc
        subst hc
        rw [hn1] at hdg
        exact lv_dup2_11 hx hb hdg (emb_cat ad u) (emb_cat ad u2) (hn rfl _ _ _ _ h hE H locs ls hP hS hL hLl (vok_cons (hSv u List.mem_cons_self) (vok_cons (hSv u2 (List.mem_cons_of_mem _ List.mem_cons_self)) hSv)) hLv)
  | pop =>
    cases S with
    | nil => exact no_ev h
    | cons u S =>
      replace h : f L S σ = some ev := h
      simp only [Nat.beq_eq, Bool.and_eq_true, decide_eq_true_eq] at hc
      subst hc
      rw [hn1] at hdg
      exact lv_pop hx hb hdg (emb_cat ad u) (hn rfl _ _ _ _ h hE H locs ls hP hS hL hLl (fun v hv => hSv v (List.mem_cons_of_mem _ hv)) hLv)
  | getfield idx =>
    cases S with
    | nil => exact no_ev h
    | cons u S =>
      cases u with
      | inl x => exact no_ev h
      | inr q =>
        obtain ⟨k, i⟩ := q
        replace h : (bif Nat.beq k a then (bif Nat.beq c9 0 then f L (.inl (σ a i b) :: S) σ else rfK a i b (fun r => f L (.inr (d, r) :: S) σ)) else none) = some ev := h
        have hSv2 : ∀ v ∈ S, vok v := fun v hv => hSv v (List.mem_cons_of_mem _ hv)
        have hi : i < iCnt k := hSv (.inr (k, i)) List.mem_cons_self
        cases hk : Nat.beq k a with
        | false => rw [hk] at h; exact no_ev h
        | true =>
          rw [hk] at h
          simp only [cond_true] at h
          have hk := Nat.eq_of_beq_eq_true hk
          subst hk
          simp only [Nat.beq_eq, Bool.and_eq_true, Nat.blt_eq, decide_eq_true_eq] at hc
          obtain ⟨⟨⟨⟨rfl, ha⟩, hbN⟩, hw⟩, hrk⟩ := hc
          rw [hn1] at hdg
          obtain ⟨q0, hq0⟩ := wW_get (ad := ad) (cy := cy) (σ := σ) (show k < 16 by omega) hi
          rw [wE_obj ha] at hq0
          have hlink := hts _ (ws_tw (in_r hw))
          cases h0 : Nat.beq c9 0 with
          | true =>
            rw [h0] at h hrk
            simp only [cond_true, Nat.beq_eq] at h hrk
            have hv : ((List.range (iCl k).2.2).map (wV ad σ k i))[b]? = some (.int (σ k i b)) := by rw [fld_at hbN]; simp [wV, hrk]
            exact va_get (D := (dC, dI)) hx hb hts (fun w hw => ws_tw (in_u k ha w hw)) hown hK hP q0 hq0 (cl_get k ha) b hbN hlink (fun _ h9 => h9) hv hdg (hn rfl _ _ _ _ h hE H locs ls hP hS hL hLl (vok_cons (v := .inl _) trivial hSv2) hLv)
          | false =>
            rw [h0] at h hrk
            simp only [cond_false, Nat.beq_eq] at h hrk
            rw [rfK_id] at h
            have hv : ((List.range (iCl k).2.2).map (wV ad σ k i))[b]? = some (.ref (ad d (rfK k i b id))) := by rw [fld_at hbN]; simp [wV, hrk]
            have hok := rf_ok k b i d ha hbN hi hrk
            exact va_get (D := (dC, dI)) hx hb hts (fun w hw => ws_tw (in_u k ha w hw)) hown hK hP q0 hq0 (cl_get k ha) b hbN hlink (fun _ h9 => h9) hv hdg (hn rfl _ _ _ _ h hE H locs ls hP hS hL hLl (vok_cons (v := .inr (d, rfK k i b id)) hok.1 hSv2) hLv)
  | putfield idx =>
    cases S with
    | nil => exact no_ev h
    | cons u S =>
      cases u with
      | inr q => exact no_ev h
      | inl x =>
        cases S with
        | nil => exact no_ev h
        | cons u S =>
          cases u with
          | inl q => exact no_ev h
          | inr q =>
            obtain ⟨k, i⟩ := q
            replace h : (bif Nat.beq k a then (bif Nat.beq c9 0 then f L S (iU σ a i b x) else evN (x = 0 ∨ x = 1) nx L S (iU σ a i b x)) else none) = some ev := h
            have hSv2 : ∀ v ∈ S, vok v := fun v hv => hSv v (List.mem_cons_of_mem _ (List.mem_cons_of_mem _ hv))
            have hi : i < iCnt k := hSv (.inr (k, i)) (List.mem_cons_of_mem _ List.mem_cons_self)
            cases hk : Nat.beq k a with
            | false => rw [hk] at h; exact no_ev h
            | true =>
              rw [hk] at h
              simp only [cond_true] at h
              have hk := Nat.eq_of_beq_eq_true hk
              subst hk
              simp only [Nat.beq_eq, Bool.and_eq_true, Nat.blt_eq, decide_eq_true_eq] at hc
              obtain ⟨⟨⟨⟨⟨⟨rfl, ha⟩, hbN⟩, hw⟩, hrk⟩, hfin⟩, hty⟩ := hc
              rw [hn1] at hdg
              obtain ⟨q0, hq0⟩ := wW_get (ad := ad) (cy := cy) (σ := σ) (show k < 16 by omega) hi
              have hq1 := hq0
              rw [wE_obj ha] at hq0
              have hlink := hts _ (ws_tw (in_r hw))
              obtain ⟨ty0, hty0⟩ := cl_ty k ha
              have hset : (wW ad cy σ).set q0 (ad k i, .inr (k, ((List.range (iCl k).2.2).map (wV ad σ k i)).set b (.int x))) = wW ad cy (iU σ k i b x) := by
                rw [wE_put (cy := cy) ha hrk]
                exact wW_set hI (by omega) hi hq1 wE_other
              have hD := wW_D hI cy σ
              cases h0 : Nat.beq c9 0 with
              | true =>
                rw [h0] at h hty
                simp only [cond_true] at h hty
                refine va_put (D := (dC, dI)) (v := .int x) (ty := .int) hx hb hts (fun w hw => ws_tw (in_u k ha w hw)) ty0 hty0 (cl_nm k ha) hown hK hP hD hS q0 hq0 (cl_get k ha) b hbN hlink (fun _ h9 => h9) hfin hty rfl rfl (by simpa using hbN) hdg (fun H1 locs1 hP1 hD1 hS1 => ?_)
                rw [hset] at hP1
                exact hn rfl _ _ _ _ h hE H1 locs1 ls hP1 hS1 hL hLl hSv2 hLv
              | false =>
                rw [h0] at h hty
                simp only [cond_false] at h hty
                cases h
                have hx01 := hE.1
                refine va_put (D := (dC, dI)) (v := .int x) (ty := .boolean) hx hb hts (fun w hw => ws_tw (in_u k ha w hw)) ty0 hty0 (cl_nm k ha) hown hK hP hD hS q0 hq0 (cl_get k ha) b hbN hlink (fun _ h9 => h9) hfin hty (by rcases hx01 with rfl | rfl <;> rfl) (by rcases hx01 with rfl | rfl <;> rfl) (by simpa using hbN) hdg (fun H1 locs1 hP1 hD1 hS1 => ?_)
                rw [hset] at hP1
                exact hE.2 H1 locs1 ls hP1 hS1 hL hLl hSv2 hLv
  | iaload =>
    cases S with
    | nil => exact no_ev h
    | cons u S =>
      cases u with
      | inr q => exact no_ev h
      | inl i =>
        cases S with
        | nil => exact no_ev h
        | cons u S =>
          cases u with
          | inl q => exact no_ev h
          | inr q =>
            obtain ⟨k, x⟩ := q
            have hSv2 : ∀ v ∈ S, vok v := fun v hv => hSv v (List.mem_cons_of_mem _ (List.mem_cons_of_mem _ hv))
            have hi : x < iCnt k := hSv (.inr (k, x)) (List.mem_cons_of_mem _ List.mem_cons_self)
            replace h : (bif Nat.beq k 8 then evN (vp_in i (iN 8 x)) nx L (.inl (σ 8 x i.toNatClampNeg) :: S) σ else none) = some ev := h
            cases hk : Nat.beq k 8 with
            | false => rw [hk] at h; exact no_ev h
            | true =>
              rw [hk] at h
              simp only [cond_true] at h
              have hk := Nat.eq_of_beq_eq_true hk
              subst hk
              simp only [Nat.beq_eq, Bool.and_eq_true, decide_eq_true_eq] at hc
              subst hc
              rw [hn1] at hdg
              cases h
              obtain ⟨q0, hq0⟩ := wW_get (ad := ad) (cy := cy) (σ := σ) (show 8 < 16 by omega) hi
              rw [wE_arr (by omega) (by omega)] at hq0
              exact va_iald hx hb hK hP q0 0 hq0 rfl hE.1 hdg (hE.2 H locs ls hP hS hL hLl (vok_cons (v := .inl _) trivial hSv2) hLv)
  | baload =>
    cases S with
    | nil => exact no_ev h
    | cons u S =>
      cases u with
      | inr q => exact no_ev h
      | inl i =>
        cases S with
        | nil => exact no_ev h
        | cons u S =>
          cases u with
          | inl q => exact no_ev h
          | inr q =>
            obtain ⟨k, x⟩ := q
            have hSv2 : ∀ v ∈ S, vok v := fun v hv => hSv v (List.mem_cons_of_mem _ (List.mem_cons_of_mem _ hv))
            have hi : x < iCnt k := hSv (.inr (k, x)) (List.mem_cons_of_mem _ List.mem_cons_self)
            replace h : (bif Nat.beq k a then evN (vp_in i (iN a x)) nx L (.inl (σ a x i.toNatClampNeg) :: S) σ else none) = some ev := h
            cases hk : Nat.beq k a with
            | false => rw [hk] at h; exact no_ev h
            | true =>
              rw [hk] at h
              simp only [cond_true] at h
              have hk := Nat.eq_of_beq_eq_true hk
              subst hk
              simp only [Nat.beq_eq, Bool.and_eq_true, Bool.or_eq_true, decide_eq_true_eq] at hc
              obtain ⟨rfl, hc⟩ := hc
              rw [hn1] at hdg
              cases h
              obtain ⟨q0, hq0⟩ := wW_get (ad := ad) (cy := cy) (σ := σ) (show k < 16 by omega) hi
              rw [wE_arr (by omega) (by omega)] at hq0
              rcases hc with rfl | rfl
              · exact va_bald hx hb hK hP q0 1 hq0 rfl hE.1 hdg (hE.2 H locs ls hP hS hL hLl (vok_cons (v := .inl _) trivial hSv2) hLv)
              · exact va_zald hx hb hK hP q0 2 hq0 rfl hE.1 hdg (hE.2 H locs ls hP hS hL hLl (vok_cons (v := .inl _) trivial hSv2) hLv)
  | aaload =>
    cases S with
    | nil => exact no_ev h
    | cons u S =>
      cases u with
      | inr q => exact no_ev h
      | inl i =>
        cases S with
        | nil => exact no_ev h
        | cons u S =>
          cases u with
          | inl q => exact no_ev h
          | inr q =>
            obtain ⟨k, x⟩ := q
            have hSv2 : ∀ v ∈ S, vok v := fun v hv => hSv v (List.mem_cons_of_mem _ (List.mem_cons_of_mem _ hv))
            have hi : x < iCnt k := hSv (.inr (k, x)) (List.mem_cons_of_mem _ List.mem_cons_self)
            replace h : (bif Nat.beq k a then raK a x i.toNatClampNeg (fun r => evN (vp_in i (iN a x)) nx L (.inr (d, r) :: S) σ) else none) = some ev := h
            cases hk : Nat.beq k a with
            | false => rw [hk] at h; exact no_ev h
            | true =>
              rw [hk] at h
              simp only [cond_true] at h
              have hk := Nat.eq_of_beq_eq_true hk
              subst hk
              simp only [Nat.beq_eq, Bool.and_eq_true, Nat.ble_eq, decide_eq_true_eq] at hc
              obtain ⟨⟨⟨rfl, h12⟩, h15⟩, rfl⟩ := hc
              rw [hn1] at hdg
              rw [raK_id] at h
              cases h
              obtain ⟨q0, hq0⟩ := wW_get (ad := ad) (cy := cy) (σ := σ) (show k < 16 by omega) hi
              rw [wE_refs h12] at hq0
              obtain ⟨t0, C0, ht0⟩ := wT_at (cy := cy) h12 h15
              have hlt : i.toNatClampNeg < iN k x := by
                have := hE.1
                unfold vp_in at this
                omega
              exact va_aldq hx hb hK hP q0 t0 hq0 ht0 hE.1 hdg (hE.2 H locs ls hP hS hL hLl (vok_cons (v := .inr (iEk k, raK k x i.toNatClampNeg id)) (ra_ok k x _ h12 h15 hi hlt) hSv2) hLv)
  | iastore =>
    cases S with
    | nil => exact no_ev h
    | cons u S =>
      cases u with
      | inr q => exact no_ev h
      | inl y =>
        cases S with
        | nil => exact no_ev h
        | cons u S =>
          cases u with
          | inr q => exact no_ev h
          | inl i =>
            cases S with
            | nil => exact no_ev h
            | cons u S =>
              cases u with
              | inl q => exact no_ev h
              | inr q =>
                obtain ⟨k, x⟩ := q
                have hSv2 : ∀ v ∈ S, vok v := fun v hv => hSv v (List.mem_cons_of_mem _ (List.mem_cons_of_mem _ (List.mem_cons_of_mem _ hv)))
                have hi : x < iCnt k := hSv (.inr (k, x)) (List.mem_cons_of_mem _ (List.mem_cons_of_mem _ List.mem_cons_self))
                have hD := wW_D hI cy σ
                replace h : (bif Nat.beq k 8 then evN (vp_in i (iN 8 x)) nx L S (iU σ 8 x i.toNatClampNeg y) else none) = some ev := h
                cases hk : Nat.beq k 8 with
                | false => rw [hk] at h; exact no_ev h
                | true =>
                  rw [hk] at h
                  simp only [cond_true] at h
                  have hk := Nat.eq_of_beq_eq_true hk
                  subst hk
                  simp only [Nat.beq_eq, Bool.and_eq_true, decide_eq_true_eq] at hc
                  subst hc
                  rw [hn1] at hdg
                  cases h
                  obtain ⟨q0, hq0⟩ := wW_get (ad := ad) (cy := cy) (σ := σ) (show 8 < 16 by omega) hi
                  have hq1 := hq0
                  rw [wE_arr (by omega) (by omega)] at hq0
                  refine va_iast hx hb hK hP hD hS q0 0 hq0 rfl hE.1 hdg (fun H1 locs1 hP1 hD1 hS1 => ?_)
                  rw [wE_ast (ad := ad) (by omega) (by omega), wW_set hI (by omega) hi hq1 wE_other] at hP1
                  exact hE.2 H1 locs1 ls hP1 hS1 hL hLl hSv2 hLv
  | bastore =>
    cases S with
    | nil => exact no_ev h
    | cons u S =>
      cases u with
      | inr q => exact no_ev h
      | inl y =>
        cases S with
        | nil => exact no_ev h
        | cons u S =>
          cases u with
          | inr q => exact no_ev h
          | inl i =>
            cases S with
            | nil => exact no_ev h
            | cons u S =>
              cases u with
              | inl q => exact no_ev h
              | inr q =>
                obtain ⟨k, x⟩ := q
                have hSv2 : ∀ v ∈ S, vok v := fun v hv => hSv v (List.mem_cons_of_mem _ (List.mem_cons_of_mem _ (List.mem_cons_of_mem _ hv)))
                have hi : x < iCnt k := hSv (.inr (k, x)) (List.mem_cons_of_mem _ (List.mem_cons_of_mem _ List.mem_cons_self))
                have hD := wW_D hI cy σ
                replace h : (bif Nat.beq k a then (bif Nat.beq a 9 then evN (vp_in i (iN a x)) nx L S (iU σ a x i.toNatClampNeg (vp_nar .byte y)) else evN (vp_in i (iN a x)) nx L S (iU σ a x i.toNatClampNeg (vp_nar .boolean y))) else none) = some ev := h
                cases hk : Nat.beq k a with
                | false => rw [hk] at h; exact no_ev h
                | true =>
                  rw [hk] at h
                  simp only [cond_true] at h
                  have hk := Nat.eq_of_beq_eq_true hk
                  subst hk
                  simp only [Nat.beq_eq, Bool.and_eq_true, Bool.or_eq_true, decide_eq_true_eq] at hc
                  obtain ⟨rfl, hc⟩ := hc
                  rw [hn1] at hdg
                  obtain ⟨q0, hq0⟩ := wW_get (ad := ad) (cy := cy) (σ := σ) (show k < 16 by omega) hi
                  have hq1 := hq0
                  rw [wE_arr (by omega) (by omega)] at hq0
                  rcases hc with rfl | rfl
                  · replace h : evN (vp_in i (iN 9 x)) (pc + 1) L S (iU σ 9 x i.toNatClampNeg (vp_nar .byte y)) = some ev := h
                    cases h
                    refine va_bast hx hb hK hP hD hS q0 1 hq0 rfl hE.1 hdg (fun H1 locs1 hP1 hD1 hS1 => ?_)
                    rw [wE_ast (ad := ad) (by omega) (by omega), wW_set hI (by omega) hi hq1 wE_other] at hP1
                    exact hE.2 H1 locs1 ls hP1 hS1 hL hLl hSv2 hLv
                  · replace h : evN (vp_in i (iN 10 x)) (pc + 1) L S (iU σ 10 x i.toNatClampNeg (vp_nar .boolean y)) = some ev := h
                    cases h
                    refine va_zast hx hb hK hP hD hS q0 2 hq0 rfl hE.1 hdg (fun H1 locs1 hP1 hD1 hS1 => ?_)
                    rw [wE_ast (ad := ad) (by omega) (by omega), wW_set hI (by omega) hi hq1 wE_other] at hP1
                    exact hE.2 H1 locs1 ls hP1 hS1 hL hLl hSv2 hLv
  | arraylength =>
    cases S with
    | nil => exact no_ev h
    | cons u S =>
      cases u with
      | inl q => exact no_ev h
      | inr q =>
        obtain ⟨k, x⟩ := q
        have hSv2 : ∀ v ∈ S, vok v := fun v hv => hSv v (List.mem_cons_of_mem _ hv)
        have hi : x < iCnt k := hSv (.inr (k, x)) List.mem_cons_self
        replace h : (bif Nat.beq k a then f L (.inl (Int32.ofNat (iN a x)) :: S) σ else none) = some ev := h
        cases hk : Nat.beq k a with
        | false => rw [hk] at h; exact no_ev h
        | true =>
          rw [hk] at h
          simp only [cond_true] at h
          have hk := Nat.eq_of_beq_eq_true hk
          subst hk
          simp only [Nat.beq_eq, Bool.and_eq_true, Nat.ble_eq, Bool.not_eq_true', decide_eq_true_eq] at hc
          obtain ⟨⟨⟨rfl, h8⟩, h15⟩, h11⟩ := hc
          rw [hn1] at hdg
          have h11 : k ≠ 11 := fun q => by subst q; cases h11
          obtain ⟨q0, hq0⟩ := wW_get (ad := ad) (cy := cy) (σ := σ) (show k < 16 by omega) hi
          obtain ⟨xa, hxa, hwe⟩ := wE_len (ad := ad) (cy := cy) (σ := σ) (i := x) h8
          rw [hwe] at hq0
          obtain ⟨t0, ty, ht0⟩ := wT_any (cy := cy) h8 h15 h11
          exact va_alen hx hb hK hP q0 t0 hq0 ht0 (by rw [hxa]) hdg (hn rfl _ _ _ _ h hE H locs ls hP hS hL hLl (vok_cons (v := .inl _) trivial hSv2) hLv)
  | goto o =>
    replace h : evJ a L S σ = some ev := h
    cases h
    simp only [Nat.beq_eq, decide_eq_true_eq, Bool.and_eq_true] at hc
    obtain ⟨rfl, ht⟩ := hc
    rw [hn1] at hdg
    exact lv_goto hx hb hdg ht (hE H locs ls hP hS hL hLl hSv hLv)
  | if_icmp cd o =>
    cases S with
    | nil => exact no_ev h
    | cons u S =>
      cases u with
      | inr q => exact no_ev h
      | inl y =>
        cases S with
        | nil => exact no_ev h
        | cons u S =>
          cases u with
          | inr q => exact no_ev h
          | inl x =>
            simp only [Nat.beq_eq, decide_eq_true_eq, Bool.and_eq_true] at hc
            obtain ⟨rfl, ht⟩ := hc
            rw [hn1] at hdg
            have hSv2 : ∀ v ∈ S, vok v := fun v hv => hSv v (List.mem_cons_of_mem _ (List.mem_cons_of_mem _ hv))
            cases cd with
            | eq =>
              replace h : evB (x = y) a (pc + 3) L S σ = some ev := h
              cases h
              exact lv_icmp_eq hx hb hdg ht (fun q => hE.1 q H locs ls hP hS hL hLl hSv2 hLv) (fun q => hE.2 q H locs ls hP hS hL hLl hSv2 hLv)
            | ne =>
              replace h : evB (x = y) (pc + 3) a L S σ = some ev := h
              cases h
              exact lv_icmp_ne hx hb hdg ht (fun q => hE.2 q H locs ls hP hS hL hLl hSv2 hLv) (fun q => hE.1 q H locs ls hP hS hL hLl hSv2 hLv)
            | lt =>
              replace h : evB (x < y) a (pc + 3) L S σ = some ev := h
              cases h
              exact lv_icmp_lt hx hb hdg ht (fun q => hE.1 q H locs ls hP hS hL hLl hSv2 hLv) (fun q => hE.2 q H locs ls hP hS hL hLl hSv2 hLv)
            | ge =>
              replace h : evB (y ≤ x) a (pc + 3) L S σ = some ev := h
              cases h
              exact lv_icmp_ge hx hb hdg ht (fun q => hE.1 q H locs ls hP hS hL hLl hSv2 hLv) (fun q => hE.2 q H locs ls hP hS hL hLl hSv2 hLv)
            | gt =>
              replace h : evB (y < x) a (pc + 3) L S σ = some ev := h
              cases h
              exact lv_icmp_gt hx hb hdg ht (fun q => hE.1 q H locs ls hP hS hL hLl hSv2 hLv) (fun q => hE.2 q H locs ls hP hS hL hLl hSv2 hLv)
            | le =>
              replace h : evB (x ≤ y) a (pc + 3) L S σ = some ev := h
              cases h
              exact lv_icmp_le hx hb hdg ht (fun q => hE.1 q H locs ls hP hS hL hLl hSv2 hLv) (fun q => hE.2 q H locs ls hP hS hL hLl hSv2 hLv)
  | ifCond cd o =>
    cases S with
    | nil => exact no_ev h
    | cons u S =>
      cases u with
      | inr q => exact no_ev h
      | inl x =>
        simp only [Nat.beq_eq, decide_eq_true_eq, Bool.and_eq_true] at hc
        obtain ⟨rfl, ht⟩ := hc
        rw [hn1] at hdg
        have hSv2 : ∀ v ∈ S, vok v := fun v hv => hSv v (List.mem_cons_of_mem _ hv)
        cases cd with
        | eq =>
          replace h : evB (x = 0) a (pc + 3) L S σ = some ev := h
          cases h
          exact lv_if_eq hx hb hdg ht (fun q => hE.1 q H locs ls hP hS hL hLl hSv2 hLv) (fun q => hE.2 q H locs ls hP hS hL hLl hSv2 hLv)
        | ne =>
          replace h : evB (x = 0) (pc + 3) a L S σ = some ev := h
          cases h
          exact lv_if_ne hx hb hdg ht (fun q => hE.2 q H locs ls hP hS hL hLl hSv2 hLv) (fun q => hE.1 q H locs ls hP hS hL hLl hSv2 hLv)
        | lt =>
          replace h : evB (x < 0) a (pc + 3) L S σ = some ev := h
          cases h
          exact lv_if_lt hx hb hdg ht (fun q => hE.1 q H locs ls hP hS hL hLl hSv2 hLv) (fun q => hE.2 q H locs ls hP hS hL hLl hSv2 hLv)
        | ge =>
          replace h : evB (0 ≤ x) a (pc + 3) L S σ = some ev := h
          cases h
          exact lv_if_ge hx hb hdg ht (fun q => hE.1 q H locs ls hP hS hL hLl hSv2 hLv) (fun q => hE.2 q H locs ls hP hS hL hLl hSv2 hLv)
        | gt =>
          replace h : evB (0 < x) a (pc + 3) L S σ = some ev := h
          cases h
          exact lv_if_gt hx hb hdg ht (fun q => hE.1 q H locs ls hP hS hL hLl hSv2 hLv) (fun q => hE.2 q H locs ls hP hS hL hLl hSv2 hLv)
        | le =>
          replace h : evB (x ≤ 0) a (pc + 3) L S σ = some ev := h
          cases h
          exact lv_if_le hx hb hdg ht (fun q => hE.1 q H locs ls hP hS hL hLl hSv2 hLv) (fun q => hE.2 q H locs ls hP hS hL hLl hSv2 hLv)
  | tableswitch df lo hi os =>
    cases S with
    | nil => exact no_ev h
    | cons u S =>
      cases u with
      | inr q => exact no_ev h
      | inl x =>
        replace h : evS x ts a L S σ = some ev := h
        cases h
        have hSv2 : ∀ v ∈ S, vok v := fun v hv => hSv v (List.mem_cons_of_mem _ hv)
        simp only [decide_eq_true_eq, Bool.and_eq_true, Nat.beq_eq] at hc
        obtain ⟨⟨hd, hsw⟩, hhi⟩ := hc
        by_cases hin : lo ≤ x.toInt ∧ x.toInt ≤ hi
        · obtain ⟨off, g1, g2⟩ := tabT pc x a os.toList ts lo hsw hin.1 (by omega)
          exact lv_tableIn hx hb hdg (by omega) (by omega) (by rw [← Array.getElem?_toList]; exact g1) g2 (hE H locs ls hP hS hL hLl hSv2 hLv)
        · have ht := tabF pc x a os.toList ts lo hsw (by omega)
          refine lv_tableOut hx hb hdg (by omega) hd ?_
          have hE : WAt p l e s m args below meth c dC dI ad cy R Q j (swT x ts a) L S σ := hE
          rw [ht] at hE
          exact hE H locs ls hP hS hL hLl hSv2 hLv
  | lookupswitch df os =>
    cases S with
    | nil => exact no_ev h
    | cons u S =>
      cases u with
      | inr q => exact no_ev h
      | inl x =>
        replace h : evS x ts a L S σ = some ev := h
        cases h
        have hSv2 : ∀ v ∈ S, vok v := fun v hv => hSv v (List.mem_cons_of_mem _ hv)
        simp only [decide_eq_true_eq, Bool.and_eq_true, Nat.beq_eq] at hc
        obtain ⟨⟨hd, hsw⟩, hp⟩ := hc
        exact lv_lookup hx hb hdg hp rfl (lkT pc x a df hd os.toList ts hsw) (hE H locs ls hP hS hL hLl hSv2 hLv)
  | invokevirtual idx =>
    simp only [Nat.beq_eq, Bool.and_eq_true, decide_eq_true_eq] at hc
    obtain ⟨rfl, hc⟩ := hc
    rw [hn1] at hdg
    cases d with
    | zero =>
      replace h : popN b S [] (fun as S => (match as with | .inr (k, _) :: _ => bif Nat.beq k c9 && Nat.ble S.length 8 then evC a as (pc + 3) L S σ else none | _ => none)) = some ev := h
      obtain ⟨T, S', hTS, hTl, g⟩ := popN_spec h
      clear h
      subst hTS
      rw [List.append_nil] at g
      simp only [Bool.and_eq_true, Nat.blt_eq, decide_eq_true_eq, Nat.beq_eq, Nat.ble_eq, Bool.not_eq_true'] at hc
      obtain ⟨⟨⟨⟨⟨⟨ha, hw⟩, hst⟩, hbn⟩, hck⟩, hfr⟩, hlo⟩ := hc
      obtain ⟨k1, k2, k3, k4, k5, k6, k7, k8, k9, k10, k11, k12, -⟩ := ckM ha
      generalize hTr : T.reverse = as at g
      have hT : T = as.reverse := by rw [← hTr, List.reverse_reverse]
      subst hT
      cases as with
      | nil => exact no_ev g
      | cons u As =>
        cases u with
        | inl q => exact no_ev g
        | inr q =>
          obtain ⟨k, i⟩ := q
          replace g : (bif Nat.beq k c9 && Nat.ble S'.length 8 then evC a (.inr (k, i) :: As) (pc + 3) L S' σ else none) = some ev := g
          cases hk : (Nat.beq k c9 && Nat.ble S'.length 8) with
          | false => rw [hk] at g; exact no_ev g
          | true =>
            rw [hk] at g
            simp only [Bool.and_eq_true, Nat.beq_eq, Nat.ble_eq] at hk
            obtain ⟨hkc, hS8⟩ := hk
            cases g
            rw [hck] at hkc
            subst hkc
            have hAl : (.inr (iKd a, i) :: As : List iV).length = iNa a := by rw [← hbn, ← hTl, List.length_reverse]
            exact hcall a (.inr (iKd a, i) :: As) pc L S' σ ha hAl hS8 hfr hlo (Or.inl ⟨idx, i, As, rfl, hdg, in_r hw, hst⟩) hE H locs ls hP hS hL hLl hSv hLv
    | succ d =>
      cases d with
      | zero =>
        cases S with
        | nil => exact no_ev h
        | cons u S =>
          cases u with
          | inl q => exact no_ev h
          | inr q =>
            obtain ⟨k, i⟩ := q
            have hSv2 : ∀ v ∈ S, vok v := fun v hv => hSv v (List.mem_cons_of_mem _ hv)
            have hi : i < iCnt k := hSv (.inr (k, i)) List.mem_cons_self
            replace h : (bif Nat.beq k 16 && Nat.ble S.length 8 then f L (.inl (Int32.ofNat (sLen i)) :: S) σ else none) = some ev := h
            cases hk : (Nat.beq k 16 && Nat.ble S.length 8) with
            | false => rw [hk] at h; exact no_ev h
            | true =>
              rw [hk] at h
              simp only [cond_true] at h
              simp only [Bool.and_eq_true, Nat.beq_eq, Nat.ble_eq] at hk
              obtain ⟨hk16, hS8⟩ := hk
              subst hk16
              have hi : i < 8 := hi
              simp only [Bool.and_eq_true, decide_eq_true_eq, Nat.ble_eq, Nat.beq_eq] at hc
              obtain ⟨⟨hw, hfr⟩, hlo⟩ := hc
              have hM := hEX.2.2.2.2.1 i hi
              have hG : GoodIn (iWs j) (wsV (iOwn j) idx RJ0 yJ0_length_8abf5 (.code yJ0_length_8abf5 cJ0_length_8abf5 1 (some .int) :: tw)) := by
                apply good_tw
                intro w hw9
                unfold wsV at hw9
                rcases List.mem_append.mp hw9 with hw9 | hw9
                · simp only [List.mem_cons, List.not_mem_nil, or_false] at hw9
                  rcases hw9 with rfl | rfl | rfl | rfl
                  · exact in_r hw
                  · exact in_j (i := 1) rfl
                  · exact in_j (i := 2) rfl
                  · exact in_j (i := 3) rfl
                · rcases List.mem_cons.mp hw9 with rfl | hw9
                  · exact in_j (i := 0) rfl
                  · exact hw9
              have hrun := va_runV (p := p) (l := l) (e := e) (R := R) (s := s) (m := m) (args := args) (below := below) (meth := meth) (c := c) (H := H) (locs := locs) (cells := 0) (slots := 0) (g := F0 m pc ls (.ref (ad 16 i) :: S.map (emb ad))) (rest := S.map (emb ad)) (As := []) (b := ad 16 i) (C := RJ0) ⟨hx, hb, hml, hown, hts⟩ hM
                (cwV 0 hts hG rfl rfl rfl (by decide +kernel) ⟨by rw [hRf]; exact hfr, by rw [hRl]; exact hlo⟩)
                ⟨fun a9 U g mk q9 => ⟨q9.1, hEX.2.1 U g mk a9 q9.2⟩, hEX.2.2.2.1 s hex H locs hS i hi, fun U hU hW => ⟨rfl, hEX.1 s U locs hex hW (by rw [hU]; exact hS)⟩⟩
                rfl rfl (by rw [show (F0 m pc ls (.ref (ad 16 i) :: S.map (emb ad))).locals = ls from rfl, hL.len, hLl]) rfl (lv_room (by rw [cat_sum]; exact hS8)) hdg ⟨Nat.zero_le _, Nat.zero_le _⟩
              refine call_go hrun (fun v9 st t H1 L1 h1 h2 h3 h4 => ?_)
              obtain ⟨hv9, hH⟩ := h3
              cases hv9
              subst h2
              rw [hH, h1]
              exact hn rfl _ _ _ _ h hE H (locs ++ L1) ls hP (hS.call (free := wA ad) (Nat.le_refl _) (fun q _ _ => rfl) (fun q hq => (h4 q hq).elim)) hL hLl (vok_cons (v := .inl _) trivial hSv2) hLv
      | succ d =>
        cases d with
        | zero =>
          cases S with
          | nil => exact no_ev h
          | cons u S =>
            cases u with
            | inr q => exact no_ev h
            | inl y =>
              cases S with
              | nil => exact no_ev h
              | cons u S =>
                cases u with
                | inl q => exact no_ev h
                | inr q =>
                  obtain ⟨k, i⟩ := q
                  have hSv2 : ∀ v ∈ S, vok v := fun v hv => hSv v (List.mem_cons_of_mem _ (List.mem_cons_of_mem _ hv))
                  have hi : i < iCnt k := hSv (.inr (k, i)) (List.mem_cons_of_mem _ List.mem_cons_self)
                  replace h : (bif Nat.beq k 16 && Nat.ble S.length 8 then evN (vp_in y (sLen i)) (pc + 3) L (.inl (sCh i y.toNatClampNeg) :: S) σ else none) = some ev := h
                  cases hk : (Nat.beq k 16 && Nat.ble S.length 8) with
                  | false => rw [hk] at h; exact no_ev h
                  | true =>
                    rw [hk] at h
                    simp only [cond_true] at h
                    simp only [Bool.and_eq_true, Nat.beq_eq, Nat.ble_eq] at hk
                    obtain ⟨hk16, hS8⟩ := hk
                    subst hk16
                    have hi : i < 8 := hi
                    cases h
                    simp only [Bool.and_eq_true, decide_eq_true_eq, Nat.ble_eq, Nat.beq_eq] at hc
                    obtain ⟨⟨hw, hfr⟩, hlo⟩ := hc
                    have hM := hEX.2.2.2.2.2 i hi y hE.1
                    have hG : GoodIn (iWs j) (wsV (iOwn j) idx RJ0 yJ0_charAt_5068e (.code yJ0_charAt_5068e cJ0_charAt_5068e 2 (some .char) :: tw)) := by
                      apply good_tw
                      intro w hw9
                      unfold wsV at hw9
                      rcases List.mem_append.mp hw9 with hw9 | hw9
                      · simp only [List.mem_cons, List.not_mem_nil, or_false] at hw9
                        rcases hw9 with rfl | rfl | rfl | rfl
                        · exact in_r hw
                        · exact in_j (i := 5) rfl
                        · exact in_j (i := 6) rfl
                        · exact in_j (i := 3) rfl
                      · rcases List.mem_cons.mp hw9 with rfl | hw9
                        · exact in_j (i := 4) rfl
                        · exact hw9
                    have hrun := va_runV (p := p) (l := l) (e := e) (R := R) (s := s) (m := m) (args := args) (below := below) (meth := meth) (c := c) (H := H) (locs := locs) (cells := 0) (slots := 0) (g := F0 m pc ls (.int y :: .ref (ad 16 i) :: S.map (emb ad))) (rest := S.map (emb ad)) (As := [.int y]) (b := ad 16 i) (C := RJ0) ⟨hx, hb, hml, hown, hts⟩ hM
                      (cwV 1 hts hG rfl rfl rfl (by decide +kernel) ⟨by rw [hRf]; exact hfr, by rw [hRl]; exact hlo⟩)
                      ⟨fun a9 U g mk q9 => ⟨q9.1, hEX.2.1 U g mk a9 q9.2⟩, hEX.2.2.2.1 s hex H locs hS i hi, fun U hU hW => ⟨rfl, hEX.1 s U locs hex hW (by rw [hU]; exact hS)⟩⟩
                      rfl rfl (by rw [show (F0 m pc ls (.int y :: .ref (ad 16 i) :: S.map (emb ad))).locals = ls from rfl, hL.len, hLl]) rfl (lv_room (by rw [cat_sum]; exact hS8)) hdg ⟨Nat.zero_le _, Nat.zero_le _⟩
                    refine call_go hrun (fun v9 st t H1 L1 h1 h2 h3 h4 => ?_)
                    obtain ⟨hv9, hH⟩ := h3
                    cases hv9
                    subst h2
                    rw [hH, h1]
                    exact hE.2 H (locs ++ L1) ls hP (hS.call (free := wA ad) (Nat.le_refl _) (fun q _ _ => rfl) (fun q hq => (h4 q hq).elim)) hL hLl (vok_cons (v := .inl _) trivial hSv2) hLv
        | succ d => cases hc
  | invokestatic idx =>
    simp only [Nat.beq_eq, Bool.and_eq_true, decide_eq_true_eq] at hc
    obtain ⟨rfl, hc⟩ := hc
    rw [hn1] at hdg
    cases d with
    | zero =>
      replace h : popN b S [] (fun as S => bif Nat.ble S.length 8 then evC a as (pc + 3) L S σ else none) = some ev := h
      obtain ⟨T, S', hTS, hTl, g⟩ := popN_spec h
      clear h
      subst hTS
      rw [List.append_nil] at g
      simp only [Bool.and_eq_true, Nat.blt_eq, decide_eq_true_eq, Nat.beq_eq, Nat.ble_eq] at hc
      obtain ⟨⟨⟨⟨⟨⟨ha, hw⟩, hst⟩, hoo⟩, hbn⟩, hfr⟩, hlo⟩ := hc
      obtain ⟨k1, k2, k3, k4, k5, k6, k7, k8, k9, k10, k11, k12, -⟩ := ckM ha
      generalize hTr : T.reverse = as at g
      have hT : T = as.reverse := by rw [← hTr, List.reverse_reverse]
      subst hT
      cases hk : (Nat.ble S'.length 8) with
      | false => rw [hk] at g; exact no_ev g
      | true =>
        rw [hk] at g
        simp only [cond_true] at g
        have hS8 := Nat.le_of_ble_eq_true hk
        cases g
        have hAl : as.length = iNa a := by rw [← hbn, ← hTl, List.length_reverse]
        exact hcall a as pc L S' σ ha hAl hS8 hfr hlo (Or.inr ⟨idx, hdg, in_r hw, hst, hoo⟩) hE H locs ls hP hS hL hLl hSv hLv
    | succ d =>
      cases d with
      | zero =>
        cases S with
        | nil => exact no_ev h
        | cons u S =>
          cases u with
          | inr q => exact no_ev h
          | inl y =>
            cases S with
            | nil => exact no_ev h
            | cons u S =>
              cases u with
              | inr q => exact no_ev h
              | inl x =>
                replace h : (bif Nat.ble S.length 8 then f L (.inl (iMax x y) :: S) σ else none) = some ev := h
                have hSv2 : ∀ v ∈ S, vok v := fun v hv => hSv v (List.mem_cons_of_mem _ (List.mem_cons_of_mem _ hv))
                cases hk : (Nat.ble S.length 8) with
                | false => rw [hk] at h; exact no_ev h
                | true =>
                  rw [hk] at h
                  simp only [cond_true] at h
                  have hS8 := Nat.le_of_ble_eq_true hk
                  simp only [Bool.and_eq_true, decide_eq_true_eq, Nat.ble_eq, Nat.beq_eq] at hc
                  obtain ⟨⟨hw, hfr⟩, hlo⟩ := hc
                  exact va_mmax hx hb (by rw [hml, hL.len, hLl]) hown (hts _ (ws_tw (in_r hw))) (hts _ (ws_tw (in_r (i := 1172) (by decide +kernel)))) (hts _ (ws_tw (in_r (i := 1175) (by decide +kernel)))) (hts _ (ws_tw (in_r (i := 1171) (by decide +kernel)))) (by rw [hRf]; exact hfr) (by rw [cat_sum, hRl]; omega) (Nat.zero_le _) (Nat.zero_le _) hdg (hn rfl _ _ _ _ h hE H locs ls hP hS hL hLl (vok_cons (v := .inl _) trivial hSv2) hLv)
      | succ d =>
        cases d with
        | zero =>
          cases S with
          | nil => exact no_ev h
          | cons u S =>
            cases u with
            | inr q => exact no_ev h
            | inl y =>
              cases S with
              | nil => exact no_ev h
              | cons u S =>
                cases u with
                | inr q => exact no_ev h
                | inl x =>
                  replace h : (bif Nat.ble S.length 8 then f L (.inl (iMin x y) :: S) σ else none) = some ev := h
                  have hSv2 : ∀ v ∈ S, vok v := fun v hv => hSv v (List.mem_cons_of_mem _ (List.mem_cons_of_mem _ hv))
                  cases hk : (Nat.ble S.length 8) with
                  | false => rw [hk] at h; exact no_ev h
                  | true =>
                    rw [hk] at h
                    simp only [cond_true] at h
                    have hS8 := Nat.le_of_ble_eq_true hk
                    simp only [Bool.and_eq_true, decide_eq_true_eq, Nat.ble_eq, Nat.beq_eq] at hc
                    obtain ⟨⟨hw, hfr⟩, hlo⟩ := hc
                    exact va_mmin hx hb (by rw [hml, hL.len, hLl]) hown (hts _ (ws_tw (in_r hw))) (hts _ (ws_tw (in_r (i := 1174) (by decide +kernel)))) (hts _ (ws_tw (in_r (i := 1175) (by decide +kernel)))) (hts _ (ws_tw (in_r (i := 1173) (by decide +kernel)))) (by rw [hRf]; exact hfr) (by rw [cat_sum, hRl]; omega) (Nat.zero_le _) (Nat.zero_le _) hdg (hn rfl _ _ _ _ h hE H locs ls hP hS hL hLl (vok_cons (v := .inl _) trivial hSv2) hLv)
        | succ d => cases hc
  | ireturn =>
    cases S with
    | nil => exact no_ev h
    | cons u S =>
      cases u with
      | inr q => exact no_ev h
      | inl x =>
        cases S with
        | cons q S => exact no_ev h
        | nil =>
          replace h : (bif Nat.beq c9 0 then evR (some (.inl x)) σ else evZ x σ) = some ev := h
          simp only [Nat.beq_eq, decide_eq_true_eq, Bool.and_eq_true] at hc
          obtain ⟨rfl, hrt⟩ := hc
          rw [hn1] at hdg
          cases h0 : Nat.beq c9 0 with
          | true =>
            rw [h0] at h hrt
            cases h
            exact hret (some (.inl x)) σ pc L (Or.inl ⟨x, rfl, hdg, hrt⟩) hE H locs ls hP hS hL hLl hSv hLv
          | false =>
            rw [h0] at h hrt
            cases h
            exact hret (some (.inl x)) σ pc L (Or.inr (Or.inl ⟨x, rfl, hdg, hrt, hE.1⟩)) hE.2 H locs ls hP hS hL hLl hSv hLv
  | areturn =>
    cases S with
    | nil => exact no_ev h
    | cons u S =>
      cases u with
      | inl q => exact no_ev h
      | inr q =>
        obtain ⟨k, i⟩ := q
        cases S with
        | cons q S => exact no_ev h
        | nil =>
          replace h : evR (some (.inr (k, i))) σ = some ev := h
          cases h
          simp only [Nat.beq_eq, Bool.and_eq_true, decide_eq_true_eq] at hc
          obtain ⟨rfl, hrt⟩ := hc
          rw [hn1] at hdg
          split at hrt
          · rename_i nm hnm
            exact hret (some (.inr (k, i))) σ pc L (Or.inr (Or.inr (Or.inl ⟨k, i, nm, rfl, hdg, hnm⟩))) hE H locs ls hP hS hL hLl hSv hLv
          · cases hrt
  | return_ =>
    cases S with
    | cons q S => exact no_ev h
    | nil =>
      replace h : evR none σ = some ev := h
      cases h
      simp only [Nat.beq_eq, decide_eq_true_eq, Bool.and_eq_true] at hc
      obtain ⟨rfl, hrt⟩ := hc
      rw [hn1] at hdg
      exact hret none σ pc L (Or.inr (Or.inr (Or.inr ⟨rfl, hdg, hrt⟩))) hE H locs ls hP hS hL hLl hSv hLv
  | new i =>
    replace h : evT a σ = some ev := h
    cases h
    exact hthr (pc, .new i, nx, a, b, c9, d, w, v, ts) L S σ hmem rfl hE H locs ls hP hS hL hLl hSv hLv
  | _ => exact no_ev h
end SND2
end
section
/-! ===== soundness: a whole run ===== -/
def exN (x : Nat) : String := match x with | 0 => "java/lang/IndexOutOfBoundsException" | _ => "java/lang/IllegalArgumentException"
def iXC (dC : Nat → ClassId) (dI : Nat → Nat → Nat) (ad : Nat → Nat → Nat) (cy : Nat → ClassId) (x0 : Nat) (σ0 : iM) : String → State → State → Prop := fun E st t => E = exN x0 ∧ va_P (dC, dI) vwCl (wW ad cy σ0) t.heap ∧ va_F (wA ad) st t
abbrev iRx (j : Nat) : Room := { frames := iFr j, cells := 1, slots := 6, locals := iLo j }
/-- a call that throws -/
def iMetX (l : Launch) (dC : Nat → ClassId) (dI : Nat → Nat → Nat) (ad : Nat → Nat → Nat) (cy : Nat → ClassId) (EX : State → Prop) (k : Nat) (as : List iV) (σ : iM) (x0 : Nat) (σ0 : iM) : Prop := vx_Met l (iY k) (iWs k) (iRx k) (iPc dC dI ad cy EX as σ) (fun _ _ _ _ => False) (iXC dC dI ad cy x0 σ0) 1 6 (wA ad)
abbrev iQx (below : List Frame) (dC : Nat → ClassId) (dI : Nat → Nat → Nat) (ad : Nat → Nat → Nat) (cy : Nat → ClassId) (args : Array Value) (s : State) (x0 : Nat) (σ0 : iM) : State → Prop := vx_MQ below (fun _ _ _ _ => False) (iXC dC dI ad cy x0 σ0) args s 1 6 (wA ad)
section SND3
variable {p : Program} {l : Launch} {e : Env} {s : State} {m : MethodId} {args : Array Value} {below : List Frame} {meth : Method} {c : Code} {dC : Nat → ClassId} {dI : Nat → Nat → Nat} {ad : Nat → Nat → Nat} {cy : Nat → ClassId} {EX : State → Prop}
theorem iPc_blind (hEX : iEX l ad EX) (as : List iV) (σ : iM) : FrameBlind (iPc dC dI ad cy EX as σ) := fun a9 U g mk q9 => ⟨q9.1, q9.2.1, va_K.moved (u := U) (U := U.calling g mk a9) (Vm.Alike.refl U.vm) q9.2.2.1, hEX.2.1 U g mk a9 q9.2.2.2⟩
theorem goodV {j a idx : Nat} (ha : a < nMt) (hst : iStt a = false) (hw : Cond.methodLink (iOwn j) idx (iY a) ∈ tw) : GoodIn (iWs j) (wsV (iOwn j) idx (iOwn a) (iY a) (iWs a)) := by
  obtain ⟨k1, k2, k3, k4, -⟩ := ckM ha
  rw [hst] at k2 k3
  simp only [cond_false] at k2
  have k3 := k3.resolve_left (by decide)
  apply good_tw
  intro w hw9
  unfold wsV at hw9
  rcases List.mem_append.mp hw9 with hw9 | hw9
  · simp only [List.mem_cons, List.not_mem_nil, or_false] at hw9
    rcases hw9 with rfl | rfl | rfl | rfl
    · exact hw
    · exact k2
    · exact k3
    · exact k4
  · rcases List.mem_cons.mp hw9 with rfl | hw9
    · exact k1
    · exact hw9
theorem goodS {j a idx : Nat} (ha : a < nMt) (hst : iStt a = true) (hoo : iOwn a = iOwn j) (hw : Cond.methodLink (iOwn j) idx (iY a) ∈ tw) : GoodIn (iWs j) (wsS (iOwn j) idx (iY a) (iWs a)) := by
  obtain ⟨k1, k2, k3, k4, -⟩ := ckM ha
  rw [hst] at k2
  simp only [cond_true] at k2
  apply good_tw
  intro w hw9
  unfold wsS at hw9
  rcases List.mem_append.mp hw9 with hw9 | hw9
  · simp only [List.mem_cons, List.not_mem_nil, or_false] at hw9
    rcases hw9 with rfl | rfl | rfl
    · exact hw
    · exact k2
    · rw [← hoo]; exact k4
  · rcases List.mem_cons.mp hw9 with rfl | hw9
    · exact k1
    · exact hw9
set_option maxHeartbeats 4000000 in
/-- a call that answers -/
theorem call_norm {j : Nat} {R : Room} {Q : State → Prop} (hRf : R.frames = iFr j) (hRl : R.locals = iLo j) (C : iCF p l s m args meth c dC dI ad cy EX j) (a : Nat) (as : List iV) (pc : Nat) (L : iL) (S : iS) (σ : iM) (ha : a < nMt) (hAl : as.length = iNa a) (hS8 : S.length ≤ 8) (hfr : iFr a + 1 ≤ iFr j) (hlo : 8 + (iMl a + 11) + iLo a ≤ iLo j) (hcs : iCS j a as pc) {v : Option iV} {σ1 : iM} (hM : (∀ x ∈ as, vok x) → iMet l dC dI ad cy EX a as σ v σ1) (hvo : vokO v) (hE : WAt p l e s m args below meth c dC dI ad cy R Q j (pc + 3) L (v.toList ++ S) σ1) : WAt p l e s m args below meth c dC dI ad cy R Q j pc L (as.reverse ++ S) σ := by
  obtain ⟨hj, hx, hb, hr, hml, hts, hown, hlocks, hK, hex, hEX, hI, htab⟩ := C
  obtain ⟨k1, k2, k3, k4, k5, k6, k7, k8, k9, k10, k11, k12, -⟩ := ckM ha
  intro H locs ls hP hS hL hLl hSv hLv
  have hAs : ∀ x ∈ as, vok x := fun x hx9 => hSv x (List.mem_append_left _ (List.mem_reverse.mpr hx9))
  have hSv2 : ∀ v ∈ S, vok v := fun v hv => hSv v (List.mem_append_right _ hv)
  have hM := hM hAs
  have key : ∀ {Qa : State → Outcome → State → Prop} (hQa : ∀ st o t, Qa st o t → iQc dC dI ad cy v σ1 #[] st o t) (hrun : va_Run p l e R s m args below meth c H locs 0 0 0 0 (F0 m pc ls ((as.reverse ++ S).map (emb ad))) (S.map (emb ad)) Qa (wA ad)), W p l e R s m args below meth c H locs 0 0 Q (F0 m pc ls ((as.reverse ++ S).map (emb ad))) := by
    intro Qa hQa hrun
    refine call_go hrun (fun v9 st t H1 L1 h1 h2 h3 h4 => ?_)
    obtain ⟨hv9, hP1, hF1⟩ := hQa _ _ _ h3
    cases hv9
    subst h2
    have hgo := hE t.heap (locs ++ L1) ls hP1 (hS.call (free := wA ad) (by rw [← h1]; exact hF1.1) (fun q a1 a2 => by rw [← h1] at a1 ⊢; exact hF1.2 q a1 a2) h4) hL hLl (by
      cases v with
      | none => exact hSv2
      | some v => exact vok_cons hvo hSv2) hLv
    cases v with
    | none => exact hgo
    | some v => exact hgo
  rcases hcs with ⟨idx, i, As, rfl, hdg, hw, hst⟩ | ⟨idx, hdg, hw, hst, hoo⟩
  · have hi : i < iCnt (iKd a) := hAs (.inr (iKd a, i)) List.mem_cons_self
    obtain ⟨q0, hq0⟩ := wW_get (ad := ad) (cy := cy) (σ := σ) (show iKd a < 16 by omega) hi
    rw [wE_obj k6] at hq0
    rw [hst] at k10
    simp only [cond_false] at k10
    have hst9 : ((.inr (iKd a, i) :: As : List iV).reverse ++ S).map (emb ad) = (As.map (emb ad)).reverse ++ .ref (ad (iKd a) i) :: S.map (emb ad) := by
      simp [emb]
    refine key (Qa := iQc dC dI ad cy v σ1 (Value.ref (ad (iKd a) i) :: As.map (emb ad)).toArray) (fun st o t h => h) ?_
    exact va_runV (g := F0 m pc ls (((.inr (iKd a, i) :: As : List iV).reverse ++ S).map (emb ad))) (rest := S.map (emb ad)) (As := As.map (emb ad)) (b := ad (iKd a) i) (C := iOwn a) ⟨hx, hb, hml, hown, hts⟩ hM
      (cwV (As.length) hts (goodV ha hst hw) rfl rfl rfl ⟨k5, by rw [k5]; exact k9.1, by rw [k5]; exact k9.2, by rw [k10, ← hAl]; rfl⟩ ⟨by rw [hRf]; exact hfr, by rw [hRl]; exact hlo⟩)
      ⟨iPc_blind hEX _ _,
        by rw [← k7]; exact va_recv (D := (dC, dI)) (q := ((iCl (iKd a)).1, (iCl (iKd a)).2.1, (iCl (iKd a)).2.2)) hK hP (cl_get (iKd a) k6) hq0,
        fun U hU hW => ⟨rfl, by rw [hU]; exact hP, va_K.moved hW.alike hK, hEX.1 s U locs hex hW (by rw [hU]; exact hS)⟩⟩
      rfl (by rw [List.length_map]) (by rw [show (F0 m pc ls (((.inr (iKd a, i) :: As : List iV).reverse ++ S).map (emb ad))).locals = ls from rfl, hL.len, hLl]) hst9 (lv_room (by rw [cat_sum]; exact hS8)) hdg ⟨Nat.zero_le _, Nat.zero_le _⟩
  · rw [hst] at k10
    simp only [cond_true] at k10
    have hst9 : (as.reverse ++ S).map (emb ad) = (as.map (emb ad)).reverse ++ S.map (emb ad) := by
      simp
    refine key (Qa := iQc dC dI ad cy v σ1 (as.map (emb ad)).toArray) (fun st o t h => h) ?_
    exact va_runS (g := F0 m pc ls ((as.reverse ++ S).map (emb ad))) (rest := S.map (emb ad)) (As := as.map (emb ad)) ⟨hx, hb, hml, hown, hts⟩ hM
      (cwS (as.length) hts (goodS ha hst hoo hw) rfl rfl rfl ⟨k5.trans hoo, by rw [k5]; exact k9.1, by rw [k5]; exact k9.2, by rw [k10, ← hAl]⟩ ⟨by rw [hRf]; exact hfr, by rw [hRl]; exact hlo⟩)
      ⟨iPc_blind hEX _ _, fun U hU hW => ⟨rfl, by rw [hU]; exact hP, va_K.moved hW.alike hK, hEX.1 s U locs hex hW (by rw [hU]; exact hS)⟩⟩
      rfl (by rw [List.length_map]) (by rw [show (F0 m pc ls ((as.reverse ++ S).map (emb ad))).locals = ls from rfl, hL.len, hLl]) hst9 (lv_room (by rw [cat_sum]; exact hS8)) hdg ⟨Nat.zero_le _, Nat.zero_le _⟩
set_option maxHeartbeats 4000000 in
/-- a call that throws -/
theorem call_thr {j : Nat} {x0 : Nat} {σ0 : iM} (C : iCF p l s m args meth c dC dI ad cy EX j) (a : Nat) (as : List iV) (pc : Nat) (L : iL) (S : iS) (σ : iM) (ha : a < nMt) (hAl : as.length = iNa a) (hS8 : S.length ≤ 8) (hfr : iFr a + 1 ≤ iFr j) (hlo : 8 + (iMl a + 11) + iLo a ≤ iLo j) (hcs : iCS j a as pc) (hM : (∀ x ∈ as, vok x) → iMetX l dC dI ad cy EX a as σ x0 σ0) : WAt p l e s m args below meth c dC dI ad cy (iRx j) (iQx below dC dI ad cy args s x0 σ0) j pc L (as.reverse ++ S) σ := by
  obtain ⟨hj, hx, hb, hr, hml, hts, hown, hlocks, hK, hex, hEX, hI, htab⟩ := C
  obtain ⟨k1, k2, k3, k4, k5, k6, k7, k8, k9, k10, k11, k12, -⟩ := ckM ha
  intro H locs ls hP hS hL hLl hSv hLv
  have hAs : ∀ x ∈ as, vok x := fun x hx9 => hSv x (List.mem_append_left _ (List.mem_reverse.mpr hx9))
  have hM := hM hAs
  have key : ∀ {Qa : State → Outcome → State → Prop} (hQa : ∀ st o t, Qa st o t → False) (hrun : vx_Run p l e (iRx j) s m args below meth c H locs 0 0 1 6 (F0 m pc ls ((as.reverse ++ S).map (emb ad))) (S.map (emb ad)) Qa (iXC dC dI ad cy x0 σ0) (wA ad)), W p l e (iRx j) s m args below meth c H locs 0 0 (iQx below dC dI ad cy args s x0 σ0) (F0 m pc ls ((as.reverse ++ S).map (emb ad))) := by
    intro Qa hQa hrun T hT X
    rcases hrun T hT X with ⟨v, st₀, t, T', L1, h0, X', hL1, e1, e2, hq, st⟩ | ⟨q, st₀, t, T', L1, E, ce, h0, X', hL1, e1, e2, ⟨hE, hP1, hF1⟩, hce, hcv, hcl, st⟩
    · exact (hQa _ _ _ hq).elim
    · have hS1 : va_S (wA ad) s.heap T'.heap (locs ++ L1) := hS.call (free := wA ad) (by rw [← h0, e1]; exact hF1.1) (fun q a1 a2 => by rw [← h0] at a1 ⊢; rw [e1]; exact hF1.2 q a1 a2) hL1
      obtain ⟨t2, a1, b1⟩ := vx_out (p := p) (l := l) (e := e) (R := iRx j) (s := s) (m := m) (args := args) (below := below) (meth := meth) (c := c) (H := T'.heap) (locs := locs ++ L1) (cells := 0 + 1) (slots := 0 + 6) (Qc := fun _ _ _ _ => False) (XC := iXC dC dI ad cy x0 σ0) (free := wA ad) (pc := pc) (ls := ls) (rest := S.map (emb ad)) (E := E) (ce := ce) (q := q) (mc := 1) (ms := 6) (fun x hx9 => by rw [htab] at hx9; cases hx9) hlocks (by rw [e1]; exact hce) hcv hcl
        (fun t9 ht9 _ => ⟨hE, by rw [ht9, e1]; exact hP1, hS1.F ht9⟩) hS1.2.2 (Nat.le_refl _) (Nat.le_refl _) T' rfl X'
      exact ⟨t2, st.trans a1, b1⟩
  rcases hcs with ⟨idx, i, As, rfl, hdg, hw, hst⟩ | ⟨idx, hdg, hw, hst, hoo⟩
  · have hi : i < iCnt (iKd a) := hAs (.inr (iKd a, i)) List.mem_cons_self
    obtain ⟨q0, hq0⟩ := wW_get (ad := ad) (cy := cy) (σ := σ) (show iKd a < 16 by omega) hi
    rw [wE_obj k6] at hq0
    rw [hst] at k10
    simp only [cond_false] at k10
    have hst9 : ((.inr (iKd a, i) :: As : List iV).reverse ++ S).map (emb ad) = (As.map (emb ad)).reverse ++ .ref (ad (iKd a) i) :: S.map (emb ad) := by
      simp [emb]
    refine key (Qa := fun _ _ _ => False) (fun st o t h => h) ?_
    exact vx_runV (g := F0 m pc ls (((.inr (iKd a, i) :: As : List iV).reverse ++ S).map (emb ad))) (rest := S.map (emb ad)) (As := As.map (emb ad)) (b := ad (iKd a) i) (C := iOwn a) ⟨hx, hb, hml, hown, hts⟩ hM
      (cwV (As.length) hts (goodV ha hst hw) rfl rfl rfl ⟨k5, by rw [k5]; exact k9.1, by rw [k5]; exact k9.2, by rw [k10, ← hAl]; rfl⟩ ⟨hfr, hlo⟩)
      ⟨iPc_blind hEX _ _,
        by rw [← k7]; exact va_recv (D := (dC, dI)) (q := ((iCl (iKd a)).1, (iCl (iKd a)).2.1, (iCl (iKd a)).2.2)) hK hP (cl_get (iKd a) k6) hq0,
        fun U hU hW => ⟨rfl, by rw [hU]; exact hP, va_K.moved hW.alike hK, hEX.1 s U locs hex hW (by rw [hU]; exact hS)⟩⟩
      rfl (by rw [List.length_map]) (by rw [show (F0 m pc ls (((.inr (iKd a, i) :: As : List iV).reverse ++ S).map (emb ad))).locals = ls from rfl, hL.len, hLl]) hst9 (lv_room (by rw [cat_sum]; exact hS8)) hdg ⟨Nat.le_refl _, Nat.le_refl _⟩
  · rw [hst] at k10
    simp only [cond_true] at k10
    have hst9 : (as.reverse ++ S).map (emb ad) = (as.map (emb ad)).reverse ++ S.map (emb ad) := by
      simp
    refine key (Qa := fun _ _ _ => False) (fun st o t h => h) ?_
    exact vx_runS (g := F0 m pc ls ((as.reverse ++ S).map (emb ad))) (rest := S.map (emb ad)) (As := as.map (emb ad)) ⟨hx, hb, hml, hown, hts⟩ hM
      (cwS (as.length) hts (goodS ha hst hoo hw) rfl rfl rfl ⟨k5.trans hoo, by rw [k5]; exact k9.1, by rw [k5]; exact k9.2, by rw [k10, ← hAl]⟩ ⟨hfr, hlo⟩)
      ⟨iPc_blind hEX _ _, fun U hU hW => ⟨rfl, by rw [hU]; exact hP, va_K.moved hW.alike hK, hEX.1 s U locs hex hW (by rw [hU]; exact hS)⟩⟩
      rfl (by rw [List.length_map]) (by rw [show (F0 m pc ls ((as.reverse ++ S).map (emb ad))).locals = ls from rfl, hL.len, hLl]) hst9 (lv_room (by rw [cat_sum]; exact hS8)) hdg ⟨Nat.le_refl _, Nat.le_refl _⟩
/-- a return -/
theorem ret_norm {j : Nat} (C : iCF p l s m args meth c dC dI ad cy EX j) (v : Option iV) (σ : iM) (pc : Nat) (L : iL) (hrs : iRS j v pc) : WAt p l e s m args below meth c dC dI ad cy (iRm j) (MQ below (iQc dC dI ad cy v σ) args s 0 0 (wA ad)) j pc L v.toList σ := by
  obtain ⟨hj, hx, hb, hr, hml, hts, hown, hlocks, hK, hex, hEX, hI, htab⟩ := C
  intro H locs ls hP hS hL hLl hSv hLv
  rcases hrs with ⟨x, rfl, hdg, hrt⟩ | ⟨x, rfl, hdg, hrt, hx01⟩ | ⟨k, i, nm, rfl, hdg, hrt⟩ | ⟨rfl, hdg, hrt⟩
  · rw [hrt] at hr
    exact W.iret (v := x) hx hb hr (fun t ht hW => ⟨rfl, by rw [ht]; exact hP, hS.F ht⟩) hS.2.2 hdg hlocks
  · rw [hrt] at hr
    exact W.zret (v := x) hx hb hr (by rcases hx01 with rfl | rfl <;> rfl) (fun t ht hW => ⟨rfl, by rw [ht]; exact hP, hS.F ht⟩) hS.2.2 hdg hlocks
  · rw [hrt] at hr
    exact W.aret (v := .ref (ad k i)) hx hb hr (Or.inl ⟨nm, rfl⟩) (Or.inr ⟨_, rfl⟩) (fun t ht hW => ⟨rfl, by rw [ht]; exact hP, hS.F ht⟩) hS.2.2 hdg hlocks
  · rw [hrt] at hr
    exact W.vret hx hb hr (fun t ht hW => ⟨rfl, by rw [ht]; exact hP, hS.F ht⟩) hS.2.2 hdg hlocks
theorem snd_blk {j : Nat} {R : Room} {Q : State → Prop} {PR : Option iV → iM → Prop} {PT : Nat → iM → Prop} {WC : Nat → List iV → Nat → iL → iS → iM → Prop} (hRf : R.frames = iFr j) (hRl : R.locals = iLo j) (C : iCF p l s m args meth c dC dI ad cy EX j)
    (hcall : ∀ (a : Nat) (as : List iV) (pc : Nat) (L : iL) (S : iS) (σ : iM), a < nMt → as.length = iNa a → S.length ≤ 8 → iFr a + 1 ≤ iFr j → 8 + (iMl a + 11) + iLo a ≤ iLo j → iCS j a as pc → WC a as (pc + 3) L S σ → WAt p l e s m args below meth c dC dI ad cy R Q j pc L (as.reverse ++ S) σ)
    (hret : ∀ (v : Option iV) (σ : iM) (pc : Nat) (L : iL), iRS j v pc → PR v σ → WAt p l e s m args below meth c dC dI ad cy R Q j pc L v.toList σ)
    (hthr : ∀ (x : iE) (L : iL) (S : iS) (σ : iM), x ∈ iTb j → iNw x.2.1 = true → PT x.2.2.2.1 σ → WAt p l e s m args below meth c dC dI ad cy R Q j x.1 L S σ) : ∀ (is : List iE), (∀ x ∈ is, x ∈ iTb j) → chn is = true → ∀ (pc : Nat), (∀ x t, is = x :: t → x.1 = pc) → ∀ (L : iL) (S : iS) (σ : iM) (ev : iEv), blk is L S σ = some ev → EvW (WAt p l e s m args below meth c dC dI ad cy R Q j) WC PR PT ev → WAt p l e s m args below meth c dC dI ad cy R Q j pc L S σ := by
  obtain ⟨k1, k2, k3, k4, k5, k6, k7, k8, k9, k10, k11, k12, k13, -⟩ := ckM C.1
  intro is
  induction is with
  | nil => intro _ _ pc _ L S σ ev h; exact no_ev h
  | cons x t ih =>
    intro hc hch pc hpc L S σ ev h hE
    have h1 := hpc x t rfl
    subst h1
    refine snd_stp hRf hRl C x (hc x List.mem_cons_self) (k13 x (hc x List.mem_cons_self)) (blk t) (fun hterm L' S' σ' ev' h' hE' => ?_) hcall hret hthr L S σ ev h hE
    cases t with
    | nil => exact no_ev h'
    | cons y t2 =>
      simp only [chn, Bool.and_eq_true, Bool.or_eq_true, Nat.beq_eq] at hch
      have hxy : x.2.2.1 = y.1 := by
        rcases hch.1 with q | q
        · exact q
        · rw [hterm] at q; cases q
      refine ih (fun z hz => hc z (List.mem_cons_of_mem _ hz)) hch.2 x.2.2.1 (fun z t3 hz => ?_) L' S' σ' ev' h' hE'
      cases hz
      exact hxy.symm
theorem sfx_spec : ∀ (is : List iE) (pc : Nat), (∀ x ∈ sfx is pc, x ∈ is) ∧ (chn is = true → chn (sfx is pc) = true) ∧ ∀ x t, sfx is pc = x :: t → x.1 = pc := by
  intro is pc
  induction is with
  | nil => exact ⟨fun x h => h, fun h => h, fun x t h => nomatch h⟩
  | cons y t ih =>
    have hs : sfx (y :: t) pc = (bif Nat.beq y.1 pc then y :: t else sfx t pc) := rfl
    rw [hs]
    cases hb : Nat.beq y.1 pc with
    | true =>
      refine ⟨fun x h => h, fun h => h, fun x t h => ?_⟩
      cases h
      exact Nat.eq_of_beq_eq_true hb
    | false =>
      refine ⟨fun x h => List.mem_cons_of_mem _ (ih.1 x h), fun h => ih.2.1 ?_, ih.2.2⟩
      cases t with
      | nil => rfl
      | cons z t => simp only [chn, Bool.and_eq_true] at h; exact h.2
/-- what a body owes: the entry's frame -/
theorem iCF_of {j : Nat} {as : List iV} {σ : iM} {rm : Room} {s₁ : State} (hj : j < nMt) (hEX : iEX l ad EX) (hI : wI ad) (B : BodyLoose p l (iY j) (headSpec (iWs j) rm) (iCd j) (iMl j) (iRt j) e s m args below meth c s₁) (hml : c.maxLocals = iMl j) (hv : iPc dC dI ad cy EX as σ args s) : iCF p l s m args meth c dC dI ad cy EX j ∧ va_P (dC, dI) vwCl (wW ad cy σ) s.heap ∧ args = (as.map (emb ad)).toArray := by
  obtain ⟨k1, k2, k3, k4, k5, k6, k7, k8, k9, k10, k11, k12, k13, k14, k15⟩ := ckM hj
  obtain ⟨rfl, hP, hK, hex⟩ := hv
  have hown : s.vm.findClass (iOwn j) = some m.cls := by rw [← k5]; exact findClass_of_methodNamed B.named
  have hts := atoms_spec (ws := iWs j) B.pre
  have htab : c.exceptionTable.toList = [] := by
    obtain ⟨meth', c', h1, h2, -, -, -, -, h7, -⟩ := Cond.code_spec B.named (hts _ List.mem_cons_self)
    cases Option.some.inj (h1.symm.trans B.method)
    cases Option.some.inj (h2.symm.trans (Stand.of_body B).code)
    simpa using h7
  exact ⟨⟨hj, B.exec, B.bytes, B.returns, hml, hts, hown, B.notSynchronized, hK, hex, hEX, hI, htab⟩, hP, rfl⟩
theorem W_entry {j : Nat} {as : List iV} {σ : iM} {R : Room} {Q : State → Prop} (hj : j < nMt) (has : ∀ x ∈ as, vok x) (hal : as.length = iNa j) (hP : va_P (dC, dI) vwCl (wW ad cy σ) s.heap) (hW : WAt p l e s m args below meth c dC dI ad cy R Q j 0 (iEn j as) [] σ) : W p l e R s m args below meth c s.heap [] 0 0 Q (entryFrame m (as.map (emb ad)).toArray (iMl j)) := by
  obtain ⟨k1, k2, k3, k4, k5, k6, k7, k8, k9, k10, k11, k12, k13, k14, k15⟩ := ckM hj
  rw [lg_entry_eq]
  refine hW s.heap [] _ hP va_S.rf (LR.entry ad as (iMl j) (by omega)) (by simp [iEn]; omega) (fun v h => nomatch h) (fun v h => ?_)
  rcases List.mem_append.mp h with h | h
  · obtain ⟨x, hx, hxv⟩ := List.mem_map.mp h
    cases hxv
    exact has _ hx
  · have := (List.mem_replicate.mp h).2
    cases this
theorem snd_met {j : Nat} {as : List iV} {σ σ0 : iM} {v0 : Option iV} (hj : j < nMt) (hEX : iEX l ad EX) (hI : wI ad) (has : ∀ x ∈ as, vok x) (hal : as.length = iNa j)
    (hB : ∀ (p : Program) (e : Env) (s : State) (m : MethodId) (args : Array Value) (below : List Frame) (meth : Method) (c : Code), iCF p l s m args meth c dC dI ad cy EX j → WAt p l e s m args below meth c dC dI ad cy (iRm j) (MQ below (iQc dC dI ad cy v0 σ0) args s 0 0 (wA ad)) j 0 (iEn j as) [] σ) : iMet l dC dI ad cy EX j as σ v0 σ0 := by
  obtain ⟨k1, k2, k3, k4, k5, k6, k7, k8, k9, k10, k11, k12, k13, k14, k15⟩ := ckM hj
  refine Met.ofW (cc := iCd j) (maxL := iMl j) (ret := iRt j) (by rw [k5]; exact k8) rfl ?_
  intro p e s m args below meth c s₁ B hml hv
  obtain ⟨C, hP, rfl⟩ := iCF_of hj hEX hI B hml hv
  exact W_entry hj has hal hP (hB p e s m _ below meth c C)
theorem snd_metX {j : Nat} {as : List iV} {σ σ0 : iM} {x0 : Nat} (hj : j < nMt) (hEX : iEX l ad EX) (hI : wI ad) (has : ∀ x ∈ as, vok x) (hal : as.length = iNa j)
    (hB : ∀ (p : Program) (e : Env) (s : State) (m : MethodId) (args : Array Value) (below : List Frame) (meth : Method) (c : Code), iCF p l s m args meth c dC dI ad cy EX j → WAt p l e s m args below meth c dC dI ad cy (iRx j) (iQx below dC dI ad cy args s x0 σ0) j 0 (iEn j as) [] σ) : iMetX l dC dI ad cy EX j as σ x0 σ0 := by
  obtain ⟨k1, k2, k3, k4, k5, k6, k7, k8, k9, k10, k11, k12, k13, k14, k15⟩ := ckM hj
  refine vx_ofW (cc := iCd j) (maxL := iMl j) (ret := iRt j) (by rw [k5]; exact k8) rfl ?_
  intro p e s m args below meth c s₁ B hml htab hv
  obtain ⟨C, hP, rfl⟩ := iCF_of hj hEX hI B hml hv
  exact W_entry hj has hal hP (hB p e s m _ below meth c C)
theorem snd_run : ∀ (n : Nat) (j : Nat) (p : Program) (e : Env) (s : State) (m : MethodId) (args : Array Value) (below : List Frame) (meth : Method) (c : Code), iCF p l s m args meth c dC dI ad cy EX j → ∀ (pc : Nat) (L : iL) (S : iS) (σ : iM) (v0 : Option iV) (σ0 : iM), run iTb iEn n j pc L S σ = some (.inl v0, σ0) → WAt p l e s m args below meth c dC dI ad cy (iRm j) (MQ below (iQc dC dI ad cy v0 σ0) args s 0 0 (wA ad)) j pc L S σ := by
  intro n
  induction n with
  | zero => intro j p e s m args below meth c C pc L S σ v0 σ0 h; cases h
  | succ n ih =>
    intro j p e s m args below meth c C pc L S σ v0 σ0 h
    obtain ⟨hj, hx, hb, hr, hml, hts, hown, hlocks, hK, hex, hEX, hI, htab⟩ := id C
    obtain ⟨k1, k2, k3, k4, k5, k6, k7, k8, k9, k10, k11, k12, k13, k14, k15⟩ := ckM hj
    obtain ⟨f1, f2, f3⟩ := sfx_spec (iTb j) pc
    rw [run_succ] at h
    unfold rst at h
    cases hbk : blk (sfx (iTb j) pc) L S σ with
    | none => rw [hbk] at h; cases h
    | some ev =>
      refine snd_blk (R := iRm j) (PR := fun v σ => v = v0 ∧ σ = σ0) (PT := fun _ _ => False) (WC := fun k as t L S σ => ∃ v σ1, (k < nMt → as.length = iNa k → (∀ x ∈ as, vok x) → iMet l dC dI ad cy EX k as σ v σ1) ∧ vokO v ∧ WAt p l e s m args below meth c dC dI ad cy (iRm j) (MQ below (iQc dC dI ad cy v0 σ0) args s 0 0 (wA ad)) j t L (v.toList ++ S) σ1) rfl rfl C
        (fun a as pc L S σ h1 h2 h3 h4 h5 h6 h7 => by
          obtain ⟨v, σ1, g1, g2, g3⟩ := h7
          exact call_norm rfl rfl C a as pc L S σ h1 h2 h3 h4 h5 h6 (g1 h1 h2) g2 g3)
        (fun v σ pc L h1 h2 => by obtain ⟨rfl, rfl⟩ := h2; exact ret_norm C v σ pc L h1)
        (fun _ _ _ _ _ _ h3 => h3.elim) (sfx (iTb j) pc) f1 (f2 k14) pc f3 L S σ ev hbk ?_
      rw [hbk] at h
      match ev, h with
      | .inl (t, L1, S1, σ1), h => exact ih j p e s m args below meth c C t L1 S1 σ1 v0 σ0 h
      | .inr (.inl (cc, t1, t2, L1, S1, σ1)), h =>
        refine ⟨fun hc => ?_, fun hc => ?_⟩
        · simp only [if_pos hc] at h
          exact ih j p e s m args below meth c C t1 L1 S1 σ1 v0 σ0 h
        · simp only [if_neg hc] at h
          exact ih j p e s m args below meth c C t2 L1 S1 σ1 v0 σ0 h
      | .inr (.inr (.inl (cc, t, L1, S1, σ1))), h =>
        by_cases hc : cc
        · simp only [if_pos hc] at h
          exact ⟨hc, ih j p e s m args below meth c C t L1 S1 σ1 v0 σ0 h⟩
        · simp only [if_neg hc] at h
          cases h
      | .inr (.inr (.inr (.inl (k, as, t, L1, S1, σ1)))), h =>
        cases hk : run iTb iEn n k 0 (iEn k as) [] σ1 with
        | none => simp only [hk] at h; cases h
        | some q =>
          obtain ⟨q1, σ2⟩ := q
          simp only [hk] at h
          cases q1 with
          | inr x => cases h
          | inl v =>
            by_cases hv : vokO v
            · simp only [if_pos hv] at h
              exact ⟨v, σ2, fun hkn hal has => snd_met hkn hEX hI has hal (fun p e s m args below meth c C' => ih k p e s m args below meth c C' 0 (iEn k as) [] σ1 v σ2 hk), hv, ih j p e s m args below meth c C t L1 _ σ2 v0 σ0 h⟩
            · simp only [if_neg hv] at h
              cases h
      | .inr (.inr (.inr (.inr (.inl (v, σ1))))), h => cases h; exact ⟨rfl, rfl⟩
      | .inr (.inr (.inr (.inr (.inr (.inl (v, σ1)))))), h =>
        by_cases hv : v = 0 ∨ v = 1
        · simp only [if_pos hv] at h
          cases h
          exact ⟨hv, rfl, rfl⟩
        · simp only [if_neg hv] at h
          cases h
      | .inr (.inr (.inr (.inr (.inr (.inr (.inl (x, ts, t, L1, S1, σ1))))))), h => exact ih j p e s m args below meth c C (swT x ts t) L1 S1 σ1 v0 σ0 h
      | .inr (.inr (.inr (.inr (.inr (.inr (.inr (k, σ1))))))), h => cases h
/-- A METHOD'S CONTRACT out of a run of the interpreter -/
theorem snd_ev {j : Nat} {as : List iV} {σ σ0 : iM} {v0 : Option iV} (hj : j < nMt) (hEX : iEX l ad EX) (hI : wI ad) (has : ∀ x ∈ as, vok x) (hal : as.length = iNa j) (h : Ev j as σ (.inl v0, σ0)) : iMet l dC dI ad cy EX j as σ v0 σ0 := by
  obtain ⟨n, hn⟩ := h
  exact snd_met hj hEX hI has hal (fun p e s m args below meth c C => snd_run n j p e s m args below meth c C 0 (iEn j as) [] σ v0 σ0 hn)
/-- what must be given of the places that throw -/
def iTH (l : Launch) (dC : Nat → ClassId) (dI : Nat → Nat → Nat) (ad : Nat → Nat → Nat) (cy : Nat → ClassId) (EX : State → Prop) : Prop :=
  ∀ (j : Nat) (p : Program) (e : Env) (s : State) (m : MethodId) (args : Array Value) (below : List Frame) (meth : Method) (c : Code), iCF p l s m args meth c dC dI ad cy EX j → ∀ (x : iE) (L : iL) (S : iS) (σ : iM), x ∈ iTb j → iNw x.2.1 = true → WAt p l e s m args below meth c dC dI ad cy (iRx j) (iQx below dC dI ad cy args s x.2.2.2.1 σ) j x.1 L S σ
theorem snd_runX (hTH : iTH l dC dI ad cy EX) : ∀ (n : Nat) (j : Nat) (p : Program) (e : Env) (s : State) (m : MethodId) (args : Array Value) (below : List Frame) (meth : Method) (c : Code), iCF p l s m args meth c dC dI ad cy EX j → ∀ (pc : Nat) (L : iL) (S : iS) (σ : iM) (x0 : Nat) (σ0 : iM), run iTb iEn n j pc L S σ = some (.inr x0, σ0) → WAt p l e s m args below meth c dC dI ad cy (iRx j) (iQx below dC dI ad cy args s x0 σ0) j pc L S σ := by
  intro n
  induction n with
  | zero => intro j p e s m args below meth c C pc L S σ v0 σ0 h; cases h
  | succ n ih =>
    intro j p e s m args below meth c C pc L S σ x0 σ0 h
    obtain ⟨hj, hx, hb, hr, hml, hts, hown, hlocks, hK, hex, hEX, hI, htab⟩ := id C
    obtain ⟨k1, k2, k3, k4, k5, k6, k7, k8, k9, k10, k11, k12, k13, k14, k15⟩ := ckM hj
    obtain ⟨f1, f2, f3⟩ := sfx_spec (iTb j) pc
    rw [run_succ] at h
    unfold rst at h
    cases hbk : blk (sfx (iTb j) pc) L S σ with
    | none => rw [hbk] at h; cases h
    | some ev =>
      refine snd_blk (R := iRx j) (PR := fun _ _ => False) (PT := fun k σ => k = x0 ∧ σ = σ0) (WC := fun k as t L S σ => (∃ v σ1, (k < nMt → as.length = iNa k → (∀ x ∈ as, vok x) → iMet l dC dI ad cy EX k as σ v σ1) ∧ vokO v ∧ WAt p l e s m args below meth c dC dI ad cy (iRx j) (iQx below dC dI ad cy args s x0 σ0) j t L (v.toList ++ S) σ1) ∨ (k < nMt → as.length = iNa k → (∀ x ∈ as, vok x) → iMetX l dC dI ad cy EX k as σ x0 σ0)) rfl rfl C
        (fun a as pc L S σ h1 h2 h3 h4 h5 h6 h7 => by
          rcases h7 with ⟨v, σ1, g1, g2, g3⟩ | g1
          · exact call_norm rfl rfl C a as pc L S σ h1 h2 h3 h4 h5 h6 (g1 h1 h2) g2 g3
          · exact call_thr C a as pc L S σ h1 h2 h3 h4 h5 h6 (g1 h1 h2))
        (fun _ _ _ _ _ h2 => h2.elim)
        (fun x L S σ h1 h2 h3 => by obtain ⟨e1, rfl⟩ := h3; rw [← e1]; exact hTH j p e s m args below meth c C x L S σ h1 h2) (sfx (iTb j) pc) f1 (f2 k14) pc f3 L S σ ev hbk ?_
      rw [hbk] at h
      match ev, h with
      | .inl (t, L1, S1, σ1), h => exact ih j p e s m args below meth c C t L1 S1 σ1 x0 σ0 h
      | .inr (.inl (cc, t1, t2, L1, S1, σ1)), h =>
        refine ⟨fun hc => ?_, fun hc => ?_⟩
        · simp only [if_pos hc] at h
          exact ih j p e s m args below meth c C t1 L1 S1 σ1 x0 σ0 h
        · simp only [if_neg hc] at h
          exact ih j p e s m args below meth c C t2 L1 S1 σ1 x0 σ0 h
      | .inr (.inr (.inl (cc, t, L1, S1, σ1))), h =>
        by_cases hc : cc
        · simp only [if_pos hc] at h
          exact ⟨hc, ih j p e s m args below meth c C t L1 S1 σ1 x0 σ0 h⟩
        · simp only [if_neg hc] at h
          cases h
      | .inr (.inr (.inr (.inl (k, as, t, L1, S1, σ1)))), h =>
        cases hk : run iTb iEn n k 0 (iEn k as) [] σ1 with
        | none => simp only [hk] at h; cases h
        | some q =>
          obtain ⟨q1, σ2⟩ := q
          simp only [hk] at h
          cases q1 with
          | inr x =>
            cases h
            exact Or.inr (fun hkn hal has => snd_metX hkn hEX hI has hal (fun p e s m args below meth c C' => ih k p e s m args below meth c C' 0 (iEn k as) [] σ1 _ _ hk))
          | inl v =>
            by_cases hv : vokO v
            · simp only [if_pos hv] at h
              exact Or.inl ⟨v, σ2, fun hkn hal has => snd_ev hkn hEX hI has hal ⟨n, hk⟩, hv, ih j p e s m args below meth c C t L1 _ σ2 x0 σ0 h⟩
            · simp only [if_neg hv] at h
              cases h
      | .inr (.inr (.inr (.inr (.inl (v, σ1))))), h => cases h
      | .inr (.inr (.inr (.inr (.inr (.inl (v, σ1)))))), h =>
        by_cases hv : v = 0 ∨ v = 1
        · simp only [if_pos hv] at h
          cases h
        · simp only [if_neg hv] at h
          cases h
      | .inr (.inr (.inr (.inr (.inr (.inr (.inl (x, ts, t, L1, S1, σ1))))))), h => exact ih j p e s m args below meth c C (swT x ts t) L1 S1 σ1 x0 σ0 h
      | .inr (.inr (.inr (.inr (.inr (.inr (.inr (k, σ1))))))), h => cases h; exact ⟨rfl, rfl⟩
/-- A METHOD'S CONTRACT out of a run that throws -/
theorem snd_evX (hTH : iTH l dC dI ad cy EX) {j : Nat} {as : List iV} {σ σ0 : iM} {x0 : Nat} (hj : j < nMt) (hEX : iEX l ad EX) (hI : wI ad) (has : ∀ x ∈ as, vok x) (hal : as.length = iNa j) (h : Ev j as σ (.inr x0, σ0)) : iMetX l dC dI ad cy EX j as σ x0 σ0 := by
  obtain ⟨n, hn⟩ := h
  exact snd_metX hj hEX hI has hal (fun p e s m args below meth c C => snd_runX hTH n j p e s m args below meth c C 0 (iEn j as) [] σ x0 σ0 hn)
end SND3
end
section
/-! plain facts on numbers and arrays, to paste: each family by itself; over the kit's rows on nI and upd -/
/-! ===== order of ints, in all its forms, and through longs ===== -/
theorem fa_lt (a b : Int32) : a < b ↔ a.toInt < b.toInt := Int32.lt_iff_toInt_lt
theorem fa_le (a b : Int32) : a ≤ b ↔ a.toInt ≤ b.toInt := Int32.le_iff_toInt_le
theorem fa_eq (a b : Int32) : a = b ↔ a.toInt = b.toInt := Int32.toInt_inj.symm
theorem fa_lt64 (a b : Int64) : a < b ↔ a.toInt < b.toInt := Int64.lt_iff_toInt_lt
theorem fa_le64 (a b : Int64) : a ≤ b ↔ a.toInt ≤ b.toInt := Int64.le_iff_toInt_le
theorem fa_eq64 (a b : Int64) : a = b ↔ a.toInt = b.toInt := Int64.toInt_inj.symm
/-- a comparison of two ints taken as longs -/
theorem fa_wide_lt (a b : Int32) : a.toInt64 < b.toInt64 ↔ a < b := by rw [fa_lt64, fa_lt, Int32.toInt_toInt64, Int32.toInt_toInt64]
theorem fa_wide_le (a b : Int32) : a.toInt64 ≤ b.toInt64 ↔ a ≤ b := by rw [fa_le64, fa_le, Int32.toInt_toInt64, Int32.toInt_toInt64]
theorem fa_wide_eq (a b : Int32) : a.toInt64 = b.toInt64 ↔ a = b := by rw [fa_eq64, fa_eq, Int32.toInt_toInt64, Int32.toInt_toInt64]
/-- one strict comparison gives all the others -/
theorem fa_of_lt {a b : Int32} (h : a < b) : a ≤ b ∧ ¬ b ≤ a ∧ ¬ b < a ∧ a ≠ b ∧ b ≠ a := by
  rw [fa_lt] at h
  refine ⟨?_, ?_, ?_, ?_, ?_⟩
  · rw [fa_le]; omega
  · rw [fa_le]; omega
  · rw [fa_lt]; omega
  · intro e; rw [fa_eq] at e; omega
  · intro e; rw [fa_eq] at e; omega
theorem fa_of_nlt {a b : Int32} (h : ¬ a < b) : b ≤ a := by
  rw [fa_lt] at h
  rw [fa_le]
  omega
theorem fa_of_nle {a b : Int32} (h : ¬ a ≤ b) : b < a := by
  rw [fa_le] at h
  rw [fa_lt]
  omega
theorem fa_le_ne {a b : Int32} (h : a ≤ b) (h2 : a ≠ b) : a < b := by
  rw [fa_le] at h
  rw [fa_lt]
  have h3 : a.toInt ≠ b.toInt := fun e => h2 ((fa_eq a b).mpr e)
  omega
theorem fa_three (a b : Int32) : a < b ∨ a = b ∨ b < a := by
  rw [fa_lt, fa_lt, fa_eq]
  omega
theorem fa_trans {a b c : Int32} (h : a < b) (h2 : b ≤ c) : a < c := by
  rw [fa_lt] at *
  rw [fa_le] at h2
  omega
/-! ===== small literals as numbers ===== -/
theorem fa_lit (n : Nat) : (OfNat.ofNat n : Int32) = nI n := rfl
theorem fa_litL (n : Nat) : (OfNat.ofNat n : Int64) = lN n := rfl
/-! ===== bits of a number: 'or', masks, one bit ===== -/
theorem fa_and (a b : Nat) : nI a &&& nI b = nI (a &&& b) := by
  apply Int32.toBitVec_inj.1
  show BitVec.ofNat 32 a &&& BitVec.ofNat 32 b = BitVec.ofNat 32 (a &&& b)
  apply BitVec.eq_of_getLsbD_eq
  intro i hi
  simp [hi]
theorem fa_or (a b : Nat) : nI a ||| nI b = nI (a ||| b) := by
  apply Int32.toBitVec_inj.1
  show BitVec.ofNat 32 a ||| BitVec.ofNat 32 b = BitVec.ofNat 32 (a ||| b)
  apply BitVec.eq_of_getLsbD_eq
  intro i hi
  simp [hi]
/-- a remainder by a power of two, as a mask -/
theorem fa_mask (n k : Nat) : nI n &&& nI (2 ^ k - 1) = nI (n % 2 ^ k) := by rw [fa_and, Nat.and_two_pow_sub_one_eq_mod]
/-- 'or' of a high part and a low one that don't meet is their sum -/
theorem fa_or_sum {a k : Nat} (b : Nat) (h : a < 2 ^ k) : nI (2 ^ k * b) ||| nI a = nI (2 ^ k * b + a) := by rw [fa_or, Nat.two_pow_add_eq_or_of_lt h]
/-- one bit, by 'and' with a power of two -/
theorem fa_bit {n j : Nat} (hj : j < 31) : nI n &&& nI (2 ^ j) = 0 ↔ n.testBit j = false := by
  have h2 : (2 : Nat) ^ j < 2 ^ 31 := Nat.pow_lt_pow_right (by decide) hj
  have hle : n &&& 2 ^ j ≤ 2 ^ j := Nat.and_le_right
  have e : n &&& 2 ^ j = 0 ↔ n.testBit j = false := by
    constructor
    · intro h
      have h1 : (n &&& 2 ^ j).testBit j = false := by rw [h]; simp
      rw [Nat.testBit_and] at h1
      first | simpa using h1 | simpa [Nat.testBit_two_pow_self] using h1 | simpa [Nat.testBit_two_pow] using h1
    · intro h
      apply Nat.eq_of_testBit_eq
      intro i
      rw [Nat.testBit_and]
      by_cases hi : j = i
      · subst hi; simp [h]
      · first | (simp [Nat.testBit_two_pow, hi]; done) | (simp [Nat.testBit_two_pow_of_ne hi]; done)
  rw [fa_and]
  constructor
  · intro h
    apply e.mp
    rcases Nat.eq_zero_or_pos (n &&& 2 ^ j) with z | z
    · exact z
    · exact absurd h (nI_ne0 z (Nat.lt_of_le_of_lt hle h2))
  · intro h
    rw [e.mpr h]; exact nI_0
/-- a remainder by a power of two of a number that isn't negative, as Java divides -/
theorem fa_rem {a k : Nat} (ha : a < 2 ^ 31) (hk : k < 31) : nI a - nI a / nI (2 ^ k) * nI (2 ^ k) = nI (a % 2 ^ k) := pk_rem ha (Nat.two_pow_pos k) (Nat.pow_lt_pow_right (by decide) hk)
/-! ===== cuts to a byte, a short ===== -/
theorem fa_byte_xor (x y : Int32) : (x ^^^ y).toInt8 = x.toInt8 ^^^ y.toInt8 := by
  apply Int8.toBitVec_inj.1
  apply BitVec.eq_of_getLsbD_eq
  intro i hi
  first | (simp [hi]; done) | (simp [hi, BitVec.getLsbD_setWidth, BitVec.getLsbD_signExtend]; done)
theorem fa_short_xor (x y : Int32) : (x ^^^ y).toInt16 = x.toInt16 ^^^ y.toInt16 := by
  apply Int16.toBitVec_inj.1
  apply BitVec.eq_of_getLsbD_eq
  intro i hi
  first | (simp [hi]; done) | (simp [hi, BitVec.getLsbD_setWidth, BitVec.getLsbD_signExtend]; done)
/-- the cut to a byte sees the low byte alone -/
theorem fa_byte_low (x : Int32) : (x &&& 255).toInt8 = x.toInt8 := by
  apply Int8.toBitVec_inj.1
  apply BitVec.eq_of_getLsbD_eq
  intro i hi
  have h2 : (255 : Int32).toBitVec.getLsbD i = true := by
    have : ∀ j : Fin 8, (255 : Int32).toBitVec.getLsbD j.val = true := by decide +kernel
    exact this ⟨i, hi⟩
  have h4 : (x &&& 255).toBitVec.getLsbD i = x.toBitVec.getLsbD i := by
    show (x.toBitVec &&& (255 : Int32).toBitVec).getLsbD i = _
    rw [BitVec.getLsbD_and, h2, Bool.and_true]
  have h3 : i < 32 := by omega
  first
    | (show (((x &&& 255).toBitVec).signExtend 8).getLsbD i = (x.toBitVec.signExtend 8).getLsbD i; rw [BitVec.getLsbD_signExtend, BitVec.getLsbD_signExtend, if_pos h3, if_pos h3, h4])
    | (show (((x &&& 255).toBitVec).setWidth 8).getLsbD i = (x.toBitVec.setWidth 8).getLsbD i; rw [BitVec.getLsbD_setWidth, BitVec.getLsbD_setWidth, h4])
    | (simp [hi, h3, h4]; done)
theorem fa_short_low (x : Int32) : (x &&& 65535).toInt16 = x.toInt16 := by
  apply Int16.toBitVec_inj.1
  apply BitVec.eq_of_getLsbD_eq
  intro i hi
  have h2 : (65535 : Int32).toBitVec.getLsbD i = true := by
    have : ∀ j : Fin 16, (65535 : Int32).toBitVec.getLsbD j.val = true := by decide +kernel
    exact this ⟨i, hi⟩
  have h4 : (x &&& 65535).toBitVec.getLsbD i = x.toBitVec.getLsbD i := by
    show (x.toBitVec &&& (65535 : Int32).toBitVec).getLsbD i = _
    rw [BitVec.getLsbD_and, h2, Bool.and_true]
  have h3 : i < 32 := by omega
  first
    | (show (((x &&& 65535).toBitVec).signExtend 16).getLsbD i = (x.toBitVec.signExtend 16).getLsbD i; rw [BitVec.getLsbD_signExtend, BitVec.getLsbD_signExtend, if_pos h3, if_pos h3, h4])
    | (show (((x &&& 65535).toBitVec).setWidth 16).getLsbD i = (x.toBitVec.setWidth 16).getLsbD i; rw [BitVec.getLsbD_setWidth, BitVec.getLsbD_setWidth, h4])
    | (simp [hi, h3, h4]; done)
/-- a small number is its own byte, its own short -/
theorem fa_byte_small {n : Nat} (h : n < 128) : (nI n).toInt8.toInt32 = nI n := by
  have : ∀ j : Fin 128, (nI j.val).toInt8.toInt32 = nI j.val := by decide +kernel
  exact this ⟨n, h⟩
/-! ===== absolute difference ===== -/
theorem fa_absdiff {a b : Nat} (ha : a < 2 ^ 31) (hb : b < 2 ^ 31) : (if nI a < nI b then nI b - nI a else nI a - nI b) = nI (if a < b then b - a else a - b) := by
  by_cases h : a < b
  · rw [if_pos (nI_lt h hb), if_pos h]
    exact pk_sub (Nat.le_of_lt h)
  · rw [if_neg (nI_nlt (Nat.le_of_not_lt h) ha), if_neg h]
    exact pk_sub (Nat.le_of_not_lt h)
/-! ===== an array behind i stores, a conditional store, a row copied ===== -/
/-- f where k < i, what stood there else -/
def fa_fill {α : Type} (f g : Nat → α) (i : Nat) : Nat → α := fun k => if k < i then f k else g k
theorem fa_fill_0 {α : Type} (f g : Nat → α) : fa_fill f g 0 = g := funext fun k => if_neg (Nat.not_lt_zero k)
theorem fa_fill_in {α : Type} {f g : Nat → α} {i k : Nat} (h : k < i) : fa_fill f g i k = f k := if_pos h
theorem fa_fill_out {α : Type} {f g : Nat → α} {i k : Nat} (h : i ≤ k) : fa_fill f g i k = g k := if_neg (Nat.not_lt.mpr h)
theorem fa_fill_succ (f g : Nat → Int32) (i : Nat) : upd (fa_fill f g i) i (f i) = fa_fill f g (i + 1) := by
  funext k
  by_cases e : k = i
  · subst e
    rw [pk_us]
    exact (if_pos (Nat.lt_succ_self k)).symm
  · rw [pk_un e]
    by_cases h : k < i
    · rw [fa_fill_in h, fa_fill_in (Nat.lt_succ_of_lt h)]
    · rw [fa_fill_out (Nat.le_of_not_lt h), fa_fill_out (by omega)]
/-- a store that changes nothing -/
theorem fa_upd_same {f : Nat → Int32} {i : Nat} {x : Int32} (h : f i = x) : upd f i x = f := by
  funext k
  by_cases e : k = i
  · subst e
    rw [pk_us, h]
  · rw [pk_un e]
/-- a store under a condition, told as one -/
theorem fa_upd_if (c : Prop) [Decidable c] (f : Nat → Int32) (i : Nat) (x : Int32) : (if c then upd f i x else f) = upd f i (if c then x else f i) := by
  by_cases h : c
  · rw [if_pos h, if_pos h]
  · rw [if_neg h, if_neg h, fa_upd_same rfl]
/-- two stores at one place, at two -/
theorem fa_upd_twice (f : Nat → Int32) (i : Nat) (x y : Int32) : upd (upd f i x) i y = upd f i y := by
  funext k
  by_cases e : k = i
  · subst e
    rw [pk_us, pk_us]
  · rw [pk_un e, pk_un e, pk_un e]
theorem fa_upd_swap (f : Nat → Int32) {i j : Nat} (h : i ≠ j) (x y : Int32) : upd (upd f i x) j y = upd (upd f j y) i x := by
  funext k
  by_cases e : k = i
  · subst e
    rw [pk_un h, pk_us, pk_us]
  · by_cases e2 : k = j
    · subst e2
      rw [pk_us, pk_un e, pk_us]
    · rw [pk_un e2, pk_un e, pk_un e, pk_un e2]
/-! ===== the first index with a property; a count ===== -/
/-- the first k < n with p k, n if there is none -/
def fa_first (p : Nat → Bool) : Nat → Nat
  | 0 => 0
  | n + 1 => if fa_first p n < n then fa_first p n else if p n then n else n + 1
theorem fa_first_le (p : Nat → Bool) : ∀ n, fa_first p n ≤ n
  | 0 => Nat.le_refl 0
  | n + 1 => by
    have ih := fa_first_le p n
    unfold fa_first
    split
    · omega
    · split
      · omega
      · omega
theorem fa_first_no (p : Nat → Bool) : ∀ n k, k < fa_first p n → p k = false
  | 0, k, h => absurd h (Nat.not_lt_zero k)
  | n + 1, k, h => by
    have ih := fa_first_no p n
    have hl := fa_first_le p n
    unfold fa_first at h
    split at h
    · exact ih k h
    · rename_i h1
      split at h
      · exact ih k (by omega)
      · rename_i h2
        by_cases e : k = n
        · subst e
          exact Bool.eq_false_iff.mpr h2
        · exact ih k (by omega)
theorem fa_first_yes (p : Nat → Bool) : ∀ n, fa_first p n < n → p (fa_first p n) = true
  | 0, h => absurd h (Nat.not_lt_zero _)
  | n + 1, h => by
    have ih := fa_first_yes p n
    have hl := fa_first_le p n
    unfold fa_first at h ⊢
    split at h
    · rename_i h1
      rw [if_pos h1]
      exact ih h1
    · rename_i h1
      rw [if_neg h1]
      split at h
      · rename_i h2
        rw [if_pos h2]
        exact h2
      · omega
/-- how many k < n have p k -/
def fa_cnt (p : Nat → Bool) : Nat → Nat
  | 0 => 0
  | n + 1 => fa_cnt p n + if p n then 1 else 0
theorem fa_cnt_le (p : Nat → Bool) : ∀ n, fa_cnt p n ≤ n
  | 0 => Nat.le_refl 0
  | n + 1 => by
    have ih := fa_cnt_le p n
    unfold fa_cnt
    split
    · omega
    · omega
theorem fa_cnt_yes {p : Nat → Bool} {n : Nat} (h : p n = true) : fa_cnt p (n + 1) = fa_cnt p n + 1 := by rw [fa_cnt, if_pos h]
theorem fa_cnt_no {p : Nat → Bool} {n : Nat} (h : p n = false) : fa_cnt p (n + 1) = fa_cnt p n := by rw [fa_cnt, if_neg (by rw [h]; decide)]; rfl
theorem fa_cnt_cong {p q : Nat → Bool} : ∀ {n : Nat}, (∀ k, k < n → p k = q k) → fa_cnt p n = fa_cnt q n
  | 0, _ => rfl
  | n + 1, h => by rw [fa_cnt, fa_cnt, fa_cnt_cong (fun k hk => h k (Nat.lt_succ_of_lt hk)), h n (Nat.lt_succ_self n)]
/-! ===== an answer carried into a post; a branch on a boolean answer ===== -/
theorem fa_post {α : Type} {P : α → Prop} {x y : α} (h : x = y) (hp : P y) : P x := h ▸ hp
theorem fa_post2 {α β : Type} {P : α → β → Prop} {x y : α} {u v : β} (h : x = y) (h2 : u = v) (hp : P y v) : P x u := h ▸ h2 ▸ hp
theorem fa_bool {r : Int32} {b : Bool} (h : r = if b then 1 else 0) : (r = 0 ↔ b = false) ∧ (¬ r = 0 ↔ b = true) := by
  subst h
  cases b
  · exact ⟨⟨fun _ => rfl, fun _ => rfl⟩, ⟨fun h => absurd rfl h, fun h => absurd h (by decide)⟩⟩
  · exact ⟨⟨fun h => absurd h (by decide), fun h => absurd h (by decide)⟩, ⟨fun _ => rfl, fun _ => by decide⟩⟩
/-- a boolean's narrowing changes nothing -/
theorem fa_bool_and {r : Int32} (h : r = 0 ∨ r = 1) : r &&& 1 = r := by
  rcases h with rfl | rfl
  · decide
  · decide
theorem fa_bool_prop {c : Prop} [Decidable c] {r : Int32} (h : r = if c then 1 else 0) : (r = 0 ↔ ¬ c) ∧ (¬ r = 0 ↔ c) := by
  subst h
  by_cases hc : c
  · rw [if_pos hc]
    exact ⟨⟨fun h => absurd h (by decide), fun h => absurd hc h⟩, ⟨fun _ => hc, fun _ => by decide⟩⟩
  · rw [if_neg hc]
    exact ⟨⟨fun _ => hc, fun _ => rfl⟩, ⟨fun h => absurd rfl h, fun h => absurd h hc⟩⟩
end
section
/-! plain facts to paste, each family by itself; over the kit's nI, lN and upd -/
/-! ===== drawers: more things than places ===== -/
theorem fb_holes : ∀ (m n : Nat) (f : Nat → Nat), (∀ i, i < n → f i < m) → (∀ i j, i < j → j < n → f i ≠ f j) → n ≤ m := by
  intro m
  induction m with
  | zero =>
    intro n f h1 _
    rcases Nat.eq_zero_or_pos n with h | h
    · omega
    · exact absurd (h1 0 h) (Nat.not_lt_zero _)
  | succ m ih =>
    intro n f h1 h2
    by_cases hx : ∃ i, i < n ∧ f i = m
    · obtain ⟨a, ha, hfa⟩ := hx
      have hg := ih (n - 1) (fun i => if i < a then f i else f (i + 1)) (by
        intro i hi
        by_cases q : i < a
        · simp only [if_pos q]
          have b1 := h1 i (by omega)
          have b2 := h2 i a q ha
          omega
        · simp only [if_neg q]
          have b1 := h1 (i + 1) (by omega)
          have b2 := h2 a (i + 1) (by omega) (by omega)
          omega) (by
        intro i j hij hj
        by_cases q : i < a
        · by_cases r : j < a
          · simp only [if_pos q, if_pos r]
            exact h2 i j hij (by omega)
          · simp only [if_pos q, if_neg r]
            exact h2 i (j + 1) (by omega) (by omega)
        · have r : ¬ j < a := by omega
          simp only [if_neg q, if_neg r]
          exact h2 (i + 1) (j + 1) (by omega) (by omega))
      omega
    · have hg := ih n f (fun i hi => by
        have b1 := h1 i hi
        have b2 : f i ≠ m := fun e => hx ⟨i, hi, e⟩
        omega) h2
      omega
/-- two of them in one place -/
theorem fb_twice {m n : Nat} {f : Nat → Nat} (h : ∀ i, i < n → f i < m) (hm : m < n) : ∃ i j, i < j ∧ j < n ∧ f i = f j := by
  refine Classical.byContradiction fun hx => ?_
  have := fb_holes m n f h (fun i j hij hj e => hx ⟨i, j, hij, hj, e⟩)
  omega
/-- as many as places, none twice: each place is taken -/
theorem fb_onto {n : Nat} {f : Nat → Nat} (h : ∀ i, i < n → f i < n) (h2 : ∀ i j, i < j → j < n → f i ≠ f j) {y : Nat} (hy : y < n) : ∃ i, i < n ∧ f i = y := by
  refine Classical.byContradiction fun hx => ?_
  have hne : ∀ i, i < n → f i ≠ y := fun i hi e => hx ⟨i, hi, e⟩
  have := fb_holes (n - 1) n (fun i => if f i < y then f i else f i - 1) (by
    intro i hi
    have b1 := h i hi
    have b2 := hne i hi
    by_cases q : f i < y
    · simp only [if_pos q]; omega
    · simp only [if_neg q]; omega) (by
    intro i j hij hj
    have b1 := hne i (by omega)
    have b2 := hne j hj
    have b3 := h2 i j hij hj
    by_cases q : f i < y
    · by_cases r : f j < y
      · simp only [if_pos q, if_pos r]; exact b3
      · simp only [if_pos q, if_neg r]; omega
    · by_cases r : f j < y
      · simp only [if_neg q, if_pos r]; omega
      · simp only [if_neg q, if_neg r]; omega)
  omega
/-! ===== how many places have a property ===== -/
def fb_ct (p : Nat → Bool) : Nat → Nat
  | 0 => 0
  | n + 1 => fb_ct p n + (if p n then 1 else 0)
theorem fb_ct_succ (p : Nat → Bool) (n : Nat) : fb_ct p (n + 1) = fb_ct p n + (if p n then 1 else 0) := rfl
theorem fb_ct_le (p : Nat → Bool) : ∀ n, fb_ct p n ≤ n
  | 0 => Nat.le_refl _
  | n + 1 => by
    have h := fb_ct_le p n
    rw [fb_ct_succ]
    split <;> omega
theorem fb_ct_step (p : Nat → Bool) (m : Nat) : ∀ n, fb_ct p m ≤ fb_ct p (m + n)
  | 0 => Nat.le_refl _
  | n + 1 => by
    have h := fb_ct_step p m n
    show fb_ct p m ≤ fb_ct p (m + n + 1)
    rw [fb_ct_succ]
    omega
theorem fb_ct_mono (p : Nat → Bool) {m n : Nat} (h : m ≤ n) : fb_ct p m ≤ fb_ct p n := by
  have := fb_ct_step p m (n - m)
  rwa [Nat.add_sub_cancel' h] at this
theorem fb_ct_cong {p q : Nat → Bool} : ∀ {n : Nat}, (∀ k, k < n → p k = q k) → fb_ct p n = fb_ct q n
  | 0, _ => rfl
  | n + 1, h => by
    rw [fb_ct_succ, fb_ct_succ, fb_ct_cong (fun k hk => h k (by omega)), h n (by omega)]
/-- one place changed -/
theorem fb_ct_out (p : Nat → Bool) (b : Bool) {i n : Nat} (h : n ≤ i) : fb_ct (fun k => if k = i then b else p k) n = fb_ct p n :=
  fb_ct_cong fun k hk => if_neg (by omega)
theorem fb_ct_upd (p : Nat → Bool) (b : Bool) {i : Nat} : ∀ {n : Nat}, i < n → fb_ct (fun k => if k = i then b else p k) n + (if p i then 1 else 0) = fb_ct p n + (if b then 1 else 0)
  | 0, h => absurd h (Nat.not_lt_zero i)
  | n + 1, h => by
    rw [fb_ct_succ, fb_ct_succ]
    rcases Nat.lt_or_ge i n with q | q
    · have := fb_ct_upd p b q
      have e : (if n = i then b else p n) = p n := if_neg (by omega)
      rw [e]
      omega
    · have e : i = n := by omega
      subst e
      rw [fb_ct_out p b (Nat.le_refl _)]
      simp only [if_true]
      omega
theorem fb_ct_sub {p q : Nat → Bool} : ∀ {n : Nat}, (∀ k, k < n → p k = true → q k = true) → fb_ct p n ≤ fb_ct q n
  | 0, _ => Nat.le_refl _
  | n + 1, h => by
    have h1 := fb_ct_sub (n := n) (p := p) (q := q) (fun k hk => h k (by omega))
    have h2 := h n (by omega)
    rw [fb_ct_succ, fb_ct_succ]
    cases hp : p n <;> cases hq : q n <;> simp_all <;> omega
theorem fb_ct_or {p q : Nat → Bool} : ∀ {n : Nat}, (∀ k, k < n → ¬ (p k = true ∧ q k = true)) → fb_ct (fun k => p k || q k) n = fb_ct p n + fb_ct q n
  | 0, _ => rfl
  | n + 1, h => by
    have h1 := fb_ct_or (n := n) (p := p) (q := q) (fun k hk => h k (by omega))
    have h2 := h n (by omega)
    rw [fb_ct_succ, fb_ct_succ, fb_ct_succ, h1]
    cases hp : p n <;> cases hq : q n <;> simp_all <;> omega
theorem fb_ct_not (p : Nat → Bool) : ∀ n, fb_ct p n + fb_ct (fun k => !p k) n = n
  | 0 => rfl
  | n + 1 => by
    have h := fb_ct_not p n
    rw [fb_ct_succ, fb_ct_succ]
    cases p n <;> simp <;> omega
theorem fb_ct_split (p : Nat → Bool) (m : Nat) : ∀ n, fb_ct p (m + n) = fb_ct p m + fb_ct (fun k => p (m + k)) n
  | 0 => rfl
  | n + 1 => by
    have h := fb_ct_split p m n
    show fb_ct p (m + n + 1) = _
    rw [fb_ct_succ, fb_ct_succ, h, Nat.add_assoc]
theorem fb_ct_zero {p : Nat → Bool} : ∀ {n : Nat}, fb_ct p n = 0 ↔ ∀ k, k < n → p k = false
  | 0 => ⟨fun _ k hk => absurd hk (Nat.not_lt_zero k), fun _ => rfl⟩
  | n + 1 => by
    have h := fb_ct_zero (p := p) (n := n)
    rw [fb_ct_succ]
    constructor
    · intro e k hk
      have e1 : fb_ct p n = 0 := by omega
      rcases Nat.lt_or_ge k n with q | q
      · exact h.mp e1 k q
      · have ek : k = n := by omega
        subst ek
        cases hp : p k
        · rfl
        · simp [hp] at e
    · intro a
      rw [h.mpr (fun k hk => a k (by omega)), a n (by omega)]
      rfl
theorem fb_ct_pos {p : Nat → Bool} {n : Nat} : 0 < fb_ct p n ↔ ∃ k, k < n ∧ p k = true := by
  constructor
  · intro h
    refine Classical.byContradiction fun hx => ?_
    have := fb_ct_zero.mpr (fun k hk => by
      cases hp : p k
      · rfl
      · exact absurd ⟨k, hk, hp⟩ hx : ∀ k, k < n → p k = false)
    omega
  · rintro ⟨k, hk, hp⟩
    rcases Nat.eq_zero_or_pos (fb_ct p n) with e | e
    · have := fb_ct_zero.mp e k hk
      rw [this] at hp
      cases hp
    · exact e
theorem fb_ct_all {p : Nat → Bool} {n : Nat} : fb_ct p n = n ↔ ∀ k, k < n → p k = true := by
  have h := fb_ct_not p n
  constructor
  · intro e k hk
    have z : fb_ct (fun k => !p k) n = 0 := by omega
    have := fb_ct_zero.mp z k hk
    cases hp : p k
    · simp [hp] at this
    · rfl
  · intro a
    have z : fb_ct (fun k => !p k) n = 0 := fb_ct_zero.mpr (fun k hk => by simp [a k hk])
    omega
/-- the k-th place with the property -/
theorem fb_ct_kth {p : Nat → Bool} {k : Nat} : ∀ {n : Nat}, k < fb_ct p n → ∃ i, i < n ∧ p i = true ∧ fb_ct p i = k
  | 0, h => absurd h (Nat.not_lt_zero k)
  | n + 1, h => by
    rcases Nat.lt_or_ge k (fb_ct p n) with q | q
    · obtain ⟨i, h1, h2⟩ := fb_ct_kth q
      exact ⟨i, by omega, h2⟩
    · rw [fb_ct_succ] at h
      cases hp : p n
      · simp [hp] at h; omega
      · simp [hp] at h
        exact ⟨n, by omega, hp, by omega⟩
theorem fb_ct_kth_one {p : Nat → Bool} {i j : Nat} (hi : p i = true) (hj : p j = true) (e : fb_ct p i = fb_ct p j) : i = j := by
  have key : ∀ a b : Nat, a < b → p a = true → fb_ct p a < fb_ct p b := by
    intro a b hab ha
    have h := fb_ct_mono p (show a + 1 ≤ b from hab)
    rw [fb_ct_succ, ha] at h
    simp at h
    omega
  rcases Nat.lt_trichotomy i j with q | q | q
  · have := key i j q hi; omega
  · exact q
  · have := key j i q hj; omega
/-! ===== sums over a range: one place changed, parts, bounds ===== -/
def fb_sm (f : Nat → Nat) : Nat → Nat
  | 0 => 0
  | n + 1 => fb_sm f n + f n
theorem fb_sm_succ (f : Nat → Nat) (n : Nat) : fb_sm f (n + 1) = fb_sm f n + f n := rfl
theorem fb_sm_cong {f g : Nat → Nat} : ∀ {n : Nat}, (∀ k, k < n → f k = g k) → fb_sm f n = fb_sm g n
  | 0, _ => rfl
  | n + 1, h => by rw [fb_sm_succ, fb_sm_succ, fb_sm_cong (fun k hk => h k (by omega)), h n (by omega)]
theorem fb_sm_out (f : Nat → Nat) (v : Nat) {i n : Nat} (h : n ≤ i) : fb_sm (fun k => if k = i then v else f k) n = fb_sm f n :=
  fb_sm_cong fun k hk => if_neg (by omega)
theorem fb_sm_upd (f : Nat → Nat) (v : Nat) {i : Nat} : ∀ {n : Nat}, i < n → fb_sm (fun k => if k = i then v else f k) n + f i = fb_sm f n + v
  | 0, h => absurd h (Nat.not_lt_zero i)
  | n + 1, h => by
    rw [fb_sm_succ, fb_sm_succ]
    rcases Nat.lt_or_ge i n with q | q
    · have := fb_sm_upd f v q
      have e : (if n = i then v else f n) = f n := if_neg (by omega)
      rw [e]
      omega
    · have e : i = n := by omega
      subst e
      rw [fb_sm_out f v (Nat.le_refl _)]
      simp only [if_true]
      omega
theorem fb_sm_add (f g : Nat → Nat) : ∀ n, fb_sm (fun k => f k + g k) n = fb_sm f n + fb_sm g n
  | 0 => rfl
  | n + 1 => by
    have h := fb_sm_add f g n
    rw [fb_sm_succ, fb_sm_succ, fb_sm_succ, h]
    omega
theorem fb_sm_le {f g : Nat → Nat} : ∀ {n : Nat}, (∀ k, k < n → f k ≤ g k) → fb_sm f n ≤ fb_sm g n
  | 0, _ => Nat.le_refl _
  | n + 1, h => by
    have h1 := fb_sm_le (n := n) (f := f) (g := g) (fun k hk => h k (by omega))
    have h2 := h n (by omega)
    rw [fb_sm_succ, fb_sm_succ]
    omega
theorem fb_sm_const (c : Nat) : ∀ n, fb_sm (fun _ => c) n = n * c
  | 0 => by rw [Nat.zero_mul]; rfl
  | n + 1 => by rw [fb_sm_succ, fb_sm_const c n, Nat.succ_mul]
theorem fb_sm_bound {f : Nat → Nat} {c n : Nat} (h : ∀ k, k < n → f k ≤ c) : fb_sm f n ≤ n * c := by
  rw [← fb_sm_const c n]
  exact fb_sm_le h
theorem fb_sm_mono (f : Nat → Nat) (m : Nat) : ∀ n, fb_sm f m ≤ fb_sm f (m + n)
  | 0 => Nat.le_refl _
  | n + 1 => by
    have h := fb_sm_mono f m n
    show fb_sm f m ≤ fb_sm f (m + n + 1)
    rw [fb_sm_succ]
    omega
theorem fb_sm_part (f : Nat → Nat) {i n : Nat} (h : i < n) : fb_sm f i + f i ≤ fb_sm f n := by
  have := fb_sm_mono f (i + 1) (n - (i + 1))
  rw [fb_sm_succ, show i + 1 + (n - (i + 1)) = n by omega] at this
  exact this
theorem fb_sm_split (f : Nat → Nat) (m : Nat) : ∀ n, fb_sm f (m + n) = fb_sm f m + fb_sm (fun k => f (m + k)) n
  | 0 => rfl
  | n + 1 => by
    have h := fb_sm_split f m n
    show fb_sm f (m + n + 1) = _
    rw [fb_sm_succ, fb_sm_succ, h, Nat.add_assoc]
theorem fb_sm_zero {f : Nat → Nat} {n : Nat} (h : fb_sm f n = 0) : ∀ k, k < n → f k = 0 := fun k hk => by
  have := fb_sm_part f hk
  omega
/-- the same over whole numbers -/
def fb_si (f : Nat → Int) : Nat → Int
  | 0 => 0
  | n + 1 => fb_si f n + f n
theorem fb_si_succ (f : Nat → Int) (n : Nat) : fb_si f (n + 1) = fb_si f n + f n := rfl
theorem fb_si_cong {f g : Nat → Int} : ∀ {n : Nat}, (∀ k, k < n → f k = g k) → fb_si f n = fb_si g n
  | 0, _ => rfl
  | n + 1, h => by rw [fb_si_succ, fb_si_succ, fb_si_cong (fun k hk => h k (by omega)), h n (by omega)]
theorem fb_si_out (f : Nat → Int) (v : Int) {i n : Nat} (h : n ≤ i) : fb_si (fun k => if k = i then v else f k) n = fb_si f n :=
  fb_si_cong fun k hk => if_neg (by omega)
theorem fb_si_upd (f : Nat → Int) (v : Int) {i : Nat} : ∀ {n : Nat}, i < n → fb_si (fun k => if k = i then v else f k) n = fb_si f n - f i + v
  | 0, h => absurd h (Nat.not_lt_zero i)
  | n + 1, h => by
    rw [fb_si_succ, fb_si_succ]
    rcases Nat.lt_or_ge i n with q | q
    · have := fb_si_upd f v q
      have e : (if n = i then v else f n) = f n := if_neg (by omega)
      rw [e]
      omega
    · have e : i = n := by omega
      subst e
      rw [fb_si_out f v (Nat.le_refl _)]
      simp only [if_true]
      omega
theorem fb_si_add (f g : Nat → Int) : ∀ n, fb_si (fun k => f k + g k) n = fb_si f n + fb_si g n
  | 0 => rfl
  | n + 1 => by
    have h := fb_si_add f g n
    rw [fb_si_succ, fb_si_succ, fb_si_succ, h]
    omega
theorem fb_si_sub (f g : Nat → Int) : ∀ n, fb_si (fun k => f k - g k) n = fb_si f n - fb_si g n
  | 0 => rfl
  | n + 1 => by
    have h := fb_si_sub f g n
    rw [fb_si_succ, fb_si_succ, fb_si_succ, h]
    omega
theorem fb_si_mul (c : Int) (f : Nat → Int) : ∀ n, fb_si (fun k => c * f k) n = c * fb_si f n
  | 0 => (Int.mul_zero c).symm
  | n + 1 => by
    have h := fb_si_mul c f n
    rw [fb_si_succ, fb_si_succ, h, Int.mul_add]
theorem fb_si_split (f : Nat → Int) (m : Nat) : ∀ n, fb_si f (m + n) = fb_si f m + fb_si (fun k => f (m + k)) n
  | 0 => (Int.add_zero _).symm
  | n + 1 => by
    have h := fb_si_split f m n
    show fb_si f (m + n + 1) = _
    rw [fb_si_succ, fb_si_succ, h, Int.add_assoc]
theorem fb_si_nat (f : Nat → Nat) : ∀ n, fb_si (fun k => (f k : Int)) n = (fb_sm f n : Int)
  | 0 => rfl
  | n + 1 => by
    have h := fb_si_nat f n
    rw [fb_si_succ, fb_sm_succ, h]
    omega
theorem fb_si_bound {f : Nat → Int} {c : Int} (hc : 0 ≤ c) : ∀ {n : Nat}, (∀ k, k < n → -c ≤ f k ∧ f k ≤ c) → -(n * c) ≤ fb_si f n ∧ fb_si f n ≤ n * c
  | 0, _ => by simp [fb_si]
  | n + 1, h => by
    have h1 := fb_si_bound (n := n) (f := f) hc (fun k hk => h k (by omega))
    have h2 := h n (by omega)
    have e : ((n + 1 : Nat) : Int) * c = n * c + c := by rw [Int.natCast_add, Int.add_mul]; simp
    rw [fb_si_succ, e]
    omega
/-! ===== bits of a long that isn't negative ===== -/
theorem fb_andL (a b : Nat) : lN a &&& lN b = lN (a &&& b) := by
  apply Int64.toBitVec_inj.1
  show BitVec.ofNat 64 a &&& BitVec.ofNat 64 b = BitVec.ofNat 64 (a &&& b)
  apply BitVec.eq_of_getLsbD_eq
  intro i hi
  simp [hi]
theorem fb_orL (a b : Nat) : lN a ||| lN b = lN (a ||| b) := by
  apply Int64.toBitVec_inj.1
  show BitVec.ofNat 64 a ||| BitVec.ofNat 64 b = BitVec.ofNat 64 (a ||| b)
  apply BitVec.eq_of_getLsbD_eq
  intro i hi
  simp [hi]
theorem fb_xorL (a b : Nat) : lN a ^^^ lN b = lN (a ^^^ b) := by
  apply Int64.toBitVec_inj.1
  show BitVec.ofNat 64 a ^^^ BitVec.ofNat 64 b = BitVec.ofNat 64 (a ^^^ b)
  apply BitVec.eq_of_getLsbD_eq
  intro i hi
  simp [hi]
theorem fb_xorI (a b : Nat) : nI a ^^^ nI b = nI (a ^^^ b) := by
  apply Int32.toBitVec_inj.1
  show BitVec.ofNat 32 a ^^^ BitVec.ofNat 32 b = BitVec.ofNat 32 (a ^^^ b)
  apply BitVec.eq_of_getLsbD_eq
  intro i hi
  simp [hi]
theorem fb_maskL (n k : Nat) : lN n &&& lN (2 ^ k - 1) = lN (n % 2 ^ k) := by rw [fb_andL, Nat.and_two_pow_sub_one_eq_mod]
theorem fb_or_sumL {a k : Nat} (b : Nat) (h : a < 2 ^ k) : lN (2 ^ k * b) ||| lN a = lN (2 ^ k * b + a) := by rw [fb_orL, Nat.two_pow_add_eq_or_of_lt h]
theorem fb_lN_inj {a b : Nat} (ha : a < 2 ^ 63) (hb : b < 2 ^ 63) : lN a = lN b ↔ a = b := by
  constructor
  · intro h
    have h1 : (BitVec.ofNat 64 a).toNat = (BitVec.ofNat 64 b).toNat := congrArg (fun x : Int64 => x.toBitVec.toNat) h
    rw [BitVec.toNat_ofNat, BitVec.toNat_ofNat, Nat.mod_eq_of_lt (by omega), Nat.mod_eq_of_lt (by omega)] at h1
    exact h1
  · rintro rfl; rfl
theorem fb_bit_nat (n j : Nat) : n &&& 2 ^ j = 0 ↔ n.testBit j = false := by
  constructor
  · intro h
    have h1 : (n &&& 2 ^ j).testBit j = false := by rw [h]; simp
    rw [Nat.testBit_and] at h1
    simpa using h1
  · intro h
    apply Nat.eq_of_testBit_eq
    intro i
    rw [Nat.testBit_and]
    by_cases hi : j = i
    · subst hi; simp [h]
    · first | (simp [Nat.testBit_two_pow, hi]; done) | (simp [Nat.testBit_two_pow_of_ne hi]; done)
/-- one bit of a long -/
theorem fb_bitL {n j : Nat} (hj : j < 63) : lN n &&& lN (2 ^ j) = 0 ↔ n.testBit j = false := by
  have h2 : (2 : Nat) ^ j < 2 ^ 63 := Nat.pow_lt_pow_right (by decide) hj
  have hle : n &&& 2 ^ j ≤ 2 ^ j := Nat.and_le_right
  rw [fb_andL, ← fb_bit_nat, show (0 : Int64) = lN 0 from rfl]
  exact fb_lN_inj (by omega) (by decide)
/-- a bit set, a bit taken off -/
theorem fb_bit_set (n j i : Nat) : (n ||| 2 ^ j).testBit i = (n.testBit i || decide (i = j)) := by
  rw [Nat.testBit_or]
  by_cases h : j = i
  · subst h; simp
  · have h2 : ¬ i = j := fun e => h e.symm
    first | (simp [Nat.testBit_two_pow, h, h2]; done) | (simp [Nat.testBit_two_pow_of_ne h, h2]; done)
theorem fb_bit_flip (n j i : Nat) : (n ^^^ 2 ^ j).testBit i = (n.testBit i ^^ decide (i = j)) := by
  rw [Nat.testBit_xor]
  by_cases h : j = i
  · subst h; simp
  · have h2 : ¬ i = j := fun e => h e.symm
    first | (simp [Nat.testBit_two_pow, h, h2]; done) | (simp [Nat.testBit_two_pow_of_ne h, h2]; done)
/-! ===== a stretch of an array written over by a function ===== -/
def fb_put {α : Type} (f g : Nat → α) (a n : Nat) : Nat → α := fun k => if a ≤ k ∧ k < a + n then g (k - a) else f k
theorem fb_put_0 {α : Type} (f g : Nat → α) (a : Nat) : fb_put f g a 0 = f := funext fun k => if_neg (by omega)
theorem fb_put_in {α : Type} {f g : Nat → α} {a n k : Nat} (h1 : a ≤ k) (h2 : k < a + n) : fb_put f g a n k = g (k - a) := if_pos ⟨h1, h2⟩
theorem fb_put_out {α : Type} {f g : Nat → α} {a n k : Nat} (h : k < a ∨ a + n ≤ k) : fb_put f g a n k = f k := if_neg (by omega)
theorem fb_put_succ (f g : Nat → Int32) (a n : Nat) : upd (fb_put f g a n) (a + n) (g n) = fb_put f g a (n + 1) := by
  funext k
  by_cases h : k = a + n
  · subst h
    simp [upd, fb_put]
  · by_cases h1 : a ≤ k ∧ k < a + n
    · have h2 : a ≤ k ∧ k < a + (n + 1) := by omega
      simp only [upd, fb_put, if_neg h, if_pos h1, if_pos h2]
    · have h2 : ¬ (a ≤ k ∧ k < a + (n + 1)) := by omega
      simp only [upd, fb_put, if_neg h, if_neg h1, if_neg h2]
/-- .. from the far end down -/
theorem fb_put_down (f g : Nat → Int32) {a n m : Nat} (h : m < n) : upd (fb_put f (fun k => g (k + (m + 1))) (a + (m + 1)) (n - (m + 1))) (a + m) (g m) = fb_put f (fun k => g (k + m)) (a + m) (n - m) := by
  funext k
  by_cases h0 : k = a + m
  · subst h0
    simp only [upd, if_true]
    rw [fb_put_in (by omega) (by omega)]
    exact congrArg g (by omega)
  · simp only [upd, if_neg h0]
    by_cases h1 : a + (m + 1) ≤ k ∧ k < a + (m + 1) + (n - (m + 1))
    · rw [fb_put_in h1.1 h1.2, fb_put_in (by omega) (by omega)]
      exact congrArg g (by omega)
    · rw [fb_put_out (by omega), fb_put_out (by omega)]
theorem fb_put_cong {α : Type} {f f2 g g2 : Nat → α} {a n : Nat} (hf : ∀ k, (k < a ∨ a + n ≤ k) → f k = f2 k) (hg : ∀ k, k < n → g k = g2 k) : fb_put f g a n = fb_put f2 g2 a n := by
  funext k
  by_cases h : a ≤ k ∧ k < a + n
  · rw [fb_put_in h.1 h.2, fb_put_in h.1 h.2, hg _ (by omega)]
  · rw [fb_put_out (by omega), fb_put_out (by omega), hf _ (by omega)]
/-! ===== the least, the first, the best so far; that there is one alone ===== -/
theorem fb_first {p : Nat → Prop} [DecidablePred p] : ∀ {n : Nat}, (∃ i, i < n ∧ p i) → ∃ i, i < n ∧ p i ∧ ∀ j, j < i → ¬ p j
  | 0, h => by obtain ⟨i, hi, -⟩ := h; exact absurd hi (Nat.not_lt_zero i)
  | n + 1, h => by
    by_cases q : ∃ i, i < n ∧ p i
    · obtain ⟨i, h1, h2⟩ := fb_first q
      exact ⟨i, by omega, h2⟩
    · obtain ⟨i, h1, h2⟩ := h
      have e : i = n := by
        rcases Nat.lt_or_ge i n with r | r
        · exact absurd ⟨i, r, h2⟩ q
        · omega
      subst e
      exact ⟨i, by omega, h2, fun j hj hp => q ⟨j, hj, hp⟩⟩
theorem fb_first_one {p : Nat → Prop} {i j : Nat} (hi : p i) (hi2 : ∀ k, k < i → ¬ p k) (hj : p j) (hj2 : ∀ k, k < j → ¬ p k) : i = j := by
  rcases Nat.lt_trichotomy i j with q | q | q
  · exact absurd hi (hj2 i q)
  · exact q
  · exact absurd hj (hi2 j q)
theorem fb_last {p : Nat → Prop} [DecidablePred p] : ∀ {n : Nat}, (∃ i, i < n ∧ p i) → ∃ i, i < n ∧ p i ∧ ∀ j, i < j → j < n → ¬ p j
  | 0, h => by obtain ⟨i, hi, -⟩ := h; exact absurd hi (Nat.not_lt_zero i)
  | n + 1, h => by
    by_cases q : p n
    · exact ⟨n, by omega, q, fun j h1 h2 => by omega⟩
    · obtain ⟨i, h1, h2⟩ := h
      have hi : i < n := by
        rcases Nat.lt_or_ge i n with r | r
        · exact r
        · have e : i = n := by omega
          subst e
          exact absurd h2 q
      obtain ⟨i2, a1, a2, a3⟩ := fb_last (n := n) ⟨i, hi, h2⟩
      refine ⟨i2, by omega, a2, fun j b1 b2 => ?_⟩
      rcases Nat.lt_or_ge j n with r | r
      · exact a3 j b1 r
      · have e : j = n := by omega
        subst e
        exact q
/-- the first greatest -/
theorem fb_best (f : Nat → Int) : ∀ {n : Nat}, 0 < n → ∃ i, i < n ∧ (∀ j, j < n → f j ≤ f i) ∧ ∀ j, j < i → f j < f i
  | 0, h => absurd h (Nat.lt_irrefl 0)
  | 1, _ => ⟨0, by omega, fun j hj => by have e : j = 0 := by omega
                                         subst e; exact Int.le_refl _, fun j hj => absurd hj (Nat.not_lt_zero j)⟩
  | n + 2, _ => by
    obtain ⟨i, h1, h2, h3⟩ := fb_best f (n := n + 1) (by omega)
    by_cases q : f i < f (n + 1)
    · refine ⟨n + 1, by omega, fun j hj => ?_, fun j hj => ?_⟩
      · rcases Nat.lt_or_ge j (n + 1) with r | r
        · have := h2 j r; omega
        · have e : j = n + 1 := by omega
          subst e; exact Int.le_refl _
      · have := h2 j hj; omega
    · refine ⟨i, by omega, fun j hj => ?_, h3⟩
      rcases Nat.lt_or_ge j (n + 1) with r | r
      · exact h2 j r
      · have e : j = n + 1 := by omega
        subst e; omega
theorem fb_best_one {f : Nat → Int} {n i j : Nat} (hi : i < n) (hi2 : ∀ k, k < n → f k ≤ f i) (hi3 : ∀ k, k < i → f k < f i) (hj : j < n) (hj2 : ∀ k, k < n → f k ≤ f j) (hj3 : ∀ k, k < j → f k < f j) : i = j := by
  rcases Nat.lt_trichotomy i j with q | q | q
  · have a := hj3 i q
    have b := hi2 j hj
    omega
  · exact q
  · have a := hi3 j q
    have b := hj2 i hi
    omega
/-- the first least -/
theorem fb_low (f : Nat → Int) {n : Nat} (h : 0 < n) : ∃ i, i < n ∧ (∀ j, j < n → f i ≤ f j) ∧ ∀ j, j < i → f i < f j := by
  obtain ⟨i, h1, h2, h3⟩ := fb_best (fun k => -f k) h
  exact ⟨i, h1, fun j hj => by have := h2 j hj; omega, fun j hj => by have := h3 j hj; omega⟩
/-! ===== signed ints as whole numbers, within bounds ===== -/
theorem fb_rng (x : Int32) : -2147483648 ≤ x.toInt ∧ x.toInt < 2147483648 := by
  have h1 := Int32.le_toInt x
  have h2 := Int32.toInt_lt x
  omega
theorem fb_bmod {z : Int} (h1 : -2147483648 ≤ z) (h2 : z < 2147483648) : z.bmod (2 ^ 32) = z := by
  rw [Int.bmod_eq_of_le (by omega) (by omega)]
theorem fb_addI {x y : Int32} (h1 : -2147483648 ≤ x.toInt + y.toInt) (h2 : x.toInt + y.toInt < 2147483648) : (x + y).toInt = x.toInt + y.toInt := by
  rw [Int32.toInt_add, fb_bmod h1 h2]
theorem fb_subI {x y : Int32} (h1 : -2147483648 ≤ x.toInt - y.toInt) (h2 : x.toInt - y.toInt < 2147483648) : (x - y).toInt = x.toInt - y.toInt := by
  rw [Int32.toInt_sub, fb_bmod h1 h2]
theorem fb_mulI {x y : Int32} (h1 : -2147483648 ≤ x.toInt * y.toInt) (h2 : x.toInt * y.toInt < 2147483648) : (x * y).toInt = x.toInt * y.toInt := by
  rw [Int32.toInt_mul, fb_bmod h1 h2]
theorem fb_negI {x : Int32} (h : x.toInt ≠ -2147483648) : (-x).toInt = -x.toInt := by
  have := fb_rng x
  rw [Int32.toInt_neg, fb_bmod (by omega) (by omega)]
theorem fb_ofI {z : Int} (h1 : -2147483648 ≤ z) (h2 : z < 2147483648) : (Int32.ofInt z).toInt = z := by
  rw [Int32.toInt_ofInt, fb_bmod h1 h2]
theorem fb_asI (x : Int32) : Int32.ofInt x.toInt = x := Int32.ofInt_toInt x
theorem fb_rngL (x : Int64) : -9223372036854775808 ≤ x.toInt ∧ x.toInt < 9223372036854775808 := by
  have h1 := Int64.le_toInt x
  have h2 := Int64.toInt_lt x
  omega
theorem fb_bmodL {z : Int} (h1 : -9223372036854775808 ≤ z) (h2 : z < 9223372036854775808) : z.bmod (2 ^ 64) = z := by
  rw [Int.bmod_eq_of_le (by omega) (by omega)]
theorem fb_addL {x y : Int64} (h1 : -9223372036854775808 ≤ x.toInt + y.toInt) (h2 : x.toInt + y.toInt < 9223372036854775808) : (x + y).toInt = x.toInt + y.toInt := by
  rw [Int64.toInt_add, fb_bmodL h1 h2]
theorem fb_subL {x y : Int64} (h1 : -9223372036854775808 ≤ x.toInt - y.toInt) (h2 : x.toInt - y.toInt < 9223372036854775808) : (x - y).toInt = x.toInt - y.toInt := by
  rw [Int64.toInt_sub, fb_bmodL h1 h2]
theorem fb_mulL {x y : Int64} (h1 : -9223372036854775808 ≤ x.toInt * y.toInt) (h2 : x.toInt * y.toInt < 9223372036854775808) : (x * y).toInt = x.toInt * y.toInt := by
  rw [Int64.toInt_mul, fb_bmodL h1 h2]
/-! ===== cuts of what is narrow already ===== -/
theorem fb_byte {x : Int32} (h1 : -128 ≤ x.toInt) (h2 : x.toInt < 128) : x.toInt8.toInt32 = x := by
  apply Int32.toInt_inj.1
  rw [Int8.toInt_toInt32, Int32.toInt_toInt8, Int.bmod_eq_of_le (by omega) (by omega)]
theorem fb_short {x : Int32} (h1 : -32768 ≤ x.toInt) (h2 : x.toInt < 32768) : x.toInt16.toInt32 = x := by
  apply Int32.toInt_inj.1
  rw [Int16.toInt_toInt32, Int32.toInt_toInt16, Int.bmod_eq_of_le (by omega) (by omega)]
theorem fb_byte_rng (x : Int32) : -128 ≤ x.toInt8.toInt32.toInt ∧ x.toInt8.toInt32.toInt < 128 := by
  rw [Int8.toInt_toInt32]
  have h1 := Int8.le_toInt x.toInt8
  have h2 := Int8.toInt_lt x.toInt8
  omega
theorem fb_short_rng (x : Int32) : -32768 ≤ x.toInt16.toInt32.toInt ∧ x.toInt16.toInt32.toInt < 32768 := by
  rw [Int16.toInt_toInt32]
  have h1 := Int16.le_toInt x.toInt16
  have h2 := Int16.toInt_lt x.toInt16
  omega
theorem fb_byte_twice (x : Int32) : x.toInt8.toInt32.toInt8.toInt32 = x.toInt8.toInt32 := fb_byte (fb_byte_rng x).1 (fb_byte_rng x).2
theorem fb_short_twice (x : Int32) : x.toInt16.toInt32.toInt16.toInt32 = x.toInt16.toInt32 := fb_short (fb_short_rng x).1 (fb_short_rng x).2
theorem fb_char {n : Nat} (h : n < 65536) : (nI n).toUInt32.toUInt16.toUInt32.toInt32 = nI n := by
  apply Int32.toBitVec_inj.1
  apply BitVec.eq_of_toNat_eq
  have e1 : (nI n).toBitVec.toNat = n := by
    show (BitVec.ofNat 32 n).toNat = n
    rw [BitVec.toNat_ofNat, Nat.mod_eq_of_lt (by omega)]
  have e2 : ((nI n).toUInt32.toUInt16.toUInt32).toNat = n := by
    rw [UInt16.toNat_toUInt32, UInt32.toNat_toUInt16]
    show (nI n).toBitVec.toNat % 2 ^ 16 = n
    rw [e1, Nat.mod_eq_of_lt (by omega)]
  rw [e1]
  exact e2
end
section
/-! ===== the rules with a postcondition in place of one result ===== -/
def AtP (j pc : Nat) (L : iL) (S : iS) (σ : iM) (Q : iRes → Prop) : Prop := ∃ r, Q r ∧ At j pc L S σ r
abbrev EvP (j : Nat) (as : List iV) (σ : iM) (Q : iRes → Prop) : Prop := AtP j 0 (iEn j as) [] σ Q
section
variable {j pc t t1 t2 : Nat} {L L' : iL} {S S' : iS} {σ σ' σ1 : iM} {Q : iRes → Prop} {c : Prop}
theorem AtP.of {r : iRes} (h : At j pc L S σ r) (hq : Q r) : AtP j pc L S σ Q := ⟨r, hq, h⟩
theorem AtP.mono {Q' : iRes → Prop} (h : AtP j pc L S σ Q) (hq : ∀ r, Q r → Q' r) : AtP j pc L S σ Q' := by
  obtain ⟨r, h1, h2⟩ := h
  exact ⟨r, hq r h1, h2⟩
theorem AtP.J (h : blk (sfx (iTb j) pc) L S σ = evJ t L' S' σ') (k : AtP j t L' S' σ' Q) : AtP j pc L S σ Q := by
  obtain ⟨r, h1, h2⟩ := k
  exact ⟨r, h1, At.J h h2⟩
theorem AtP.F (t : Nat) (L' : iL) (S' : iS) (σ' : iM) (h : blk (sfx (iTb j) pc) L S σ = blk (sfx (iTb j) t) L' S' σ') (k : AtP j t L' S' σ' Q) : AtP j pc L S σ Q := by
  obtain ⟨r, h1, h2⟩ := k
  exact ⟨r, h1, At.F t L' S' σ' h h2⟩
theorem AtP.Bt (h : blk (sfx (iTb j) pc) L S σ = evB c t1 t2 L' S' σ') (hc : c) (k1 : AtP j t1 L' S' σ' Q) : AtP j pc L S σ Q := by
  obtain ⟨r, h1, h2⟩ := k1
  exact ⟨r, h1, At.Bt h hc h2⟩
theorem AtP.Bf (h : blk (sfx (iTb j) pc) L S σ = evB c t1 t2 L' S' σ') (hc : ¬ c) (k2 : AtP j t2 L' S' σ' Q) : AtP j pc L S σ Q := by
  obtain ⟨r, h1, h2⟩ := k2
  exact ⟨r, h1, At.Bf h hc h2⟩
theorem AtP.B (h : blk (sfx (iTb j) pc) L S σ = evB c t1 t2 L' S' σ') (k1 : c → AtP j t1 L' S' σ' Q) (k2 : ¬ c → AtP j t2 L' S' σ' Q) : AtP j pc L S σ Q := by
  by_cases hc : c
  · exact AtP.Bt h hc (k1 hc)
  · exact AtP.Bf h hc (k2 hc)
theorem AtP.N (h : blk (sfx (iTb j) pc) L S σ = evN c t L' S' σ') (hc : c) (k : AtP j t L' S' σ' Q) : AtP j pc L S σ Q := by
  obtain ⟨r, h1, h2⟩ := k
  exact ⟨r, h1, At.N h hc h2⟩
theorem AtP.Ci {m : Nat} {as : List iV} {v : Int32} (h : blk (sfx (iTb j) pc) L S σ = evC m as t L' S' σ') (hm : Ev m as σ' (.inl (some (.inl v)), σ1)) (k : AtP j t L' (.inl v :: S') σ1 Q) : AtP j pc L S σ Q := by
  obtain ⟨r, h1, h2⟩ := k
  exact ⟨r, h1, At.Ci h hm h2⟩
theorem AtP.Cv {m : Nat} {as : List iV} (h : blk (sfx (iTb j) pc) L S σ = evC m as t L' S' σ') (hm : Ev m as σ' (.inl none, σ1)) (k : AtP j t L' S' σ1 Q) : AtP j pc L S σ Q := by
  obtain ⟨r, h1, h2⟩ := k
  exact ⟨r, h1, At.Cv h hm h2⟩
theorem AtP.Cr {m : Nat} {as : List iV} {v w : Nat} (h : blk (sfx (iTb j) pc) L S σ = evC m as t L' S' σ') (hm : Ev m as σ' (.inl (some (.inr (v, w))), σ1)) (hv : w < iCnt v) (k : AtP j t L' (.inr (v, w) :: S') σ1 Q) : AtP j pc L S σ Q := by
  obtain ⟨r, h1, h2⟩ := k
  exact ⟨r, h1, At.Cr h hm hv h2⟩
/-- a call of which a postcondition is known -/
theorem AtP.CvP {m : Nat} {as : List iV} {P : iM → Prop} (h : blk (sfx (iTb j) pc) L S σ = evC m as t L' S' σ') (hm : EvP m as σ' (fun r => ∃ σ1, r = (.inl none, σ1) ∧ P σ1)) (k : ∀ σ1, P σ1 → AtP j t L' S' σ1 Q) : AtP j pc L S σ Q := by
  obtain ⟨r, ⟨σ1, rfl, hP⟩, h2⟩ := hm
  exact AtP.Cv h h2 (k σ1 hP)
theorem AtP.CiP {m : Nat} {as : List iV} {P : Int32 → iM → Prop} (h : blk (sfx (iTb j) pc) L S σ = evC m as t L' S' σ') (hm : EvP m as σ' (fun r => ∃ v σ1, r = (.inl (some (.inl v)), σ1) ∧ P v σ1)) (k : ∀ v σ1, P v σ1 → AtP j t L' (.inl v :: S') σ1 Q) : AtP j pc L S σ Q := by
  obtain ⟨r, ⟨v, σ1, rfl, hP⟩, h2⟩ := hm
  exact AtP.Ci h h2 (k v σ1 hP)
theorem AtP.R {v : Option iV} (h : blk (sfx (iTb j) pc) L S σ = evR v σ') (hq : Q (.inl v, σ')) : AtP j pc L S σ Q := ⟨_, hq, At.R h⟩
theorem AtP.Z {v : Int32} (h : blk (sfx (iTb j) pc) L S σ = evZ v σ') (hv : v = 0 ∨ v = 1) (hq : Q (.inl (some (.inl v)), σ')) : AtP j pc L S σ Q := ⟨_, hq, At.Z h hv⟩
theorem AtP.Sw {x : Int32} {ts : List (Int32 × Nat)} (h : blk (sfx (iTb j) pc) L S σ = evS x ts t L' S' σ') (k : AtP j (swT x ts t) L' S' σ' Q) : AtP j pc L S σ Q := by
  obtain ⟨r, h1, h2⟩ := k
  exact ⟨r, h1, At.Sw h h2⟩
theorem AtP.X {m x : Nat} {as : List iV} (h : blk (sfx (iTb j) pc) L S σ = evC m as t L' S' σ') (hm : Ev m as σ' (.inr x, σ1)) (hq : Q (.inr x, σ1)) : AtP j pc L S σ Q := ⟨_, hq, At.X h hm⟩
theorem AtP.T {k : Nat} (h : blk (sfx (iTb j) pc) L S σ = evT k σ') (hq : Q (.inr k, σ')) : AtP j pc L S σ Q := ⟨_, hq, At.T h⟩
end
end
section
/-! ===== the shop as a row of numbers (the reference's own row): words for it ===== -/
abbrev Row : Type := Nat → Int32
abbrev nn (x : Int32) : Nat := x.toNatClampNeg
abbrev rO (r : Row) (i w : Nat) : Int32 := r (131 + 14 * i + w)
abbrev rS (r : Row) (q w : Nat) : Int32 := r (11 + 7 * q + w)
abbrev rPn (r : Row) (p : Nat) : Int32 := r (53 + 13 * p)
abbrev rPs (r : Row) (p k : Nat) : Int32 := r (54 + 13 * p + 2 * k)
abbrev rPt (r : Row) (p k : Nat) : Int32 := r (55 + 13 * p + 2 * k)
abbrev SC (r : Row) : Nat := nn (r 1)
abbrev DR (r : Row) : Nat := nn (r 2)
abbrev PM (r : Row) : Nat := nn (r 3)
abbrev OM (r : Row) : Nat := nn (r 4)
abbrev oP (r : Row) (i : Nat) : Nat := nn (rO r i 0)
abbrev oK (r : Row) (i : Nat) : Nat := nn (rO r i 4)
abbrev sN (r : Row) (p : Nat) : Nat := nn (rPn r p)
def dSf (r : Row) (p : Nat) : Nat → Nat → Nat
  | 0, k => k
  | n + 1, k => if rPs r p k = r 2 then k else dSf r p n (k + 1)
def dS (r : Row) (p : Nat) : Nat := dSf r p 6 0
abbrev inR (x : Int32) (a b : Int) : Prop := a ≤ x.toInt ∧ x.toInt ≤ b
/-- numbers -/
theorem nn_of {x : Int32} {b : Nat} (h : inR x 0 b) (hb : b < 2 ^ 31) : x = nI (nn x) ∧ nn x ≤ b ∧ (x.toInt = (nn x : Int)) := by
  have h1 : nn x = x.toInt.toNat := rfl
  have h2 : (x.toInt = (nn x : Int)) := by rw [h1]; omega
  refine ⟨?_, by omega, h2⟩
  rw [fa_eq, nI_toInt (by omega)]
  exact h2
theorem nI_mul (a b : Nat) : nI a * nI b = nI (a * b) := by unfold nI; exact (Int32.ofNat_mul a b).symm
theorem nI_inj {a b : Nat} (ha : a < 2 ^ 31) (hb : b < 2 ^ 31) : nI a = nI b ↔ a = b := by
  constructor
  · intro h
    have := congrArg Int32.toInt h
    rw [nI_toInt ha, nI_toInt hb] at this
    omega
  · intro h; rw [h]
theorem nI_lt_iff {a b : Nat} (ha : a < 2 ^ 31) (hb : b < 2 ^ 31) : nI a < nI b ↔ a < b := by
  rw [fa_lt, nI_toInt ha, nI_toInt hb]; omega
theorem nI_le_iff {a b : Nat} (ha : a < 2 ^ 31) (hb : b < 2 ^ 31) : nI a ≤ nI b ↔ a ≤ b := by
  rw [fa_le, nI_toInt ha, nI_toInt hb]; omega
theorem down_ind {N : Nat} {P : Nat → Prop} (h0 : P N) (hs : ∀ i, i < N → P (i + 1) → P i) : ∀ i, i ≤ N → P i := by
  have key : ∀ d i, i + d = N → P i := by
    intro d
    induction d with
    | zero => intro i h; rw [Nat.add_zero] at h; rw [h]; exact h0
    | succ d ih => intro i h; exact hs i (by omega) (ih (i + 1) (by omega))
  intro i hi
  exact key (N - i) i (by omega)
theorem iU_same {σ : iM} {k i j : Nat} {x : Int32} : iU σ k i j x k i j = x := by simp [iU]
theorem iU_ne {σ : iM} {k i j k' i' j' : Nat} {x : Int32} (h : ¬ (k' = k ∧ i' = i ∧ j' = j)) : iU σ k i j x k' i' j' = σ k' i' j' := if_neg h
/-- an index of the row -/
theorem vin {n N : Nat} (h : n < N) (hN : N < 2 ^ 31) : vp_in (nI n) N := vp_in_nI h hN
theorem ixO (i w : Nat) : (131 + 14 * nI i + nI w : Int32) = nI (131 + 14 * i + w) := by rw [show (131 : Int32) = nI 131 from rfl, show (14 : Int32) = nI 14 from rfl, nI_mul, nI_add, nI_add]
theorem ixS (i w : Nat) : (11 + 7 * nI i + nI w : Int32) = nI (11 + 7 * i + w) := by rw [show (11 : Int32) = nI 11 from rfl, show (7 : Int32) = nI 7 from rfl, nI_mul, nI_add, nI_add]
theorem ixPn (i : Nat) : (53 + 13 * nI i + 0 : Int32) = nI (53 + 13 * i) := by rw [show (53 : Int32) = nI 53 from rfl, show (13 : Int32) = nI 13 from rfl, show (0 : Int32) = nI 0 from rfl, nI_mul, nI_add, nI_add]; rfl
theorem ixPs (i k : Nat) : (53 + 13 * nI i + 1 + 2 * nI k : Int32) = nI (54 + 13 * i + 2 * k) := by rw [show (53 : Int32) = nI 53 from rfl, show (13 : Int32) = nI 13 from rfl, show (1 : Int32) = nI 1 from rfl, show (2 : Int32) = nI 2 from rfl, nI_mul, nI_mul, nI_add, nI_add, nI_add]; congr 1; omega
theorem ixPt (i k : Nat) : (53 + 13 * nI i + 1 + 2 * nI k + 1 : Int32) = nI (55 + 13 * i + 2 * k) := by rw [ixPs, show (1 : Int32) = nI 1 from rfl, nI_add]; congr 1; omega
/-- what holds of a product, an order, a station -/
def PI (r : Row) (p : Nat) : Prop := inR (rPn r p) 1 6 ∧ (∀ k, k < sN r p → inR (rPs r p k) 0 5 ∧ nn (rPs r p k) < SC r ∧ inR (rPt r p k) 1 20) ∧ dS r p < sN r p ∧ rPs r p (dS r p) = r 2 ∧ (∀ k, k < sN r p → rPs r p k = r 2 → k = dS r p)
def OI0 (r : Row) (i : Nat) : Prop := rO r i 4 = -1 ∧ rO r i 6 = 0 ∧ rO r i 7 = 0 ∧ rO r i 8 = -1 ∧ rO r i 11 = -1
/-- in the stations m a step that is worked on has work left -/
def OI1 (m : Nat → Prop) (r : Row) (i : Nat) : Prop := inR (rO r i 4) 0 5 ∧ oK r i < sN r (oP r i) ∧ inR (rO r i 8) 0 40000 ∧ rO r i 11 = -1 ∧ ((rO r i 6 = 0 ∧ rO r i 7 = 0) ∨ (rO r i 6 = 1 ∧ inR (rO r i 7) 0 1050 ∧ (m (nn (rPs r (oP r i) (oK r i))) → 1 ≤ (rO r i 7).toInt) ∧ rS r (nn (rPs r (oP r i) (oK r i))) 0 = nI i))
def OI2 (r : Row) (i : Nat) : Prop := rO r i 4 = rPn r (oP r i) ∧ rO r i 6 = 0 ∧ rO r i 7 = 0 ∧ inR (rO r i 8) 0 40000 ∧ inR (rO r i 11) 0 40000
def OIg (m : Nat → Prop) (r : Row) (i : Nat) : Prop := inR (rO r i 0) 0 5 ∧ oP r i < PM r ∧ inR (rO r i 1) 1 50 ∧ inR (rO r i 2) 0 30000 ∧ inR (rO r i 5) 0 40000 ∧ inR (rO r i 9) (-500) 40000 ∧ inR (rO r i 10) 0 40000 ∧ (rO r i 12 = 0 ∨ rO r i 12 = 1) ∧
  ((rO r i 3 = 0 ∧ OI0 r i) ∨ (rO r i 3 = 3 ∧ OI0 r i) ∨ (rO r i 3 = 1 ∧ OI1 m r i) ∨ (rO r i 3 = 2 ∧ OI2 r i))
abbrev OI (r : Row) (i : Nat) : Prop := OIg (fun _ => True) r i
def SI (r : Row) (q : Nat) : Prop := inR (rS r q 2) 0 40500 ∧ inR (rS r q 5) 0 50 ∧ (rS r q 0 = -1 ∨ (inR (rS r q 0) 0 23 ∧ nn (rS r q 0) < OM r ∧ rO r (nn (rS r q 0)) 3 = 1 ∧ rO r (nn (rS r q 0)) 6 = 1 ∧ rPs r (oP r (nn (rS r q 0))) (oK r (nn (rS r q 0))) = nI q))
/-- what holds of a row -/
def RIg (m : Nat → Prop) (r : Row) : Prop := inR (r 0) 0 40000 ∧ inR (r 1) 1 6 ∧ (inR (r 2) 0 5 ∧ DR r < SC r) ∧ inR (r 3) 0 6 ∧ inR (r 4) 0 24 ∧ inR (r 5) 1 500 ∧ inR (r 6) 1 500 ∧ inR (r 7) 1 5000 ∧ inR (r 8) 0 3 ∧ inR (r 9) 0 1 ∧
  (∀ p, p < PM r → PI r p) ∧ (∀ i, i < OM r → OIg m r i) ∧ (∀ q, q < SC r → SI r q)
abbrev RI (r : Row) : Prop := RIg (fun _ => True) r
theorem inR.mono {x : Int32} {a b a' b' : Int} (h : inR x a b) (h1 : a' ≤ a) (h2 : b ≤ b') : inR x a' b' := ⟨by omega, by omega⟩
theorem inR.toN {x : Int32} {a b : Int} (h : inR x a b) (ha : 0 ≤ a) (hb : b < 2147483648) : x = nI (nn x) ∧ nn x ≤ b.toNat ∧ a.toNat ≤ nn x ∧ x.toInt = (nn x : Int) := by
  have h0 := nn_of (x := x) (b := b.toNat) ⟨by omega, by omega⟩ (by omega)
  exact ⟨h0.1, h0.2.1, by omega, h0.2.2⟩
/-- the words of the shop -/
abbrev opn (r : Row) (i : Nat) : Prop := rO r i 3 = 0 ∨ rO r i 3 = 1
abbrev bef (r : Row) (i : Nat) : Prop := opn r i ∧ (rO r i 4 < nI (dS r (oP r i)) ∨ (rO r i 4 = nI (dS r (oP r i)) ∧ rO r i 6 = 0))
abbrev past (r : Row) (i : Nat) : Prop := nI (dS r (oP r i)) < rO r i 4
abbrev dnn (r : Row) (q : Nat) : Prop := r 0 < rS r q 2
def wk (r : Row) (i : Nat) : Int32 := rPt r (oP r i) (dS r (oP r i)) * rO r i 1
def pen (r : Row) (i : Nat) : Int32 := if rO r i 3 = 1 then iMax 0 (1000 * (r 0 - (if bef r i then rO r i 9 else rO r i 2 - r 6)) / (if bef r i then r 5 else r 6)) else 0
def zon (r : Row) (i : Nat) : Int32 := if rO r i 3 = 1 then iMin 3 (3 * pen r i / 1000) else -1
abbrev wts (r : Row) (i q : Nat) : Prop := rO r i 3 = 1 ∧ rO r i 6 = 0 ∧ rPs r (oP r i) (oK r i) = nI q
def wH (r : Row) (i : Nat) : Int32 := rPt r (oP r i) (oK r i) * rO r i 1
abbrev urg (r : Row) (i : Nat) : Prop := rO r i 12 = 1 ∨ (r 9 = 1 ∧ 2 ≤ zon r i)
def wor (r : Row) (i : Nat) : Int32 := if r 8 = 0 then rO r i 5 else if r 8 = 1 then -(pen r i) else if r 8 = 2 then rO r i 2 else wH r i
abbrev btr (r : Row) (i j : Nat) : Prop := (urg r i ∧ ¬ urg r j) ∨ ((urg r i ↔ urg r j) ∧ wor r i < wor r j)
/-- which of the first n orders a station chooses -/
def cho (r : Row) (q : Nat) : Nat → Int32
  | 0 => -1
  | n + 1 => if wts r n q ∧ (cho r q n = -1 ∨ btr r n (nn (cho r q n))) then nI n else cho r q n
/-- sums over the first n orders -/
def sumN (f : Nat → Int32) : Nat → Int32
  | 0 => 0
  | n + 1 => sumN f n + f n
/-- rows in the memory -/
def mR (σ : iM) (a : Nat) (r : Row) : iM := fun k i j => if k = 8 ∧ i = a then r j else σ k i j
theorem mR_at {σ : iM} {a : Nat} {r : Row} : mR σ a r 8 a = r := by funext j; simp [mR]
theorem mR_ne {σ : iM} {a : Nat} {r : Row} {k i j : Nat} (h : ¬ (k = 8 ∧ i = a)) : mR σ a r k i j = σ k i j := if_neg h
theorem iU_mR {σ : iM} {a j : Nat} {x : Int32} : iU σ 8 a j x = mR σ a (upd (σ 8 a) j x) := by
  funext k i j'
  simp only [iU, mR, upd]
  by_cases h1 : k = 8 <;> by_cases h2 : i = a <;> by_cases h3 : j' = j <;> simp [h1, h2, h3]
theorem mR_mR {σ : iM} {a : Nat} {r r' : Row} : mR (mR σ a r) a r' = mR σ a r' := by
  funext k i j
  simp only [mR]
  by_cases h : k = 8 ∧ i = a <;> simp [h]
theorem mR_self {σ : iM} {a : Nat} : mR σ a (σ 8 a) = σ := by
  funext k i j
  simp only [mR]
  by_cases h : k = 8 ∧ i = a
  · obtain ⟨rfl, rfl⟩ := h; simp
  · simp [h]
theorem t0 : Int32.toNatClampNeg 0 = 0 := rfl
theorem t1 : Int32.toNatClampNeg 1 = 1 := rfl
theorem t2 : Int32.toNatClampNeg 2 = 2 := rfl
theorem t3 : Int32.toNatClampNeg 3 = 3 := rfl
theorem t4 : Int32.toNatClampNeg 4 = 4 := rfl
theorem t5 : Int32.toNatClampNeg 5 = 5 := rfl
theorem t6 : Int32.toNatClampNeg 6 = 6 := rfl
theorem t7 : Int32.toNatClampNeg 7 = 7 := rfl
theorem t8 : Int32.toNatClampNeg 8 = 8 := rfl
theorem t9 : Int32.toNatClampNeg 9 = 9 := rfl
theorem t10 : Int32.toNatClampNeg 10 = 10 := rfl
theorem RIg.ord {m : Nat → Prop} {r : Row} (h : RIg m r) {i : Nat} (hi : i < OM r) : OIg m r i := h.2.2.2.2.2.2.2.2.2.2.2.1 i hi
theorem RIg.prd {m : Nat → Prop} {r : Row} (h : RIg m r) {p : Nat} (hp : p < PM r) : PI r p := h.2.2.2.2.2.2.2.2.2.2.1 p hp
theorem RIg.sta {m : Nat → Prop} {r : Row} (h : RIg m r) {q : Nat} (hq : q < SC r) : SI r q := h.2.2.2.2.2.2.2.2.2.2.2.2 q hq
theorem RIg.om {m : Nat → Prop} {r : Row} (h : RIg m r) : r 4 = nI (OM r) ∧ OM r ≤ 24 := by have := h.2.2.2.2.1.toN (by omega) (by omega); exact ⟨this.1, this.2.1⟩
theorem RIg.pm {m : Nat → Prop} {r : Row} (h : RIg m r) : r 3 = nI (PM r) ∧ PM r ≤ 6 := by have := h.2.2.2.1.toN (by omega) (by omega); exact ⟨this.1, this.2.1⟩
theorem RIg.sc {m : Nat → Prop} {r : Row} (h : RIg m r) : r 1 = nI (SC r) ∧ SC r ≤ 6 ∧ 1 ≤ SC r := by have := h.2.1.toN (by omega) (by omega); exact ⟨this.1, this.2.1, this.2.2.1⟩
theorem RIg.dr {m : Nat → Prop} {r : Row} (h : RIg m r) : r 2 = nI (DR r) ∧ DR r < SC r ∧ DR r < 6 := by have := h.2.2.1.1.toN (by omega) (by omega); exact ⟨this.1, h.2.2.1.2, Nat.lt_of_lt_of_le h.2.2.1.2 h.sc.2.1⟩
theorem OIg.p {m : Nat → Prop} {r : Row} {i : Nat} (h : OIg m r i) : rO r i 0 = nI (oP r i) ∧ oP r i < PM r := by have := h.1.toN (by omega) (by omega); exact ⟨this.1, h.2.1⟩
/-- a released order's step -/
theorem OIg.k {m : Nat → Prop} {r : Row} {i : Nat} (h : OIg m r i) (h1 : rO r i 3 = 1) : OI1 m r i := by
  rcases h.2.2.2.2.2.2.2.2 with q | q | q | q
  · rw [h1] at q; exact absurd q.1 (by decide)
  · rw [h1] at q; exact absurd q.1 (by decide)
  · exact q.2
  · rw [h1] at q; exact absurd q.1 (by decide)
theorem OI1.k {m : Nat → Prop} {r : Row} {i : Nat} (h : OI1 m r i) : rO r i 4 = nI (oK r i) ∧ oK r i < sN r (oP r i) := by have := h.1.toN (by omega) (by omega); exact ⟨this.1, h.2.1⟩
theorem PI.n {r : Row} {p : Nat} (h : PI r p) : rPn r p = nI (sN r p) ∧ sN r p ≤ 6 ∧ 1 ≤ sN r p := by have := h.1.toN (by omega) (by omega); exact ⟨this.1, this.2.1, this.2.2.1⟩
theorem PI.d {r : Row} {p : Nat} (h : PI r p) : dS r p < sN r p ∧ dS r p < 6 ∧ rPs r p (dS r p) = r 2 := ⟨h.2.2.1, Nat.lt_of_lt_of_le h.2.2.1 h.n.2.1, h.2.2.2.1⟩
theorem RIg.op {m : Nat → Prop} {r : Row} (h : RIg m r) {i : Nat} (hi : i < OM r) : i < 24 ∧ rO r i 0 = nI (oP r i) ∧ oP r i < 6 ∧ PI r (oP r i) ∧ OIg m r i := by
  have h1 := h.ord hi
  have h2 := h1.p
  have h3 := h.om
  have h4 := h.pm
  exact ⟨by omega, h2.1, by omega, h.prd h2.2, h1⟩
theorem le_nlt {a b : Int32} (h : a ≤ b) : ¬ b < a := by rw [fa_le] at h; rw [fa_lt]; omega
theorem lt_nle {a b : Int32} (h : a < b) : ¬ b ≤ a := by rw [fa_lt] at h; rw [fa_le]; omega
theorem iN58 : iN 8 58 = 467 := rfl
theorem v58 (n : Nat) (h : n < 467) : vp_in (nI n) (iN 8 58) := vin h (by show 467 < _; omega)
theorem RIg.st {m : Nat → Prop} {r : Row} (h : RIg m r) {i : Nat} (hi : i < OM r) (h1 : rO r i 3 = 1) : rO r i 4 = nI (oK r i) ∧ oK r i < sN r (oP r i) ∧ oK r i < 6 := by
  obtain ⟨a1, a2, a3, a4, a5⟩ := h.op hi
  have b := (a5.k h1).k
  exact ⟨b.1, b.2, Nat.lt_of_lt_of_le b.2 a4.n.2.1⟩
end
section
/-! ===== the reference's leaves ===== -/
abbrev evi (x : Int32) (σ : iM) : iRes := (.inl (some (.inl x)), σ)
abbrev evv (σ : iM) : iRes := (.inl none, σ)
abbrev M : iV := .inr (7, 0)
theorem zo (c : Prop) (d : Decidable c) : (@ite _ c d (1 : Int32) 0) = 0 ∨ (@ite _ c d (1 : Int32) 0) = 1 := by by_cases h : c <;> simp [h]
theorem e_in (v lo hi : Int32) (σ : iM) : Ev mX7_in [.inl v, .inl lo, .inl hi] σ (evi (if lo ≤ v ∧ v ≤ hi then 1 else 0) σ) := by
  show At mX7_in 0 [some (.inl v), some (.inl lo), some (.inl hi)] [] σ _
  refine At.B rfl (fun h0 => ?_) (fun h0 => ?_)
  · rw [if_neg (by rintro ⟨a, b⟩; rw [fa_lt] at h0; rw [fa_le] at a; omega)]
    exact At.Z rfl (Or.inl rfl)
  · have h0 := fa_of_nlt h0
    refine At.B rfl (fun h1 => ?_) (fun h1 => ?_)
    · rw [if_neg (by rintro ⟨a, b⟩; rw [fa_lt] at h1; rw [fa_le] at b; omega)]
      exact At.Z rfl (Or.inl rfl)
    · rw [if_pos ⟨h0, fa_of_nlt h1⟩]
      refine At.J rfl ?_
      exact At.Z rfl (Or.inr rfl)
theorem e_thr1 (n : Int32) (σ : iM) : Ev mX7_isThrown [M, .inl 1, .inl n] σ (evi 0 (iU σ 7 0 5 0)) := by
  show At mX7_isThrown 0 [some M, some (.inl 1), some (.inl n)] [] σ _
  refine At.Bf rfl (by decide) ?_
  refine At.J rfl ?_
  refine At.Bf rfl (by decide) ?_
  exact At.Z rfl (Or.inl rfl)
theorem e_thr0 (n : Int32) (σ : iM) : Ev mX7_isThrown [M, .inl 0, .inl n] σ (evi 1 (iU σ 7 0 5 n)) := by
  show At mX7_isThrown 0 [some M, some (.inl 0), some (.inl n)] [] σ _
  refine At.Bt rfl rfl ?_
  refine At.Bt rfl rfl ?_
  refine At.J rfl ?_
  exact At.Z rfl (Or.inr rfl)
theorem e_order (i w : Nat) (hi : i < 24) (hw : w < 14) (σ : iM) : Ev mX7_order [M, .inl (nI i), .inl (nI w)] σ (evi (rO (σ 8 58) i w) σ) := by
  show At mX7_order 0 [some M, some (.inl (nI i)), some (.inl (nI w))] [] σ _
  refine At.N rfl (by rw [ixO]; exact vin (by show _ < 467; omega) (by show 467 < _; omega)) ?_
  rw [ixO, nI_clamp (by omega)]
  exact At.R rfl
theorem e_setsOrder (i w : Nat) (v : Int32) (hi : i < 24) (hw : w < 14) (σ : iM) : Ev mX7_setsOrder [M, .inl (nI i), .inl (nI w), .inl v] σ (evv (mR σ 58 (upd (σ 8 58) (131 + 14 * i + w) v))) := by
  show At mX7_setsOrder 0 [some M, some (.inl (nI i)), some (.inl (nI w)), some (.inl v)] [] σ _
  refine At.N rfl (by rw [ixO]; exact vin (by show _ < 467; omega) (by show 467 < _; omega)) ?_
  rw [ixO, nI_clamp (by omega), iU_mR]
  exact At.R rfl
theorem e_station (i w : Nat) (hi : i < 6) (hw : w < 7) (σ : iM) : Ev mX7_station [M, .inl (nI i), .inl (nI w)] σ (evi (rS (σ 8 58) i w) σ) := by
  show At mX7_station 0 [some M, some (.inl (nI i)), some (.inl (nI w))] [] σ _
  refine At.N rfl (by rw [ixS]; exact vin (by show _ < 467; omega) (by show 467 < _; omega)) ?_
  rw [ixS, nI_clamp (by omega)]
  exact At.R rfl
theorem e_setsStation (i w : Nat) (v : Int32) (hi : i < 6) (hw : w < 7) (σ : iM) : Ev mX7_setsStation [M, .inl (nI i), .inl (nI w), .inl v] σ (evv (mR σ 58 (upd (σ 8 58) (11 + 7 * i + w) v))) := by
  show At mX7_setsStation 0 [some M, some (.inl (nI i)), some (.inl (nI w)), some (.inl v)] [] σ _
  refine At.N rfl (by rw [ixS]; exact vin (by show _ < 467; omega) (by show 467 < _; omega)) ?_
  rw [ixS, nI_clamp (by omega), iU_mR]
  exact At.R rfl
theorem e_steps (a p : Nat) (ha : iN 8 a = 467) (hp : p < 6) (σ : iM) : Ev mX7_steps [.inr (8, a), .inl (nI p)] σ (evi (rPn (σ 8 a) p) σ) := by
  show At mX7_steps 0 [some (.inr (8, a)), some (.inl (nI p))] [] σ _
  refine At.N rfl (by rw [ixPn, ha]; exact vin (by omega) (by omega)) ?_
  rw [ixPn, nI_clamp (by omega)]
  exact At.R rfl
theorem e_stepStation (a p k : Nat) (ha : iN 8 a = 467) (hp : p < 6) (hk : k < 6) (σ : iM) : Ev mX7_stepStation [.inr (8, a), .inl (nI p), .inl (nI k)] σ (evi (rPs (σ 8 a) p k) σ) := by
  show At mX7_stepStation 0 [some (.inr (8, a)), some (.inl (nI p)), some (.inl (nI k))] [] σ _
  refine At.N rfl (by rw [ixPs, ha]; exact vin (by omega) (by omega)) ?_
  rw [ixPs, nI_clamp (by omega)]
  exact At.R rfl
theorem e_stepTime (a p k : Nat) (ha : iN 8 a = 467) (hp : p < 6) (hk : k < 6) (σ : iM) : Ev mX7_stepTime [.inr (8, a), .inl (nI p), .inl (nI k)] σ (evi (rPt (σ 8 a) p k) σ) := by
  show At mX7_stepTime 0 [some (.inr (8, a)), some (.inl (nI p)), some (.inl (nI k))] [] σ _
  refine At.N rfl (by rw [ixPt, ha]; exact vin (by omega) (by omega)) ?_
  rw [ixPt, nI_clamp (by omega)]
  exact At.R rfl
theorem e_drumStep (a p : Nat) (ha : iN 8 a = 467) (hp : p < 6) (σ : iM) (hk : dS (σ 8 a) p < 6) (hd : rPs (σ 8 a) p (dS (σ 8 a) p) = σ 8 a 2) : Ev mX7_drumStep [.inr (8, a), .inl (nI p)] σ (evi (nI (dS (σ 8 a) p)) σ) := by
  show At mX7_drumStep 0 [some (.inr (8, a)), some (.inl (nI p)), none] [] σ _
  refine At.F 2 [some (.inr (8, a)), some (.inl (nI p)), some (.inl (nI 0))] [] σ rfl ?_
  have key : ∀ n k, n + k = 6 → dSf (σ 8 a) p n k = dS (σ 8 a) p → At mX7_drumStep 2 [some (.inr (8, a)), some (.inl (nI p)), some (.inl (nI k))] [] σ (evi (nI (dS (σ 8 a) p)) σ) := by
    intro n
    induction n with
    | zero => intro k h1 h2; rw [dSf] at h2; omega
    | succ n ih =>
      intro k h1 h2
      refine At.Ci rfl (e_stepStation a p k ha hp (by omega) σ) ?_
      refine At.N rfl (by rw [ha]; exact vin (n := 2) (by omega) (by omega)) ?_
      rw [dSf] at h2
      rw [t2]
      refine At.B rfl (fun h => ?_) (fun h => ?_)
      · rw [if_pos h] at h2
        rw [← h2]
        exact At.R rfl
      · rw [if_neg h] at h2
        refine At.J rfl ?_
        rw [nI_1]
        exact ih (k + 1) (by omega) h2
  exact key 6 0 rfl rfl
theorem e_drumTicks (a p : Nat) (q : Int32) (ha : iN 8 a = 467) (hp : p < 6) (σ : iM) (hk : dS (σ 8 a) p < 6) (hd : rPs (σ 8 a) p (dS (σ 8 a) p) = σ 8 a 2) : Ev mX7_drumTicks [.inr (8, a), .inl (nI p), .inl q] σ (evi (rPt (σ 8 a) p (dS (σ 8 a) p) * q) σ) := by
  show At mX7_drumTicks 0 [some (.inr (8, a)), some (.inl (nI p)), some (.inl q)] [] σ _
  refine At.Ci rfl (e_drumStep a p ha hp σ hk hd) ?_
  refine At.Ci rfl (e_stepTime a p _ ha hp hk σ) ?_
  exact At.R rfl
section ML
variable {σ : iM}
theorem e_dS (hr : RI (σ 8 58)) {i : Nat} (hi : i < OM (σ 8 58)) : Ev mX7_drumStep [.inr (8, 58), .inl (rO (σ 8 58) i 0)] σ (evi (nI (dS (σ 8 58) (oP (σ 8 58) i))) σ) := by
  obtain ⟨h1, h2, h3, h4, h5⟩ := hr.op hi
  rw [h2]
  exact e_drumStep 58 _ rfl h3 σ h4.d.2.1 h4.d.2.2
theorem e_workAtDrum (hr : RI (σ 8 58)) {i : Nat} (hi : i < OM (σ 8 58)) : Ev mX7_workAtDrum [M, .inl (nI i)] σ (evi (wk (σ 8 58) i) σ) := by
  obtain ⟨h1, h2, h3, h4, h5⟩ := hr.op hi
  show At mX7_workAtDrum 0 [some M, some (.inl (nI i))] [] σ _
  refine At.Ci rfl (e_order i 0 h1 (by omega) σ) ?_
  refine At.Ci rfl (e_order i 1 h1 (by omega) σ) ?_
  rw [h2]
  refine At.Ci rfl (e_drumTicks 58 _ _ rfl h3 σ h4.d.2.1 h4.d.2.2) ?_
  exact At.R rfl
theorem e_isOpen {i : Nat} (h1 : i < 24) : Ev mX7_isOpen [M, .inl (nI i)] σ (evi (if opn (σ 8 58) i then 1 else 0) σ) := by
  show At mX7_isOpen 0 [some M, some (.inl (nI i))] [] σ _
  refine At.Ci rfl (e_order i 3 h1 (by omega) σ) ?_
  refine At.B rfl (fun h => ?_) (fun h => ?_)
  · rw [if_pos (Or.inl h)]
    refine At.J rfl ?_
    exact At.Z rfl (Or.inr rfl)
  · refine At.Ci rfl (e_order i 3 h1 (by omega) σ) ?_
    refine At.B rfl (fun h2 => ?_) (fun h2 => ?_)
    · rw [if_pos (Or.inr h2)]
      refine At.J rfl ?_
      exact At.Z rfl (Or.inr rfl)
    · rw [if_neg (by rintro (q | q) <;> contradiction)]
      exact At.Z rfl (Or.inl rfl)
theorem e_isBeforeDrum (hr : RI (σ 8 58)) {i : Nat} (hi : i < OM (σ 8 58)) : Ev mX7_isBeforeDrum [M, .inl (nI i)] σ (evi (if bef (σ 8 58) i then 1 else 0) σ) := by
  obtain ⟨h1, h2, h3, h4, h5⟩ := hr.op hi
  show At mX7_isBeforeDrum 0 [some M, some (.inl (nI i)), none, none] [] σ _
  refine At.Ci rfl (e_isOpen h1) ?_
  by_cases ho : opn (σ 8 58) i
  · rw [if_pos ho]
    refine At.Bf rfl (by decide) ?_
    refine At.Ci rfl (e_order i 0 h1 (by omega) σ) ?_
    refine At.Ci rfl (e_dS hr hi) ?_
    refine At.Ci rfl (e_order i 4 h1 (by omega) σ) ?_
    refine At.B rfl (fun h => ?_) (fun h => ?_)
    · rw [if_pos ⟨ho, Or.inl h⟩]
      refine At.J rfl ?_
      exact At.Z rfl (Or.inr rfl)
    · refine At.B rfl (fun h2 => ?_) (fun h2 => ?_)
      · refine At.Ci rfl (e_order i 6 h1 (by omega) σ) ?_
        refine At.B rfl (fun h3 => ?_) (fun h3 => ?_)
        · rw [if_pos ⟨ho, Or.inr ⟨h2, h3⟩⟩]
          refine At.J rfl ?_
          exact At.Z rfl (Or.inr rfl)
        · rw [if_neg (by rintro ⟨-, q | q⟩; exact h q; exact h3 q.2)]
          exact At.Z rfl (Or.inl rfl)
      · rw [if_neg (by rintro ⟨-, q | q⟩; exact h q; exact h2 q.1)]
        exact At.Z rfl (Or.inl rfl)
  · rw [if_neg ho, if_neg (fun q => ho q.1)]
    refine At.Bt rfl rfl ?_
    exact At.Z rfl (Or.inl rfl)
theorem e_isPastDrum (hr : RI (σ 8 58)) {i : Nat} (hi : i < OM (σ 8 58)) : Ev mX7_isPastDrum [M, .inl (nI i)] σ (evi (if past (σ 8 58) i then 1 else 0) σ) := by
  obtain ⟨h1, h2, h3, h4, h5⟩ := hr.op hi
  show At mX7_isPastDrum 0 [some M, some (.inl (nI i))] [] σ _
  refine At.Ci rfl (e_order i 4 h1 (by omega) σ) ?_
  refine At.Ci rfl (e_order i 0 h1 (by omega) σ) ?_
  refine At.Ci rfl (e_dS hr hi) ?_
  refine At.B rfl (fun h => ?_) (fun h => ?_)
  · rw [if_neg (le_nlt h)]
    exact At.Z rfl (Or.inl rfl)
  · rw [if_pos (fa_of_nle h)]
    refine At.J rfl ?_
    exact At.Z rfl (Or.inr rfl)
theorem e_penetrationOf (hr : RI (σ 8 58)) {i : Nat} (hi : i < OM (σ 8 58)) : Ev mX7_penetrationOf [M, .inl (nI i)] σ (evi (pen (σ 8 58) i) σ) := by
  obtain ⟨h1, h2, h3, h4, h5⟩ := hr.op hi
  show At mX7_penetrationOf 0 [some M, some (.inl (nI i)), none, none, none] [] σ _
  refine At.Ci rfl (e_order i 3 h1 (by omega) σ) ?_
  refine At.B rfl (fun h => ?_) (fun h => ?_)
  · refine At.Ci rfl (e_isBeforeDrum hr hi) ?_
    have hp : pen (σ 8 58) i = iMax 0 (1000 * (σ 8 58 0 - (if bef (σ 8 58) i then rO (σ 8 58) i 9 else rO (σ 8 58) i 2 - σ 8 58 6)) / (if bef (σ 8 58) i then σ 8 58 5 else σ 8 58 6)) := if_pos h
    rw [hp]
    by_cases hb : bef (σ 8 58) i
    · rw [if_pos hb, if_pos hb, if_pos hb]
      refine At.Bf rfl (by decide) ?_
      refine At.Ci rfl (e_order i 9 h1 (by omega) σ) ?_
      refine At.J rfl ?_
      refine At.Bf rfl (by decide) ?_
      refine At.N rfl (v58 5 (by omega)) ?_
      refine At.J rfl ?_
      refine At.N rfl (v58 0 (by omega)) ?_
      refine At.N rfl ?_ ?_
      · intro q
        have := hr.2.2.2.2.2.1
        rw [t5] at q
        rw [q] at this
        exact absurd this.1 (by decide)
      · rw [t0, t5]
        exact At.R rfl
    · rw [if_neg hb, if_neg hb, if_neg hb]
      refine At.Bt rfl rfl ?_
      refine At.Ci rfl (e_order i 2 h1 (by omega) σ) ?_
      refine At.N rfl (v58 6 (by omega)) ?_
      refine At.Bt rfl rfl ?_
      refine At.N rfl (v58 6 (by omega)) ?_
      refine At.N rfl (v58 0 (by omega)) ?_
      refine At.N rfl ?_ ?_
      · intro q
        have := hr.2.2.2.2.2.2.1
        rw [t6] at q
        rw [q] at this
        exact absurd this.1 (by decide)
      · rw [t0, t6]
        exact At.R rfl
  · have hp : pen (σ 8 58) i = 0 := if_neg h
    rw [hp]
    exact At.R rfl
theorem e_zoneOf (hr : RI (σ 8 58)) {i : Nat} (hi : i < OM (σ 8 58)) : Ev mX7_zoneOf [M, .inl (nI i)] σ (evi (zon (σ 8 58) i) σ) := by
  obtain ⟨h1, h2, h3, h4, h5⟩ := hr.op hi
  show At mX7_zoneOf 0 [some M, some (.inl (nI i))] [] σ _
  refine At.Ci rfl (e_order i 3 h1 (by omega) σ) ?_
  refine At.B rfl (fun h => ?_) (fun h => ?_)
  · refine At.Ci rfl (e_penetrationOf hr hi) ?_
    have hp : zon (σ 8 58) i = iMin 3 (3 * pen (σ 8 58) i / 1000) := if_pos h
    rw [hp]
    refine At.N rfl (by decide) ?_
    exact At.R rfl
  · have hp : zon (σ 8 58) i = -1 := if_neg h
    rw [hp]
    refine At.J rfl ?_
    exact At.R rfl
theorem e_waitsAt (hr : RI (σ 8 58)) {i q : Nat} (hi : i < OM (σ 8 58)) : Ev mX7_waitsAt [M, .inl (nI i), .inl (nI q)] σ (evi (if wts (σ 8 58) i q then 1 else 0) σ) := by
  obtain ⟨h1, h2, h3, h4, h5⟩ := hr.op hi
  show At mX7_waitsAt 0 [some M, some (.inl (nI i)), some (.inl (nI q))] [] σ _
  refine At.Ci rfl (e_order i 3 h1 (by omega) σ) ?_
  refine At.B rfl (fun h => ?_) (fun h => ?_)
  · refine At.Ci rfl (e_order i 6 h1 (by omega) σ) ?_
    refine At.B rfl (fun hb => ?_) (fun hb => ?_)
    · obtain ⟨k1, k2, k3⟩ := hr.st hi h
      refine At.Ci rfl (e_order i 0 h1 (by omega) σ) ?_
      refine At.Ci rfl (e_order i 4 h1 (by omega) σ) ?_
      rw [h2, k1]
      refine At.Ci rfl (e_stepStation 58 _ _ rfl h3 k3 σ) ?_
      refine At.B rfl (fun hc => ?_) (fun hc => ?_)
      · rw [if_pos ⟨h, hb, hc⟩]
        refine At.J rfl ?_
        exact At.Z rfl (Or.inr rfl)
      · rw [if_neg (fun q => hc q.2.2)]
        exact At.Z rfl (Or.inl rfl)
    · rw [if_neg (fun q => hb q.2.1)]
      exact At.Z rfl (Or.inl rfl)
  · rw [if_neg (fun q => h q.1)]
    exact At.Z rfl (Or.inl rfl)
theorem e_workHere (hr : RI (σ 8 58)) {i : Nat} (hi : i < OM (σ 8 58)) (hs : rO (σ 8 58) i 3 = 1) : Ev mX7_workHere [M, .inl (nI i)] σ (evi (wH (σ 8 58) i) σ) := by
  obtain ⟨h1, h2, h3, h4, h5⟩ := hr.op hi
  obtain ⟨k1, k2, k3⟩ := hr.st hi hs
  show At mX7_workHere 0 [some M, some (.inl (nI i))] [] σ _
  refine At.Ci rfl (e_order i 0 h1 (by omega) σ) ?_
  refine At.Ci rfl (e_order i 4 h1 (by omega) σ) ?_
  rw [h2, k1]
  refine At.Ci rfl (e_stepTime 58 _ _ rfl h3 k3 σ) ?_
  refine At.Ci rfl (e_order i 1 h1 (by omega) σ) ?_
  exact At.R rfl
theorem e_isUrgent (hr : RI (σ 8 58)) {i : Nat} (hi : i < OM (σ 8 58)) : Ev mX7_isUrgent [M, .inl (nI i)] σ (evi (if urg (σ 8 58) i then 1 else 0) σ) := by
  obtain ⟨h1, h2, h3, h4, h5⟩ := hr.op hi
  show At mX7_isUrgent 0 [some M, some (.inl (nI i))] [] σ _
  refine At.Ci rfl (e_order i 12 h1 (by omega) σ) ?_
  refine At.B rfl (fun h => ?_) (fun h => ?_)
  · rw [if_pos (Or.inl h)]
    refine At.J rfl ?_
    exact At.Z rfl (Or.inr rfl)
  · refine At.N rfl (v58 9 (by omega)) ?_
    refine At.B rfl (fun ha => ?_) (fun ha => ?_)
    · refine At.Ci rfl (e_zoneOf hr hi) ?_
      refine At.B rfl (fun hz => ?_) (fun hz => ?_)
      · rw [if_neg (by rintro (q | q); exact h q; exact lt_nle hz q.2)]
        exact At.Z rfl (Or.inl rfl)
      · rw [if_pos (Or.inr ⟨ha, fa_of_nlt hz⟩)]
        refine At.J rfl ?_
        exact At.Z rfl (Or.inr rfl)
    · rw [if_neg (by rintro (q | q); exact h q; exact ha q.1)]
      exact At.Z rfl (Or.inl rfl)
end ML
end
section
/-! ===== the reference: a tick's parts ===== -/
theorem nn_nI {n : Nat} (h : n < 2 ^ 31) : nn (nI n) = n := nI_clamp h
theorem upd_ne' {f : Row} {k j : Nat} {x : Int32} (h : j ≠ k) : upd f k x j = f j := if_neg h
theorem upd_eq' {f : Row} {k : Nat} {x : Int32} : upd f k x k = x := if_pos rfl
theorem b01 {c : Prop} {d : Decidable c} : ((@ite _ c d (1 : Int32) 0) = 0) ↔ ¬ c := by by_cases h : c <;> simp [h]
theorem e_isDown {σ : iM} {q : Nat} (hq : q < 6) : Ev mX7_isDown [M, .inl (nI q)] σ (evi (if dnn (σ 8 58) q then 1 else 0) σ) := by
  show At mX7_isDown 0 [some M, some (.inl (nI q))] [] σ _
  refine At.N rfl (v58 0 (by omega)) ?_
  refine At.Ci rfl (e_station q 2 hq (by omega) σ) ?_
  rw [t0]
  refine At.B rfl (fun h => ?_) (fun h => ?_)
  · rw [if_neg (le_nlt h)]
    exact At.Z rfl (Or.inl rfl)
  · rw [if_pos (fa_of_nle h)]
    refine At.J rfl ?_
    exact At.Z rfl (Or.inr rfl)
theorem e_worth {σ : iM} (hr : RI (σ 8 58)) {i : Nat} (hi : i < OM (σ 8 58)) (hs : rO (σ 8 58) i 3 = 1) : Ev mX7_worth [M, .inl (nI i)] σ (evi (wor (σ 8 58) i) σ) := by
  obtain ⟨h1, h2, h3, h4, h5⟩ := hr.op hi
  show At mX7_worth 0 [some M, some (.inl (nI i))] [] σ _
  refine At.N rfl (v58 8 (by omega)) ?_
  refine At.Sw rfl ?_
  rw [t8]
  unfold wor
  by_cases q0 : σ 8 58 8 = 0
  · rw [if_pos q0, q0]
    show At mX7_worth 32 _ _ _ _
    refine At.Ci rfl (e_order i 5 h1 (by omega) σ) ?_
    exact At.R rfl
  · rw [if_neg q0]
    by_cases q1 : σ 8 58 8 = 1
    · rw [if_pos q1, q1]
      show At mX7_worth 39 _ _ _ _
      refine At.Ci rfl (e_penetrationOf hr hi) ?_
      exact At.R rfl
    · rw [if_neg q1]
      by_cases q2 : σ 8 58 8 = 2
      · rw [if_pos q2, q2]
        show At mX7_worth 46 _ _ _ _
        refine At.Ci rfl (e_order i 2 h1 (by omega) σ) ?_
        exact At.R rfl
      · rw [if_neg q2]
        simp only [swT, if_neg q0, if_neg q1, if_neg q2]
        refine At.Ci rfl (e_workHere hr hi hs) ?_
        exact At.R rfl
theorem e_isBetter {σ : iM} (hr : RI (σ 8 58)) {i k : Nat} (hi : i < OM (σ 8 58)) (hk : k < OM (σ 8 58)) (hs : rO (σ 8 58) i 3 = 1) (hs2 : rO (σ 8 58) k 3 = 1) : Ev mX7_isBetter [M, .inl (nI i), .inl (nI k)] σ (evi (if btr (σ 8 58) i k then 1 else 0) σ) := by
  show At mX7_isBetter 0 [some M, some (.inl (nI i)), some (.inl (nI k))] [] σ _
  refine At.Ci rfl (e_isUrgent hr hi) ?_
  refine At.Ci rfl (e_isUrgent hr hk) ?_
  refine At.B rfl (fun h => ?_) (fun h => ?_)
  · have huu : urg (σ 8 58) i ↔ urg (σ 8 58) k := by
      by_cases a : urg (σ 8 58) i <;> by_cases b : urg (σ 8 58) k <;> simp only [a, b, if_true, if_false] at h ⊢ <;> exact absurd h (by decide)
    refine At.Ci rfl (e_worth hr hi hs) ?_
    refine At.Ci rfl (e_worth hr hk hs2) ?_
    refine At.B rfl (fun h2 => ?_) (fun h2 => ?_)
    · rw [if_neg]
      · exact At.Z rfl (Or.inl rfl)
      · rintro (q | q)
        · exact q.2 (huu.mp q.1)
        · exact le_nlt h2 q.2
    · rw [if_pos (Or.inr ⟨huu, fa_of_nle h2⟩)]
      refine At.J rfl ?_
      exact At.Z rfl (Or.inr rfl)
  · refine At.Ci rfl (e_isUrgent hr hi) ?_
    have hv : (if urg (σ 8 58) i then (1 : Int32) else 0) = if btr (σ 8 58) i k then 1 else 0 := by
      by_cases a : urg (σ 8 58) i
      · have b : ¬ urg (σ 8 58) k := fun b => h (by rw [if_pos a, if_pos b])
        rw [if_pos a, if_pos (Or.inl ⟨a, b⟩)]
      · have b : urg (σ 8 58) k := Classical.byContradiction fun b => h (by rw [if_neg a, if_neg b])
        rw [if_neg a, if_neg]
        rintro (q | q)
        · exact a q.1
        · exact a (q.1.mpr b)
    rw [← hv]
    exact At.Z rfl (zo _ _)
theorem cho_ok {r : Row} (hr : RI r) (q : Nat) : ∀ n, n ≤ OM r → cho r q n = -1 ∨ ∃ i, i < n ∧ cho r q n = nI i ∧ wts r i q := by
  intro n
  induction n with
  | zero => intro _; exact Or.inl rfl
  | succ n ih =>
    intro hn
    rw [cho]
    by_cases h : wts r n q ∧ (cho r q n = -1 ∨ btr r n (nn (cho r q n)))
    · rw [if_pos h]
      exact Or.inr ⟨n, by omega, rfl, h.1⟩
    · rw [if_neg h]
      rcases ih (by omega) with a | ⟨i, a, b, c⟩
      · exact Or.inl a
      · exact Or.inr ⟨i, by omega, b, c⟩
theorem e_choice {σ : iM} (hr : RI (σ 8 58)) {q : Nat} : Ev mX7_choice [M, .inl (nI q)] σ (evi (cho (σ 8 58) q (OM (σ 8 58))) σ) := by
  show At mX7_choice 0 [some M, some (.inl (nI q)), none, none] [] σ _
  refine At.F 4 [some M, some (.inl (nI q)), some (.inl (-1)), some (.inl (nI 0))] [] σ rfl ?_
  obtain ⟨om1, om2⟩ := hr.om
  refine down_ind (N := OM (σ 8 58)) (P := fun n => At mX7_choice 4 [some M, some (.inl (nI q)), some (.inl (cho (σ 8 58) q n)), some (.inl (nI n))] [] σ _) ?_ ?_ 0 (Nat.zero_le _)
  · refine At.N rfl (v58 4 (by omega)) ?_
    rw [t4]
    refine At.Bt rfl (by rw [om1]; exact (nI_leI (by omega) (by omega)).mpr (Nat.le_refl _)) ?_
    exact At.R rfl
  · intro n hn ih
    refine At.N rfl (v58 4 (by omega)) ?_
    rw [t4]
    refine At.Bf rfl (by rw [om1]; exact fun h => absurd ((nI_leI (by omega) (by omega)).mp h) (by omega)) ?_
    refine At.Ci rfl (e_waitsAt hr hn) ?_
    rw [cho] at ih
    by_cases hw : wts (σ 8 58) n q
    · rw [if_pos hw]
      refine At.Bf rfl (by decide) ?_
      refine At.B rfl (fun hb => ?_) (fun hb => ?_)
      · rw [if_pos ⟨hw, Or.inl hb⟩] at ih
        refine At.J rfl ?_
        rw [nI_1]
        exact ih
      · rcases cho_ok hr q n (by omega) with a | ⟨i, a, b, c⟩
        · exact absurd a hb
        · have hnn : nn (cho (σ 8 58) q n) = i := by rw [b]; exact nI_clamp (by omega)
          rw [hnn] at ih
          rw [b] at ih ⊢
          refine At.Ci rfl (e_isBetter hr hn (by omega) hw.1 c.1) ?_
          by_cases hbt : btr (σ 8 58) n i
          · rw [if_pos hbt]
            rw [if_pos ⟨hw, Or.inr hbt⟩] at ih
            refine At.Bf rfl (by decide) ?_
            refine At.J rfl ?_
            rw [nI_1]
            exact ih
          · rw [if_neg hbt]
            rw [if_neg (by rintro ⟨-, x | x⟩; exact hb (b.trans x); exact hbt x)] at ih
            refine At.Bt rfl (rfl) ?_
            refine At.J rfl ?_
            rw [nI_1]
            exact ih
    · rw [if_neg hw]
      rw [if_neg (fun x => hw x.1)] at ih
      refine At.Bt rfl (rfl) ?_
      refine At.J rfl ?_
      rw [nI_1]
      exact ih
/-- the drum waits in vain: an order that has yet to pass it -/
def stv (r : Row) : Nat → Bool
  | 0 => false
  | n + 1 => stv r n || decide (opn r n ∧ ¬ past r n)
abbrev isStv (r : Row) : Prop := ¬ dnn r (DR r) ∧ rS r (DR r) 0 = -1 ∧ stv r (OM r) = true
theorem stv_ge (r : Row) {m n : Nat} (h : stv r m = true) (hmn : m ≤ n) : stv r n = true := by
  induction n with
  | zero => have : m = 0 := by omega
            subst this; exact h
  | succ n ih =>
    by_cases e : m = n + 1
    · subst e; exact h
    · rw [stv, ih (by omega)]; rfl
theorem e_isStarved {σ : iM} (hr : RI (σ 8 58)) : Ev mX7_isStarved [M] σ (evi (if isStv (σ 8 58) then 1 else 0) σ) := by
  show At mX7_isStarved 0 [some M, none] [] σ _
  obtain ⟨om1, om2⟩ := hr.om
  obtain ⟨d1, d2, d3⟩ := hr.dr
  refine At.N rfl (v58 2 (by omega)) ?_
  rw [t2, d1]
  refine At.Ci rfl (e_isDown d3) ?_
  by_cases hd : dnn (σ 8 58) (DR (σ 8 58))
  · rw [if_pos hd, if_neg (fun x => x.1 hd)]
    refine At.Bf rfl (by decide) ?_
    exact At.Z rfl (Or.inl rfl)
  · rw [if_neg hd]
    refine At.Bt rfl (rfl) ?_
    refine At.N rfl (v58 2 (by omega)) ?_
    rw [t2, d1]
    refine At.Ci rfl (e_station _ 0 d3 (by omega) σ) ?_
    refine At.B rfl (fun hw => ?_) (fun hw => ?_)
    · refine At.F 32 [some M, some (.inl (nI 0))] [] σ rfl ?_
      have key := down_ind (N := OM (σ 8 58)) (P := fun n => stv (σ 8 58) n = false → At mX7_isStarved 32 [some M, some (.inl (nI n))] [] σ (evi (if isStv (σ 8 58) then 1 else 0) σ)) ?_ ?_ 0 (Nat.zero_le _)
      · exact key rfl
      · intro hs
        refine At.N rfl (v58 4 (by omega)) ?_
        rw [t4]
        refine At.Bt rfl (by rw [om1]; exact (nI_leI (by omega) (by omega)).mpr (Nat.le_refl _)) ?_
        rw [if_neg (fun x => absurd x.2.2 (by rw [hs]; decide))]
        exact At.Z rfl (Or.inl rfl)
      · intro n hn ih hs
        refine At.N rfl (v58 4 (by omega)) ?_
        rw [t4]
        refine At.Bf rfl (by rw [om1]; exact fun h => absurd ((nI_leI (by omega) (by omega)).mp h) (by omega)) ?_
        refine At.Ci rfl (e_isOpen (by omega)) ?_
        by_cases ho : opn (σ 8 58) n
        · rw [if_pos ho]
          refine At.Bf rfl (by decide) ?_
          refine At.Ci rfl (e_isPastDrum hr hn) ?_
          by_cases hp : past (σ 8 58) n
          · rw [if_pos hp]
            refine At.Bf rfl (by decide) ?_
            refine At.J rfl ?_
            rw [nI_1]
            refine ih ?_
            rw [stv, hs, decide_eq_false (fun x => x.2 hp)]
            rfl
          · rw [if_neg hp]
            refine At.Bt rfl (rfl) ?_
            rw [if_pos ⟨hd, hw, stv_ge _ (m := n + 1) (by rw [stv, decide_eq_true ⟨ho, hp⟩]; simp) (by omega)⟩]
            exact At.Z rfl (Or.inr rfl)
        · rw [if_neg ho]
          refine At.Bt rfl (rfl) ?_
          refine At.J rfl ?_
          rw [nI_1]
          refine ih ?_
          rw [stv, hs, decide_eq_false (fun x => ho x.1)]
          rfl
    · rw [if_neg (fun x => hw x.2.1)]
      exact At.Z rfl (Or.inl rfl)
/-- the rope's load -/
def ropeL (r : Row) : Int32 := sumN (fun i => if rO r i 3 = 1 ∧ ¬ past r i then wk r i else 0) (OM r)
theorem e_ropeNow {σ : iM} (hr : RI (σ 8 58)) : Ev mX7_ropeNow [M] σ (evi (ropeL (σ 8 58)) σ) := by
  show At mX7_ropeNow 0 [some M, none, none] [] σ _
  obtain ⟨om1, om2⟩ := hr.om
  refine At.F 4 [some M, some (.inl (sumN (fun i => if rO (σ 8 58) i 3 = 1 ∧ ¬ past (σ 8 58) i then wk (σ 8 58) i else 0) 0)), some (.inl (nI 0))] [] σ rfl ?_
  refine down_ind (N := OM (σ 8 58)) (P := fun n => At mX7_ropeNow 4 [some M, some (.inl (sumN (fun i => if rO (σ 8 58) i 3 = 1 ∧ ¬ past (σ 8 58) i then wk (σ 8 58) i else 0) n)), some (.inl (nI n))] [] σ _) ?_ ?_ 0 (Nat.zero_le _)
  · refine At.N rfl (v58 4 (by omega)) ?_
    rw [t4]
    refine At.Bt rfl (by rw [om1]; exact (nI_leI (by omega) (by omega)).mpr (Nat.le_refl _)) ?_
    exact At.R rfl
  · intro n hn ih
    rw [sumN] at ih
    refine At.N rfl (v58 4 (by omega)) ?_
    rw [t4]
    refine At.Bf rfl (by rw [om1]; exact fun h => absurd ((nI_leI (by omega) (by omega)).mp h) (by omega)) ?_
    refine At.Ci rfl (e_order n 3 (by omega) (by omega) σ) ?_
    refine At.B rfl (fun h => ?_) (fun h => ?_)
    · refine At.Ci rfl (e_isPastDrum hr hn) ?_
      by_cases hp : past (σ 8 58) n
      · rw [if_pos hp]
        rw [if_neg (fun x => x.2 hp)] at ih
        refine At.Bf rfl (by decide) ?_
        refine At.J rfl ?_
        rw [nI_1]
        exact ih
      · rw [if_neg hp]
        rw [if_pos ⟨h, hp⟩] at ih
        refine At.Bt rfl (rfl) ?_
        refine At.Ci rfl (e_workAtDrum hr hn) ?_
        refine At.J rfl ?_
        refine At.J rfl ?_
        rw [nI_1]
        exact ih
    · rw [if_neg (fun x => h x.1)] at ih
      refine At.J rfl ?_
      rw [nI_1]
      exact ih
/-- when the drum is free -/
def earl (r : Row) : Int32 := r 0 + (if rS r (DR r) 0 = -1 then 0 else rO r (nn (rS r (DR r) 0)) 7)
theorem e_earliest {σ : iM} (hr : RI (σ 8 58)) : Ev mX7_earliest [M] σ (evi (earl (σ 8 58)) σ) := by
  show At mX7_earliest 0 [some M, none] [] σ _
  obtain ⟨d1, d2, d3⟩ := hr.dr
  have hs := hr.sta d2
  refine At.N rfl (v58 2 (by omega)) ?_
  rw [t2, d1]
  refine At.Ci rfl (e_station _ 0 d3 (by omega) σ) ?_
  refine At.N rfl (v58 0 (by omega)) ?_
  rw [t0]
  unfold earl
  refine At.B rfl (fun h => ?_) (fun h => ?_)
  · rw [if_pos h]
    refine At.J rfl ?_
    exact At.R rfl
  · rw [if_neg h]
    obtain ⟨a, b, c⟩ := hs.2.2.resolve_left h
    have a1 := a.toN (by omega) (by omega)
    rw [a1.1]
    have a2 : nn (rS (σ 8 58) (DR (σ 8 58)) 0) ≤ 23 := a1.2.1
    refine At.Ci rfl (e_order _ 7 (by omega) (by omega) σ) ?_
    rw [nn_nI (by omega)]
    exact At.R rfl
end
section
/-! ===== the reference: what a tick changes ===== -/
def rel1 (r : Row) (i : Nat) (t : Int32) : Row := upd (upd (upd (upd (upd r (131 + 14 * i + 3) 1) (131 + 14 * i + 4) 0) (131 + 14 * i + 5) (r 0)) (131 + 14 * i + 8) (r 0)) (131 + 14 * i + 9) t
theorem e_release {σ : iM} {i : Nat} (hi : i < 24) (t : Int32) : Ev mX7_release [M, .inl (nI i), .inl t] σ (evv (mR σ 58 (rel1 (σ 8 58) i t))) := by
  show At mX7_release 0 [some M, some (.inl (nI i)), some (.inl t)] [] σ _
  refine At.Cv rfl (e_setsOrder i 3 1 hi (by omega) σ) ?_
  refine At.Cv rfl (e_setsOrder i 4 0 hi (by omega) _) ?_
  refine At.N rfl (v58 0 (by omega)) ?_
  refine At.Cv rfl (e_setsOrder i 5 _ hi (by omega) _) ?_
  refine At.N rfl (v58 0 (by omega)) ?_
  refine At.Cv rfl (e_setsOrder i 8 _ hi (by omega) _) ?_
  refine At.Cv rfl (e_setsOrder i 9 _ hi (by omega) _) ?_
  simp only [mR_at, mR_mR, t0]
  rw [upd_ne' (k := 131 + 14 * i + 5) (by omega), upd_ne' (k := 131 + 14 * i + 4) (by omega), upd_ne' (k := 131 + 14 * i + 3) (by omega)]
  exact At.R rfl
/-- a station begins a step -/
def begR (r : Row) (q i : Nat) : Row :=
  (fun r5 : Row => if nI q = r 2 then upd r5 (131 + 14 * i + 10) (r 0) else r5)
  (upd (upd (upd (upd (if rO r i 0 = rS r q 1 then r else upd r (11 + 7 * q + 4) (rS r q 4 + 1)) (11 + 7 * q + 1) (rO r i 0)) (11 + 7 * q + 0) (nI i)) (131 + 14 * i + 6) 1) (131 + 14 * i + 7) (if rO r i 0 = rS r q 1 then wH r i else wH r i + rS r q 5))
def beg (r : Row) (q : Nat) : Row := if rS r q 0 = -1 ∧ ¬ dnn r q ∧ ¬ cho r q (OM r) = -1 then begR r q (nn (cho r q (OM r))) else r
theorem e_begins {σ : iM} (hr : RI (σ 8 58)) {q : Nat} (hq : q < 6) : Ev mX7_begins_ [M, .inl (nI q)] σ (evv (mR σ 58 (beg (σ 8 58) q))) := by
  show At mX7_begins_ 0 [some M, some (.inl (nI q)), none, none, none] [] σ _
  obtain ⟨om1, om2⟩ := hr.om
  refine At.Ci rfl (e_station q 0 hq (by omega) σ) ?_
  unfold beg
  refine At.B rfl (fun h => ?_) (fun h => ?_)
  · refine At.Ci rfl (e_isDown hq) ?_
    by_cases hd : dnn (σ 8 58) q
    · rw [if_pos hd, if_neg (fun x => x.2.1 hd), mR_self]
      refine At.Bf rfl (by decide) ?_
      exact At.R rfl
    · rw [if_neg hd]
      refine At.Bt rfl (rfl) ?_
      refine At.Ci rfl (e_choice hr) ?_
      refine At.B rfl (fun hc => ?_) (fun hc => ?_)
      · rw [if_neg (fun x => x.2.2 hc), mR_self]
        exact At.R rfl
      · rw [if_pos ⟨h, hd, hc⟩]
        rcases cho_ok hr q (OM (σ 8 58)) (Nat.le_refl _) with a | ⟨i, a, b, c⟩
        · exact absurd a hc
        · rw [b, nn_nI (by omega)]
          have hi : i < 24 := by omega
          refine At.Ci rfl (e_order i 0 hi (by omega) σ) ?_
          refine At.Ci rfl (e_workHere hr a c.1) ?_
          refine At.Ci rfl (e_station q 1 hq (by omega) σ) ?_
          unfold begR
          refine At.B rfl (fun hp => ?_) (fun hp => ?_)
          · rw [if_pos hp, if_pos hp]
            refine At.Cv rfl (e_setsStation q 1 _ hq (by omega) σ) ?_
            refine At.Cv rfl (e_setsStation q 0 _ hq (by omega) _) ?_
            refine At.Cv rfl (e_setsOrder i 6 1 hi (by omega) _) ?_
            refine At.Cv rfl (e_setsOrder i 7 _ hi (by omega) _) ?_
            refine At.N rfl (v58 2 (by omega)) ?_
            simp only [mR_at, mR_mR, t2]
            rw [upd_ne' (k := 131 + 14 * i + 7) (by omega), upd_ne' (k := 131 + 14 * i + 6) (by omega), upd_ne' (k := 11 + 7 * q + 0) (by omega), upd_ne' (k := 11 + 7 * q + 1) (by omega)]
            refine At.B rfl (fun hdr => ?_) (fun hdr => ?_)
            · rw [if_pos hdr]
              refine At.N rfl (v58 0 (by omega)) ?_
              refine At.Cv rfl (e_setsOrder i 10 _ hi (by omega) _) ?_
              simp only [mR_at, mR_mR, t0]
              rw [upd_ne' (k := 131 + 14 * i + 7) (by omega), upd_ne' (k := 131 + 14 * i + 6) (by omega), upd_ne' (k := 11 + 7 * q + 0) (by omega), upd_ne' (k := 11 + 7 * q + 1) (by omega)]
              exact At.R rfl
            · rw [if_neg hdr]
              exact At.R rfl
          · rw [if_neg hp, if_neg hp]
            refine At.Ci rfl (e_station q 5 hq (by omega) σ) ?_
            refine At.Ci rfl (e_station q 4 hq (by omega) σ) ?_
            refine At.Cv rfl (e_setsStation q 4 _ hq (by omega) σ) ?_
            refine At.Cv rfl (e_setsStation q 1 _ hq (by omega) _) ?_
            refine At.Cv rfl (e_setsStation q 0 _ hq (by omega) _) ?_
            refine At.Cv rfl (e_setsOrder i 6 1 hi (by omega) _) ?_
            refine At.Cv rfl (e_setsOrder i 7 _ hi (by omega) _) ?_
            refine At.N rfl (v58 2 (by omega)) ?_
            simp only [mR_at, mR_mR, t2]
            rw [upd_ne' (k := 131 + 14 * i + 7) (by omega), upd_ne' (k := 131 + 14 * i + 6) (by omega), upd_ne' (k := 11 + 7 * q + 0) (by omega), upd_ne' (k := 11 + 7 * q + 1) (by omega), upd_ne' (k := 11 + 7 * q + 4) (by omega)]
            refine At.B rfl (fun hdr => ?_) (fun hdr => ?_)
            · rw [if_pos hdr]
              refine At.N rfl (v58 0 (by omega)) ?_
              refine At.Cv rfl (e_setsOrder i 10 _ hi (by omega) _) ?_
              simp only [mR_at, mR_mR, t0]
              rw [upd_ne' (k := 131 + 14 * i + 7) (by omega), upd_ne' (k := 131 + 14 * i + 6) (by omega), upd_ne' (k := 11 + 7 * q + 0) (by omega), upd_ne' (k := 11 + 7 * q + 1) (by omega), upd_ne' (k := 11 + 7 * q + 4) (by omega)]
              exact At.R rfl
            · rw [if_neg hdr]
              exact At.R rfl
  · rw [if_neg (fun x => h x.1), mR_self]
    exact At.R rfl
/-- a station's work for a tick -/
def wrk (r : Row) (q : Nat) : Row := if rS r q 0 = -1 ∨ dnn r q then r else upd (upd r (131 + 14 * nn (rS r q 0) + 7) (rO r (nn (rS r q 0)) 7 - 1)) (11 + 7 * q + 3) (rS r q 3 + 1)
theorem SI.w {r : Row} {q : Nat} (h : SI r q) (hw : ¬ rS r q 0 = -1) : rS r q 0 = nI (nn (rS r q 0)) ∧ nn (rS r q 0) < OM r ∧ nn (rS r q 0) < 24 ∧ rO r (nn (rS r q 0)) 3 = 1 ∧ rO r (nn (rS r q 0)) 6 = 1 ∧ rPs r (oP r (nn (rS r q 0))) (oK r (nn (rS r q 0))) = nI q := by
  obtain ⟨a, b, c, d, e⟩ := h.2.2.resolve_left hw
  have a1 := a.toN (by omega) (by omega)
  exact ⟨a1.1, b, Nat.lt_of_le_of_lt a1.2.1 (by decide), c, d, e⟩
theorem e_works {σ : iM} {q : Nat} (hq6 : q < 6) (hw : ¬ rS (σ 8 58) q 0 = -1 → rS (σ 8 58) q 0 = nI (nn (rS (σ 8 58) q 0)) ∧ nn (rS (σ 8 58) q 0) < 24) : Ev mX7_works [M, .inl (nI q)] σ (evv (mR σ 58 (wrk (σ 8 58) q))) := by
  show At mX7_works 0 [some M, some (.inl (nI q)), none] [] σ _
  refine At.Ci rfl (e_station q 0 hq6 (by omega) σ) ?_
  unfold wrk
  refine At.B rfl (fun h => ?_) (fun h => ?_)
  · rw [if_pos (Or.inl h), mR_self]
    exact At.R rfl
  · obtain ⟨a1, a3⟩ := hw h
    refine At.Ci rfl (e_isDown hq6) ?_
    by_cases hd : dnn (σ 8 58) q
    · rw [if_pos hd, if_pos (Or.inr hd), mR_self]
      refine At.Bf rfl (by decide) ?_
      exact At.R rfl
    · rw [if_neg hd, if_neg (by rintro (x | x); exact h x; exact hd x)]
      generalize hg : nn (rS (σ 8 58) q 0) = i at a1 a3 ⊢
      rw [a1]
      refine At.Bt rfl (rfl) ?_
      refine At.Ci rfl (e_order i 7 a3 (by omega) σ) ?_
      refine At.Cv rfl (e_setsOrder i 7 _ a3 (by omega) σ) ?_
      refine At.Ci rfl (e_station q 3 hq6 (by omega) _) ?_
      refine At.Cv rfl (e_setsStation q 3 _ hq6 (by omega) _) ?_
      simp only [mR_at, mR_mR]
      rw [show rS (upd (σ 8 58) (131 + 14 * i + 7) (rO (σ 8 58) i 7 - 1)) q 3 = rS (σ 8 58) q 3 from upd_ne' (by omega)]
      exact At.R rfl
/-- a station whose step has no work left finishes it -/
def fin4 (r : Row) (q i : Nat) : Row := upd (upd (upd (upd r (11 + 7 * q + 0) (-1)) (131 + 14 * i + 6) 0) (131 + 14 * i + 4) (rO r i 4 + 1)) (131 + 14 * i + 5) (r 0)
def finR (r : Row) (q i : Nat) : Row := if rO r i 4 + 1 = rPn r (oP r i) then upd (upd (fin4 r q i) (131 + 14 * i + 3) 2) (131 + 14 * i + 11) (r 0) else fin4 r q i
abbrev isFin (r : Row) (q : Nat) : Prop := ¬ rS r q 0 = -1 ∧ rO r (nn (rS r q 0)) 7 ≤ 0
def fin (r : Row) (q : Nat) : Row := if isFin r q then finR r q (nn (rS r q 0)) else r
/-- whether the order is finished then -/
abbrev isFinO (r : Row) (q : Nat) : Prop := isFin r q ∧ rO r (nn (rS r q 0)) 4 + 1 = rPn r (oP r (nn (rS r q 0)))
theorem e_fin1 {σ : iM} {q i : Nat} (hq6 : q < 6) (a1 : rS (σ 8 58) q 0 = nI i) (a3 : i < 24) (p1 : rO (σ 8 58) i 0 = nI (oP (σ 8 58) i)) (p2 : oP (σ 8 58) i < 6) (hl : rO (σ 8 58) i 7 ≤ 0) : Ev mX7_finishes [M, .inl (nI q)] σ (evi (if rO (σ 8 58) i 4 + 1 = rPn (σ 8 58) (oP (σ 8 58) i) then 1 else 0) (mR σ 58 (finR (σ 8 58) q i))) := by
  show At mX7_finishes 0 [some M, some (.inl (nI q)), none, none] [] σ _
  refine At.Ci rfl (e_station q 0 hq6 (by omega) σ) ?_
  rw [a1]
  refine At.Bf rfl (by intro x; have y := congrArg Int32.toInt x; rw [nI_toInt (by omega)] at y; exact absurd y (by show ¬ (i : Int) = -1; omega)) ?_
  refine At.Ci rfl (e_order i 7 a3 (by omega) σ) ?_
  refine At.Bt rfl (hl) ?_
  refine At.Cv rfl (e_setsStation q 0 (-1) hq6 (by omega) σ) ?_
  refine At.Cv rfl (e_setsOrder i 6 0 a3 (by omega) _) ?_
  refine At.Ci rfl (e_order i 4 a3 (by omega) _) ?_
  refine At.Cv rfl (e_setsOrder i 4 _ a3 (by omega) _) ?_
  refine At.N rfl (v58 0 (by omega)) ?_
  refine At.Cv rfl (e_setsOrder i 5 _ a3 (by omega) _) ?_
  simp only [mR_at, mR_mR, t0]
  have e4 : rO (upd (upd (σ 8 58) (11 + 7 * q + 0) (-1)) (131 + 14 * i + 6) 0) i 4 = rO (σ 8 58) i 4 := by
    show upd (upd (σ 8 58) (11 + 7 * q + 0) (-1)) (131 + 14 * i + 6) 0 (131 + 14 * i + 4) = _
    rw [upd_ne' (by omega), upd_ne' (by omega)]
  rw [e4]
  rw [upd_ne' (k := 131 + 14 * i + 4) (by omega), upd_ne' (k := 131 + 14 * i + 6) (by omega), upd_ne' (k := 11 + 7 * q + 0) (by omega)]
  have hf : upd (upd (upd (upd (σ 8 58) (11 + 7 * q + 0) (-1)) (131 + 14 * i + 6) 0) (131 + 14 * i + 4) (rO (σ 8 58) i 4 + 1)) (131 + 14 * i + 5) (σ 8 58 0) = fin4 (σ 8 58) q i := rfl
  rw [hf]
  have g4 : rO (fin4 (σ 8 58) q i) i 4 = rO (σ 8 58) i 4 + 1 := by
    show upd _ (131 + 14 * i + 5) _ (131 + 14 * i + 4) = _
    rw [upd_ne' (by omega), upd_eq']
  have gn : ∀ n, n < 131 → n ≠ 11 + 7 * q + 0 → fin4 (σ 8 58) q i n = σ 8 58 n := fun n h1 h2 => by
    unfold fin4
    rw [upd_ne' (by omega), upd_ne' (by omega), upd_ne' (by omega), upd_ne' h2]
  have g0 : rO (fin4 (σ 8 58) q i) i 0 = rO (σ 8 58) i 0 := by
    show upd _ (131 + 14 * i + 5) _ (131 + 14 * i + 0) = _
    rw [upd_ne' (by omega), upd_ne' (by omega), upd_ne' (by omega), upd_ne' (by omega)]
  have gp : rPn (fin4 (σ 8 58) q i) (oP (σ 8 58) i) = rPn (σ 8 58) (oP (σ 8 58) i) := gn _ (by omega) (by omega)
  unfold finR
  refine At.Ci rfl (e_order i 4 a3 (by omega) _) ?_
  refine At.Ci rfl (e_order i 0 a3 (by omega) _) ?_
  simp only [mR_at]
  rw [g0, p1]
  refine At.Ci rfl (e_steps 58 _ rfl p2 _) ?_
  simp only [mR_at]
  rw [gp, g4]
  refine At.B rfl (fun he => ?_) (fun he => ?_)
  · rw [if_pos he, if_pos he]
    refine At.J rfl ?_
    refine At.Bf rfl (by decide) ?_
    refine At.Cv rfl (e_setsOrder i 3 2 a3 (by omega) _) ?_
    refine At.N rfl (v58 0 (by omega)) ?_
    refine At.Cv rfl (e_setsOrder i 11 _ a3 (by omega) _) ?_
    simp only [mR_at, mR_mR, t0]
    rw [upd_ne' (k := 131 + 14 * i + 3) (by omega), gn 0 (by omega) (by omega)]
    exact At.Z rfl (Or.inr rfl)
  · rw [if_neg he, if_neg he]
    refine At.Bt rfl (rfl) ?_
    exact At.Z rfl (Or.inl rfl)
theorem e_finishes {σ : iM} {q : Nat} (hq6 : q < 6) (hw : ¬ rS (σ 8 58) q 0 = -1 → rS (σ 8 58) q 0 = nI (nn (rS (σ 8 58) q 0)) ∧ nn (rS (σ 8 58) q 0) < 24 ∧ rO (σ 8 58) (nn (rS (σ 8 58) q 0)) 0 = nI (oP (σ 8 58) (nn (rS (σ 8 58) q 0))) ∧ oP (σ 8 58) (nn (rS (σ 8 58) q 0)) < 6) : Ev mX7_finishes [M, .inl (nI q)] σ (evi (if isFinO (σ 8 58) q then 1 else 0) (mR σ 58 (fin (σ 8 58) q))) := by
  by_cases hF : isFin (σ 8 58) q
  · obtain ⟨a1, a3, p1, p2⟩ := hw hF.1
    have h1 := e_fin1 hq6 a1 a3 p1 p2 hF.2
    have e1 : fin (σ 8 58) q = finR (σ 8 58) q (nn (rS (σ 8 58) q 0)) := if_pos hF
    rw [e1]
    by_cases he : rO (σ 8 58) (nn (rS (σ 8 58) q 0)) 4 + 1 = rPn (σ 8 58) (oP (σ 8 58) (nn (rS (σ 8 58) q 0)))
    · rw [if_pos ⟨hF, he⟩]
      rw [if_pos he] at h1
      exact h1
    · rw [if_neg (fun x => he x.2)]
      rw [if_neg he] at h1
      exact h1
  · have e1 : fin (σ 8 58) q = σ 8 58 := if_neg hF
    rw [e1, if_neg (fun x => hF x.1), mR_self]
    show At mX7_finishes 0 [some M, some (.inl (nI q)), none, none] [] σ _
    refine At.Ci rfl (e_station q 0 hq6 (by omega) σ) ?_
    refine At.B rfl (fun h => ?_) (fun h => ?_)
    · exact At.Z rfl (Or.inl rfl)
    · obtain ⟨a1, a3, p1, p2⟩ := hw h
      rw [a1]
      refine At.Ci rfl (e_order _ 7 a3 (by omega) σ) ?_
      refine At.Bf rfl (fun hl => hF ⟨h, hl⟩) ?_
      exact At.Z rfl (Or.inl rfl)
/-- an order comes into the red -/
def seeR (r : Row) (i : Nat) : Row := upd (upd r (131 + 14 * i + 13) (rPs r (oP r i) (oK r i))) (11 + 7 * nn (rPs r (oP r i) (oK r i)) + 6) (rS r (nn (rPs r (oP r i) (oK r i))) 6 + 1)
def see (r : Row) (i : Nat) : Row := if rO r i 13 = -1 ∧ 2 ≤ zon r i then seeR r i else r
theorem zon_rel {r : Row} {i : Nat} (h : 2 ≤ zon r i) : rO r i 3 = 1 := by
  unfold zon at h
  by_cases q : rO r i 3 = 1
  · exact q
  · rw [if_neg q] at h
    exact absurd h (by decide)
theorem e_sees {σ : iM} (hr : RI (σ 8 58)) {i : Nat} (hi : i < OM (σ 8 58)) : Ev mX7_sees [M, .inl (nI i)] σ (evv (mR σ 58 (see (σ 8 58) i))) := by
  obtain ⟨h1, h2, h3, h4, h5⟩ := hr.op hi
  show At mX7_sees 0 [some M, some (.inl (nI i)), none] [] σ _
  refine At.Ci rfl (e_order i 13 h1 (by omega) σ) ?_
  unfold see
  refine At.B rfl (fun h => ?_) (fun h => ?_)
  · refine At.Ci rfl (e_zoneOf hr hi) ?_
    refine At.B rfl (fun hz => ?_) (fun hz => ?_)
    · rw [if_pos ⟨h, hz⟩]
      have hs := zon_rel hz
      obtain ⟨k1, k2, k3⟩ := hr.st hi hs
      have hst := (h4.2.1 _ k2)
      have s1 := hst.1.toN (by omega) (by omega)
      have s2 : nn (rPs (σ 8 58) (oP (σ 8 58) i) (oK (σ 8 58) i)) ≤ 5 := s1.2.1
      refine At.Ci rfl (e_order i 0 h1 (by omega) σ) ?_
      refine At.Ci rfl (e_order i 4 h1 (by omega) σ) ?_
      rw [h2, k1]
      refine At.Ci rfl (e_stepStation 58 _ _ rfl h3 k3 σ) ?_
      unfold seeR
      generalize hg : nn (rPs (σ 8 58) (oP (σ 8 58) i) (oK (σ 8 58) i)) = q at s1 s2 ⊢
      rw [s1.1]
      refine At.Cv rfl (e_setsOrder i 13 _ h1 (by omega) σ) ?_
      refine At.Ci rfl (e_station q 6 (by omega) (by omega) _) ?_
      refine At.Cv rfl (e_setsStation q 6 _ (by omega) (by omega) _) ?_
      simp only [mR_at, mR_mR]
      rw [show rS (upd (σ 8 58) (131 + 14 * i + 13) (nI q)) q 6 = rS (σ 8 58) q 6 from upd_ne' (by omega)]
      exact At.R rfl
    · rw [if_neg (fun x => hz x.2), mR_self]
      exact At.R rfl
  · rw [if_neg (fun x => h x.1), mR_self]
    exact At.R rfl
end
section
/-! ===== the schedule of the drum: as lists, and in arrays ===== -/
def insR (d : Nat → Int32) : List Nat → Nat → List Nat
  | [], i => [i]
  | x :: t, i => if d i < d x then x :: insR d t i else i :: x :: t
/-- the orders before the drum by their due times, the last first -/
def schL (r : Row) : Nat → List Nat
  | 0 => []
  | n + 1 => if bef r n then insR (fun i => rO r i 2) (schL r n) n else schL r n
def bk (r : Row) : Option Int32 → List Nat → List (Nat × Int32)
  | _, [] => []
  | o, x :: t => (fun s => (x, s) :: bk r (some s) t) ((match o with | none => rO r x 2 - r 6 | some s => iMin (rO r x 2 - r 6) s) - wk r x)
def fwF (r : Row) : Int32 → List (Nat × Int32) → List (Nat × Int32)
  | _, [] => []
  | e, (x, s) :: t => (fun s => (x, s) :: fwF r (s + wk r x) t) (if s < e then e else s)
/-- the schedule: orders and their starts, the first first -/
def schF (r : Row) : List (Nat × Int32) := fwF r (earl r) (bk r none (schL r (OM r))).reverse
theorem insR_len (d : Nat → Int32) (l : List Nat) (i : Nat) : (insR d l i).length = l.length + 1 := by
  induction l with
  | nil => rfl
  | cons x t ih => rw [insR]; by_cases h : d i < d x <;> simp [h, ih]
theorem insR_mem (d : Nat → Int32) (l : List Nat) (i x : Nat) : x ∈ insR d l i ↔ x = i ∨ x ∈ l := by
  induction l with
  | nil => simp [insR]
  | cons y t ih =>
    rw [insR]
    by_cases h : d i < d y
    · rw [if_pos h, List.mem_cons, ih, List.mem_cons]
      constructor
      · rintro (q | q | q) <;> simp [q]
      · rintro (q | q | q) <;> simp [q]
    · rw [if_neg h, List.mem_cons]
theorem schL_mem (r : Row) : ∀ (n x : Nat), x ∈ schL r n ↔ x < n ∧ bef r x := by
  intro n
  induction n with
  | zero => intro x; simp [schL]
  | succ n ih =>
    intro x
    rw [schL]
    by_cases h : bef r n
    · rw [if_pos h, insR_mem, ih]
      constructor
      · rintro (q | q)
        · subst q; exact ⟨by omega, h⟩
        · exact ⟨by omega, q.2⟩
      · rintro ⟨q1, q2⟩
        by_cases e : x = n
        · exact Or.inl e
        · exact Or.inr ⟨by omega, q2⟩
    · rw [if_neg h, ih]
      constructor
      · rintro ⟨q1, q2⟩; exact ⟨by omega, q2⟩
      · rintro ⟨q1, q2⟩
        refine ⟨?_, q2⟩
        by_cases e : x = n
        · subst e; exact absurd q2 h
        · omega
theorem schL_len (r : Row) : ∀ n, (schL r n).length ≤ n := by
  intro n
  induction n with
  | zero => simp [schL]
  | succ n ih =>
    rw [schL]
    by_cases h : bef r n
    · rw [if_pos h, insR_len]; omega
    · rw [if_neg h]; omega
theorem bk_len (r : Row) : ∀ (l : List Nat) (o : Option Int32), (bk r o l).length = l.length := by
  intro l
  induction l with
  | nil => intro o; rfl
  | cons x t ih => intro o; simp [bk, ih]
theorem fwF_len (r : Row) : ∀ (l : List (Nat × Int32)) (e : Int32), (fwF r e l).length = l.length := by
  intro l
  induction l with
  | nil => intro o; rfl
  | cons x t ih => intro o; simp [fwF, ih]
theorem bk_fst (r : Row) : ∀ (l : List Nat) (o : Option Int32), (bk r o l).map Prod.fst = l := by
  intro l
  induction l with
  | nil => intro o; rfl
  | cons x t ih => intro o; simp [bk, ih]
theorem fwF_fst (r : Row) : ∀ (l : List (Nat × Int32)) (e : Int32), (fwF r e l).map Prod.fst = l.map Prod.fst := by
  intro l
  induction l with
  | nil => intro o; rfl
  | cons x t ih => intro o; simp [fwF, ih]
theorem schF_fst (r : Row) : (schF r).map Prod.fst = (schL r (OM r)).reverse := by
  unfold schF
  rw [fwF_fst, List.map_reverse, bk_fst]
theorem schF_len (r : Row) : (schF r).length = (schL r (OM r)).length := by
  have := congrArg List.length (schF_fst r)
  simpa using this
theorem schF_mem {r : Row} {x : Nat} {s : Int32} (h : (x, s) ∈ schF r) : x < OM r ∧ bef r x := by
  have h1 : x ∈ (schF r).map Prod.fst := List.mem_map.mpr ⟨_, h, rfl⟩
  rw [schF_fst, List.mem_reverse, schL_mem] at h1
  exact h1
/-- a reversed list from place m on -/
def sh (a : Row) : List Nat → Nat → Prop
  | [], _ => True
  | x :: t, m => a (m + t.length) = nI x ∧ sh a t m
theorem sh_app (a : Row) : ∀ (u v : List Nat) (m : Nat), sh a (u ++ v) m ↔ sh a u (m + v.length) ∧ sh a v m := by
  intro u
  induction u with
  | nil => intro v m; simp [sh]
  | cons x t ih =>
    intro v m
    rw [List.cons_append, sh, sh, ih, List.length_append, and_assoc]
    rw [show m + (t.length + v.length) = m + v.length + t.length by omega]
theorem sh_upd (a : Row) (k : Nat) (y : Int32) : ∀ (u : List Nat) (m : Nat), (k < m ∨ m + u.length ≤ k) → (sh (upd a k y) u m ↔ sh a u m) := by
  intro u
  induction u with
  | nil => intro m _; simp [sh]
  | cons x t ih =>
    intro m h
    rw [List.length_cons] at h
    rw [sh, sh, ih m (by omega), upd_ne' (by omega)]
/-- starts, reversed, from place m on -/
def s2 (b : Row) : List (Nat × Int32) → Nat → Prop
  | [], _ => True
  | (_, s) :: t, m => b (m + t.length) = s ∧ s2 b t m
theorem s2_app (b : Row) : ∀ (u v : List (Nat × Int32)) (m : Nat), s2 b (u ++ v) m ↔ s2 b u (m + v.length) ∧ s2 b v m := by
  intro u
  induction u with
  | nil => intro v m; simp [s2]
  | cons x t ih =>
    intro v m
    obtain ⟨x, s⟩ := x
    rw [List.cons_append, s2, s2, ih, List.length_append, and_assoc]
    rw [show m + (t.length + v.length) = m + v.length + t.length by omega]
theorem s2_upd (b : Row) (k : Nat) (y : Int32) : ∀ (u : List (Nat × Int32)) (m : Nat), (k < m ∨ m + u.length ≤ k) → (s2 (upd b k y) u m ↔ s2 b u m) := by
  intro u
  induction u with
  | nil => intro m _; simp [s2]
  | cons x t ih =>
    intro m h
    obtain ⟨x, s⟩ := x
    rw [List.length_cons] at h
    rw [s2, s2, ih m (by omega), upd_ne' (by omega)]
/-- orders, starts in their order, from place m on -/
def rF (a b : Row) : List (Nat × Int32) → Nat → Prop
  | [], _ => True
  | (x, s) :: t, m => a m = nI x ∧ b m = s ∧ rF a b t (m + 1)
theorem rF_app (a b : Row) : ∀ (u v : List (Nat × Int32)) (m : Nat), rF a b (u ++ v) m ↔ rF a b u m ∧ rF a b v (m + u.length) := by
  intro u
  induction u with
  | nil => intro v m; simp [rF]
  | cons x t ih =>
    intro v m
    obtain ⟨x, s⟩ := x
    rw [List.cons_append, rF, rF, ih, List.length_cons, and_assoc, and_assoc]
    rw [show m + (t.length + 1) = m + 1 + t.length by omega]
theorem rF_rev (a b : Row) : ∀ (w : List (Nat × Int32)), sh a (w.map Prod.fst) 0 → s2 b w 0 → rF a b w.reverse 0 := by
  intro w
  induction w with
  | nil => intro _ _; trivial
  | cons x t ih =>
    obtain ⟨x, s⟩ := x
    intro h1 h2
    rw [List.map_cons, sh] at h1
    rw [s2] at h2
    rw [List.reverse_cons, rF_app]
    refine ⟨ih h1.2 h2.2, ?_⟩
    rw [List.length_reverse, rF]
    refine ⟨?_, ?_, trivial⟩
    · have := h1.1; rw [List.length_map] at this; exact this
    · exact h2.1
theorem rF_get (a b : Row) : ∀ (u : List (Nat × Int32)) (m k : Nat) (x : Nat) (s : Int32), rF a b u m → u[k]? = some (x, s) → a (m + k) = nI x ∧ b (m + k) = s := by
  intro u
  induction u with
  | nil => intro m k x s _ h; simp at h
  | cons y t ih =>
    obtain ⟨y, z⟩ := y
    intro m k x s h hk
    rw [rF] at h
    cases k with
    | zero => simp at hk; obtain ⟨rfl, rfl⟩ := hk; exact ⟨h.1, h.2.1⟩
    | succ k =>
      rw [List.getElem?_cons_succ] at hk
      have := ih (m + 1) k x s h.2.2 hk
      rw [show m + (k + 1) = m + 1 + k by omega]
      exact this
theorem rF_upd (a b : Row) (k : Nat) (y : Int32) : ∀ (u : List (Nat × Int32)) (m : Nat), (k < m ∨ m + u.length ≤ k) → (rF a (upd b k y) u m ↔ rF a b u m) := by
  intro u
  induction u with
  | nil => intro m _; simp [rF]
  | cons x t ih =>
    intro m h
    obtain ⟨x, s⟩ := x
    rw [List.length_cons] at h
    rw [rF, rF, ih (m + 1) (by omega), upd_ne' (by omega)]
/-- the reference's scratch rows -/
def mS (σ : iM) (a b c : Row) (n : Int32) : iM := fun k i j => if k = 8 ∧ i = 63 then a j else if k = 8 ∧ i = 64 then b j else if k = 8 ∧ i = 65 then c j else if k = 7 ∧ i = 0 ∧ j = 19 then n else σ k i j
section MS
variable {σ : iM} {a b c : Row} {n x : Int32}
theorem mS_58 : mS σ a b c n 8 58 = σ 8 58 := by funext j; simp [mS]
theorem mS_a : mS σ a b c n 8 63 = a := by funext j; simp [mS]
theorem mS_b : mS σ a b c n 8 64 = b := by funext j; simp [mS]
theorem mS_c : mS σ a b c n 8 65 = c := by funext j; simp [mS]
theorem mS_n : mS σ a b c n 7 0 19 = n := by simp [mS]
theorem mS_ua {k : Nat} : iU (mS σ a b c n) 8 63 k x = mS σ (upd a k x) b c n := by
  funext p q j; simp only [iU, mS, upd]
  by_cases h1 : p = 8 <;> by_cases h2 : q = 63 <;> by_cases h3 : j = k <;> simp [h1, h2, h3]
theorem mS_ub {k : Nat} : iU (mS σ a b c n) 8 64 k x = mS σ a (upd b k x) c n := by
  funext p q j; simp only [iU, mS, upd]
  by_cases h1 : p = 8 <;> by_cases h2 : q = 64 <;> by_cases h3 : j = k <;> simp [h1, h2, h3]
theorem mS_uc {k : Nat} : iU (mS σ a b c n) 8 65 k x = mS σ a b (upd c k x) n := by
  funext p q j; simp only [iU, mS, upd]
  by_cases h1 : p = 8 <;> by_cases h2 : q = 65 <;> by_cases h3 : j = k <;> simp [h1, h2, h3]
theorem mS_un : iU (mS σ a b c n) 7 0 19 x = mS σ a b c x := by
  funext p q j; simp only [iU, mS]
  by_cases h1 : p = 7 <;> by_cases h2 : q = 0 <;> by_cases h3 : j = 19 <;> simp [h1, h2, h3]
theorem mS_self : mS σ (σ 8 63) (σ 8 64) (σ 8 65) (σ 7 0 19) = σ := by
  funext p q j; simp only [mS]
  by_cases h1 : p = 8 ∧ q = 63
  · obtain ⟨rfl, rfl⟩ := h1; simp
  · rw [if_neg h1]
    by_cases h2 : p = 8 ∧ q = 64
    · obtain ⟨rfl, rfl⟩ := h2; simp
    · rw [if_neg h2]
      by_cases h3 : p = 8 ∧ q = 65
      · obtain ⟨rfl, rfl⟩ := h3; simp
      · rw [if_neg h3]
        by_cases h4 : p = 7 ∧ q = 0 ∧ j = 19
        · obtain ⟨rfl, rfl, rfl⟩ := h4; simp
        · rw [if_neg h4]
end MS
end
section
/-! ===== the reference's laysSchedule ===== -/
theorem v63 (n : Nat) (h : n < 24) : vp_in (nI n) (iN 8 63) := vin h (by show 24 < _; omega)
theorem v64 (n : Nat) (h : n < 24) : vp_in (nI n) (iN 8 64) := vin h (by show 24 < _; omega)
theorem v65 (n : Nat) (h : n < 24) : vp_in (nI n) (iN 8 65) := vin h (by show 24 < _; omega)
/-- the inner loop: an order goes to its place -/
theorem e_lay1 {σ : iM} {r : Row} (h58 : σ 8 58 = r) {i : Nat} (hi : i < 24) {b c : Row} {n : Int32} {d3 : Option iV} {res : iRes → Prop} : ∀ (t u : List Nat) (a : Row), sh a t 0 → sh a u (t.length + 1) → t.length + u.length < 24 → (∀ x ∈ t, x < 24) →
    (∀ a', sh a' (u ++ insR (fun i => rO r i 2) t i) 0 → ∀ d2, AtP mX7_laysSchedule 96 [some M, some (.inl (nI i)), d2, d3] [] (mS σ a' b c (n + 1)) res) →
    AtP mX7_laysSchedule 33 [some M, some (.inl (nI i)), some (.inl (nI t.length)), d3] [] (mS σ a b c n) res := by
  intro t
  induction t with
  | nil =>
    intro u a h1 h2 h3 h4 k
    refine AtP.Bt rfl ((by decide : nI 0 ≤ 0)) ?_
    refine AtP.N rfl (by exact v63 0 (by omega)) ?_
    rw [mS_ua]
    refine AtP.F 96 [some M, some (.inl (nI i)), some (.inl (nI 0)), d3] [] (iU (mS σ (upd a (nI 0).toNatClampNeg (nI i)) b c n) 7 0 19 (mS σ (upd a (nI 0).toNatClampNeg (nI i)) b c n 7 0 19 + 1)) rfl ?_
    rw [mS_un, mS_n, nI_clamp (by omega)]
    refine k _ ?_ _
    rw [insR, sh_app]
    refine ⟨?_, ?_⟩
    · rw [sh_upd _ _ _ _ _ (by left; simp)]
      exact h2
    · exact ⟨upd_eq', trivial⟩
  | cons x t ih =>
    intro u a h1 h2 h3 h4 k
    rw [sh, Nat.zero_add] at h1
    rw [List.length_cons] at h2 h3
    have hx : x < 24 := h4 x List.mem_cons_self
    refine AtP.Bf rfl (by rw [List.length_cons]; intro q; rw [fa_le, nI_toInt (by omega)] at q; exact absurd q (by show ¬ ((t.length + 1 : Nat) : Int) ≤ 0; omega)) ?_
    rw [List.length_cons]
    refine AtP.N rfl (by rw [nI_pred]; exact v63 _ (by omega)) ?_
    rw [nI_pred, nI_clamp (by omega), mS_a, h1.1]
    refine AtP.Ci rfl (e_order x 2 hx (by omega) _) ?_
    refine AtP.Ci rfl (e_order i 2 hi (by omega) _) ?_
    rw [mS_58, h58]
    refine AtP.B rfl (fun hd => ?_) (fun hd => ?_)
    · refine AtP.N rfl (by exact v63 _ (by omega)) ?_
      rw [mS_ua]
      refine AtP.F 96 [some M, some (.inl (nI i)), some (.inl (nI (t.length + 1))), d3] [] (iU (mS σ (upd a (nI (t.length + 1)).toNatClampNeg (nI i)) b c n) 7 0 19 (mS σ (upd a (nI (t.length + 1)).toNatClampNeg (nI i)) b c n 7 0 19 + 1)) rfl ?_
      rw [mS_un, mS_n, nI_clamp (by omega)]
      refine k _ ?_ _
      rw [insR, if_neg (le_nlt hd), sh_app]
      refine ⟨?_, ?_⟩
      · rw [sh_upd _ _ _ _ _ (by left; simp)]
        simpa using h2
      · rw [sh]
        refine ⟨?_, ?_⟩
        · rw [Nat.zero_add, List.length_cons]; exact upd_eq'
        · rw [sh_upd _ _ _ _ _ (by right; simp), sh, Nat.zero_add]
          exact h1
    · refine AtP.N rfl (by rw [nI_pred]; exact v63 _ (by omega)) ?_
      rw [nI_pred, nI_clamp (by omega), mS_a, h1.1]
      refine AtP.N rfl (by exact v63 _ (by omega)) ?_
      rw [mS_ua, nI_clamp (by omega)]
      refine AtP.J rfl ?_
      rw [show nI (t.length + 1) + -1 = nI t.length from by rw [← nI_pred t.length, Int32.sub_eq_add_neg]]
      refine ih (u ++ [x]) _ ?_ ?_ (by rw [List.length_append]; simp; omega) (fun y hy => h4 y (List.mem_cons_of_mem _ hy)) (fun a' ha' => k a' ?_)
      · rw [sh_upd _ _ _ _ _ (by right; omega)]
        exact h1.2
      · rw [sh_app]
        refine ⟨?_, ?_⟩
        · rw [sh_upd _ _ _ _ _ (by left; simp)]
          simpa using h2
        · exact ⟨upd_eq', trivial⟩
      · rw [insR, if_pos (fa_of_nle hd)]
        simpa using ha'
/-- the outer loop: all orders -/
theorem e_lay2 {σ : iM} (hr : RI (σ 8 58)) {b c : Row} {res : iRes → Prop}
    (k : ∀ a', sh a' (schL (σ 8 58) (OM (σ 8 58))) 0 → ∀ d1 d2, AtP mX7_laysSchedule 102 [some M, d1, d2, none] [] (mS σ a' b c (nI (schL (σ 8 58) (OM (σ 8 58))).length)) res) :
    ∀ i, i ≤ OM (σ 8 58) → ∀ (a : Row) (d2 : Option iV), sh a (schL (σ 8 58) i) 0 → AtP mX7_laysSchedule 7 [some M, some (.inl (nI i)), d2, none] [] (mS σ a b c (nI (schL (σ 8 58) i).length)) res := by
  obtain ⟨om1, om2⟩ := hr.om
  refine down_ind (N := OM (σ 8 58)) (P := fun i => ∀ (a : Row) (d2 : Option iV), sh a (schL (σ 8 58) i) 0 → AtP mX7_laysSchedule 7 [some M, some (.inl (nI i)), d2, none] [] (mS σ a b c (nI (schL (σ 8 58) i).length)) res) ?_ ?_
  · intro a d2 ha
    refine AtP.N rfl (v58 4 (by omega)) ?_
    rw [mS_58, t4]
    refine AtP.Bt rfl (by rw [om1]; exact (nI_leI (by omega) (by omega)).mpr (Nat.le_refl _)) ?_
    exact k a ha _ _
  · intro i hi ih a d2 ha
    refine AtP.N rfl (v58 4 (by omega)) ?_
    rw [mS_58, t4]
    refine AtP.Bf rfl (by rw [om1]; exact fun h => absurd ((nI_leI (by omega) (by omega)).mp h) (by omega)) ?_
    have hr' : RI (mS σ a b c (nI (schL (σ 8 58) i).length) 8 58) := by rw [mS_58]; exact hr
    have hb := e_isBeforeDrum hr' (i := i) (by rw [mS_58]; exact hi)
    rw [mS_58] at hb
    refine AtP.Ci rfl (hb) ?_
    have hlen := schL_len (σ 8 58) i
    by_cases hbf : bef (σ 8 58) i
    · rw [if_pos hbf]
      refine AtP.Bf rfl (by decide) ?_
      refine AtP.F 33 [some M, some (.inl (nI i)), some (.inl (mS σ a b c (nI (schL (σ 8 58) i).length) 7 0 19)), none] [] _ rfl ?_
      rw [mS_n]
      refine e_lay1 (r := σ 8 58) rfl (by omega) (schL (σ 8 58) i) [] a ha trivial (by simp; omega) (fun x hx => by have := (schL_mem _ _ _).mp hx; omega) (fun a' ha' d2' => ?_)
      refine AtP.J rfl ?_
      rw [nI_1, nI_1]
      have h2 := ih a' d2'
      rw [schL, if_pos hbf, insR_len] at h2
      exact h2 (by simpa using ha')
    · rw [if_neg hbf]
      refine AtP.Bt rfl (rfl) ?_
      refine AtP.J rfl ?_
      refine AtP.J rfl ?_
      rw [nI_1]
      have h2 := ih a d2
      rw [schL, if_neg hbf] at h2
      exact h2 ha
/-- ends, reversed, from place m on -/
def e2 (r c : Row) : List (Nat × Int32) → Nat → Prop
  | [], _ => True
  | (x, s) :: t, m => c (m + t.length) = s + wk r x ∧ e2 r c t m
theorem e2_app (r c : Row) : ∀ (u v : List (Nat × Int32)) (m : Nat), e2 r c (u ++ v) m ↔ e2 r c u (m + v.length) ∧ e2 r c v m := by
  intro u
  induction u with
  | nil => intro v m; simp [e2]
  | cons x t ih =>
    intro v m
    obtain ⟨x, s⟩ := x
    rw [List.cons_append, e2, e2, ih, List.length_append, and_assoc]
    rw [show m + (t.length + v.length) = m + v.length + t.length by omega]
theorem e2_upd (r c : Row) (k : Nat) (y : Int32) : ∀ (u : List (Nat × Int32)) (m : Nat), (k < m ∨ m + u.length ≤ k) → (e2 r (upd c k y) u m ↔ e2 r c u m) := by
  intro u
  induction u with
  | nil => intro m _; simp [e2]
  | cons x t ih =>
    intro m h
    obtain ⟨x, s⟩ := x
    rw [List.length_cons] at h
    rw [e2, e2, ih m (by omega), upd_ne' (by omega)]
/-- the start of the one behind -/
def lastS (w : List (Nat × Int32)) (o : Option Int32) : Prop := (w = [] ∧ o = none) ∨ ∃ w0 x s, w = w0 ++ [(x, s)] ∧ o = some s
theorem e_lay3 {σ : iM} (hr : RI (σ 8 58)) {a : Row} {res : iRes → Prop} (N : Nat) (hN : N ≤ 24)
    (W : List (Nat × Int32)) (k : ∀ b' c', s2 b' W 0 → e2 (σ 8 58) c' W 0 → ∀ d1 d2 d3, AtP mX7_laysSchedule 191 [some M, d1, d2, d3] [] (mS σ a b' c' (nI N)) res) :
    ∀ (t : List Nat) (w : List (Nat × Int32)) (o : Option Int32) (b c : Row) (d2 d3 : Option iV), sh a t 0 → (∀ x ∈ t, x < OM (σ 8 58)) → t.length + w.length = N → s2 b w t.length → e2 (σ 8 58) c w t.length → lastS w o → w ++ bk (σ 8 58) o t = W → AtP mX7_laysSchedule 109 [some M, some (.inl (nI t.length - 1)), d2, d3] [] (mS σ a b c (nI N)) res := by
  obtain ⟨om1, om2⟩ := hr.om
  intro t
  induction t with
  | nil =>
    intro w o b c d2 d3 h1 h2 h3 h4 h5 h6 h7
    refine AtP.Bt rfl ((by decide : nI 0 - 1 < 0)) ?_
    rw [bk, List.append_nil] at h7
    subst h7
    exact k b c h4 h5 _ _ _
  | cons x t ih =>
    intro w o b c d2 d3 h1 h2 h3 h4 h5 h6 h7
    rw [sh, Nat.zero_add] at h1
    rw [List.length_cons] at h3 h4 h5 ⊢
    rw [nI_pred]
    have hxo : x < OM (σ 8 58) := h2 x List.mem_cons_self
    refine AtP.Bf rfl (by intro q; rw [fa_lt, nI_toInt (by omega)] at q; exact absurd q (by show ¬ ((t.length : Nat) : Int) < 0; omega)) ?_
    refine AtP.N rfl (by exact v63 _ (by omega)) ?_
    rw [nI_clamp (by omega), mS_a, h1.1]
    refine AtP.Ci rfl (e_order x 2 (by omega) (by omega) _) ?_
    refine AtP.N rfl (v58 6 (by omega)) ?_
    rw [mS_58, t6]
    have hr' : ∀ {b' c' : Row} {n' : Int32}, RI (mS σ a b' c' n' 8 58) := fun {b' c' n'} => by rw [mS_58]; exact hr
    have hwk : ∀ {b' c' : Row} {n' : Int32}, Ev mX7_workAtDrum [M, .inl (nI x)] (mS σ a b' c' n') (evi (wk (σ 8 58) x) (mS σ a b' c' n')) := fun {b' c' n'} => by
      have := e_workAtDrum (hr' (b' := b') (c' := c') (n' := n')) (i := x) (by rw [mS_58]; exact hxo)
      rw [mS_58] at this
      exact this
    have fin : ∀ (ee : Int32) (d2 d3 : Option iV), (w ++ (x, ee - wk (σ 8 58) x) :: bk (σ 8 58) (some (ee - wk (σ 8 58) x)) t = W) → AtP mX7_laysSchedule 109 [some M, some (.inl (nI t.length - 1)), d2, d3] [] (mS σ a (upd b t.length (ee - wk (σ 8 58) x)) (upd c t.length ee) (nI N)) res := by
      intro ee d2 d3 hW
      refine ih (w ++ [(x, ee - wk (σ 8 58) x)]) (some (ee - wk (σ 8 58) x)) _ _ d2 d3 h1.2 (fun y hy => h2 y (List.mem_cons_of_mem _ hy)) (by rw [List.length_append]; simp; omega) ?_ ?_ (Or.inr ⟨w, x, _, rfl, rfl⟩) (by rw [← hW]; simp)
      · rw [s2_app]
        refine ⟨?_, ?_⟩
        · rw [s2_upd _ _ _ _ _ (by left; simp)]; exact h4
        · exact ⟨upd_eq', trivial⟩
      · rw [e2_app]
        refine ⟨?_, ?_⟩
        · rw [e2_upd _ _ _ _ _ _ (by left; simp)]; exact h5
        · refine ⟨?_, trivial⟩
          rw [List.length_nil, Nat.add_zero, upd_eq', Int32.sub_add_cancel]
    rcases h6 with ⟨rfl, rfl⟩ | ⟨w0, y, s, rfl, rfl⟩
    · simp only [bk] at h7
      rw [List.length_nil, Nat.add_zero] at h3
      refine AtP.Bt rfl (by rw [mS_n, ← h3, nI_pred]) ?_
      refine AtP.J rfl ?_
      refine AtP.N rfl (by exact v65 _ (by omega)) ?_
      rw [mS_uc, nI_clamp (by omega)]
      refine AtP.N rfl (by exact v65 _ (by omega)) ?_
      rw [mS_c, nI_clamp (by omega), upd_eq']
      refine AtP.Ci rfl (hwk) ?_
      refine AtP.N rfl (by exact v64 _ (by omega)) ?_
      rw [mS_ub, nI_clamp (by omega)]
      refine AtP.J rfl ?_
      rw [show nI t.length + -1 = nI t.length - 1 from (Int32.sub_eq_add_neg _ _).symm]
      exact fin _ _ _ h7
    · simp only [bk] at h7
      rw [List.length_append, List.length_singleton] at h3
      refine AtP.Bf rfl (by rw [mS_n, show nI N - 1 = nI (N - 1) from by rw [← nI_pred (N - 1), show N - 1 + 1 = N by omega]]; exact fun q => absurd ((nI_eq (by omega) (by omega)).mp q) (by omega)) ?_
      refine AtP.N rfl (by rw [nI_1]; exact v64 _ (by omega)) ?_
      rw [nI_1, mS_b, nI_clamp (by omega)]
      rw [s2_app] at h4
      have hs : b (t.length + 1) = s := by have := h4.2; rw [s2] at this; simpa using this.1
      rw [hs]
      refine AtP.N rfl (by exact v65 _ (by omega)) ?_
      rw [mS_uc, nI_clamp (by omega)]
      refine AtP.N rfl (by exact v65 _ (by omega)) ?_
      rw [mS_c, nI_clamp (by omega), upd_eq']
      refine AtP.Ci rfl (hwk) ?_
      refine AtP.N rfl (by exact v64 _ (by omega)) ?_
      rw [mS_ub, nI_clamp (by omega)]
      refine AtP.J rfl ?_
      rw [show nI t.length + -1 = nI t.length - 1 from (Int32.sub_eq_add_neg _ _).symm]
      exact fin _ _ _ h7
/-- ends in their order, from place m on -/
def eF (r c : Row) : List (Nat × Int32) → Nat → Prop
  | [], _ => True
  | (x, s) :: t, m => c m = s + wk r x ∧ eF r c t (m + 1)
theorem eF_app (r c : Row) : ∀ (u v : List (Nat × Int32)) (m : Nat), eF r c (u ++ v) m ↔ eF r c u m ∧ eF r c v (m + u.length) := by
  intro u
  induction u with
  | nil => intro v m; simp [eF]
  | cons x t ih =>
    intro v m
    obtain ⟨x, s⟩ := x
    rw [List.cons_append, eF, eF, ih, List.length_cons, and_assoc]
    rw [show m + (t.length + 1) = m + 1 + t.length by omega]
theorem eF_rev (r c : Row) : ∀ (w : List (Nat × Int32)), e2 r c w 0 → eF r c w.reverse 0 := by
  intro w
  induction w with
  | nil => intro _; trivial
  | cons x t ih =>
    obtain ⟨x, s⟩ := x
    intro h2
    rw [e2] at h2
    rw [List.reverse_cons, eF_app]
    refine ⟨ih h2.2, ?_⟩
    rw [List.length_reverse, eF]
    exact ⟨h2.1, trivial⟩
theorem eF_upd (r c : Row) (k : Nat) (y : Int32) : ∀ (u : List (Nat × Int32)) (m : Nat), (k < m ∨ m + u.length ≤ k) → (eF r (upd c k y) u m ↔ eF r c u m) := by
  intro u
  induction u with
  | nil => intro m _; simp [eF]
  | cons x t ih =>
    intro m h
    obtain ⟨x, s⟩ := x
    rw [List.length_cons] at h
    rw [eF, eF, ih (m + 1) (by omega), upd_ne' (by omega)]
/-- the last loop: forward -/
theorem e_lay4 {σ : iM} (hr : RI (σ 8 58)) {a : Row} {res : iRes → Prop} (N : Nat) (hN : N ≤ 24)
    (W : List (Nat × Int32)) (k : ∀ b' c', rF a b' W 0 → eF (σ 8 58) c' W 0 → ∀ d1 d2 d3, AtP mX7_laysSchedule 254 [some M, d1, d2, d3] [] (mS σ a b' c' (nI N)) res) :
    ∀ (t v : List (Nat × Int32)) (e : Int32) (b c : Row) (d3 : Option iV), rF a b (v ++ t) 0 → eF (σ 8 58) c (v ++ t) 0 → (∀ x ∈ t, x.1 < OM (σ 8 58)) → v.length + t.length = N → v ++ fwF (σ 8 58) e t = W → AtP mX7_laysSchedule 198 [some M, some (.inl e), some (.inl (nI v.length)), d3] [] (mS σ a b c (nI N)) res := by
  obtain ⟨om1, om2⟩ := hr.om
  intro t
  induction t with
  | nil =>
    intro v e b c d3 h1 h2 h3 h4 h5
    rw [List.length_nil, Nat.add_zero] at h4
    refine AtP.Bt rfl (by rw [mS_n, h4]; exact (nI_leI (by omega) (by omega)).mpr (Nat.le_refl _)) ?_
    rw [fwF, List.append_nil] at h5
    rw [List.append_nil] at h1 h2
    subst h5
    exact k b c h1 h2 _ _ _
  | cons y t ih =>
    obtain ⟨x, s⟩ := y
    intro v e b c d3 h1 h2 h3 h4 h5
    rw [List.length_cons] at h4
    have hxo : x < OM (σ 8 58) := h3 (x, s) List.mem_cons_self
    refine AtP.Bf rfl (by rw [mS_n]; exact fun h => absurd ((nI_leI (by omega) (by omega)).mp h) (by omega)) ?_
    rw [rF_app, Nat.zero_add, rF] at h1
    rw [eF_app, Nat.zero_add, eF] at h2
    have hwk : ∀ {b' c' : Row} {n' : Int32}, Ev mX7_workAtDrum [M, .inl (nI x)] (mS σ a b' c' n') (evi (wk (σ 8 58) x) (mS σ a b' c' n')) := fun {b' c' n'} => by
      have := e_workAtDrum (σ := mS σ a b' c' n') (by rw [mS_58]; exact hr) (i := x) (by rw [mS_58]; exact hxo)
      rw [mS_58] at this
      exact this
    refine AtP.N rfl (by exact v64 _ (by omega)) ?_
    rw [mS_b, nI_clamp (by omega), h1.2.2.1]
    simp only [fwF] at h5
    refine AtP.B rfl (fun hs => ?_) (fun hs => ?_)
    · rw [if_neg (le_nlt hs)] at h5
      refine AtP.N rfl (by exact v65 _ (by omega)) ?_
      rw [mS_c, nI_clamp (by omega), h2.2.1]
      refine AtP.J rfl ?_
      rw [nI_1]
      have := ih (v ++ [(x, s)]) (s + wk (σ 8 58) x) b c d3 (by rw [List.append_assoc, rF_app, Nat.zero_add]; exact ⟨h1.1, by simpa [rF] using h1.2⟩) (by rw [List.append_assoc, eF_app, Nat.zero_add]; exact ⟨h2.1, by simpa [eF] using h2.2⟩) (fun z hz => h3 z (List.mem_cons_of_mem _ hz)) (by rw [List.length_append]; simp; omega) (by rw [← h5]; simp)
      rw [List.length_append] at this
      exact this
    · rw [if_pos (fa_of_nle hs)] at h5
      refine AtP.N rfl (by exact v64 _ (by omega)) ?_
      rw [mS_ub, nI_clamp (by omega)]
      refine AtP.N rfl (by exact v63 _ (by omega)) ?_
      rw [mS_a, nI_clamp (by omega), h1.2.1]
      refine AtP.Ci rfl (hwk) ?_
      refine AtP.N rfl (by exact v65 _ (by omega)) ?_
      rw [mS_uc, nI_clamp (by omega)]
      refine AtP.N rfl (by exact v65 _ (by omega)) ?_
      rw [mS_c, nI_clamp (by omega), upd_eq']
      refine AtP.J rfl ?_
      rw [nI_1]
      have := ih (v ++ [(x, e)]) (e + wk (σ 8 58) x) (upd b v.length e) (upd c v.length (e + wk (σ 8 58) x)) d3
        (by rw [List.append_assoc, rF_app, Nat.zero_add, rF_upd _ _ _ _ _ _ (by right; omega)]
            refine ⟨h1.1, ?_⟩
            rw [List.singleton_append, rF, rF_upd _ _ _ _ _ _ (by left; omega)]
            exact ⟨h1.2.1, upd_eq', h1.2.2.2⟩)
        (by rw [List.append_assoc, eF_app, Nat.zero_add, eF_upd _ _ _ _ _ _ (by right; omega)]
            refine ⟨h2.1, ?_⟩
            rw [List.singleton_append, eF, eF_upd _ _ _ _ _ _ (by left; omega)]
            exact ⟨upd_eq', h2.2.2⟩)
        (fun z hz => h3 z (List.mem_cons_of_mem _ hz)) (by rw [List.length_append]; simp; omega) (by rw [← h5]; simp)
      rw [List.length_append] at this
      exact this
/-- laysSchedule: the schedule stands in the scratch rows -/
theorem e_lays {σ : iM} (hr : RI (σ 8 58)) : EvP mX7_laysSchedule [M] σ (fun r => ∃ σ1, r = evv σ1 ∧ ∃ a b c, rF a b (schF (σ 8 58)) 0 ∧ eF (σ 8 58) c (schF (σ 8 58)) 0 ∧ σ1 = mS σ a b c (nI (schF (σ 8 58)).length)) := by
  obtain ⟨om1, om2⟩ := hr.om
  have hlen := schL_len (σ 8 58) (OM (σ 8 58))
  show AtP mX7_laysSchedule 0 [some M, none, none, none] [] σ _
  refine AtP.F 7 [some M, some (.inl (nI 0)), none, none] [] (iU σ 7 0 19 0) rfl ?_
  have hst : iU σ 7 0 19 0 = mS σ (σ 8 63) (σ 8 64) (σ 8 65) (nI (schL (σ 8 58) 0).length) := by
    conv => lhs; rw [← mS_self (σ := σ)]
    rw [mS_un]
    rfl
  rw [hst]
  refine e_lay2 hr (fun a ha d1 d2 => ?_) 0 (Nat.zero_le _) _ _ trivial
  refine AtP.F 109 [some M, some (.inl (mS σ a (σ 8 64) (σ 8 65) (nI (schL (σ 8 58) (OM (σ 8 58))).length) 7 0 19 - 1)), d2, none] [] _ rfl ?_
  rw [mS_n]
  refine e_lay3 hr _ (by omega) (bk (σ 8 58) none (schL (σ 8 58) (OM (σ 8 58)))) (fun b c hb hc d1 d2 d3 => ?_) (schL (σ 8 58) (OM (σ 8 58))) [] none _ _ _ _ ha (fun x hx => ((schL_mem _ _ _).mp hx).1) (by simp) trivial trivial (Or.inl ⟨rfl, rfl⟩) rfl
  have he := e_earliest (σ := mS σ a b c (nI (schL (σ 8 58) (OM (σ 8 58))).length)) (by rw [mS_58]; exact hr)
  rw [mS_58] at he
  refine AtP.Ci rfl (he) ?_
  refine AtP.F 198 [some M, some (.inl (earl (σ 8 58))), some (.inl (nI 0)), d3] [] _ rfl ?_
  have h1 := rF_rev a b (bk (σ 8 58) none (schL (σ 8 58) (OM (σ 8 58)))) (by rw [bk_fst]; exact ha) hb
  have h2 := eF_rev (σ 8 58) c (bk (σ 8 58) none (schL (σ 8 58) (OM (σ 8 58)))) hc
  refine e_lay4 hr (schL (σ 8 58) (OM (σ 8 58))).length (by omega) (schF (σ 8 58)) (fun b' c' hb' hc' d1 d2 d3 => ?_) (bk (σ 8 58) none (schL (σ 8 58) (OM (σ 8 58)))).reverse [] (earl (σ 8 58)) b c d3 h1 h2 ?_ ?_ rfl
  · refine AtP.R rfl ⟨_, rfl, a, b', c', hb', hc', ?_⟩
    rw [schF_len]
  · intro x hx
    have : x.1 ∈ (bk (σ 8 58) none (schL (σ 8 58) (OM (σ 8 58)))).map Prod.fst := List.mem_map.mpr ⟨x, List.mem_reverse.mp hx, rfl⟩
    rw [bk_fst, schL_mem] at this
    exact this.1
  · simp [bk_len]
end
section
/-! ===== bounds of the schedule; rows that hold the same ===== -/
theorem mul_b {x y : Int32} {a b : Int} (h1 : 1 ≤ x.toInt) (h2 : x.toInt ≤ a) (h3 : 1 ≤ y.toInt) (h4 : y.toInt ≤ b) (hab : a * b < 2147483648) (ha : 0 ≤ a) : (x * y).toInt = x.toInt * y.toInt ∧ 1 ≤ x.toInt * y.toInt ∧ x.toInt * y.toInt ≤ a * b := by
  have e1 : x.toInt * y.toInt ≤ a * b := Int.mul_le_mul h2 h4 (by omega) ha
  have e2 : 1 * 1 ≤ x.toInt * y.toInt := Int.mul_le_mul h1 h3 (by omega) (by omega)
  exact ⟨fb_mulI (by omega) (by omega), by omega, e1⟩
theorem RIg.wkB {m : Nat → Prop} {r : Row} (hr : RIg m r) {i : Nat} (hi : i < OM r) : 1 ≤ (wk r i).toInt ∧ (wk r i).toInt ≤ 1000 := by
  obtain ⟨h1, h2, h3, h4, h5⟩ := hr.op hi
  have a := (h4.2.1 _ h4.d.1).2.2
  have b := h5.2.2.1
  have := mul_b a.1 a.2 b.1 b.2 (by decide) (by decide)
  unfold wk
  rw [this.1]
  exact ⟨this.2.1, this.2.2⟩
theorem RIg.wHB {m : Nat → Prop} {r : Row} (hr : RIg m r) {i : Nat} (hi : i < OM r) (hs : rO r i 3 = 1) : 1 ≤ (wH r i).toInt ∧ (wH r i).toInt ≤ 1000 := by
  obtain ⟨h1, h2, h3, h4, h5⟩ := hr.op hi
  have a := (h4.2.1 _ (hr.st hi hs).2.1).2.2
  have b := h5.2.2.1
  have := mul_b a.1 a.2 b.1 b.2 (by decide) (by decide)
  unfold wH
  rw [this.1]
  exact ⟨this.2.1, this.2.2⟩
theorem RIg.earlB {m : Nat → Prop} {r : Row} (hr : RIg m r) : (r 0).toInt ≤ (earl r).toInt ∧ (earl r).toInt ≤ 41050 := by
  have h0 := hr.1
  have hs := hr.sta hr.dr.2.1
  unfold earl
  by_cases h : rS r (DR r) 0 = -1
  · rw [if_pos h, Int32.add_zero]
    omega
  · rw [if_neg h]
    obtain ⟨a, b, c, d, e⟩ := hs.2.2.resolve_left h
    have o := (hr.ord b).k c
    rcases o.2.2.2.2 with q | q
    · rw [d] at q; exact absurd q.1 (by decide)
    · have := q.2.1
      rw [fb_addI (by omega) (by omega)]
      omega
theorem bk_b {m : Nat → Prop} {r : Row} (hr : RIg m r) : ∀ (l : List Nat) (o : Option Int32) (n : Nat), (∀ x ∈ l, x < OM r) → n + l.length ≤ 24 → (∀ s, o = some s → -500 - 1000 * (n : Int) ≤ s.toInt ∧ s.toInt ≤ 30000) → ∀ q ∈ bk r o l, -24500 ≤ q.2.toInt ∧ q.2.toInt ≤ 30000 := by
  intro l
  induction l with
  | nil => intro o n _ _ _ q hq; cases hq
  | cons x t ih =>
    intro o n h1 h2 h3 q hq
    rw [List.length_cons] at h2
    have hx := h1 x List.mem_cons_self
    have hw := hr.wkB hx
    have hd := (hr.ord hx).2.2.2.1
    have hsh := hr.2.2.2.2.2.2.1
    have hds : (rO r x 2 - r 6).toInt = (rO r x 2).toInt - (r 6).toInt := fb_subI (by omega) (by omega)
    have key : ∀ ee : Int32, -500 - 1000 * (n : Int) ≤ ee.toInt → ee.toInt ≤ 30000 → q ∈ (x, ee - wk r x) :: bk r (some (ee - wk r x)) t → -24500 ≤ q.2.toInt ∧ q.2.toInt ≤ 30000 := by
      intro ee e1 e2 hm
      have hs : (ee - wk r x).toInt = ee.toInt - (wk r x).toInt := fb_subI (by omega) (by omega)
      rcases List.mem_cons.mp hm with rfl | hm
      · show -24500 ≤ (ee - wk r x).toInt ∧ (ee - wk r x).toInt ≤ 30000
        omega
      · refine ih _ (n + 1) (fun y hy => h1 y (List.mem_cons_of_mem _ hy)) (by omega) (fun s hs9 => ?_) q hm
        cases hs9
        omega
    cases o with
    | none =>
      simp only [bk] at hq
      exact key _ (by omega) (by omega) hq
    | some s =>
      simp only [bk] at hq
      have hs := h3 s rfl
      refine key _ ?_ ?_ hq
      · unfold iMin; split <;> omega
      · unfold iMin; split <;> omega
theorem fw_b {m : Nat → Prop} {r : Row} (hr : RIg m r) : ∀ (l : List (Nat × Int32)) (e : Int32) (E : Int), (∀ q ∈ l, q.1 < OM r ∧ q.2.toInt ≤ 30000) → e.toInt ≤ E → 30000 ≤ E → E + 1000 * l.length ≤ 100000 → 0 ≤ e.toInt → ∀ q ∈ fwF r e l, e.toInt ≤ q.2.toInt ∧ q.2.toInt ≤ E + 1000 * l.length := by
  intro l
  induction l with
  | nil => intro e E _ _ _ _ _ q hq; cases hq
  | cons y t ih =>
    obtain ⟨x, s⟩ := y
    intro e E h1 h2 h3 h4 h5 q hq
    rw [List.length_cons] at h4 ⊢
    have hx : x < OM r ∧ s.toInt ≤ 30000 := h1 (x, s) List.mem_cons_self
    have hw := hr.wkB hx.1
    simp only [fwF] at hq
    have key : ∀ ss : Int32, e.toInt ≤ ss.toInt → ss.toInt ≤ E → q ∈ (x, ss) :: fwF r (ss + wk r x) t → e.toInt ≤ q.2.toInt ∧ q.2.toInt ≤ E + 1000 * ((t.length + 1 : Nat) : Int) := by
      intro ss e1 e2 hm
      rcases List.mem_cons.mp hm with rfl | hm
      · show e.toInt ≤ ss.toInt ∧ ss.toInt ≤ _
        omega
      · have hs : (ss + wk r x).toInt = ss.toInt + (wk r x).toInt := fb_addI (by omega) (by omega)
        have := ih (ss + wk r x) (E + 1000) (fun z hz => h1 z (List.mem_cons_of_mem _ hz)) (by omega) (by omega) (by omega) (by omega) q hm
        omega
    have hs2 : s.toInt ≤ 30000 := hx.2
    by_cases hse : s < e
    · rw [if_pos hse] at hq
      exact key e (by omega) (by omega) hq
    · rw [if_neg hse] at hq
      have := fa_of_nlt hse
      rw [fa_le] at this
      exact key s (by omega) (by omega) hq
theorem schF_b {m : Nat → Prop} {r : Row} (hr : RIg m r) {x : Nat} {s : Int32} (h : (x, s) ∈ schF r) : (r 0).toInt ≤ s.toInt ∧ s.toInt ≤ 70000 := by
  have he := hr.earlB
  have h0 := hr.1
  have hlen := schL_len r (OM r)
  have hom := hr.om
  have := fw_b hr (bk r none (schL r (OM r))).reverse (earl r) 41050 (fun q hq => by
    have hq := List.mem_reverse.mp hq
    refine ⟨?_, (bk_b hr (schL r (OM r)) none 0 (fun x hx => ((schL_mem _ _ _).mp hx).1) (by omega) (fun s hs => by cases hs) q hq).2⟩
    have : q.1 ∈ (bk r none (schL r (OM r))).map Prod.fst := List.mem_map.mpr ⟨q, hq, rfl⟩
    rw [bk_fst, schL_mem] at this
    exact this.1) (by omega) (by omega) (by rw [List.length_reverse, bk_len]; omega) (by omega) (x, s) h
  rw [List.length_reverse, bk_len] at this
  have h1 := this.1
  have h2 := this.2
  simp only at h1 h2
  omega
/-- the parts of a row that nothing in a tick changes -/
def samB (r r' : Row) : Prop := ∀ n, (1 ≤ n ∧ n ≤ 9) ∨ (53 ≤ n ∧ n < 131) → r' n = r n
section SAM
variable {r r' : Row} (hs : samB r r')
theorem samB.rfl : samB r r := fun _ _ => Eq.refl _
theorem samB.trans {r'' : Row} (h1 : samB r r') (h2 : samB r' r'') : samB r r'' := fun n hn => (h2 n hn).trans (h1 n hn)
theorem samB.n (hs : samB r r') {n : Nat} (h1 : 1 ≤ n) (h2 : n ≤ 9) : r' n = r n := hs n (Or.inl ⟨h1, h2⟩)
theorem samB.om (hs : samB r r') : OM r' = OM r := by unfold OM; rw [hs.n (by omega) (by omega)]
theorem samB.sc (hs : samB r r') : SC r' = SC r := by unfold SC; rw [hs.n (by omega) (by omega)]
theorem samB.pm (hs : samB r r') : PM r' = PM r := by unfold PM; rw [hs.n (by omega) (by omega)]
theorem samB.dr (hs : samB r r') : DR r' = DR r := by unfold DR; rw [hs.n (by omega) (by omega)]
theorem samB.pn (hs : samB r r') {p : Nat} (hp : p < 6) : rPn r' p = rPn r p := hs _ (Or.inr ⟨by omega, by omega⟩)
theorem samB.ps (hs : samB r r') {p k : Nat} (hp : p < 6) (hk : k < 6) : rPs r' p k = rPs r p k := hs _ (Or.inr ⟨by omega, by omega⟩)
theorem samB.pt (hs : samB r r') {p k : Nat} (hp : p < 6) (hk : k < 6) : rPt r' p k = rPt r p k := hs _ (Or.inr ⟨by omega, by omega⟩)
theorem samB.sn (hs : samB r r') {p : Nat} (hp : p < 6) : sN r' p = sN r p := by unfold sN; rw [hs.pn hp]
theorem samB.ds (hs : samB r r') {p : Nat} (hp : p < 6) : dS r' p = dS r p := by
  have key : ∀ n k, n + k ≤ 6 → dSf r' p n k = dSf r p n k := by
    intro n
    induction n with
    | zero => intro k _; rfl
    | succ n ih =>
      intro k hk
      rw [dSf, dSf, hs.ps hp (by omega), hs.n (n := 2) (by omega) (by omega), ih (k + 1) (by omega)]
  exact key 6 0 (by omega)
theorem samB.pi (hs : samB r r') {p : Nat} (hp : p < 6) (h : PI r p) : PI r' p := by
  obtain ⟨n1, n2, n3⟩ := h.n
  unfold PI
  rw [hs.pn hp, hs.sn hp, hs.ds hp, hs.n (n := 2) (by omega) (by omega), hs.sc, hs.ps hp h.d.2.1]
  refine ⟨h.1, fun k hk => ?_, h.2.2.1, h.2.2.2.1, fun k hk => ?_⟩
  · rw [hs.ps hp (by omega), hs.pt hp (by omega)]
    exact h.2.1 k hk
  · rw [hs.ps hp (by omega)]
    exact h.2.2.2.2 k hk
end SAM
/-- a row with the same base is good if its orders and stations are -/
theorem RIg.of {m m0 : Nat → Prop} {r r' : Row} (hr : RIg m0 r) (hs : samB r r') (h0 : inR (r' 0) 0 40000) (ho : ∀ i, i < OM r → OIg m r' i) (hq : ∀ q, q < SC r → SI r' q) : RIg m r' := by
  obtain ⟨a0, a1, a2, a3, a4, a5, a6, a7, a8, a9, b1, b2, b3⟩ := hr
  have hpm : PM r ≤ 6 := (a3.toN (by omega) (by omega)).2.1
  unfold RIg
  rw [hs.n (n := 1) (by omega) (by omega), hs.n (n := 2) (by omega) (by omega), hs.n (n := 3) (by omega) (by omega), hs.n (n := 4) (by omega) (by omega), hs.n (n := 5) (by omega) (by omega), hs.n (n := 6) (by omega) (by omega), hs.n (n := 7) (by omega) (by omega), hs.n (n := 8) (by omega) (by omega), hs.n (n := 9) (by omega) (by omega), hs.dr, hs.sc, hs.pm, hs.om]
  exact ⟨h0, a1, a2, a3, a4, a5, a6, a7, a8, a9, fun p hp => hs.pi (by omega) (b1 p hp), ho, hq⟩
theorem OIg.same {m : Nat → Prop} {r r' : Row} {i : Nat} (hs : samB r r') (hp : PM r ≤ 6) (h : OIg m r i) (hf : ∀ w, w < 14 → rO r' i w = rO r i w) (hl : rO r i 3 = 1 → rO r i 6 = 1 → rS r (nn (rPs r (oP r i) (oK r i))) 0 = nI i → rS r' (nn (rPs r (oP r i) (oK r i))) 0 = nI i) (hk : rO r i 3 = 1 → oK r i < 6) : OIg m r' i := by
  obtain ⟨a0, a1, a2, a3, a5, a9, a10, a12, b⟩ := h
  have hp6 : oP r i < 6 := by omega
  have eP : oP r' i = oP r i := by unfold oP; rw [hf 0 (by omega)]
  have eK : oK r' i = oK r i := by unfold oK; rw [hf 4 (by omega)]
  unfold OIg OI0 OI1 OI2
  rw [eP, eK, hs.pm, hs.sn hp6, hs.pn hp6, hf 0 (by omega), hf 1 (by omega), hf 2 (by omega), hf 3 (by omega), hf 4 (by omega), hf 5 (by omega), hf 6 (by omega), hf 7 (by omega), hf 8 (by omega), hf 9 (by omega), hf 10 (by omega), hf 11 (by omega), hf 12 (by omega)]
  refine ⟨a0, a1, a2, a3, a5, a9, a10, a12, ?_⟩
  rcases b with b | b | b | b
  · exact Or.inl b
  · exact Or.inr (Or.inl b)
  · refine Or.inr (Or.inr (Or.inl ⟨b.1, b.2.1, b.2.2.1, b.2.2.2.1, b.2.2.2.2.1, ?_⟩))
    rw [hs.ps hp6 (hk b.1)]
    rcases b.2.2.2.2.2 with c | c
    · exact Or.inl c
    · exact Or.inr ⟨c.1, c.2.1, c.2.2.1, hl b.1 c.1 c.2.2.2⟩
  · exact Or.inr (Or.inr (Or.inr b))
theorem SI.same {r r' : Row} {q : Nat} (hs : samB r r') (h : SI r q) (hf0 : rS r' q 0 = rS r q 0) (hf2 : rS r' q 2 = rS r q 2) (hf5 : rS r' q 5 = rS r q 5)
    (hw : ¬ rS r q 0 = -1 → (∀ w, w = 0 ∨ w = 3 ∨ w = 4 ∨ w = 6 → rO r' (nn (rS r q 0)) w = rO r (nn (rS r q 0)) w) ∧ oP r (nn (rS r q 0)) < 6 ∧ oK r (nn (rS r q 0)) < 6) : SI r' q := by
  unfold SI
  rw [hf0, hf2, hf5, hs.om]
  refine ⟨h.1, h.2.1, ?_⟩
  rcases h.2.2 with b | b
  · exact Or.inl b
  · by_cases hn : rS r q 0 = -1
    · exact Or.inl hn
    · obtain ⟨c1, c2, c3⟩ := hw hn
      refine Or.inr ⟨b.1, b.2.1, ?_, ?_, ?_⟩
      · rw [c1 3 (by omega)]; exact b.2.2.1
      · rw [c1 6 (by omega)]; exact b.2.2.2.1
      · have eP : oP r' (nn (rS r q 0)) = oP r (nn (rS r q 0)) := by unfold oP; rw [c1 0 (by omega)]
        have eK : oK r' (nn (rS r q 0)) = oK r (nn (rS r q 0)) := by unfold oK; rw [c1 4 (by omega)]
        rw [eP, eK, hs.ps c2 c3]
        exact b.2.2.2.2
end
section
/-! ===== the reference: releases ===== -/
theorem rel1_o {r : Row} {i j w : Nat} {t : Int32} (hw : w < 14) (h : j ≠ i ∨ (w ≠ 3 ∧ w ≠ 4 ∧ w ≠ 5 ∧ w ≠ 8 ∧ w ≠ 9)) : rO (rel1 r i t) j w = rO r j w := by
  show rel1 r i t (131 + 14 * j + w) = _
  unfold rel1
  rw [upd_ne' (by omega), upd_ne' (by omega), upd_ne' (by omega), upd_ne' (by omega), upd_ne' (by omega)]
theorem rel1_n {r : Row} {i n : Nat} {t : Int32} (hn : n < 131) : rel1 r i t n = r n := by
  unfold rel1
  rw [upd_ne' (by omega), upd_ne' (by omega), upd_ne' (by omega), upd_ne' (by omega), upd_ne' (by omega)]
theorem rel1_3 {r : Row} {i : Nat} {t : Int32} : rO (rel1 r i t) i 3 = 1 := by
  show rel1 r i t (131 + 14 * i + 3) = _
  unfold rel1
  rw [upd_ne' (by omega), upd_ne' (by omega), upd_ne' (by omega), upd_ne' (by omega), upd_eq']
theorem rel1_4 {r : Row} {i : Nat} {t : Int32} : rO (rel1 r i t) i 4 = 0 := by
  show rel1 r i t (131 + 14 * i + 4) = _
  unfold rel1
  rw [upd_ne' (by omega), upd_ne' (by omega), upd_ne' (by omega), upd_eq']
theorem rel1_5 {r : Row} {i : Nat} {t : Int32} : rO (rel1 r i t) i 5 = r 0 := by
  show rel1 r i t (131 + 14 * i + 5) = _
  unfold rel1
  rw [upd_ne' (by omega), upd_ne' (by omega), upd_eq']
theorem rel1_8 {r : Row} {i : Nat} {t : Int32} : rO (rel1 r i t) i 8 = r 0 := by
  show rel1 r i t (131 + 14 * i + 8) = _
  unfold rel1
  rw [upd_ne' (by omega), upd_eq']
theorem rel1_9 {r : Row} {i : Nat} {t : Int32} : rO (rel1 r i t) i 9 = t := upd_eq'
theorem rel1_s {r : Row} {i : Nat} {t : Int32} : samB r (rel1 r i t) := fun _ hn => rel1_n (by omega)
theorem RIg.i0 {m : Nat → Prop} {r : Row} (h : RIg m r) {i : Nat} (hi : i < OM r) (h0 : rO r i 3 = 0) : OI0 r i := by
  rcases (h.ord hi).2.2.2.2.2.2.2.2 with q | q | q | q
  · exact q.2
  · exact q.2
  · rw [h0] at q; exact absurd q.1 (by decide)
  · rw [h0] at q; exact absurd q.1 (by decide)
theorem RIg.rel1R {m : Nat → Prop} {r : Row} (hr : RIg m r) {i : Nat} {t : Int32} (hi : i < OM r) (h0 : rO r i 3 = 0) (ht : inR t (-500) 40000) : RIg m (rel1 r i t) := by
  have hpm := hr.pm
  obtain ⟨a1, a2, a3, a4, a5⟩ := hr.op hi
  have i0 := hr.i0 hi h0
  refine hr.of rel1_s (by rw [rel1_n (by omega)]; exact hr.1) (fun j hj => ?_) (fun q hq => ?_)
  · by_cases e : j = i
    · subst e
      obtain ⟨b0, b1, b2, b3, b5, b9, b10, b12, -⟩ := a5
      have eP : oP (rel1 r j t) j = oP r j := by unfold oP; rw [rel1_o (by omega) (by omega)]
      have eK : oK (rel1 r j t) j = 0 := by unfold oK; rw [rel1_4]; rfl
      unfold OIg
      rw [eP, rel1_s.pm, rel1_5, rel1_9, rel1_3, rel1_o (w := 0) (by omega) (by omega), rel1_o (w := 1) (by omega) (by omega), rel1_o (w := 2) (by omega) (by omega), rel1_o (w := 10) (by omega) (by omega), rel1_o (w := 12) (by omega) (by omega)]
      refine ⟨b0, b1, b2, b3, hr.1, ht, b10, b12, Or.inr (Or.inr (Or.inl ⟨rfl, ?_⟩))⟩
      unfold OI1
      rw [eP, eK, rel1_s.sn a3, rel1_4, rel1_8, rel1_o (w := 11) (by omega) (by omega), rel1_o (w := 6) (by omega) (by omega), rel1_o (w := 7) (by omega) (by omega)]
      exact ⟨⟨by decide, by decide⟩, by have := a4.n; omega, hr.1, i0.2.2.2.2, Or.inl ⟨i0.2.1, i0.2.2.1⟩⟩
    · refine OIg.same rel1_s hpm.2 (hr.ord hj) (fun w hw => rel1_o hw (Or.inl e)) (fun _ _ h => ?_) (fun h => (hr.st hj h).2.2)
      rw [show rS (rel1 r i t) (nn (rPs r (oP r j) (oK r j))) 0 = rS r (nn (rPs r (oP r j) (oK r j))) 0 from ?_]
      · exact h
      · have q := hr.st hj
        obtain ⟨c1, c2, c3, c4, c5⟩ := hr.op hj
        by_cases hst : rO r j 3 = 1
        · have := (c4.2.1 _ (q hst).2.1).1.toN (by omega) (by omega)
          have h5 : nn (rPs r (oP r j) (oK r j)) ≤ 5 := this.2.1
          exact rel1_n (by omega)
        · contradiction
  · have hsc := hr.sc
    refine SI.same rel1_s (hr.sta hq) (rel1_n (by omega)) (rel1_n (by omega)) (rel1_n (by omega)) (fun hw => ?_)
    obtain ⟨w1, w2, w3, w4, w5, w6⟩ := (hr.sta hq).w hw
    have hne : nn (rS r q 0) ≠ i := fun e => by rw [e, h0] at w4; exact absurd w4 (by decide)
    exact ⟨fun w hw9 => rel1_o (by omega) (Or.inl hne), (hr.op w2).2.2.1, (hr.st w2 w4).2.2⟩
/-- the release of what has come, as far as the rope bears it -/
def relF : Row → Int32 → List (Nat × Int32) → Row
  | r, _, [] => r
  | r, load, (x, s) :: t => if rO r x 3 = 0 ∧ s - r 5 ≤ r 0 then (if r 7 < load + wk r x then r else relF (rel1 r x (s - r 5)) (load + wk r x) t) else relF r load t
def rels (r : Row) : Row := relF r (ropeL r) (schF r)
/-- all but the reference's own rows is as it was -/
def mfr (σ σ1 : iM) : Prop := ∀ k i j, ¬ (k = 8 ∧ (i = 58 ∨ i = 63 ∨ i = 64 ∨ i = 65)) → ¬ (k = 7 ∧ i = 0 ∧ j = 19) → σ1 k i j = σ k i j
theorem mfr.rfl {σ : iM} : mfr σ σ := fun _ _ _ _ _ => Eq.refl _
theorem mfr.trans {σ σ1 σ2 : iM} (h1 : mfr σ σ1) (h2 : mfr σ1 σ2) : mfr σ σ2 := fun k i j a b => (h2 k i j a b).trans (h1 k i j a b)
theorem mfr.S {σ : iM} {a b c : Row} {n : Int32} : mfr σ (mS σ a b c n) := fun k i j h1 h2 => by
  simp only [mS]
  rw [if_neg (fun q => h1 ⟨q.1, by omega⟩), if_neg (fun q => h1 ⟨q.1, by omega⟩), if_neg (fun q => h1 ⟨q.1, by omega⟩), if_neg h2]
theorem mfr.R {σ : iM} {r : Row} : mfr σ (mR σ 58 r) := fun k i j h1 h2 => by
  simp only [mR]
  rw [if_neg (fun q => h1 ⟨q.1, by omega⟩)]
theorem mR_a {σ : iM} {r : Row} {a : Nat} (h : a ≠ 58) : mR σ 58 r 8 a = σ 8 a := by funext j; exact mR_ne (by omega)
theorem mR_7 {σ : iM} {r : Row} {i j : Nat} : mR σ 58 r 7 i j = σ 7 i j := mR_ne (by omega)
theorem e_rel {σ : iM} {a b c : Row} {Q : iRes → Prop} (F : List (Nat × Int32)) (hF : rF a b F 0) (hl : F.length ≤ 24) :
    ∀ (t v : List (Nat × Int32)) (r' : Row) (load : Int32) (d3 d4 : Option iV), F = v ++ t → RI r' → (∀ q ∈ t, q.1 < OM r' ∧ (r' 0).toInt ≤ q.2.toInt ∧ q.2.toInt ≤ 70000) → Q (evv (mR (mS σ a b c (nI F.length)) 58 (relF r' load t))) →
    AtP mX7_releases 11 [some M, some (.inl load), some (.inl (nI v.length)), d3, d4] [] (mR (mS σ a b c (nI F.length)) 58 r') Q := by
  intro t
  induction t with
  | nil =>
    intro v r' load d3 d4 h1 h2 h3 hQ
    rw [List.append_nil] at h1
    subst h1
    refine AtP.Bt rfl (by rw [mR_7, mS_n]; exact (nI_leI (by omega) (by omega)).mpr (Nat.le_refl _)) ?_
    exact AtP.R rfl (hQ)
  | cons y t ih =>
    obtain ⟨x, s⟩ := y
    intro v r' load d3 d4 h1 h2 h3 hQ
    have hlen : F.length = v.length + t.length + 1 := by rw [h1]; simp; omega
    have hx : x < OM r' ∧ (r' 0).toInt ≤ s.toInt ∧ s.toInt ≤ 70000 := h3 (x, s) List.mem_cons_self
    have hom := h2.om
    have h5 := h2.2.2.2.2.2.1
    have h00 := h2.1
    have hsub : (s - r' 5).toInt = s.toInt - (r' 5).toInt := fb_subI (by omega) (by omega)
    have hg := rF_get a b F 0 v.length x s hF (by rw [h1, List.getElem?_append_right (Nat.le_refl _), Nat.sub_self]; rfl)
    rw [Nat.zero_add] at hg
    refine AtP.Bf rfl (by rw [mR_7, mS_n]; exact fun h => absurd ((nI_leI (by omega) (by omega)).mp h) (by omega)) ?_
    refine AtP.N rfl (by exact v63 _ (by omega)) ?_
    rw [mR_a (by omega), mS_a, nI_clamp (by omega), hg.1]
    refine AtP.N rfl (by exact v64 _ (by omega)) ?_
    rw [mR_a (by omega), mS_b, nI_clamp (by omega), hg.2]
    refine AtP.N rfl (v58 5 (by omega)) ?_
    rw [mR_at, t5]
    refine AtP.Ci rfl (e_order x 3 (by omega) (by omega) _) ?_
    rw [mR_at]
    have hF2 : F = (v ++ [(x, s)]) ++ t := by rw [h1]; simp
    have hlen2 : (v ++ [(x, s)]).length = v.length + 1 := by simp
    rw [relF] at hQ
    refine AtP.B rfl (fun hs => ?_) (fun hs => ?_)
    · refine AtP.N rfl (v58 0 (by omega)) ?_
      rw [mR_at, t0]
      refine AtP.B rfl (fun ht => ?_) (fun ht => ?_)
      · rw [if_pos ⟨hs, ht⟩] at hQ
        have hwk := e_workAtDrum (σ := mR (mS σ a b c (nI F.length)) 58 r') (by rw [mR_at]; exact h2) (i := x) (by rw [mR_at]; exact hx.1)
        rw [mR_at] at hwk
        refine AtP.Ci rfl (hwk) ?_
        refine AtP.N rfl (v58 7 (by omega)) ?_
        rw [mR_at, t7]
        refine AtP.B rfl (fun hrp => ?_) (fun hrp => ?_)
        · rw [if_neg (le_nlt hrp)] at hQ
          have hre := e_release (σ := mR (mS σ a b c (nI F.length)) 58 r') (i := x) (by omega) (s - r' 5)
          rw [mR_at, mR_mR] at hre
          refine AtP.Cv rfl (hre) ?_
          refine AtP.J rfl ?_
          rw [nI_1, ← hlen2]
          rw [fa_le] at ht
          refine ih (v ++ [(x, s)]) _ _ _ _ hF2 (h2.rel1R hx.1 hs ⟨by omega, by omega⟩) (fun q hq => ?_) hQ
          have := h3 q (List.mem_cons_of_mem _ hq)
          rw [rel1_s.om, rel1_n (by omega)]
          exact this
        · rw [if_pos (fa_of_nle hrp)] at hQ
          exact AtP.R rfl (hQ)
      · rw [if_neg (fun q => ht q.2)] at hQ
        refine AtP.J rfl ?_
        refine AtP.J rfl ?_
        rw [nI_1, ← hlen2]
        exact ih (v ++ [(x, s)]) _ _ _ _ hF2 h2 (fun q hq => h3 q (List.mem_cons_of_mem _ hq)) hQ
    · rw [if_neg (fun q => hs q.1)] at hQ
      refine AtP.J rfl ?_
      rw [nI_1, ← hlen2]
      exact ih (v ++ [(x, s)]) _ _ _ _ hF2 h2 (fun q hq => h3 q (List.mem_cons_of_mem _ hq)) hQ
theorem e_releases {σ : iM} (hr : RI (σ 8 58)) : EvP mX7_releases [M] σ (fun r => ∃ σ1, r = evv σ1 ∧ σ1 8 58 = rels (σ 8 58) ∧ mfr σ σ1) := by
  obtain ⟨om1, om2⟩ := hr.om
  show AtP mX7_releases 0 [some M, none, none, none, none] [] σ _
  refine AtP.CvP rfl (e_lays hr) (fun σ9 h9 => ?_)
  obtain ⟨a, b, c, h1, h2, rfl⟩ := h9
  have hrp := e_ropeNow (σ := mS σ a b c (nI (schF (σ 8 58)).length)) (by rw [mS_58]; exact hr)
  rw [mS_58] at hrp
  refine AtP.Ci rfl (hrp) ?_
  refine AtP.F 11 [some M, some (.inl (ropeL (σ 8 58))), some (.inl (nI 0)), none, none] [] _ rfl ?_
  have hst : mS σ a b c (nI (schF (σ 8 58)).length) = mR (mS σ a b c (nI (schF (σ 8 58)).length)) 58 (σ 8 58) := by
    conv => lhs; rw [← mR_self (σ := mS σ a b c (nI (schF (σ 8 58)).length)) (a := 58), mS_58]
  rw [hst]
  have hlen := schL_len (σ 8 58) (OM (σ 8 58))
  have hl2 := schF_len (σ 8 58)
  refine e_rel (schF (σ 8 58)) h1 (by omega) (schF (σ 8 58)) [] (σ 8 58) _ _ _ rfl hr (fun q hq => ?_) ⟨_, rfl, ?_, ?_⟩
  · obtain ⟨x, s⟩ := q
    have := schF_b hr hq
    exact ⟨(schF_mem hq).1, this.1, this.2⟩
  · rw [mR_at]; rfl
  · exact mfr.S.trans mfr.R
end
section
/-! ===== rows stay good: release, begin, work, finish, see ===== -/
theorem relF_ok {m : Nat → Prop} : ∀ (t : List (Nat × Int32)) (r : Row) (load : Int32), RIg m r → (∀ q ∈ t, q.1 < OM r ∧ (r 0).toInt ≤ q.2.toInt ∧ q.2.toInt ≤ 70000) → RIg m (relF r load t) ∧ samB r (relF r load t) ∧ ∀ n, n < 131 → relF r load t n = r n := by
  intro t
  induction t with
  | nil => intro r load hr _; exact ⟨hr, samB.rfl, fun _ _ => rfl⟩
  | cons y t ih =>
    obtain ⟨x, s⟩ := y
    intro r load hr h3
    have hx : x < OM r ∧ (r 0).toInt ≤ s.toInt ∧ s.toInt ≤ 70000 := h3 (x, s) List.mem_cons_self
    have h5 := hr.2.2.2.2.2.1
    have h00 := hr.1
    have hsub : (s - r 5).toInt = s.toInt - (r 5).toInt := fb_subI (by omega) (by omega)
    rw [relF]
    by_cases hc : rO r x 3 = 0 ∧ s - r 5 ≤ r 0
    · rw [if_pos hc]
      by_cases hl : r 7 < load + wk r x
      · rw [if_pos hl]; exact ⟨hr, samB.rfl, fun _ _ => rfl⟩
      · rw [if_neg hl]
        have ht := hc.2
        rw [fa_le] at ht
        have h2 := ih (rel1 r x (s - r 5)) (load + wk r x) (hr.rel1R hx.1 hc.1 ⟨by omega, by omega⟩) (fun q hq => by rw [rel1_s.om, rel1_n (by omega)]; exact h3 q (List.mem_cons_of_mem _ hq))
        exact ⟨h2.1, rel1_s.trans h2.2.1, fun n hn => (h2.2.2 n hn).trans (rel1_n hn)⟩
    · rw [if_neg hc]
      exact ih r load hr (fun q hq => h3 q (List.mem_cons_of_mem _ hq))
theorem rels_ok {m : Nat → Prop} {r : Row} (hr : RIg m r) : RIg m (rels r) ∧ samB r (rels r) ∧ ∀ n, n < 131 → rels r n = r n := by
  refine relF_ok (schF r) r (ropeL r) hr (fun q hq => ?_)
  obtain ⟨x, s⟩ := q
  have := schF_b hr hq
  exact ⟨(schF_mem hq).1, this.1, this.2⟩
theorem begR_o {r : Row} {q i j w : Nat} (hq : q < 6) (hw : w < 14) (h : j ≠ i ∨ (w ≠ 6 ∧ w ≠ 7 ∧ w ≠ 10)) : rO (begR r q i) j w = rO r j w := by
  show begR r q i (131 + 14 * j + w) = _
  unfold begR
  dsimp only
  split <;> split <;> repeat (rw [upd_ne' (by omega)])
theorem begR_n {r : Row} {q i n : Nat} (hn : n < 131) (h : n ≠ 11 + 7 * q ∧ n ≠ 11 + 7 * q + 1 ∧ n ≠ 11 + 7 * q + 4) : begR r q i n = r n := by
  unfold begR
  dsimp only
  split <;> split <;> repeat (rw [upd_ne' (by omega)])
theorem begR_6 {r : Row} {q i : Nat} (hq : q < 6) : rO (begR r q i) i 6 = 1 := by
  show begR r q i (131 + 14 * i + 6) = _
  unfold begR
  dsimp only
  split <;> split <;> repeat (first | rw [upd_eq'] | rw [upd_ne' (by omega)])
theorem begR_7 {r : Row} {q i : Nat} (hq : q < 6) : rO (begR r q i) i 7 = if rO r i 0 = rS r q 1 then wH r i else wH r i + rS r q 5 := by
  show begR r q i (131 + 14 * i + 7) = _
  unfold begR
  dsimp only
  by_cases hd : nI q = r 2
  · rw [if_pos hd, upd_ne' (by omega), upd_eq']
  · rw [if_neg hd, upd_eq']
theorem begR_10 {r : Row} {q i : Nat} (hq : q < 6) : rO (begR r q i) i 10 = if nI q = r 2 then r 0 else rO r i 10 := by
  show begR r q i (131 + 14 * i + 10) = _
  unfold begR
  dsimp only
  by_cases hd : nI q = r 2
  · rw [if_pos hd, if_pos hd, upd_eq']
  · rw [if_neg hd, if_neg hd]
    split <;> repeat (rw [upd_ne' (by omega)])
theorem begR_s0 {r : Row} {q i : Nat} (hq : q < 6) : rS (begR r q i) q 0 = nI i := by
  show begR r q i (11 + 7 * q + 0) = _
  unfold begR
  dsimp only
  split <;> split <;> repeat (first | rw [upd_eq'] | rw [upd_ne' (by omega)])
theorem begR_s {r : Row} {q i : Nat} (hq : q < 6) : samB r (begR r q i) := fun _ hn => begR_n (by omega) (by omega)
theorem nI_m1 {n : Nat} (h : n < 2 ^ 31) : ¬ nI n = -1 := by
  intro x
  have y := congrArg Int32.toInt x
  rw [nI_toInt h] at y
  exact absurd y (by show ¬ (n : Int) = -1; omega)
/-- where a released order stands -/
theorem RIg.at {m : Nat → Prop} {r : Row} (hr : RIg m r) {j : Nat} (hj : j < OM r) (hs : rO r j 3 = 1) : nn (rPs r (oP r j) (oK r j)) < SC r ∧ nn (rPs r (oP r j) (oK r j)) < 6 ∧ rPs r (oP r j) (oK r j) = nI (nn (rPs r (oP r j) (oK r j))) := by
  obtain ⟨c1, c2, c3, c4, c5⟩ := hr.op hj
  have h1 := c4.2.1 _ (hr.st hj hs).2.1
  have h2 := h1.1.toN (by omega) (by omega)
  exact ⟨h1.2.1, Nat.lt_of_lt_of_le h1.2.1 hr.sc.2.1, h2.1⟩
theorem RIg.begRR {m : Nat → Prop} {r : Row} (hr : RIg m r) {q i : Nat} (hq : q < SC r) (hi : i < OM r) (hw : wts r i q) (h0 : rS r q 0 = -1) : RIg m (begR r q i) := by
  have hpm := hr.pm
  have hsc := hr.sc
  have hq6 : q < 6 := by omega
  obtain ⟨a1, a2, a3, a4, a5⟩ := hr.op hi
  have hW := hr.wHB hi hw.1
  have hset := (hr.sta hq).2.1
  refine hr.of (begR_s hq6) (by rw [begR_n (by omega) (by omega)]; exact hr.1) (fun j hj => ?_) (fun q' hq' => ?_)
  · by_cases e : j = i
    · subst e
      have o1 := a5.k hw.1
      obtain ⟨b0, b1, b2, b3, b5, b9, b10, b12, -⟩ := a5
      have eP : oP (begR r q j) j = oP r j := by unfold oP; rw [begR_o hq6 (by omega) (by omega)]
      have eK : oK (begR r q j) j = oK r j := by unfold oK; rw [begR_o hq6 (by omega) (by omega)]
      unfold OIg
      rw [eP, (begR_s hq6).pm, begR_10 hq6, begR_o (w := 0) hq6 (by omega) (by omega), begR_o (w := 1) hq6 (by omega) (by omega), begR_o (w := 2) hq6 (by omega) (by omega), begR_o (w := 5) hq6 (by omega) (by omega), begR_o (w := 9) hq6 (by omega) (by omega), begR_o (w := 12) hq6 (by omega) (by omega), begR_o (w := 3) hq6 (by omega) (by omega)]
      refine ⟨b0, b1, b2, b3, b5, b9, ?_, b12, Or.inr (Or.inr (Or.inl ⟨hw.1, ?_⟩))⟩
      · split
        · exact hr.1
        · exact b10
      · have hk6 := (hr.st hi hw.1).2.2
        have hst : nn (rPs r (oP r j) (oK r j)) = q := by rw [hw.2.2]; exact nn_nI (by omega)
        unfold OI1
        rw [eP, eK, (begR_s hq6).sn a3, (begR_s hq6).ps a3 hk6, begR_6 hq6, begR_7 hq6, begR_o (w := 4) hq6 (by omega) (by omega), begR_o (w := 8) hq6 (by omega) (by omega), begR_o (w := 11) hq6 (by omega) (by omega), hst, begR_s0 hq6]
        refine ⟨o1.1, o1.2.1, o1.2.2.1, o1.2.2.2.1, Or.inr ⟨rfl, ?_, ?_, rfl⟩⟩
        · split
          · exact ⟨by omega, by omega⟩
          · have : (wH r j + rS r q 5).toInt = (wH r j).toInt + (rS r q 5).toInt := fb_addI (by omega) (by omega)
            exact ⟨by omega, by omega⟩
        · intro _
          split
          · exact hW.1
          · have : (wH r j + rS r q 5).toInt = (wH r j).toInt + (rS r q 5).toInt := fb_addI (by omega) (by omega)
            omega
    · refine OIg.same (begR_s hq6) hpm.2 (hr.ord hj) (fun w hw => begR_o hq6 hw (Or.inl e)) (fun hs _ h => ?_) (fun h => (hr.st hj h).2.2)
      obtain ⟨p1, p2, -⟩ := hr.at hj hs
      have hne : nn (rPs r (oP r j) (oK r j)) ≠ q := fun x => by rw [x, h0] at h; exact nI_m1 (by have := hr.om; omega) h.symm
      rw [show rS (begR r q i) (nn (rPs r (oP r j) (oK r j))) 0 = rS r (nn (rPs r (oP r j) (oK r j))) 0 from begR_n (by omega) (by omega)]
      exact h
  · by_cases e : q' = q
    · subst e
      have hS := hr.sta hq'
      have hk6 := (hr.st hi hw.1).2.2
      have eP : oP (begR r q' i) i = oP r i := by unfold oP; rw [begR_o hq6 (by omega) (by omega)]
      have eK : oK (begR r q' i) i = oK r i := by unfold oK; rw [begR_o hq6 (by omega) (by omega)]
      have hnn : nn (nI i) = i := nn_nI (by omega)
      unfold SI
      rw [begR_s0 hq6, (begR_s hq6).om, hnn, eP, eK, begR_6 hq6, begR_o (w := 3) hq6 (by omega) (by omega), (begR_s hq6).ps a3 hk6, show rS (begR r q' i) q' 2 = rS r q' 2 from begR_n (by omega) (by omega), show rS (begR r q' i) q' 5 = rS r q' 5 from begR_n (by omega) (by omega)]
      refine ⟨hS.1, hS.2.1, Or.inr ⟨?_, hi, hw.1, rfl, hw.2.2⟩⟩
      rw [inR, nI_toInt (by omega)]
      omega
    · refine SI.same (begR_s hq6) (hr.sta hq') (begR_n (by omega) (by omega)) (begR_n (by omega) (by omega)) (begR_n (by omega) (by omega)) (fun hn => ?_)
      obtain ⟨w1, w2, w3, w4, w5, w6⟩ := (hr.sta hq').w hn
      have hne : nn (rS r q' 0) ≠ i := fun x => by rw [x, hw.2.1] at w5; exact absurd w5 (by decide)
      exact ⟨fun w hw9 => begR_o hq6 (by omega) (Or.inl hne), (hr.op w2).2.2.1, (hr.st w2 w4).2.2⟩
theorem RIg.begRI {m : Nat → Prop} {r : Row} (hr : RIg m r) (h6 : RI r) {q : Nat} (hq : q < SC r) : RIg m (beg r q) ∧ samB r (beg r q) ∧ beg r q 0 = r 0 := by
  unfold beg
  have hsc := hr.sc
  by_cases h : rS r q 0 = -1 ∧ ¬ dnn r q ∧ ¬ cho r q (OM r) = -1
  · rw [if_pos h]
    rcases cho_ok h6 q (OM r) (Nat.le_refl _) with a | ⟨i, a, b, c⟩
    · exact absurd a h.2.2
    · have : nn (cho r q (OM r)) = i := by rw [b]; exact nn_nI (by have := hr.om; omega)
      rw [this]
      exact ⟨hr.begRR hq a c h.1, begR_s (by omega), begR_n (by omega) (by omega)⟩
  · rw [if_neg h]
    exact ⟨hr, samB.rfl, rfl⟩
/-- the stations begin, one after the other -/
def begN (r : Row) : Nat → Row
  | 0 => r
  | n + 1 => beg (begN r n) n
theorem begN_ok {r : Row} (hr : RI r) : ∀ n, n ≤ SC r → RI (begN r n) ∧ samB r (begN r n) ∧ begN r n 0 = r 0 := by
  intro n
  induction n with
  | zero => intro _; exact ⟨hr, samB.rfl, rfl⟩
  | succ n ih =>
    intro hn
    obtain ⟨a, b, c⟩ := ih (by omega)
    obtain ⟨a', b', c'⟩ := a.begRI a (q := n) (by rw [b.sc]; omega)
    exact ⟨a', b.trans b', c'.trans c⟩
/-- what the drum has waited in vain -/
def stvR (r : Row) : Row := upd r 10 (r 10 + if isStv r then 1 else 0)
theorem upd10_ok {m : Nat → Prop} {r : Row} (hr : RIg m r) (x : Int32) : RIg m (upd r 10 x) ∧ samB r (upd r 10 x) ∧ upd r 10 x 0 = r 0 := by
  have hsc := hr.sc
  have hs : samB r (upd r 10 x) := fun n hn => upd_ne' (by omega)
  refine ⟨hr.of hs (by rw [upd_ne' (by omega)]; exact hr.1) (fun j hj => ?_) (fun q hq => ?_), hs, upd_ne' (by omega)⟩
  · refine OIg.same hs hr.pm.2 (hr.ord hj) (fun w hw => upd_ne' (by omega)) (fun _ _ h => ?_) (fun h => (hr.st hj h).2.2)
    rw [show rS (upd r 10 x) (nn (rPs r (oP r j) (oK r j))) 0 = rS r (nn (rPs r (oP r j) (oK r j))) 0 from upd_ne' (by omega)]
    exact h
  · refine SI.same hs (hr.sta hq) (upd_ne' (by omega)) (upd_ne' (by omega)) (upd_ne' (by omega)) (fun hn => ?_)
    obtain ⟨w1, w2, w3, w4, w5, w6⟩ := (hr.sta hq).w hn
    exact ⟨fun w hw9 => upd_ne' (by omega), (hr.op w2).2.2.1, (hr.st w2 w4).2.2⟩
theorem upd0_ok {m : Nat → Prop} {r : Row} (hr : RIg m r) (x : Int32) (hx : inR x 0 40000) : RIg m (upd r 0 x) ∧ samB r (upd r 0 x) := by
  have hsc := hr.sc
  have hs : samB r (upd r 0 x) := fun n hn => upd_ne' (by omega)
  refine ⟨hr.of hs (by rw [upd_eq']; exact hx) (fun j hj => ?_) (fun q hq => ?_), hs⟩
  · refine OIg.same hs hr.pm.2 (hr.ord hj) (fun w hw => upd_ne' (by omega)) (fun _ _ h => ?_) (fun h => (hr.st hj h).2.2)
    rw [show rS (upd r 0 x) (nn (rPs r (oP r j) (oK r j))) 0 = rS r (nn (rPs r (oP r j) (oK r j))) 0 from upd_ne' (by omega)]
    exact h
  · refine SI.same hs (hr.sta hq) (upd_ne' (by omega)) (upd_ne' (by omega)) (upd_ne' (by omega)) (fun hn => ?_)
    obtain ⟨w1, w2, w3, w4, w5, w6⟩ := (hr.sta hq).w hn
    exact ⟨fun w hw9 => upd_ne' (by omega), (hr.op w2).2.2.1, (hr.st w2 w4).2.2⟩
end
section
/-! ===== rows stay good: work, finish, see; a tick ===== -/
theorem RIg.weak {m m' : Nat → Prop} {r : Row} (hr : RIg m r) (h : ∀ q, q < SC r → m' q → m q) : RIg m' r := by
  obtain ⟨a0, a1, a2, a3, a4, a5, a6, a7, a8, a9, b1, b2, b3⟩ := id hr
  refine ⟨a0, a1, a2, a3, a4, a5, a6, a7, a8, a9, b1, fun i hi => ?_, b3⟩
  obtain ⟨c0, c1, c2, c3, c5, c9, c10, c12, c⟩ := b2 i hi
  refine ⟨c0, c1, c2, c3, c5, c9, c10, c12, ?_⟩
  rcases c with c | c | c | c
  · exact Or.inl c
  · exact Or.inr (Or.inl c)
  · refine Or.inr (Or.inr (Or.inl ⟨c.1, c.2.1, c.2.2.1, c.2.2.2.1, c.2.2.2.2.1, ?_⟩))
    rcases c.2.2.2.2.2 with d | d
    · exact Or.inl d
    · exact Or.inr ⟨d.1, d.2.1, fun x => d.2.2.1 (h _ (hr.at hi c.1).1 x), d.2.2.2⟩
  · exact Or.inr (Or.inr (Or.inr c))
/-- an order that is worked on -/
theorem RIg.wkd {m : Nat → Prop} {r : Row} (hr : RIg m r) {i : Nat} (hi : i < OM r) (h3 : rO r i 3 = 1) (h6 : rO r i 6 = 1) : inR (rO r i 7) 0 1050 ∧ (m (nn (rPs r (oP r i) (oK r i))) → 1 ≤ (rO r i 7).toInt) ∧ rS r (nn (rPs r (oP r i) (oK r i))) 0 = nI i := by
  have := (hr.ord hi).k h3
  rcases this.2.2.2.2 with q | q
  · rw [h6] at q; exact absurd q.1 (by decide)
  · exact q.2
theorem wrk_o {r : Row} {q j w : Nat} (hq : q < 6) (hw : w < 14) (h : w ≠ 7 ∨ rS r q 0 = -1 ∨ j ≠ nn (rS r q 0)) : rO (wrk r q) j w = rO r j w := by
  show wrk r q (131 + 14 * j + w) = _
  unfold wrk
  by_cases hc : rS r q 0 = -1 ∨ dnn r q
  · rw [if_pos hc]
  · rw [if_neg hc, upd_ne' (by omega)]
    rcases h with h | h | h
    · rw [upd_ne' (by omega)]
    · exact absurd (Or.inl h) hc
    · rw [upd_ne' (by omega)]
theorem wrk_n {r : Row} {q n : Nat} (hn : n < 131) (h : n ≠ 11 + 7 * q + 3) : wrk r q n = r n := by
  unfold wrk
  by_cases hc : rS r q 0 = -1 ∨ dnn r q
  · rw [if_pos hc]
  · rw [if_neg hc, upd_ne' (by omega), upd_ne' (by omega)]
theorem wrk_s {r : Row} {q : Nat} (hq : q < 6) : samB r (wrk r q) := fun _ hn => wrk_n (by omega) (by omega)
theorem wrk_7 {r : Row} {q : Nat} (hq : q < 6) (hw : ¬ rS r q 0 = -1) : rO (wrk r q) (nn (rS r q 0)) 7 = if dnn r q then rO r (nn (rS r q 0)) 7 else rO r (nn (rS r q 0)) 7 - 1 := by
  show wrk r q (131 + 14 * nn (rS r q 0) + 7) = _
  unfold wrk
  by_cases hd : dnn r q
  · rw [if_pos (Or.inr hd), if_pos hd]
  · rw [if_neg (by rintro (x | x); exact hw x; exact hd x), if_neg hd, upd_ne' (by omega), upd_eq']
theorem RIg.wrkR {m : Nat → Prop} {r : Row} (hr : RIg m r) {q : Nat} (hq : q < SC r) (hm : m q) : RIg (fun x => m x ∧ x ≠ q) (wrk r q) := by
  have hpm := hr.pm
  have hsc := hr.sc
  have hq6 : q < 6 := by omega
  have hr' : RIg (fun x => m x ∧ x ≠ q) r := hr.weak (fun _ _ h => h.1)
  have hS : ∀ q', q' < SC r → SI (wrk r q) q' := by
    intro q' hq'
    refine SI.same (wrk_s hq6) (hr.sta hq') (wrk_n (by omega) (by omega)) (wrk_n (by omega) (by omega)) (wrk_n (by omega) (by omega)) (fun hn => ?_)
    obtain ⟨w1, w2, w3, w4, w5, w6⟩ := (hr.sta hq').w hn
    exact ⟨fun w hw9 => wrk_o hq6 (by omega) (Or.inl (by omega)), (hr.op w2).2.2.1, (hr.st w2 w4).2.2⟩
  refine hr'.of (wrk_s hq6) (by rw [wrk_n (by omega) (by omega)]; exact hr.1) (fun j hj => ?_) hS
  by_cases e : rS r q 0 = -1 ∨ j ≠ nn (rS r q 0)
  · refine OIg.same (wrk_s hq6) hpm.2 (hr'.ord hj) (fun w hw => wrk_o hq6 hw (Or.inr e)) (fun hs _ h => ?_) (fun h => (hr.st hj h).2.2)
    obtain ⟨p1, p2, -⟩ := hr.at hj hs
    rw [show rS (wrk r q) (nn (rPs r (oP r j) (oK r j))) 0 = rS r (nn (rPs r (oP r j) (oK r j))) 0 from wrk_n (by omega) (by omega)]
    exact h
  · have hw : ¬ rS r q 0 = -1 := fun x => e (Or.inl x)
    have ej : j = nn (rS r q 0) := Classical.byContradiction fun x => e (Or.inr x)
    obtain ⟨w1, w2, w3, w4, w5, w6⟩ := (hr.sta hq).w hw
    have h7 := wrk_7 hq6 hw
    rw [← ej] at w1 w2 w3 w4 w5 w6 h7
    obtain ⟨l1, l2, l3⟩ := hr.wkd hj w4 w5
    have hst : nn (rPs r (oP r j) (oK r j)) = q := by rw [w6]; exact nn_nI (by omega)
    rw [hst] at l2 l3
    have l2 := l2 hm
    obtain ⟨a1, a2, a3, a4, a5⟩ := hr.op hj
    have hk6 := (hr.st hj w4).2.2
    have o1 := a5.k w4
    obtain ⟨b0, b1, b2, b3, b5, b9, b10, b12, -⟩ := a5
    have ho : ∀ w, w < 14 → w ≠ 7 → rO (wrk r q) j w = rO r j w := fun w h1 h2 => wrk_o hq6 h1 (Or.inl h2)
    have eP : oP (wrk r q) j = oP r j := by unfold oP; rw [ho 0 (by omega) (by omega)]
    have eK : oK (wrk r q) j = oK r j := by unfold oK; rw [ho 4 (by omega) (by omega)]
    unfold OIg
    rw [eP, (wrk_s hq6).pm, ho 0 (by omega) (by omega), ho 1 (by omega) (by omega), ho 2 (by omega) (by omega), ho 3 (by omega) (by omega), ho 5 (by omega) (by omega), ho 9 (by omega) (by omega), ho 10 (by omega) (by omega), ho 12 (by omega) (by omega)]
    refine ⟨b0, b1, b2, b3, b5, b9, b10, b12, Or.inr (Or.inr (Or.inl ⟨w4, ?_⟩))⟩
    unfold OI1
    rw [eP, eK, (wrk_s hq6).sn a3, (wrk_s hq6).ps a3 hk6, ho 4 (by omega) (by omega), ho 6 (by omega) (by omega), ho 8 (by omega) (by omega), ho 11 (by omega) (by omega), hst, show rS (wrk r q) q 0 = rS r q 0 from wrk_n (by omega) (by omega)]
    refine ⟨o1.1, o1.2.1, o1.2.2.1, o1.2.2.2.1, Or.inr ⟨w5, ?_, fun x => absurd rfl x.2, l3⟩⟩
    rw [h7]
    split
    · exact l1
    · have : (rO r j 7 - 1).toInt = (rO r j 7).toInt - (1 : Int32).toInt := fb_subI (by have : (1 : Int32).toInt = 1 := rfl; omega) (by have : (1 : Int32).toInt = 1 := rfl; omega)
      have h1 : (1 : Int32).toInt = 1 := rfl
      exact ⟨by omega, by omega⟩
def wrkN (r : Row) : Nat → Row
  | 0 => r
  | n + 1 => wrk (wrkN r n) n
theorem wrkN_ok {r : Row} (hr : RI r) : ∀ n, n ≤ SC r → RIg (fun q => n ≤ q) (wrkN r n) ∧ samB r (wrkN r n) ∧ wrkN r n 0 = r 0 := by
  intro n
  induction n with
  | zero => intro _; exact ⟨hr.weak (fun _ _ _ => trivial), samB.rfl, rfl⟩
  | succ n ih =>
    intro hn
    obtain ⟨a, b, c⟩ := ih (by omega)
    have hsc := hr.sc
    have h2 := a.wrkR (q := n) (by rw [b.sc]; omega) (Nat.le_refl n)
    exact ⟨h2.weak (fun q _ h => ⟨Nat.le_of_succ_le h, by omega⟩), b.trans (wrk_s (by omega)), (wrk_n (by omega) (by omega)).trans c⟩
theorem fin4_o {r : Row} {q i j w : Nat} (hq : q < 6) (hw : w < 14) (h : j ≠ i ∨ (w ≠ 6 ∧ w ≠ 4 ∧ w ≠ 5)) : rO (fin4 r q i) j w = rO r j w := by
  show fin4 r q i (131 + 14 * j + w) = _
  unfold fin4
  repeat (rw [upd_ne' (by omega)])
theorem finR_o {r : Row} {q i j w : Nat} (hq : q < 6) (hw : w < 14) (h : j ≠ i ∨ (w ≠ 6 ∧ w ≠ 4 ∧ w ≠ 5 ∧ w ≠ 3 ∧ w ≠ 11)) : rO (finR r q i) j w = rO r j w := by
  show finR r q i (131 + 14 * j + w) = _
  unfold finR
  split
  · rw [upd_ne' (by omega), upd_ne' (by omega)]
    exact fin4_o hq hw (by omega)
  · exact fin4_o hq hw (by omega)
theorem finR_n {r : Row} {q i n : Nat} (hn : n < 131) (h : n ≠ 11 + 7 * q) : finR r q i n = r n := by
  unfold finR fin4
  split <;> repeat (rw [upd_ne' (by omega)])
theorem finR_s {r : Row} {q i : Nat} (hq : q < 6) : samB r (finR r q i) := fun _ hn => finR_n (by omega) (by omega)
theorem finR_s0 {r : Row} {q i : Nat} (hq : q < 6) : rS (finR r q i) q 0 = -1 := by
  show finR r q i (11 + 7 * q + 0) = _
  unfold finR fin4
  split <;> repeat (first | rw [upd_eq'] | rw [upd_ne' (by omega)])
theorem finR_6 {r : Row} {q i : Nat} : rO (finR r q i) i 6 = 0 := by
  show finR r q i (131 + 14 * i + 6) = _
  unfold finR fin4
  split <;> repeat (first | rw [upd_eq'] | rw [upd_ne' (by omega)])
theorem finR_4 {r : Row} {q i : Nat} : rO (finR r q i) i 4 = rO r i 4 + 1 := by
  show finR r q i (131 + 14 * i + 4) = _
  unfold finR fin4
  split <;> repeat (first | rw [upd_eq'] | rw [upd_ne' (by omega)])
theorem finR_5 {r : Row} {q i : Nat} : rO (finR r q i) i 5 = r 0 := by
  show finR r q i (131 + 14 * i + 5) = _
  unfold finR fin4
  split <;> repeat (first | rw [upd_eq'] | rw [upd_ne' (by omega)])
theorem finR_3 {r : Row} {q i : Nat} (hq : q < 6) : rO (finR r q i) i 3 = if rO r i 4 + 1 = rPn r (oP r i) then 2 else rO r i 3 := by
  show finR r q i (131 + 14 * i + 3) = _
  unfold finR fin4
  split <;> repeat (first | rw [upd_eq'] | rw [upd_ne' (by omega)])
theorem finR_11 {r : Row} {q i : Nat} (hq : q < 6) : rO (finR r q i) i 11 = if rO r i 4 + 1 = rPn r (oP r i) then r 0 else rO r i 11 := by
  show finR r q i (131 + 14 * i + 11) = _
  unfold finR fin4
  split <;> repeat (first | rw [upd_eq'] | rw [upd_ne' (by omega)])
theorem RIg.finRR {m : Nat → Prop} {r : Row} (hr : RIg m r) {q i : Nat} (hq : q < SC r) (hi : i < OM r) (h0 : rS r q 0 = nI i) (h3 : rO r i 3 = 1) (h6 : rO r i 6 = 1) (hs : rPs r (oP r i) (oK r i) = nI q) (h7 : rO r i 7 ≤ 0) : RIg (fun x => m x ∨ x = q) (finR r q i) := by
  have hpm := hr.pm
  have hsc := hr.sc
  have hom := hr.om
  have hq6 : q < 6 := by omega
  obtain ⟨l1, l2, l3⟩ := hr.wkd hi h3 h6
  have h7z : rO r i 7 = 0 := by
    rw [fa_le] at h7
    rw [fa_eq]
    have : (0 : Int32).toInt = 0 := rfl
    omega
  obtain ⟨a1, a2, a3, a4, a5⟩ := hr.op hi
  have hk := hr.st hi h3
  have hn := a4.n
  -- the other orders are not worked on at q
  have hoth : ∀ j, j < OM r → j ≠ i → rO r j 3 = 1 → rO r j 6 = 1 → nn (rPs r (oP r j) (oK r j)) ≠ q := by
    intro j hj e c3 c6 x
    have := (hr.wkd hj c3 c6).2.2
    rw [x, h0] at this
    exact e ((nI_eq (by omega) (by omega)).mp this.symm)
  have hr' : ∀ j, j < OM r → j ≠ i → OIg (fun x => m x ∨ x = q) r j := by
    intro j hj e
    obtain ⟨c0, c1, c2, c3, c5, c9, c10, c12, c⟩ := hr.ord hj
    refine ⟨c0, c1, c2, c3, c5, c9, c10, c12, ?_⟩
    rcases c with c | c | c | c
    · exact Or.inl c
    · exact Or.inr (Or.inl c)
    · refine Or.inr (Or.inr (Or.inl ⟨c.1, c.2.1, c.2.2.1, c.2.2.2.1, c.2.2.2.2.1, ?_⟩))
      rcases c.2.2.2.2.2 with d | d
      · exact Or.inl d
      · exact Or.inr ⟨d.1, d.2.1, fun x => x.elim d.2.2.1 (fun y => absurd y (hoth j hj e c.1 d.1)), d.2.2.2⟩
    · exact Or.inr (Or.inr (Or.inr c))
  have base : RIg (fun _ => False) r := hr.weak (fun _ _ h => h.elim)
  have key : ∀ j, j < OM r → OIg (fun x => m x ∨ x = q) (finR r q i) j := by
    intro j hj
    by_cases e : j = i
    · subst e
      have o1 := a5.k h3
      obtain ⟨b0, b1, b2, b3, b5, b9, b10, b12, -⟩ := a5
      have eP : oP (finR r q j) j = oP r j := by unfold oP; rw [finR_o hq6 (by omega) (by omega)]
      have e41 : rO r j 4 + 1 = nI (oK r j + 1) := by rw [hk.1]; exact nI_1 _
      have eK : oK (finR r q j) j = oK r j + 1 := by unfold oK; rw [finR_4, e41]; exact nn_nI (by omega)
      unfold OIg
      rw [eP, (finR_s hq6).pm, finR_5, finR_3 hq6, finR_o (w := 0) hq6 (by omega) (by omega), finR_o (w := 1) hq6 (by omega) (by omega), finR_o (w := 2) hq6 (by omega) (by omega), finR_o (w := 9) hq6 (by omega) (by omega), finR_o (w := 10) hq6 (by omega) (by omega), finR_o (w := 12) hq6 (by omega) (by omega)]
      refine ⟨b0, b1, b2, b3, hr.1, b9, b10, b12, ?_⟩
      by_cases hl : rO r j 4 + 1 = rPn r (oP r j)
      · rw [if_pos hl]
        refine Or.inr (Or.inr (Or.inr ⟨rfl, ?_⟩))
        unfold OI2
        rw [eP, finR_4, finR_6, finR_11 hq6, if_pos hl, (finR_s hq6).pn a3, finR_o (w := 7) hq6 (by omega) (by omega), finR_o (w := 8) hq6 (by omega) (by omega)]
        exact ⟨hl, rfl, h7z, o1.2.2.1, hr.1⟩
      · rw [if_neg hl]
        refine Or.inr (Or.inr (Or.inl ⟨h3, ?_⟩))
        have hlt : oK r j + 1 < sN r (oP r j) := by
          have : oK r j + 1 ≠ sN r (oP r j) := fun x => hl (by rw [e41, hn.1, x])
          omega
        unfold OI1
        rw [eP, eK, (finR_s hq6).sn a3, finR_4, finR_6, finR_11 hq6, if_neg hl, finR_o (w := 7) hq6 (by omega) (by omega), finR_o (w := 8) hq6 (by omega) (by omega)]
        refine ⟨?_, hlt, o1.2.2.1, o1.2.2.2.1, Or.inl ⟨rfl, h7z⟩⟩
        rw [e41, inR, nI_toInt (by omega)]
        omega
    · refine OIg.same (finR_s hq6) hpm.2 (hr' j hj e) (fun w hw => finR_o hq6 hw (Or.inl e)) (fun c3 c6 h => ?_) (fun h => (hr.st hj h).2.2)
      obtain ⟨p1, p2, -⟩ := hr.at hj c3
      have := hoth j hj e c3 c6
      rw [show rS (finR r q i) (nn (rPs r (oP r j) (oK r j))) 0 = rS r (nn (rPs r (oP r j) (oK r j))) 0 from finR_n (by omega) (by omega)]
      exact h
  have hS : ∀ q', q' < SC r → SI (finR r q i) q' := by
    intro q' hq'
    by_cases e : q' = q
    · subst e
      have hS := hr.sta hq'
      unfold SI
      rw [finR_s0 hq6, show rS (finR r q' i) q' 2 = rS r q' 2 from finR_n (by omega) (by omega), show rS (finR r q' i) q' 5 = rS r q' 5 from finR_n (by omega) (by omega)]
      exact ⟨hS.1, hS.2.1, Or.inl rfl⟩
    · refine SI.same (finR_s hq6) (hr.sta hq') (finR_n (by omega) (by omega)) (finR_n (by omega) (by omega)) (finR_n (by omega) (by omega)) (fun hn9 => ?_)
      obtain ⟨w1, w2, w3, w4, w5, w6⟩ := (hr.sta hq').w hn9
      have hne : nn (rS r q' 0) ≠ i := fun x => by
        rw [x, hs] at w6
        exact e ((nI_eq (by omega) (by omega)).mp w6).symm
      exact ⟨fun w hw9 => finR_o hq6 (by omega) (Or.inl hne), (hr.op w2).2.2.1, (hr.st w2 w4).2.2⟩
  exact hr.of (finR_s hq6) (by rw [finR_n (by omega) (by omega)]; exact hr.1) key hS
theorem RIg.finRI {m : Nat → Prop} {r : Row} (hr : RIg m r) {q : Nat} (hq : q < SC r) : RIg (fun x => m x ∨ x = q) (fin r q) ∧ samB r (fin r q) ∧ fin r q 0 = r 0 := by
  have hsc := hr.sc
  unfold fin
  by_cases h : isFin r q
  · rw [if_pos h]
    obtain ⟨w1, w2, w3, w4, w5, w6⟩ := (hr.sta hq).w h.1
    exact ⟨hr.finRR hq w2 w1 w4 w5 w6 h.2, finR_s (by omega), finR_n (by omega) (by omega)⟩
  · rw [if_neg h]
    refine ⟨?_, samB.rfl, rfl⟩
    obtain ⟨a0, a1, a2, a3, a4, a5, a6, a7, a8, a9, b1, b2, b3⟩ := id hr
    refine ⟨a0, a1, a2, a3, a4, a5, a6, a7, a8, a9, b1, fun i hi => ?_, b3⟩
    obtain ⟨c0, c1, c2, c3, c5, c9, c10, c12, c⟩ := b2 i hi
    refine ⟨c0, c1, c2, c3, c5, c9, c10, c12, ?_⟩
    rcases c with c | c | c | c
    · exact Or.inl c
    · exact Or.inr (Or.inl c)
    · refine Or.inr (Or.inr (Or.inl ⟨c.1, c.2.1, c.2.2.1, c.2.2.2.1, c.2.2.2.2.1, ?_⟩))
      rcases c.2.2.2.2.2 with d | d
      · exact Or.inl d
      · refine Or.inr ⟨d.1, d.2.1, fun x => x.elim d.2.2.1 (fun y => ?_), d.2.2.2⟩
        have hl := d.2.2.2
        rw [y] at hl
        have hom := hr.om
        have hw : ¬ rS r q 0 = -1 := fun z => by rw [z] at hl; exact nI_m1 (by omega) hl.symm
        have hnn : nn (rS r q 0) = i := by rw [hl]; exact nn_nI (by omega)
        have h7 : ¬ rO r i 7 ≤ 0 := fun z => h ⟨hw, by rw [hnn]; exact z⟩
        have h8 := fa_of_nle h7
        rw [fa_lt] at h8
        have : (0 : Int32).toInt = 0 := rfl
        omega
    · exact Or.inr (Or.inr (Or.inr c))
def finN (r : Row) : Nat → Row
  | 0 => r
  | n + 1 => fin (finN r n) n
theorem finN_ok {r : Row} (hr : RIg (fun _ => False) r) : ∀ n, n ≤ SC r → RIg (fun q => q < n) (finN r n) ∧ samB r (finN r n) ∧ finN r n 0 = r 0 := by
  intro n
  induction n with
  | zero => intro _; exact ⟨hr.weak (fun q _ h => absurd h (Nat.not_lt_zero q)), samB.rfl, rfl⟩
  | succ n ih =>
    intro hn
    obtain ⟨a, b, c⟩ := ih (by omega)
    obtain ⟨a', b', c'⟩ := a.finRI (q := n) (by rw [b.sc]; omega)
    exact ⟨a'.weak (fun q _ h => by have : q < n + 1 := h; by_cases e : q = n; exact Or.inr e; exact Or.inl (show q < n by omega)), b.trans b', c'.trans c⟩
theorem seeR_o {r : Row} {i j w : Nat} (hq : nn (rPs r (oP r i) (oK r i)) < 6) (hw : w < 14) (h : j ≠ i ∨ w ≠ 13) : rO (seeR r i) j w = rO r j w := by
  show seeR r i (131 + 14 * j + w) = _
  unfold seeR
  rw [upd_ne' (by omega), upd_ne' (by omega)]
theorem seeR_n {r : Row} {i n : Nat} (hn : n < 131) (h : n ≠ 11 + 7 * nn (rPs r (oP r i) (oK r i)) + 6) : seeR r i n = r n := by
  unfold seeR
  rw [upd_ne' (by omega), upd_ne' (by omega)]
theorem RIg.seeRI {m : Nat → Prop} {r : Row} (hr : RIg m r) {i : Nat} (hi : i < OM r) : RIg m (see r i) ∧ samB r (see r i) ∧ see r i 0 = r 0 := by
  have hsc := hr.sc
  unfold see
  by_cases h : rO r i 13 = -1 ∧ 2 ≤ zon r i
  · rw [if_pos h]
    have h3 := zon_rel h.2
    obtain ⟨s1, s2, s3⟩ := hr.at hi h3
    have hs : samB r (seeR r i) := fun n hn => seeR_n (by omega) (by omega)
    refine ⟨?_, hs, seeR_n (by omega) (by omega)⟩
    refine hr.of hs (by rw [seeR_n (by omega) (by omega)]; exact hr.1) (fun j hj => ?_) (fun q hq => ?_)
    · have o := hr.ord hj
      -- a field that no premise speaks of
      have hf : ∀ w, w < 13 → rO (seeR r i) j w = rO r j w := fun w hw => seeR_o s2 (by omega) (Or.inr (by omega))
      obtain ⟨a0, a1, a2, a3, a5, a9, a10, a12, b⟩ := o
      obtain ⟨q1, q2, q3, q4, q5⟩ := hr.op hj
      have eP : oP (seeR r i) j = oP r j := by unfold oP; rw [hf 0 (by omega)]
      have eK : oK (seeR r i) j = oK r j := by unfold oK; rw [hf 4 (by omega)]
      unfold OIg OI0 OI1 OI2
      rw [eP, eK, hs.pm, hs.sn q3, hs.pn q3, hf 0 (by omega), hf 1 (by omega), hf 2 (by omega), hf 3 (by omega), hf 4 (by omega), hf 5 (by omega), hf 6 (by omega), hf 7 (by omega), hf 8 (by omega), hf 9 (by omega), hf 10 (by omega), hf 11 (by omega), hf 12 (by omega)]
      refine ⟨a0, a1, a2, a3, a5, a9, a10, a12, ?_⟩
      rcases b with b | b | b | b
      · exact Or.inl b
      · exact Or.inr (Or.inl b)
      · refine Or.inr (Or.inr (Or.inl ⟨b.1, b.2.1, b.2.2.1, b.2.2.2.1, b.2.2.2.2.1, ?_⟩))
        rw [hs.ps q3 (hr.st hj b.1).2.2]
        rcases b.2.2.2.2.2 with c | c
        · exact Or.inl c
        · obtain ⟨p1, p2, -⟩ := hr.at hj b.1
          refine Or.inr ⟨c.1, c.2.1, c.2.2.1, ?_⟩
          rw [show rS (seeR r i) (nn (rPs r (oP r j) (oK r j))) 0 = rS r (nn (rPs r (oP r j) (oK r j))) 0 from seeR_n (by omega) (by omega)]
          exact c.2.2.2
      · exact Or.inr (Or.inr (Or.inr b))
    · refine SI.same hs (hr.sta hq) (seeR_n (by omega) (by omega)) (seeR_n (by omega) (by omega)) (seeR_n (by omega) (by omega)) (fun hn => ?_)
      obtain ⟨w1, w2, w3, w4, w5, w6⟩ := (hr.sta hq).w hn
      exact ⟨fun w hw9 => seeR_o s2 (by omega) (Or.inr (by omega)), (hr.op w2).2.2.1, (hr.st w2 w4).2.2⟩
  · rw [if_neg h]
    exact ⟨hr, samB.rfl, rfl⟩
def seeN (r : Row) : Nat → Row
  | 0 => r
  | n + 1 => see (seeN r n) n
theorem seeN_ok {m : Nat → Prop} {r : Row} (hr : RIg m r) : ∀ n, n ≤ OM r → RIg m (seeN r n) ∧ samB r (seeN r n) ∧ seeN r n 0 = r 0 := by
  intro n
  induction n with
  | zero => intro _; exact ⟨hr, samB.rfl, rfl⟩
  | succ n ih =>
    intro hn
    obtain ⟨a, b, c⟩ := ih (by omega)
    obtain ⟨a', b', c'⟩ := a.seeRI (i := n) (by rw [b.om]; omega)
    exact ⟨a', b.trans b', c'.trans c⟩
/-- a tick -/
def tk1 (r : Row) : Row := begN (rels r) (SC r)
def tk2 (r : Row) : Row := wrkN (stvR (tk1 r)) (SC r)
def tk3 (r : Row) : Row := upd (tk2 r) 0 (tk2 r 0 + 1)
def tk4 (r : Row) : Row := finN (tk3 r) (SC r)
def tick (r : Row) : Row := seeN (tk4 r) (OM r)
/-- how many orders are finished in it -/
def finC (r : Row) : Nat → Int32
  | 0 => 0
  | n + 1 => finC r n + if isFinO (finN r n) n then 1 else 0
theorem tk1_ok {r : Row} (hr : RI r) : RI (tk1 r) ∧ samB r (tk1 r) ∧ tk1 r 0 = r 0 := by
  obtain ⟨a, b, c⟩ := rels_ok hr
  obtain ⟨a', b', c'⟩ := begN_ok a (SC r) (by rw [b.sc]; exact Nat.le_refl _)
  exact ⟨a', b.trans b', c'.trans (c 0 (by omega))⟩
theorem tk2_ok {r : Row} (hr : RI r) : RIg (fun _ => False) (tk2 r) ∧ samB r (tk2 r) ∧ tk2 r 0 = r 0 := by
  obtain ⟨a, b, c⟩ := tk1_ok hr
  obtain ⟨a2, b2, c2⟩ := upd10_ok a (tk1 r 10 + if isStv (tk1 r) then 1 else 0)
  obtain ⟨a', b', c'⟩ := wrkN_ok (r := stvR (tk1 r)) a2 (SC r) (by rw [show SC (stvR (tk1 r)) = SC r from (b.trans b2).sc]; exact Nat.le_refl _)
  exact ⟨a'.weak (fun _ _ h => h.elim), (b.trans b2).trans b', c'.trans (c2.trans c)⟩
theorem tk3_ok {r : Row} (hr : RI r) (h0 : (r 0).toInt < 40000) : RIg (fun _ => False) (tk3 r) ∧ samB r (tk3 r) ∧ tk3 r 0 = r 0 + 1 := by
  obtain ⟨a, b, c⟩ := tk2_ok hr
  have h1 : (1 : Int32).toInt = 1 := rfl
  have hr0 := hr.1
  have hx : (tk2 r 0 + 1).toInt = (r 0).toInt + 1 := by rw [c, fb_addI (by omega) (by omega), h1]
  obtain ⟨a', b'⟩ := upd0_ok a (tk2 r 0 + 1) ⟨by omega, by omega⟩
  exact ⟨a', b.trans b', by show upd (tk2 r) 0 (tk2 r 0 + 1) 0 = _; rw [upd_eq', c]⟩
theorem tk4_ok {r : Row} (hr : RI r) (h0 : (r 0).toInt < 40000) : RI (tk4 r) ∧ samB r (tk4 r) ∧ tk4 r 0 = r 0 + 1 := by
  obtain ⟨a, b, c⟩ := tk3_ok hr h0
  obtain ⟨a', b', c'⟩ := finN_ok a (SC r) (by rw [b.sc]; exact Nat.le_refl _)
  exact ⟨a'.weak (fun q h _ => by rw [show SC (finN (tk3 r) (SC r)) = SC r from (b.trans b').sc] at h; exact h), b.trans b', c'.trans c⟩
theorem tick_ok {r : Row} (hr : RI r) (h0 : (r 0).toInt < 40000) : RI (tick r) ∧ samB r (tick r) ∧ tick r 0 = r 0 + 1 := by
  obtain ⟨a, b, c⟩ := tk4_ok hr h0
  obtain ⟨a', b', c'⟩ := seeN_ok a (OM r) (by rw [b.om]; exact Nat.le_refl _)
  exact ⟨a', b.trans b', c'.trans c⟩
end
section
/-! ===== the reference: a tick ===== -/
theorem RIg.sw {m : Nat → Prop} {r : Row} (hr : RIg m r) {q : Nat} (hq : q < SC r) (hw : ¬ rS r q 0 = -1) : rS r q 0 = nI (nn (rS r q 0)) ∧ nn (rS r q 0) < 24 ∧ rO r (nn (rS r q 0)) 0 = nI (oP r (nn (rS r q 0))) ∧ oP r (nn (rS r q 0)) < 6 := by
  obtain ⟨w1, w2, w3, w4, w5, w6⟩ := (hr.sta hq).w hw
  obtain ⟨a1, a2, a3, a4, a5⟩ := hr.op w2
  exact ⟨w1, w3, a2, a3⟩
theorem e_passes {σ : iM} (hr : RI (σ 8 58)) (h0 : (σ 8 58 0).toInt < 40000) : EvP mX7_passes [M] σ (fun r => ∃ v σ1, r = evi v σ1 ∧ v = finC (tk3 (σ 8 58)) (SC (σ 8 58)) ∧ σ1 8 58 = tick (σ 8 58) ∧ mfr σ σ1) := by
  generalize hR : σ 8 58 = r at hr h0 ⊢
  obtain ⟨sc1, sc2, sc3⟩ := hr.sc
  obtain ⟨om1, om2⟩ := hr.om
  show AtP mX7_passes 0 [some M, none, none] [] σ _
  refine AtP.CvP rfl (e_releases (by rw [hR]; exact hr)) (fun σ9 h9 => ?_)
  obtain ⟨h58, hfr⟩ := h9
  rw [hR] at h58
  rename iM => τ
  refine AtP.F 6 [some M, some (.inl (nI 0)), none] [] τ rfl ?_
  obtain ⟨ra, rb, rc⟩ := rels_ok hr
  have e1 : r 1 = nI (SC r) := sc1
  -- begin
  have L1 : ∀ n, n ≤ SC r → ∀ τ : iM, τ 8 58 = begN (rels r) n → mfr σ τ → AtP mX7_passes 6 [some M, some (.inl (nI n)), none] [] τ (fun z => ∃ v σ1, z = evi v σ1 ∧ v = finC (tk3 r) (SC r) ∧ σ1 8 58 = tick r ∧ mfr σ σ1) := by
    refine down_ind (N := SC r) ?_ ?_
    · intro τ hτ hf
      have hb := (begN_ok ra (SC r) (by rw [rb.sc]; exact Nat.le_refl _))
      have hτ1 : τ 8 58 1 = nI (SC r) := by rw [hτ, (rb.trans hb.2.1).n (by omega) (by omega)]; exact sc1
      have hτr : τ 8 58 = tk1 r := hτ
      have hRI : RI (τ 8 58) := by rw [hτ]; exact hb.1
      refine AtP.N rfl (v58 1 (by omega)) ?_
      rw [t1, hτ1]
      refine AtP.Bt rfl ((nI_leI (by omega) (by omega)).mpr (Nat.le_refl _)) ?_
      refine AtP.N rfl (v58 10 (by omega)) ?_
      refine AtP.Ci rfl (e_isStarved hRI) ?_
      have stv : ∀ x : Int32, x = (if isStv (τ 8 58) then 1 else 0) → AtP mX7_passes 47 [some M, some (.inl (nI (SC r))), none] [.inl x, .inl (τ 8 58 10), .inl 10, .inr (8, 58)] τ (fun z => ∃ v σ1, z = evi v σ1 ∧ v = finC (tk3 r) (SC r) ∧ σ1 8 58 = tick r ∧ mfr σ σ1) := by
        intro x hx
        refine AtP.N rfl (v58 10 (by omega)) ?_
        rw [iU_mR, t10]
        have hst : upd (τ 8 58) 10 (τ 8 58 10 + x) = stvR (tk1 r) := by rw [hx, hτr]; rfl
        rw [hst]
        refine AtP.F 51 [some M, some (.inl (nI 0)), none] [] _ rfl ?_
        have hu := upd10_ok (m := fun _ => True) (r := tk1 r) (by rw [← hτr]; exact hRI) (tk1 r 10 + if isStv (tk1 r) then 1 else 0)
        have hs1 : samB r (stvR (tk1 r)) := (tk1_ok hr).2.1.trans hu.2.1
        -- work
        have L2 : ∀ n, n ≤ SC r → ∀ τ : iM, τ 8 58 = wrkN (stvR (tk1 r)) n → mfr σ τ → AtP mX7_passes 51 [some M, some (.inl (nI n)), none] [] τ (fun z => ∃ v σ1, z = evi v σ1 ∧ v = finC (tk3 r) (SC r) ∧ σ1 8 58 = tick r ∧ mfr σ σ1) := by
          refine down_ind (N := SC r) ?_ ?_
          · intro τ hτ hf
            have hw := wrkN_ok (r := stvR (tk1 r)) hu.1 (SC r) (by rw [hs1.sc]; exact Nat.le_refl _)
            have hτ1 : τ 8 58 1 = nI (SC r) := by rw [hτ, (hs1.trans hw.2.1).n (by omega) (by omega)]; exact sc1
            refine AtP.N rfl (v58 1 (by omega)) ?_
            rw [t1, hτ1]
            refine AtP.Bt rfl ((nI_leI (by omega) (by omega)).mpr (Nat.le_refl _)) ?_
            refine AtP.N rfl (v58 0 (by omega)) ?_
            refine AtP.N rfl (v58 0 (by omega)) ?_
            rw [iU_mR, t0]
            have h3 : upd (τ 8 58) 0 (τ 8 58 0 + 1) = tk3 r := by rw [hτ]; rfl
            rw [h3]
            refine AtP.F 86 [some M, some (.inl (finC (tk3 r) 0)), some (.inl (nI 0))] [] _ rfl ?_
            obtain ⟨k3, s3, n3⟩ := tk3_ok hr h0
            -- finish
            have L3 : ∀ n, n ≤ SC r → ∀ τ : iM, τ 8 58 = finN (tk3 r) n → mfr σ τ → AtP mX7_passes 86 [some M, some (.inl (finC (tk3 r) n)), some (.inl (nI n))] [] τ (fun z => ∃ v σ1, z = evi v σ1 ∧ v = finC (tk3 r) (SC r) ∧ σ1 8 58 = tick r ∧ mfr σ σ1) := by
              refine down_ind (N := SC r) ?_ ?_
              · intro τ hτ hf
                obtain ⟨k4, s4, n4⟩ := tk4_ok hr h0
                have hτ1 : τ 8 58 1 = nI (SC r) := by rw [hτ]; exact (s4.n (n := 1) (by omega) (by omega)).trans sc1
                refine AtP.N rfl (v58 1 (by omega)) ?_
                rw [t1, hτ1]
                refine AtP.Bt rfl ((nI_leI (by omega) (by omega)).mpr (Nat.le_refl _)) ?_
                refine AtP.F 120 [some M, some (.inl (finC (tk3 r) (SC r))), some (.inl (nI 0))] [] τ rfl ?_
                -- see
                have L4 : ∀ n, n ≤ OM r → ∀ τ : iM, τ 8 58 = seeN (tk4 r) n → mfr σ τ → AtP mX7_passes 120 [some M, some (.inl (finC (tk3 r) (SC r))), some (.inl (nI n))] [] τ (fun z => ∃ v σ1, z = evi v σ1 ∧ v = finC (tk3 r) (SC r) ∧ σ1 8 58 = tick r ∧ mfr σ σ1) := by
                  refine down_ind (N := OM r) ?_ ?_
                  · intro τ hτ hf
                    have hs := seeN_ok k4 (OM r) (by rw [s4.om]; exact Nat.le_refl _)
                    have hτ4 : τ 8 58 4 = nI (OM r) := by rw [hτ, (s4.trans hs.2.1).n (by omega) (by omega)]; exact om1
                    refine AtP.N rfl (v58 4 (by omega)) ?_
                    rw [t4, hτ4]
                    refine AtP.Bt rfl ((nI_leI (by omega) (by omega)).mpr (Nat.le_refl _)) ?_
                    exact AtP.R rfl (⟨_, _, rfl, rfl, hτ, hf⟩)
                  · intro n hn ih τ hτ hf
                    have hs := seeN_ok k4 n (by rw [s4.om]; omega)
                    have hτ4 : τ 8 58 4 = nI (OM r) := by rw [hτ, (s4.trans hs.2.1).n (by omega) (by omega)]; exact om1
                    refine AtP.N rfl (v58 4 (by omega)) ?_
                    rw [t4, hτ4]
                    refine AtP.Bf rfl (fun h => absurd ((nI_leI (by omega) (by omega)).mp h) (by omega)) ?_
                    refine AtP.Cv rfl (e_sees (by rw [hτ]; exact hs.1) (i := n) (by rw [hτ, (s4.trans hs.2.1).om]; omega)) ?_
                    refine AtP.J rfl ?_
                    rw [nI_1]
                    exact ih _ (by rw [mR_at, hτ]; rfl) (hf.trans mfr.R)
                exact L4 0 (Nat.zero_le _) τ hτ hf
              · intro n hn ih τ hτ hf
                have hs := finN_ok k3 n (by rw [s3.sc]; omega)
                have hτ1 : τ 8 58 1 = nI (SC r) := by rw [hτ, (s3.trans hs.2.1).n (by omega) (by omega)]; exact sc1
                have hsn : SC (finN (tk3 r) n) = SC r := (s3.trans hs.2.1).sc
                refine AtP.N rfl (v58 1 (by omega)) ?_
                rw [t1, hτ1]
                refine AtP.Bf rfl (fun h => absurd ((nI_leI (by omega) (by omega)).mp h) (by omega)) ?_
                refine AtP.Ci rfl (e_finishes (q := n) (by omega) (by rw [hτ]; exact fun hw => hs.1.sw (by rw [hsn]; omega) hw)) ?_
                have go : ∀ x : Int32, x = (if isFinO (τ 8 58) n then 1 else 0) → AtP mX7_passes 110 [some M, some (.inl (finC (tk3 r) n)), some (.inl (nI n))] [.inl x, .inl (finC (tk3 r) n)] (mR τ 58 (fin (τ 8 58) n)) (fun z => ∃ v σ1, z = evi v σ1 ∧ v = finC (tk3 r) (SC r) ∧ σ1 8 58 = tick r ∧ mfr σ σ1) := by
                  intro x hx
                  refine AtP.J rfl ?_
                  rw [nI_1]
                  have hfc : finC (tk3 r) n + x = finC (tk3 r) (n + 1) := by rw [finC, hx, hτ]
                  rw [hfc]
                  exact ih _ (by rw [mR_at, hτ]; rfl) (hf.trans mfr.R)
                by_cases hF : isFinO (τ 8 58) n
                · rw [if_pos hF]
                  refine AtP.Bf rfl (by decide) ?_
                  refine AtP.J rfl ?_
                  exact go 1 (by rw [if_pos hF])
                · rw [if_neg hF]
                  refine AtP.Bt rfl (rfl) ?_
                  refine AtP.F 110 [some M, some (.inl (finC (tk3 r) n)), some (.inl (nI n))] [.inl 0, .inl (finC (tk3 r) n)] _ rfl ?_
                  exact go 0 (by rw [if_neg hF])
            exact L3 0 (Nat.zero_le _) _ (by rw [mR_at]; rfl) (hf.trans mfr.R)
          · intro n hn ih τ hτ hf
            have hw := wrkN_ok (r := stvR (tk1 r)) hu.1 n (by rw [hs1.sc]; omega)
            have hτ1 : τ 8 58 1 = nI (SC r) := by rw [hτ, (hs1.trans hw.2.1).n (by omega) (by omega)]; exact sc1
            have hsn : SC (wrkN (stvR (tk1 r)) n) = SC r := (hs1.trans hw.2.1).sc
            refine AtP.N rfl (v58 1 (by omega)) ?_
            rw [t1, hτ1]
            refine AtP.Bf rfl (fun h => absurd ((nI_leI (by omega) (by omega)).mp h) (by omega)) ?_
            refine AtP.Cv rfl (e_works (q := n) (by omega) (by rw [hτ]; exact fun hw9 => ⟨(hw.1.sw (by rw [hsn]; omega) hw9).1, (hw.1.sw (by rw [hsn]; omega) hw9).2.1⟩)) ?_
            refine AtP.J rfl ?_
            rw [nI_1]
            exact ih _ (by rw [mR_at, hτ]; rfl) (hf.trans mfr.R)
        exact L2 0 (Nat.zero_le _) _ (by rw [mR_at]; rfl) (hf.trans mfr.R)
      rw [t10]
      by_cases hst : isStv (τ 8 58)
      · rw [if_pos hst]
        refine AtP.Bf rfl (by decide) ?_
        refine AtP.J rfl ?_
        exact stv 1 (by rw [if_pos hst])
      · rw [if_neg hst]
        refine AtP.Bt rfl (rfl) ?_
        refine AtP.F 47 [some M, some (.inl (nI (SC r))), none] [.inl 0, .inl (τ 8 58 10), .inl 10, .inr (8, 58)] τ rfl ?_
        exact stv 0 (by rw [if_neg hst])
    · intro n hn ih τ hτ hf
      have hb := (begN_ok ra n (by rw [rb.sc]; omega))
      have hτ1 : τ 8 58 1 = nI (SC r) := by rw [hτ, (rb.trans hb.2.1).n (by omega) (by omega)]; exact sc1
      refine AtP.N rfl (v58 1 (by omega)) ?_
      rw [t1, hτ1]
      refine AtP.Bf rfl (fun h => absurd ((nI_leI (by omega) (by omega)).mp h) (by omega)) ?_
      refine AtP.Cv rfl (e_begins (by rw [hτ]; exact hb.1) (q := n) (by omega)) ?_
      refine AtP.J rfl ?_
      rw [nI_1]
      exact ih _ (by rw [mR_at, hτ]; rfl) (hf.trans mfr.R)
  exact L1 0 (Nat.zero_le _) τ h58 hfr
end
section
/-! ===== a shop of the class, and the row that it stands for ===== -/
/-- when an order's step at the drum was begun, in the class's words -/
def dbg (r : Row) (i : Nat) : Int32 := if rO r i 3 = 0 ∨ rO r i 3 = 3 ∨ bef r i then -1 else rO r i 10
def wtC (r : Row) (q : Nat) : Nat := fb_ct (fun i => decide (wts r i q)) (OM r)
def ShS (σ : iM) (s : Nat) (r : Row) : Prop := σ 4 s 4 = r 1 ∧ σ 4 s 5 = r 3 ∧ σ 4 s 6 = r 4 ∧ σ 4 s 7 = r 2 ∧ σ 4 s 8 = r 5 ∧ σ 4 s 9 = r 6 ∧ σ 4 s 10 = r 7 ∧ σ 4 s 11 = r 8 ∧ σ 4 s 12 = r 9 ∧ σ 4 s 13 = r 0 ∧ σ 4 s 14 = r 10
def ShQ (σ : iM) (s : Nat) (r : Row) (q : Nat) : Prop := σ 5 (6 * s + q) 0 = rS r q 5 ∧ σ 5 (6 * s + q) 1 = rS r q 2 ∧ σ 5 (6 * s + q) 2 = rS r q 0 ∧ σ 5 (6 * s + q) 3 = rS r q 1 ∧ σ 5 (6 * s + q) 4 = nI (wtC r q) ∧ σ 5 (6 * s + q) 5 = rS r q 3 ∧ σ 5 (6 * s + q) 6 = rS r q 4 ∧ σ 5 (6 * s + q) 7 = rS r q 6
def ShP (σ : iM) (s : Nat) (r : Row) (p : Nat) : Prop := σ 1 (6 * s + p) 2 = rPn r p ∧ σ 1 (6 * s + p) 3 = nI (dS r p) ∧ ∀ k, k < sN r p → σ 8 (2 * (6 * s + p)) k = rPs r p k ∧ σ 8 (2 * (6 * s + p) + 1) k = rPt r p k
def ShO (σ : iM) (s : Nat) (r : Row) (i : Nat) : Prop := σ 0 (24 * s + i) 0 = rO r i 0 ∧ σ 0 (24 * s + i) 1 = rO r i 1 ∧ σ 0 (24 * s + i) 2 = rO r i 2 ∧ σ 0 (24 * s + i) 3 = wk r i ∧ σ 0 (24 * s + i) 4 = rO r i 12 ∧ σ 0 (24 * s + i) 5 = rO r i 3 ∧ σ 0 (24 * s + i) 6 = rO r i 4 ∧ σ 0 (24 * s + i) 7 = rO r i 7 ∧ (rO r i 3 = 1 → σ 0 (24 * s + i) 8 = rO r i 5) ∧ σ 0 (24 * s + i) 9 = rO r i 8 ∧ (rO r i 3 = 1 ∨ rO r i 3 = 2 → σ 0 (24 * s + i) 10 = rO r i 9) ∧ σ 0 (24 * s + i) 11 = dbg r i ∧ σ 0 (24 * s + i) 12 = rO r i 11 ∧ σ 0 (24 * s + i) 13 = rO r i 13
def Sh (σ : iM) (s : Nat) (r : Row) : Prop := ShS σ s r ∧ (∀ q, q < SC r → ShQ σ s r q) ∧ (∀ p, p < PM r → ShP σ s r p) ∧ (∀ i, i < OM r → ShO σ s r i)
theorem v12 (s n : Nat) (h : n < 24) : vp_in (nI n) (iN 12 s) := vin h (by show 24 < _; omega)
theorem v13 (s n : Nat) (h : n < 6) : vp_in (nI n) (iN 13 s) := vin h (by show 6 < _; omega)
theorem v15 (s n : Nat) (h : n < 6) : vp_in (nI n) (iN 15 s) := vin h (by show 6 < _; omega)
theorem iN_p (s p : Nat) (hs : s < 4) (hp : p < 6) : iN 8 (2 * (6 * s + p)) = 6 ∧ iN 8 (2 * (6 * s + p) + 1) = 6 := by
  constructor
  · show (if _ then _ else _) = _; rw [if_pos (by omega)]
  · show (if _ then _ else _) = _; rw [if_pos (by omega)]
theorem iN_s (s : Nat) (hs : s < 4) : iN 8 (48 + 2 * s) = 24 ∧ iN 8 (49 + 2 * s) = 24 := by
  constructor
  · show (if _ then _ else _) = _; rw [if_neg (by omega), if_pos (by omega)]
  · show (if _ then _ else _) = _; rw [if_neg (by omega), if_pos (by omega)]
theorem m1_ne {x : Int32} {b : Int} (h : inR x 0 b) : ¬ x = -1 := fun e => by rw [e] at h; exact absurd h.1 (by decide)
section RD
variable {σ : iM} {s : Nat} {r : Row}
theorem Sh.om (h : Sh σ s r) (hr : RI r) : σ 4 s 6 = nI (OM r) := by rw [h.1.2.2.1]; exact hr.om.1
theorem Sh.sc (h : Sh σ s r) (hr : RI r) : σ 4 s 4 = nI (SC r) := by rw [h.1.1]; exact hr.sc.1
theorem c_isDown (x : Nat) (t : Int32) : Ev mX5_isDown [.inr (5, x), .inl t] σ (evi (if t < σ 5 x 1 then 1 else 0) σ) := by
  show At mX5_isDown 0 [some (.inr (5, x)), some (.inl t)] [] σ _
  refine At.B rfl (fun h => ?_) (fun h => ?_)
  · rw [if_neg (le_nlt h)]
    exact At.Z rfl (Or.inl rfl)
  · rw [if_pos (fa_of_nle h)]
    refine At.J rfl ?_
    exact At.Z rfl (Or.inr rfl)
theorem c_isWorking (x : Nat) (t : Int32) : Ev mX5_isWorking [.inr (5, x), .inl t] σ (evi (if ¬ σ 5 x 2 = -1 ∧ ¬ t < σ 5 x 1 then 1 else 0) σ) := by
  show At mX5_isWorking 0 [some (.inr (5, x)), some (.inl t)] [] σ _
  refine At.B rfl (fun h => ?_) (fun h => ?_)
  · rw [if_neg (fun q => q.1 h)]
    exact At.Z rfl (Or.inl rfl)
  · refine At.Ci rfl (c_isDown x t) ?_
    by_cases hd : t < σ 5 x 1
    · rw [if_pos hd, if_neg (fun q => q.2 hd)]
      refine At.Bf rfl (by decide) ?_
      exact At.Z rfl (Or.inl rfl)
    · rw [if_neg hd, if_pos ⟨h, hd⟩]
      refine At.Bt rfl (rfl) ?_
      refine At.J rfl ?_
      exact At.Z rfl (Or.inr rfl)
theorem c_isIdle (x : Nat) (t : Int32) : Ev mX5_isIdle [.inr (5, x), .inl t] σ (evi (if σ 5 x 2 = -1 ∧ ¬ t < σ 5 x 1 then 1 else 0) σ) := by
  show At mX5_isIdle 0 [some (.inr (5, x)), some (.inl t)] [] σ _
  refine At.B rfl (fun h => ?_) (fun h => ?_)
  · refine At.Ci rfl (c_isDown x t) ?_
    by_cases hd : t < σ 5 x 1
    · rw [if_pos hd, if_neg (fun q => q.2 hd)]
      refine At.Bf rfl (by decide) ?_
      exact At.Z rfl (Or.inl rfl)
    · rw [if_neg hd, if_pos ⟨h, hd⟩]
      refine At.Bt rfl (rfl) ?_
      refine At.J rfl ?_
      exact At.Z rfl (Or.inr rfl)
  · rw [if_neg (fun q => h q.1)]
    exact At.Z rfl (Or.inl rfl)
theorem c_isOpen (x : Nat) : Ev mX0_isOpen [.inr (0, x)] σ (evi (if σ 0 x 5 = 0 ∨ σ 0 x 5 = 1 then 1 else 0) σ) := by
  show At mX0_isOpen 0 [some (.inr (0, x))] [] σ _
  refine At.B rfl (fun h => ?_) (fun h => ?_)
  · rw [if_pos (Or.inl h)]
    refine At.J rfl ?_
    exact At.Z rfl (Or.inr rfl)
  · refine At.B rfl (fun h2 => ?_) (fun h2 => ?_)
    · rw [if_pos (Or.inr h2)]
      refine At.J rfl ?_
      exact At.Z rfl (Or.inr rfl)
    · rw [if_neg (by rintro (q | q) <;> contradiction)]
      exact At.Z rfl (Or.inl rfl)
theorem c_countInState (h : Sh σ s r) (hr : RI r) (st : Int32) : Ev mX4_countInState [.inr (4, s), .inl st] σ (evi (nI (fb_ct (fun i => decide (rO r i 3 = st)) (OM r))) σ) := by
  show At mX4_countInState 0 [some (.inr (4, s)), some (.inl st), none, none] [] σ _
  have hom := hr.om
  refine At.F 4 [some (.inr (4, s)), some (.inl st), some (.inl (nI (fb_ct (fun i => decide (rO r i 3 = st)) 0))), some (.inl (nI 0))] [] σ rfl ?_
  refine down_ind (N := OM r) (P := fun n => At mX4_countInState 4 [some (.inr (4, s)), some (.inl st), some (.inl (nI (fb_ct (fun i => decide (rO r i 3 = st)) n))), some (.inl (nI n))] [] σ _) ?_ ?_ 0 (Nat.zero_le _)
  · refine At.Bt rfl (by rw [h.om hr]; exact (nI_leI (by omega) (by omega)).mpr (Nat.le_refl _)) ?_
    exact At.R rfl
  · intro n hn ih
    refine At.Bf rfl (by rw [h.om hr]; exact fun x => absurd ((nI_leI (by omega) (by omega)).mp x) (by omega)) ?_
    refine At.N rfl (v12 s n (by omega)) ?_
    rw [nI_clamp (by omega)]
    have ho := h.2.2.2 n hn
    rw [fb_ct_succ] at ih
    refine At.B rfl (fun hc => ?_) (fun hc => ?_)
    · rw [ho.2.2.2.2.2.1] at hc
      rw [if_pos (decide_eq_true hc)] at ih
      refine At.J rfl ?_
      rw [nI_1, nI_1]
      exact ih
    · rw [ho.2.2.2.2.2.1] at hc
      rw [if_neg (by rw [decide_eq_false hc]; decide), Nat.add_zero] at ih
      refine At.J rfl ?_
      rw [nI_1]
      exact ih
theorem c_drumFreeAt (h : Sh σ s r) (hr : RI r) : Ev mX4_drumFreeAt [.inr (4, s)] σ (evi (earl r) σ) := by
  show At mX4_drumFreeAt 0 [some (.inr (4, s)), none] [] σ _
  obtain ⟨d1, d2, d3⟩ := hr.dr
  have hq := h.2.1 _ d2
  have hd : σ 4 s 7 = nI (DR r) := by rw [h.1.2.2.2.1]; exact d1
  refine At.N rfl (by rw [hd]; exact v15 s _ d3) ?_
  rw [hd, nI_clamp (by omega)]
  unfold earl
  refine At.B rfl (fun hw => ?_) (fun hw => ?_)
  · rw [hq.2.2.1] at hw
    rw [if_pos hw, Int32.add_zero]
    refine At.J rfl ?_
    rw [h.1.2.2.2.2.2.2.2.2.2.1]
    exact At.R rfl
  · rw [hq.2.2.1] at hw ⊢
    rw [if_neg hw]
    obtain ⟨w1, w2, w3, w4, w5, w6⟩ := (hr.sta d2).w hw
    refine At.N rfl (by rw [w1]; exact v12 s _ w3) ?_
    have ho := h.2.2.2 _ w2
    rw [show nn (rS r (DR r) 0) = (rS r (DR r) 0).toNatClampNeg from rfl] at ho
    rw [← h.1.2.2.2.2.2.2.2.2.2.1]
    show At _ _ _ _ _ (evi (σ 4 s 13 + rO r (rS r (DR r) 0).toNatClampNeg 7) σ)
    rw [← ho.2.2.2.2.2.2.2.1]
    exact At.R rfl
theorem Sh.prod (h : Sh σ s r) (hr : RI r) {i : Nat} (hi : i < OM r) : σ 0 (24 * s + i) 0 = nI (oP r i) ∧ oP r i < 6 ∧ ShP σ s r (oP r i) ∧ PI r (oP r i) := by
  obtain ⟨a1, a2, a3, a4, a5⟩ := hr.op hi
  exact ⟨(h.2.2.2 i hi).1.trans a2, a3, h.2.2.1 _ a5.p.2, a4⟩
theorem c_hasToPassDrum (h : Sh σ s r) (hr : RI r) {i : Nat} (hi : i < OM r) : Ev mX4_hasToPassDrum [.inr (4, s), .inr (0, 24 * s + i)] σ (evi (if opn r i ∧ ¬ past r i then 1 else 0) σ) := by
  show At mX4_hasToPassDrum 0 [some (.inr (4, s)), some (.inr (0, 24 * s + i))] [] σ _
  have ho := h.2.2.2 i hi
  obtain ⟨p1, p2, p3, p4⟩ := h.prod hr hi
  refine At.B rfl (fun h0 => ?_) (fun h0 => ?_)
  · rw [ho.2.2.2.2.2.1] at h0
    have o0 := hr.i0 hi h0
    rw [if_pos]
    · refine At.J rfl ?_
      exact At.Z rfl (Or.inr rfl)
    · refine ⟨Or.inl h0, ?_⟩
      show ¬ nI (dS r (oP r i)) < rO r i 4
      rw [o0.1, fa_lt, nI_toInt (by have := p4.d; omega)]
      show ¬ ((dS r (oP r i) : Nat) : Int) < -1
      omega
  · rw [ho.2.2.2.2.2.1] at h0
    refine At.B rfl (fun h1 => ?_) (fun h1 => ?_)
    · rw [ho.2.2.2.2.2.1] at h1
      refine At.N rfl (by rw [p1]; exact v13 s _ p2) ?_
      rw [p1, nI_clamp (by omega)]
      refine At.B rfl (fun hd => ?_) (fun hd => ?_)
      · rw [p3.2.1, ho.2.2.2.2.2.2.1] at hd
        rw [if_neg (fun q => q.2 hd)]
        exact At.Z rfl (Or.inl rfl)
      · rw [p3.2.1, ho.2.2.2.2.2.2.1] at hd
        rw [if_pos ⟨Or.inr h1, hd⟩]
        refine At.J rfl ?_
        exact At.Z rfl (Or.inr rfl)
    · rw [ho.2.2.2.2.2.1] at h1
      rw [if_neg (by rintro ⟨q | q, -⟩ <;> contradiction)]
      exact At.Z rfl (Or.inl rfl)
theorem c_releasedWork (h : Sh σ s r) (hr : RI r) : Ev mX4_releasedWork [.inr (4, s)] σ (evi (ropeL r) σ) := by
  show At mX4_releasedWork 0 [some (.inr (4, s)), none, none, none] [] σ _
  have hom := hr.om
  refine At.F 4 [some (.inr (4, s)), some (.inl (sumN (fun i => if rO r i 3 = 1 ∧ ¬ past r i then wk r i else 0) 0)), some (.inl (nI 0)), none] [] σ rfl ?_
  refine down_ind (N := OM r) (P := fun n => ∀ d3, At mX4_releasedWork 4 [some (.inr (4, s)), some (.inl (sumN (fun i => if rO r i 3 = 1 ∧ ¬ past r i then wk r i else 0) n)), some (.inl (nI n)), d3] [] σ _) ?_ ?_ 0 (Nat.zero_le _) none
  · intro d3
    refine At.Bt rfl (by rw [h.om hr]; exact (nI_leI (by omega) (by omega)).mpr (Nat.le_refl _)) ?_
    exact At.R rfl
  · intro n hn ih d3
    refine At.Bf rfl (by rw [h.om hr]; exact fun x => absurd ((nI_leI (by omega) (by omega)).mp x) (by omega)) ?_
    refine At.N rfl (v12 s n (by omega)) ?_
    rw [nI_clamp (by omega)]
    have ho := h.2.2.2 n hn
    have ih := ih (some (.inr (0, 24 * s + n)))
    rw [sumN] at ih
    refine At.B rfl (fun hc => ?_) (fun hc => ?_)
    · rw [ho.2.2.2.2.2.1] at hc
      refine At.Ci rfl (c_hasToPassDrum h hr hn) ?_
      by_cases hp : past r n
      · rw [if_neg (fun q => q.2 hp)]
        rw [if_neg (fun q => q.2 hp), Int32.add_zero] at ih
        refine At.Bt rfl (rfl) ?_
        refine At.J rfl ?_
        rw [nI_1]
        exact ih
      · rw [if_pos ⟨Or.inr hc, hp⟩]
        rw [if_pos ⟨hc, hp⟩] at ih
        refine At.Bf rfl (by decide) ?_
        refine At.J rfl ?_
        rw [nI_1, ho.2.2.2.1]
        exact ih
    · rw [ho.2.2.2.2.2.1] at hc
      rw [if_neg (fun q => hc q.1), Int32.add_zero] at ih
      refine At.J rfl ?_
      rw [nI_1]
      exact ih
end RD
end
section
theorem zz_last : (1:Nat) = 1 := rfl
end
