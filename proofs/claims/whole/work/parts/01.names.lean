-- ===== PART A: goes FIRST, ahead of the names: the tables' words, and 'selects' of the private methods out of them =====
/-- a private method of a class that the tables say can be made, by its rows of tables_1 -/
def lw_okq (q : MethodName × Nat) : Prop := (q.1.cls ≠ "java/lang/invoke/MethodHandle" ∧ q.1.cls ≠ "java/lang/invoke/VarHandle") ∧ Cond.instantiable q.1.cls q.2 ∈ tables_1 ∧ Cond.privateMethod q.1 ∈ tables_1 ∧ Cond.instanceMethod q.1 ∈ tables_1
theorem lw_p0 : lw_okq (⟨"UnderBars$Names", "measureName", "(II)V"⟩, 10) := ⟨⟨by decide +kernel, by decide +kernel⟩, List.mem_of_getElem? (i := 45) (by decide +kernel), List.mem_of_getElem? (i := 416) (by decide +kernel), List.mem_of_getElem? (i := 417) (by decide +kernel)⟩
theorem lw_p1 : lw_okq (⟨"UnderBars", "addName", "()I"⟩, 11) := ⟨⟨by decide +kernel, by decide +kernel⟩, List.mem_of_getElem? (i := 20) (by decide +kernel), List.mem_of_getElem? (i := 432) (by decide +kernel), List.mem_of_getElem? (i := 433) (by decide +kernel)⟩
theorem lw_p2 : lw_okq (⟨"UnderBars$Names", "isWritten", "(ILUnderBars$Text;I)Z"⟩, 10) := ⟨⟨by decide +kernel, by decide +kernel⟩, List.mem_of_getElem? (i := 45) (by decide +kernel), List.mem_of_getElem? (i := 457) (by decide +kernel), List.mem_of_getElem? (i := 458) (by decide +kernel)⟩
theorem lw_p3 : lw_okq (⟨"UnderBars$PageParser", "takeWord", "(Ljava/lang/String;)V"⟩, 13) := ⟨⟨by decide +kernel, by decide +kernel⟩, List.mem_of_getElem? (i := 167) (by decide +kernel), List.mem_of_getElem? (i := 535) (by decide +kernel), List.mem_of_getElem? (i := 536) (by decide +kernel)⟩
theorem lw_p4 : lw_okq (⟨"UnderBars$PageParser", "skipBlanks", "()V"⟩, 13) := ⟨⟨by decide +kernel, by decide +kernel⟩, List.mem_of_getElem? (i := 167) (by decide +kernel), List.mem_of_getElem? (i := 539) (by decide +kernel), List.mem_of_getElem? (i := 540) (by decide +kernel)⟩
theorem lw_p5 : lw_okq (⟨"UnderBars$PageParser", "fail", "(II)V"⟩, 13) := ⟨⟨by decide +kernel, by decide +kernel⟩, List.mem_of_getElem? (i := 167) (by decide +kernel), List.mem_of_getElem? (i := 593) (by decide +kernel), List.mem_of_getElem? (i := 594) (by decide +kernel)⟩
theorem lw_p6 : lw_okq (⟨"UnderBars$PageParser", "takeNumber", "(II)I"⟩, 13) := ⟨⟨by decide +kernel, by decide +kernel⟩, List.mem_of_getElem? (i := 167) (by decide +kernel), List.mem_of_getElem? (i := 597) (by decide +kernel), List.mem_of_getElem? (i := 598) (by decide +kernel)⟩
theorem lw_p7 : lw_okq (⟨"UnderBars$PageParser", "takeSign", "(I)V"⟩, 13) := ⟨⟨by decide +kernel, by decide +kernel⟩, List.mem_of_getElem? (i := 167) (by decide +kernel), List.mem_of_getElem? (i := 607) (by decide +kernel), List.mem_of_getElem? (i := 608) (by decide +kernel)⟩
theorem lw_p8 : lw_okq (⟨"UnderBars$PageParser", "takePlace", "(I)V"⟩, 13) := ⟨⟨by decide +kernel, by decide +kernel⟩, List.mem_of_getElem? (i := 167) (by decide +kernel), List.mem_of_getElem? (i := 611) (by decide +kernel), List.mem_of_getElem? (i := 612) (by decide +kernel)⟩
theorem lw_p9 : lw_okq (⟨"UnderBars$PageParser", "takeShown", "(I)V"⟩, 13) := ⟨⟨by decide +kernel, by decide +kernel⟩, List.mem_of_getElem? (i := 167) (by decide +kernel), List.mem_of_getElem? (i := 617) (by decide +kernel), List.mem_of_getElem? (i := 618) (by decide +kernel)⟩
theorem lw_p10 : lw_okq (⟨"UnderBars$PageParser", "takeBar", "(I)V"⟩, 13) := ⟨⟨by decide +kernel, by decide +kernel⟩, List.mem_of_getElem? (i := 167) (by decide +kernel), List.mem_of_getElem? (i := 623) (by decide +kernel), List.mem_of_getElem? (i := 624) (by decide +kernel)⟩
theorem lw_p11 : lw_okq (⟨"UnderBars$PageParser", "takeComma", "()Z"⟩, 13) := ⟨⟨by decide +kernel, by decide +kernel⟩, List.mem_of_getElem? (i := 167) (by decide +kernel), List.mem_of_getElem? (i := 627) (by decide +kernel), List.mem_of_getElem? (i := 628) (by decide +kernel)⟩
theorem lw_p12 : lw_okq (⟨"UnderBars$Pages", "addPlace", "(III)V"⟩, 15) := ⟨⟨by decide +kernel, by decide +kernel⟩, List.mem_of_getElem? (i := 93) (by decide +kernel), List.mem_of_getElem? (i := 635) (by decide +kernel), List.mem_of_getElem? (i := 636) (by decide +kernel)⟩
theorem lw_p13 : lw_okq (⟨"UnderBars", "countReadings", "(I)I"⟩, 11) := ⟨⟨by decide +kernel, by decide +kernel⟩, List.mem_of_getElem? (i := 20) (by decide +kernel), List.mem_of_getElem? (i := 671) (by decide +kernel), List.mem_of_getElem? (i := 672) (by decide +kernel)⟩
theorem lw_p14 : lw_okq (⟨"UnderBars", "goThrough", "(II)V"⟩, 11) := ⟨⟨by decide +kernel, by decide +kernel⟩, List.mem_of_getElem? (i := 20) (by decide +kernel), List.mem_of_getElem? (i := 675) (by decide +kernel), List.mem_of_getElem? (i := 676) (by decide +kernel)⟩
theorem lw_p15 : lw_okq (⟨"UnderBars$Layout", "shutOutByShown", "(I)V"⟩, 6) := ⟨⟨by decide +kernel, by decide +kernel⟩, List.mem_of_getElem? (i := 262) (by decide +kernel), List.mem_of_getElem? (i := 701) (by decide +kernel), List.mem_of_getElem? (i := 702) (by decide +kernel)⟩
def lw_privs_1 : List (MethodName × Nat) := [(⟨"UnderBars$Names", "measureName", "(II)V"⟩, 10), (⟨"UnderBars", "addName", "()I"⟩, 11), (⟨"UnderBars$Names", "isWritten", "(ILUnderBars$Text;I)Z"⟩, 10), (⟨"UnderBars$PageParser", "takeWord", "(Ljava/lang/String;)V"⟩, 13), (⟨"UnderBars$PageParser", "skipBlanks", "()V"⟩, 13), (⟨"UnderBars$PageParser", "fail", "(II)V"⟩, 13), (⟨"UnderBars$PageParser", "takeNumber", "(II)I"⟩, 13), (⟨"UnderBars$PageParser", "takeSign", "(I)V"⟩, 13), (⟨"UnderBars$PageParser", "takePlace", "(I)V"⟩, 13), (⟨"UnderBars$PageParser", "takeShown", "(I)V"⟩, 13), (⟨"UnderBars$PageParser", "takeBar", "(I)V"⟩, 13), (⟨"UnderBars$PageParser", "takeComma", "()Z"⟩, 13), (⟨"UnderBars$Pages", "addPlace", "(III)V"⟩, 15), (⟨"UnderBars", "countReadings", "(I)I"⟩, 11), (⟨"UnderBars", "goThrough", "(II)V"⟩, 11), (⟨"UnderBars$Layout", "shutOutByShown", "(I)V"⟩, 6)]
theorem lw_r1 : ∀ q ∈ lw_privs_1, lw_okq q := List.forall_mem_cons.mpr ⟨lw_p0, List.forall_mem_cons.mpr ⟨lw_p1, List.forall_mem_cons.mpr ⟨lw_p2, List.forall_mem_cons.mpr ⟨lw_p3, List.forall_mem_cons.mpr ⟨lw_p4, List.forall_mem_cons.mpr ⟨lw_p5, List.forall_mem_cons.mpr ⟨lw_p6, List.forall_mem_cons.mpr ⟨lw_p7, List.forall_mem_cons.mpr ⟨lw_p8, List.forall_mem_cons.mpr ⟨lw_p9, List.forall_mem_cons.mpr ⟨lw_p10, List.forall_mem_cons.mpr ⟨lw_p11, List.forall_mem_cons.mpr ⟨lw_p12, List.forall_mem_cons.mpr ⟨lw_p13, List.forall_mem_cons.mpr ⟨lw_p14, List.forall_mem_cons.mpr ⟨lw_p15, fun _ h => absurd h List.not_mem_nil⟩⟩⟩⟩⟩⟩⟩⟩⟩⟩⟩⟩⟩⟩⟩⟩
theorem lw_p16 : lw_okq (⟨"UnderBars$Layout", "noteSlot", "(I)V"⟩, 6) := ⟨⟨by decide +kernel, by decide +kernel⟩, List.mem_of_getElem? (i := 262) (by decide +kernel), List.mem_of_getElem? (i := 716) (by decide +kernel), List.mem_of_getElem? (i := 717) (by decide +kernel)⟩
theorem lw_p17 : lw_okq (⟨"UnderBars$Layout", "layTwins", "(I)V"⟩, 6) := ⟨⟨by decide +kernel, by decide +kernel⟩, List.mem_of_getElem? (i := 262) (by decide +kernel), List.mem_of_getElem? (i := 724) (by decide +kernel), List.mem_of_getElem? (i := 725) (by decide +kernel)⟩
theorem lw_p18 : lw_okq (⟨"UnderBars$Layout", "isLaid", "(II)Z"⟩, 6) := ⟨⟨by decide +kernel, by decide +kernel⟩, List.mem_of_getElem? (i := 262) (by decide +kernel), List.mem_of_getElem? (i := 728) (by decide +kernel), List.mem_of_getElem? (i := 729) (by decide +kernel)⟩
theorem lw_p19 : lw_okq (⟨"UnderBars$Readers", "leftBy", "(II)I"⟩, 2) := ⟨⟨by decide +kernel, by decide +kernel⟩, List.mem_of_getElem? (i := 221) (by decide +kernel), List.mem_of_getElem? (i := 738) (by decide +kernel), List.mem_of_getElem? (i := 739) (by decide +kernel)⟩
theorem lw_p20 : lw_okq (⟨"UnderBars$Search", "enter", "(I)V"⟩, 12) := ⟨⟨by decide +kernel, by decide +kernel⟩, List.mem_of_getElem? (i := 287) (by decide +kernel), List.mem_of_getElem? (i := 756) (by decide +kernel), List.mem_of_getElem? (i := 757) (by decide +kernel)⟩
theorem lw_p21 : lw_okq (⟨"UnderBars$Search", "tryOn", "(I)I"⟩, 12) := ⟨⟨by decide +kernel, by decide +kernel⟩, List.mem_of_getElem? (i := 287) (by decide +kernel), List.mem_of_getElem? (i := 767) (by decide +kernel), List.mem_of_getElem? (i := 768) (by decide +kernel)⟩
theorem lw_p22 : lw_okq (⟨"UnderBars$Search", "give", "(II)V"⟩, 12) := ⟨⟨by decide +kernel, by decide +kernel⟩, List.mem_of_getElem? (i := 287) (by decide +kernel), List.mem_of_getElem? (i := 774) (by decide +kernel), List.mem_of_getElem? (i := 775) (by decide +kernel)⟩
theorem lw_p23 : lw_okq (⟨"UnderBars$Search", "takeReading", "(I)V"⟩, 12) := ⟨⟨by decide +kernel, by decide +kernel⟩, List.mem_of_getElem? (i := 287) (by decide +kernel), List.mem_of_getElem? (i := 778) (by decide +kernel), List.mem_of_getElem? (i := 779) (by decide +kernel)⟩
theorem lw_p24 : lw_okq (⟨"UnderBars", "mayToReaders", "(II)I"⟩, 11) := ⟨⟨by decide +kernel, by decide +kernel⟩, List.mem_of_getElem? (i := 20) (by decide +kernel), List.mem_of_getElem? (i := 791) (by decide +kernel), List.mem_of_getElem? (i := 792) (by decide +kernel)⟩
theorem lw_p25 : lw_okq (⟨"UnderBars", "betrayedNow", "()I"⟩, 11) := ⟨⟨by decide +kernel, by decide +kernel⟩, List.mem_of_getElem? (i := 20) (by decide +kernel), List.mem_of_getElem? (i := 863) (by decide +kernel), List.mem_of_getElem? (i := 864) (by decide +kernel)⟩
theorem lw_p26 : lw_okq (⟨"UnderBars", "tryToOpen", "(I)I"⟩, 11) := ⟨⟨by decide +kernel, by decide +kernel⟩, List.mem_of_getElem? (i := 20) (by decide +kernel), List.mem_of_getElem? (i := 876) (by decide +kernel), List.mem_of_getElem? (i := 877) (by decide +kernel)⟩
theorem lw_p27 : lw_okq (⟨"UnderBars", "tryToBar", "(I)I"⟩, 11) := ⟨⟨by decide +kernel, by decide +kernel⟩, List.mem_of_getElem? (i := 20) (by decide +kernel), List.mem_of_getElem? (i := 889) (by decide +kernel), List.mem_of_getElem? (i := 890) (by decide +kernel)⟩
theorem lw_p28 : lw_okq (⟨"UnderBarsModel", "nameAt", "(II)I"⟩, 59) := ⟨⟨by decide +kernel, by decide +kernel⟩, List.mem_of_getElem? (i := 897) (by decide +kernel), List.mem_of_getElem? (i := 1103) (by decide +kernel), List.mem_of_getElem? (i := 1104) (by decide +kernel)⟩
theorem lw_p29 : lw_okq (⟨"UnderBarsModel", "noName", "(I)Z"⟩, 59) := ⟨⟨by decide +kernel, by decide +kernel⟩, List.mem_of_getElem? (i := 897) (by decide +kernel), List.mem_of_getElem? (i := 1111) (by decide +kernel), List.mem_of_getElem? (i := 1112) (by decide +kernel)⟩
theorem lw_p30 : lw_okq (⟨"UnderBarsModel", "widthOf", "(II)I"⟩, 59) := ⟨⟨by decide +kernel, by decide +kernel⟩, List.mem_of_getElem? (i := 897) (by decide +kernel), List.mem_of_getElem? (i := 1138) (by decide +kernel), List.mem_of_getElem? (i := 1139) (by decide +kernel)⟩
theorem lw_p31 : lw_okq (⟨"UnderBarsModel", "nevers", "()I"⟩, 59) := ⟨⟨by decide +kernel, by decide +kernel⟩, List.mem_of_getElem? (i := 897) (by decide +kernel), List.mem_of_getElem? (i := 1146) (by decide +kernel), List.mem_of_getElem? (i := 1147) (by decide +kernel)⟩
def lw_privs_2 : List (MethodName × Nat) := [(⟨"UnderBars$Layout", "noteSlot", "(I)V"⟩, 6), (⟨"UnderBars$Layout", "layTwins", "(I)V"⟩, 6), (⟨"UnderBars$Layout", "isLaid", "(II)Z"⟩, 6), (⟨"UnderBars$Readers", "leftBy", "(II)I"⟩, 2), (⟨"UnderBars$Search", "enter", "(I)V"⟩, 12), (⟨"UnderBars$Search", "tryOn", "(I)I"⟩, 12), (⟨"UnderBars$Search", "give", "(II)V"⟩, 12), (⟨"UnderBars$Search", "takeReading", "(I)V"⟩, 12), (⟨"UnderBars", "mayToReaders", "(II)I"⟩, 11), (⟨"UnderBars", "betrayedNow", "()I"⟩, 11), (⟨"UnderBars", "tryToOpen", "(I)I"⟩, 11), (⟨"UnderBars", "tryToBar", "(I)I"⟩, 11), (⟨"UnderBarsModel", "nameAt", "(II)I"⟩, 59), (⟨"UnderBarsModel", "noName", "(I)Z"⟩, 59), (⟨"UnderBarsModel", "widthOf", "(II)I"⟩, 59), (⟨"UnderBarsModel", "nevers", "()I"⟩, 59)]
theorem lw_r2 : ∀ q ∈ lw_privs_2, lw_okq q := List.forall_mem_cons.mpr ⟨lw_p16, List.forall_mem_cons.mpr ⟨lw_p17, List.forall_mem_cons.mpr ⟨lw_p18, List.forall_mem_cons.mpr ⟨lw_p19, List.forall_mem_cons.mpr ⟨lw_p20, List.forall_mem_cons.mpr ⟨lw_p21, List.forall_mem_cons.mpr ⟨lw_p22, List.forall_mem_cons.mpr ⟨lw_p23, List.forall_mem_cons.mpr ⟨lw_p24, List.forall_mem_cons.mpr ⟨lw_p25, List.forall_mem_cons.mpr ⟨lw_p26, List.forall_mem_cons.mpr ⟨lw_p27, List.forall_mem_cons.mpr ⟨lw_p28, List.forall_mem_cons.mpr ⟨lw_p29, List.forall_mem_cons.mpr ⟨lw_p30, List.forall_mem_cons.mpr ⟨lw_p31, fun _ h => absurd h List.not_mem_nil⟩⟩⟩⟩⟩⟩⟩⟩⟩⟩⟩⟩⟩⟩⟩⟩
theorem lw_p32 : lw_okq (⟨"UnderBarsModel", "takeWord", "()V"⟩, 59) := ⟨⟨by decide +kernel, by decide +kernel⟩, List.mem_of_getElem? (i := 897) (by decide +kernel), List.mem_of_getElem? (i := 1157) (by decide +kernel), List.mem_of_getElem? (i := 1158) (by decide +kernel)⟩
theorem lw_p33 : lw_okq (⟨"UnderBarsModel", "here", "()I"⟩, 59) := ⟨⟨by decide +kernel, by decide +kernel⟩, List.mem_of_getElem? (i := 897) (by decide +kernel), List.mem_of_getElem? (i := 1161) (by decide +kernel), List.mem_of_getElem? (i := 1162) (by decide +kernel)⟩
theorem lw_p34 : lw_okq (⟨"UnderBarsModel", "isWord", "(IIIIIII)Z"⟩, 59) := ⟨⟨by decide +kernel, by decide +kernel⟩, List.mem_of_getElem? (i := 897) (by decide +kernel), List.mem_of_getElem? (i := 1165) (by decide +kernel), List.mem_of_getElem? (i := 1166) (by decide +kernel)⟩
theorem lw_p35 : lw_okq (⟨"UnderBarsModel", "want", "(ZII)Z"⟩, 59) := ⟨⟨by decide +kernel, by decide +kernel⟩, List.mem_of_getElem? (i := 897) (by decide +kernel), List.mem_of_getElem? (i := 1169) (by decide +kernel), List.mem_of_getElem? (i := 1170) (by decide +kernel)⟩
theorem lw_p36 : lw_okq (⟨"UnderBarsModel", "takeNumber", "(II)I"⟩, 59) := ⟨⟨by decide +kernel, by decide +kernel⟩, List.mem_of_getElem? (i := 897) (by decide +kernel), List.mem_of_getElem? (i := 1173) (by decide +kernel), List.mem_of_getElem? (i := 1174) (by decide +kernel)⟩
theorem lw_p37 : lw_okq (⟨"UnderBarsModel", "takeSign", "(I)V"⟩, 59) := ⟨⟨by decide +kernel, by decide +kernel⟩, List.mem_of_getElem? (i := 897) (by decide +kernel), List.mem_of_getElem? (i := 1179) (by decide +kernel), List.mem_of_getElem? (i := 1180) (by decide +kernel)⟩
theorem lw_p38 : lw_okq (⟨"UnderBarsModel", "takePlace", "()V"⟩, 59) := ⟨⟨by decide +kernel, by decide +kernel⟩, List.mem_of_getElem? (i := 897) (by decide +kernel), List.mem_of_getElem? (i := 1186) (by decide +kernel), List.mem_of_getElem? (i := 1187) (by decide +kernel)⟩
theorem lw_p39 : lw_okq (⟨"UnderBarsModel", "takeName", "()V"⟩, 59) := ⟨⟨by decide +kernel, by decide +kernel⟩, List.mem_of_getElem? (i := 897) (by decide +kernel), List.mem_of_getElem? (i := 1190) (by decide +kernel), List.mem_of_getElem? (i := 1191) (by decide +kernel)⟩
theorem lw_p40 : lw_okq (⟨"UnderBarsModel", "wideAt", "(I)I"⟩, 59) := ⟨⟨by decide +kernel, by decide +kernel⟩, List.mem_of_getElem? (i := 897) (by decide +kernel), List.mem_of_getElem? (i := 1202) (by decide +kernel), List.mem_of_getElem? (i := 1203) (by decide +kernel)⟩
theorem lw_p41 : lw_okq (⟨"UnderBarsModel", "noBar", "(I)Z"⟩, 59) := ⟨⟨by decide +kernel, by decide +kernel⟩, List.mem_of_getElem? (i := 897) (by decide +kernel), List.mem_of_getElem? (i := 1210) (by decide +kernel), List.mem_of_getElem? (i := 1211) (by decide +kernel)⟩
theorem lw_p42 : lw_okq (⟨"UnderBarsModel", "begin", "()V"⟩, 59) := ⟨⟨by decide +kernel, by decide +kernel⟩, List.mem_of_getElem? (i := 897) (by decide +kernel), List.mem_of_getElem? (i := 1218) (by decide +kernel), List.mem_of_getElem? (i := 1219) (by decide +kernel)⟩
theorem lw_p43 : lw_okq (⟨"UnderBarsModel", "goThrough", "()Z"⟩, 59) := ⟨⟨by decide +kernel, by decide +kernel⟩, List.mem_of_getElem? (i := 897) (by decide +kernel), List.mem_of_getElem? (i := 1222) (by decide +kernel), List.mem_of_getElem? (i := 1223) (by decide +kernel)⟩
theorem lw_p44 : lw_okq (⟨"UnderBarsModel", "findOpen", "()V"⟩, 59) := ⟨⟨by decide +kernel, by decide +kernel⟩, List.mem_of_getElem? (i := 897) (by decide +kernel), List.mem_of_getElem? (i := 1226) (by decide +kernel), List.mem_of_getElem? (i := 1227) (by decide +kernel)⟩
theorem lw_p45 : lw_okq (⟨"UnderBarsModel", "findShown", "()V"⟩, 59) := ⟨⟨by decide +kernel, by decide +kernel⟩, List.mem_of_getElem? (i := 897) (by decide +kernel), List.mem_of_getElem? (i := 1230) (by decide +kernel), List.mem_of_getElem? (i := 1231) (by decide +kernel)⟩
theorem lw_p46 : lw_okq (⟨"UnderBarsModel", "isBarred", "(I)Z"⟩, 59) := ⟨⟨by decide +kernel, by decide +kernel⟩, List.mem_of_getElem? (i := 897) (by decide +kernel), List.mem_of_getElem? (i := 1234) (by decide +kernel), List.mem_of_getElem? (i := 1235) (by decide +kernel)⟩
theorem lw_p47 : lw_okq (⟨"UnderBarsModel", "takeReading", "()V"⟩, 59) := ⟨⟨by decide +kernel, by decide +kernel⟩, List.mem_of_getElem? (i := 897) (by decide +kernel), List.mem_of_getElem? (i := 1238) (by decide +kernel), List.mem_of_getElem? (i := 1239) (by decide +kernel)⟩
def lw_privs_3 : List (MethodName × Nat) := [(⟨"UnderBarsModel", "takeWord", "()V"⟩, 59), (⟨"UnderBarsModel", "here", "()I"⟩, 59), (⟨"UnderBarsModel", "isWord", "(IIIIIII)Z"⟩, 59), (⟨"UnderBarsModel", "want", "(ZII)Z"⟩, 59), (⟨"UnderBarsModel", "takeNumber", "(II)I"⟩, 59), (⟨"UnderBarsModel", "takeSign", "(I)V"⟩, 59), (⟨"UnderBarsModel", "takePlace", "()V"⟩, 59), (⟨"UnderBarsModel", "takeName", "()V"⟩, 59), (⟨"UnderBarsModel", "wideAt", "(I)I"⟩, 59), (⟨"UnderBarsModel", "noBar", "(I)Z"⟩, 59), (⟨"UnderBarsModel", "begin", "()V"⟩, 59), (⟨"UnderBarsModel", "goThrough", "()Z"⟩, 59), (⟨"UnderBarsModel", "findOpen", "()V"⟩, 59), (⟨"UnderBarsModel", "findShown", "()V"⟩, 59), (⟨"UnderBarsModel", "isBarred", "(I)Z"⟩, 59), (⟨"UnderBarsModel", "takeReading", "()V"⟩, 59)]
theorem lw_r3 : ∀ q ∈ lw_privs_3, lw_okq q := List.forall_mem_cons.mpr ⟨lw_p32, List.forall_mem_cons.mpr ⟨lw_p33, List.forall_mem_cons.mpr ⟨lw_p34, List.forall_mem_cons.mpr ⟨lw_p35, List.forall_mem_cons.mpr ⟨lw_p36, List.forall_mem_cons.mpr ⟨lw_p37, List.forall_mem_cons.mpr ⟨lw_p38, List.forall_mem_cons.mpr ⟨lw_p39, List.forall_mem_cons.mpr ⟨lw_p40, List.forall_mem_cons.mpr ⟨lw_p41, List.forall_mem_cons.mpr ⟨lw_p42, List.forall_mem_cons.mpr ⟨lw_p43, List.forall_mem_cons.mpr ⟨lw_p44, List.forall_mem_cons.mpr ⟨lw_p45, List.forall_mem_cons.mpr ⟨lw_p46, List.forall_mem_cons.mpr ⟨lw_p47, fun _ h => absurd h List.not_mem_nil⟩⟩⟩⟩⟩⟩⟩⟩⟩⟩⟩⟩⟩⟩⟩⟩
theorem lw_p48 : lw_okq (⟨"UnderBarsModel", "mayGive", "(II)Z"⟩, 59) := ⟨⟨by decide +kernel, by decide +kernel⟩, List.mem_of_getElem? (i := 897) (by decide +kernel), List.mem_of_getElem? (i := 1242) (by decide +kernel), List.mem_of_getElem? (i := 1243) (by decide +kernel)⟩
theorem lw_p49 : lw_okq (⟨"UnderBarsModel", "fitsAt", "(II)Z"⟩, 59) := ⟨⟨by decide +kernel, by decide +kernel⟩, List.mem_of_getElem? (i := 897) (by decide +kernel), List.mem_of_getElem? (i := 1246) (by decide +kernel), List.mem_of_getElem? (i := 1247) (by decide +kernel)⟩
theorem lw_p50 : lw_okq (⟨"UnderBarsModel", "twinsAgree", "(II)Z"⟩, 59) := ⟨⟨by decide +kernel, by decide +kernel⟩, List.mem_of_getElem? (i := 897) (by decide +kernel), List.mem_of_getElem? (i := 1250) (by decide +kernel), List.mem_of_getElem? (i := 1251) (by decide +kernel)⟩
theorem lw_p51 : lw_okq (⟨"UnderBarsModel", "posOf", "(I)I"⟩, 59) := ⟨⟨by decide +kernel, by decide +kernel⟩, List.mem_of_getElem? (i := 897) (by decide +kernel), List.mem_of_getElem? (i := 1262) (by decide +kernel), List.mem_of_getElem? (i := 1263) (by decide +kernel)⟩
theorem lw_p52 : lw_okq (⟨"UnderBarsModel", "isShown", "(I)Z"⟩, 59) := ⟨⟨by decide +kernel, by decide +kernel⟩, List.mem_of_getElem? (i := 897) (by decide +kernel), List.mem_of_getElem? (i := 1285) (by decide +kernel), List.mem_of_getElem? (i := 1286) (by decide +kernel)⟩
theorem lw_p53 : lw_okq (⟨"UnderBarsModel", "noSet", "(I)Z"⟩, 59) := ⟨⟨by decide +kernel, by decide +kernel⟩, List.mem_of_getElem? (i := 897) (by decide +kernel), List.mem_of_getElem? (i := 1297) (by decide +kernel), List.mem_of_getElem? (i := 1298) (by decide +kernel)⟩
theorem lw_p54 : lw_okq (⟨"UnderBarsModel", "join", "(I)V"⟩, 59) := ⟨⟨by decide +kernel, by decide +kernel⟩, List.mem_of_getElem? (i := 897) (by decide +kernel), List.mem_of_getElem? (i := 1309) (by decide +kernel), List.mem_of_getElem? (i := 1310) (by decide +kernel)⟩
theorem lw_p55 : lw_okq (⟨"UnderBarsModel", "betrayedNow", "()I"⟩, 59) := ⟨⟨by decide +kernel, by decide +kernel⟩, List.mem_of_getElem? (i := 897) (by decide +kernel), List.mem_of_getElem? (i := 1325) (by decide +kernel), List.mem_of_getElem? (i := 1326) (by decide +kernel)⟩
theorem lw_p56 : lw_okq (⟨"UnderBarsModel", "openedBy", "(I)I"⟩, 59) := ⟨⟨by decide +kernel, by decide +kernel⟩, List.mem_of_getElem? (i := 897) (by decide +kernel), List.mem_of_getElem? (i := 1333) (by decide +kernel), List.mem_of_getElem? (i := 1334) (by decide +kernel)⟩
theorem lw_p57 : lw_okq (⟨"UnderBarsModel", "showsKept", "(I)Z"⟩, 59) := ⟨⟨by decide +kernel, by decide +kernel⟩, List.mem_of_getElem? (i := 897) (by decide +kernel), List.mem_of_getElem? (i := 1337) (by decide +kernel), List.mem_of_getElem? (i := 1338) (by decide +kernel)⟩
theorem lw_p58 : lw_okq (⟨"UnderBarsModel", "isSafe", "(I)I"⟩, 59) := ⟨⟨by decide +kernel, by decide +kernel⟩, List.mem_of_getElem? (i := 897) (by decide +kernel), List.mem_of_getElem? (i := 1349) (by decide +kernel), List.mem_of_getElem? (i := 1350) (by decide +kernel)⟩
def lw_privs_4 : List (MethodName × Nat) := [(⟨"UnderBarsModel", "mayGive", "(II)Z"⟩, 59), (⟨"UnderBarsModel", "fitsAt", "(II)Z"⟩, 59), (⟨"UnderBarsModel", "twinsAgree", "(II)Z"⟩, 59), (⟨"UnderBarsModel", "posOf", "(I)I"⟩, 59), (⟨"UnderBarsModel", "isShown", "(I)Z"⟩, 59), (⟨"UnderBarsModel", "noSet", "(I)Z"⟩, 59), (⟨"UnderBarsModel", "join", "(I)V"⟩, 59), (⟨"UnderBarsModel", "betrayedNow", "()I"⟩, 59), (⟨"UnderBarsModel", "openedBy", "(I)I"⟩, 59), (⟨"UnderBarsModel", "showsKept", "(I)Z"⟩, 59), (⟨"UnderBarsModel", "isSafe", "(I)I"⟩, 59)]
theorem lw_r4 : ∀ q ∈ lw_privs_4, lw_okq q := List.forall_mem_cons.mpr ⟨lw_p48, List.forall_mem_cons.mpr ⟨lw_p49, List.forall_mem_cons.mpr ⟨lw_p50, List.forall_mem_cons.mpr ⟨lw_p51, List.forall_mem_cons.mpr ⟨lw_p52, List.forall_mem_cons.mpr ⟨lw_p53, List.forall_mem_cons.mpr ⟨lw_p54, List.forall_mem_cons.mpr ⟨lw_p55, List.forall_mem_cons.mpr ⟨lw_p56, List.forall_mem_cons.mpr ⟨lw_p57, List.forall_mem_cons.mpr ⟨lw_p58, fun _ h => absurd h List.not_mem_nil⟩⟩⟩⟩⟩⟩⟩⟩⟩⟩⟩
def lw_privs : List (MethodName × Nat) := lw_privs_1 ++ (lw_privs_2 ++ (lw_privs_3 ++ (lw_privs_4)))
def lw_tbl : List Cond := k2_sels lw_privs ++ tables_1
theorem lw_privs_ok : ∀ q ∈ lw_privs, lw_okq q := by
  show ∀ q ∈ lw_privs_1 ++ (lw_privs_2 ++ (lw_privs_3 ++ (lw_privs_4))), lw_okq q
  exact List.forall_mem_append.mpr ⟨lw_r1, List.forall_mem_append.mpr ⟨lw_r2, List.forall_mem_append.mpr ⟨lw_r3, lw_r4⟩⟩⟩

def RX0 : String := "UnderBars$Layout"
def TX0 : u_T := fun k => match k with
  | 0 => ("UnderBars$Layout", "names", "LUnderBars$Names;", true)
  | 1 => ("UnderBars$Layout", "pages", "LUnderBars$Pages;", true)
  | 2 => ("UnderBars$Layout", "slots", "LUnderBars$Slots;", true)
  | 3 => ("UnderBars$Layout", "fitting", "[I", true)
  | 4 => ("UnderBars$Layout", "shutOut", "[I", true)
  | _ => ("UnderBars$Layout", "slotOf", "[I", true)
def tyX0 : Nat → FieldType := fun k => match k with
  | 0 => .object "UnderBars$Names"
  | 1 => .object "UnderBars$Pages"
  | 2 => .object "UnderBars$Slots"
  | 3 => .array .int
  | 4 => .array .int
  | _ => .array .int
abbrev wsX00 : List Cond := u_ws RX0 TX0 6
theorem nmX0 : ∀ a, a < 6 → ∀ b, b < 6 → a ≠ b → (TX0 a).2.1 ≠ (TX0 b).2.1 := by decide +kernel
theorem tyX0_ok : ∀ k, k < 6 → parseFieldDescriptor (TX0 k).2.2.1 = some (tyX0 k) := by decide +kernel
abbrev cX0_init : ByteArray := prog_2_method_1_code
def yX0_init : MethodName := ⟨RX0, "<init>", "(LUnderBars$Names;LUnderBars$Pages;LUnderBars$Slots;)V"⟩
abbrev cX0_widthAt : ByteArray := prog_2_method_2_code
def yX0_widthAt : MethodName := ⟨RX0, "widthAt", "(I)I"⟩
abbrev cX0_fittingAt : ByteArray := prog_2_method_3_code
def yX0_fittingAt : MethodName := ⟨RX0, "fittingAt", "(II)I"⟩
abbrev cX0_measure : ByteArray := prog_2_method_4_code
def yX0_measure : MethodName := ⟨RX0, "measure", "(I)V"⟩
abbrev cX0_shownOn : ByteArray := prog_2_method_5_code
def yX0_shownOn : MethodName := ⟨RX0, "shownOn", "(II)I"⟩
abbrev cX0_lay : ByteArray := prog_2_method_6_code
def yX0_lay : MethodName := ⟨RX0, "lay", "(II)V"⟩
abbrev cX0_shutOutByShown : ByteArray := prog_2_method_7_code
def yX0_shutOutByShown : MethodName := ⟨RX0, "shutOutByShown", "(I)V"⟩
abbrev cX0_noteSlot : ByteArray := prog_2_method_8_code
def yX0_noteSlot : MethodName := ⟨RX0, "noteSlot", "(I)V"⟩
abbrev cX0_layTwins : ByteArray := prog_2_method_9_code
def yX0_layTwins : MethodName := ⟨RX0, "layTwins", "(I)V"⟩
abbrev cX0_isLaid : ByteArray := prog_2_method_10_code
def yX0_isLaid : MethodName := ⟨RX0, "isLaid", "(II)Z"⟩
def RX1 : String := "UnderBars$Names"
def TX1 : u_T := fun k => match k with
  | 0 => ("UnderBars$Names", "letterWidths", "[I", true)
  | 1 => ("UnderBars$Names", "letters", "[I", true)
  | 2 => ("UnderBars$Names", "lengths", "[I", true)
  | 3 => ("UnderBars$Names", "widths", "[I", true)
  | 4 => ("UnderBars$Names", "held", "[I", true)
  | 5 => ("UnderBars$Names", "from", "[I", true)
  | 6 => ("UnderBars$Names", "to", "[I", true)
  | 7 => ("UnderBars$Names", "weights", "[I", true)
  | 8 => ("UnderBars$Names", "apart", "[I", true)
  | _ => ("UnderBars$Names", "size", "I", false)
def tyX1 : Nat → FieldType := fun k => match k with
  | 0 => .array .int
  | 1 => .array .int
  | 2 => .array .int
  | 3 => .array .int
  | 4 => .array .int
  | 5 => .array .int
  | 6 => .array .int
  | 7 => .array .int
  | 8 => .array .int
  | _ => .int
abbrev wsX10 : List Cond := u_ws RX1 TX1 10
theorem nmX1 : ∀ a, a < 10 → ∀ b, b < 10 → a ≠ b → (TX1 a).2.1 ≠ (TX1 b).2.1 := by decide +kernel
theorem tyX1_ok : ∀ k, k < 10 → parseFieldDescriptor (TX1 k).2.2.1 = some (tyX1 k) := by decide +kernel
abbrev cX1_init : ByteArray := prog_3_method_1_code
def yX1_init : MethodName := ⟨RX1, "<init>", "()V"⟩
abbrev cX1_isKnown : ByteArray := prog_3_method_2_code
def yX1_isKnown : MethodName := ⟨RX1, "isKnown", "(I)Z"⟩
abbrev cX1_areKnown : ByteArray := prog_3_method_3_code
def yX1_areKnown : MethodName := ⟨RX1, "areKnown", "(I)Z"⟩
abbrev cX1_widenLetter : ByteArray := prog_3_method_4_code
def yX1_widenLetter : MethodName := ⟨RX1, "widenLetter", "(III)I"⟩
abbrev cX1_measureName : ByteArray := prog_3_method_5_code
def yX1_measureName : MethodName := ⟨RX1, "measureName", "(II)V"⟩
abbrev cX1_widthOf : ByteArray := prog_3_method_6_code
def yX1_widthOf : MethodName := ⟨RX1, "widthOf", "(II)I"⟩
abbrev cX1_find : ByteArray := prog_3_method_7_code
def yX1_find : MethodName := ⟨RX1, "find", "(LUnderBars$Text;II)I"⟩
abbrev cX1_isWritten : ByteArray := prog_3_method_8_code
def yX1_isWritten : MethodName := ⟨RX1, "isWritten", "(ILUnderBars$Text;I)Z"⟩
abbrev cX1_add : ByteArray := prog_3_method_9_code
def yX1_add : MethodName := ⟨RX1, "add", "(LUnderBars$Text;)V"⟩
abbrev cX1_setApart : ByteArray := prog_3_method_10_code
def yX1_setApart : MethodName := ⟨RX1, "setApart", "(IIZ)Z"⟩
abbrev cX1_pairsApart : ByteArray := prog_3_method_11_code
def yX1_pairsApart : MethodName := ⟨RX1, "pairsApart", "()I"⟩
abbrev cX1_shutOutBy : ByteArray := prog_3_method_12_code
def yX1_shutOutBy : MethodName := ⟨RX1, "shutOutBy", "(I)I"⟩
abbrev cX1_servingOn : ByteArray := prog_3_method_13_code
def yX1_servingOn : MethodName := ⟨RX1, "servingOn", "(II)I"⟩
abbrev cX1_asWideAs : ByteArray := prog_3_method_14_code
def yX1_asWideAs : MethodName := ⟨RX1, "asWideAs", "(III)I"⟩
def RX2 : String := "UnderBars$PageParser"
def TX2 : u_T := fun k => match k with
  | 0 => ("UnderBars$PageParser", "text", "LUnderBars$Text;", true)
  | 1 => ("UnderBars$PageParser", "names", "LUnderBars$Names;", true)
  | 2 => ("UnderBars$PageParser", "offices", "[I", true)
  | 3 => ("UnderBars$PageParser", "shown", "[I", true)
  | 4 => ("UnderBars$PageParser", "widths", "[I", true)
  | 5 => ("UnderBars$PageParser", "at", "I", false)
  | 6 => ("UnderBars$PageParser", "fault", "I", false)
  | 7 => ("UnderBars$PageParser", "faultAt", "I", false)
  | 8 => ("UnderBars$PageParser", "day", "I", false)
  | 9 => ("UnderBars$PageParser", "fount", "I", false)
  | 10 => ("UnderBars$PageParser", "size", "I", false)
  | 11 => ("UnderBars$PageParser", "bars", "I", false)
  | _ => ("UnderBars$PageParser", "shownSet", "I", false)
def tyX2 : Nat → FieldType := fun k => match k with
  | 0 => .object "UnderBars$Text"
  | 1 => .object "UnderBars$Names"
  | 2 => .array .int
  | 3 => .array .int
  | 4 => .array .int
  | 5 => .int
  | 6 => .int
  | 7 => .int
  | 8 => .int
  | 9 => .int
  | 10 => .int
  | 11 => .int
  | _ => .int
abbrev wsX20 : List Cond := u_ws RX2 TX2 13
theorem nmX2 : ∀ a, a < 13 → ∀ b, b < 13 → a ≠ b → (TX2 a).2.1 ≠ (TX2 b).2.1 := by decide +kernel
theorem tyX2_ok : ∀ k, k < 13 → parseFieldDescriptor (TX2 k).2.2.1 = some (tyX2 k) := by decide +kernel
abbrev cX2_init : ByteArray := prog_4_method_1_code
def yX2_init : MethodName := ⟨RX2, "<init>", "(LUnderBars$Text;LUnderBars$Names;)V"⟩
abbrev cX2_parse : ByteArray := prog_4_method_2_code
def yX2_parse : MethodName := ⟨RX2, "parse", "(I)V"⟩
abbrev cX2_fail : ByteArray := prog_4_method_3_code
def yX2_fail : MethodName := ⟨RX2, "fail", "(II)V"⟩
abbrev cX2_skipBlanks : ByteArray := prog_4_method_4_code
def yX2_skipBlanks : MethodName := ⟨RX2, "skipBlanks", "()V"⟩
abbrev cX2_takeSign : ByteArray := prog_4_method_5_code
def yX2_takeSign : MethodName := ⟨RX2, "takeSign", "(I)V"⟩
abbrev cX2_takeWord : ByteArray := prog_4_method_6_code
def yX2_takeWord : MethodName := ⟨RX2, "takeWord", "(Ljava/lang/String;)V"⟩
abbrev cX2_takeNumber : ByteArray := prog_4_method_7_code
def yX2_takeNumber : MethodName := ⟨RX2, "takeNumber", "(II)I"⟩
abbrev cX2_takePlace : ByteArray := prog_4_method_8_code
def yX2_takePlace : MethodName := ⟨RX2, "takePlace", "(I)V"⟩
abbrev cX2_takeShown : ByteArray := prog_4_method_9_code
def yX2_takeShown : MethodName := ⟨RX2, "takeShown", "(I)V"⟩
abbrev cX2_takeBar : ByteArray := prog_4_method_10_code
def yX2_takeBar : MethodName := ⟨RX2, "takeBar", "(I)V"⟩
abbrev cX2_takeComma : ByteArray := prog_4_method_11_code
def yX2_takeComma : MethodName := ⟨RX2, "takeComma", "()Z"⟩
def RX3 : String := "UnderBars$Pages"
def TX3 : u_T := fun k => match k with
  | 0 => ("UnderBars$Pages", "dayOf", "[I", true)
  | 1 => ("UnderBars$Pages", "fountOf", "[I", true)
  | 2 => ("UnderBars$Pages", "pageOf", "[I", true)
  | 3 => ("UnderBars$Pages", "officeOf", "[I", true)
  | 4 => ("UnderBars$Pages", "shownAt", "[I", true)
  | 5 => ("UnderBars$Pages", "openAt", "[I", true)
  | 6 => ("UnderBars$Pages", "barAt", "[I", true)
  | 7 => ("UnderBars$Pages", "barWidth", "[I", true)
  | 8 => ("UnderBars$Pages", "placeOf", "[I", true)
  | 9 => ("UnderBars$Pages", "twinsOf", "[I", true)
  | 10 => ("UnderBars$Pages", "size", "I", false)
  | 11 => ("UnderBars$Pages", "places", "I", false)
  | 12 => ("UnderBars$Pages", "opens", "I", false)
  | 13 => ("UnderBars$Pages", "bars", "I", false)
  | _ => ("UnderBars$Pages", "pairs", "I", false)
def tyX3 : Nat → FieldType := fun k => match k with
  | 0 => .array .int
  | 1 => .array .int
  | 2 => .array .int
  | 3 => .array .int
  | 4 => .array .int
  | 5 => .array .int
  | 6 => .array .int
  | 7 => .array .int
  | 8 => .array .int
  | 9 => .array .int
  | 10 => .int
  | 11 => .int
  | 12 => .int
  | 13 => .int
  | _ => .int
abbrev wsX30 : List Cond := u_ws RX3 TX3 15
theorem nmX3 : ∀ a, a < 15 → ∀ b, b < 15 → a ≠ b → (TX3 a).2.1 ≠ (TX3 b).2.1 := by decide +kernel
theorem tyX3_ok : ∀ k, k < 15 → parseFieldDescriptor (TX3 k).2.2.1 = some (tyX3 k) := by decide +kernel
abbrev cX3_init : ByteArray := prog_5_method_1_code
def yX3_init : MethodName := ⟨RX3, "<init>", "()V"⟩
abbrev cX3_isBar : ByteArray := prog_5_method_2_code
def yX3_isBar : MethodName := ⟨RX3, "isBar", "(I)Z"⟩
abbrev cX3_add : ByteArray := prog_5_method_3_code
def yX3_add : MethodName := ⟨RX3, "add", "(LUnderBars$PageParser;)V"⟩
abbrev cX3_addPlace : ByteArray := prog_5_method_4_code
def yX3_addPlace : MethodName := ⟨RX3, "addPlace", "(III)V"⟩
abbrev cX3_pair : ByteArray := prog_5_method_5_code
def yX3_pair : MethodName := ⟨RX3, "pair", "(II)V"⟩
abbrev cX3_isShown : ByteArray := prog_5_method_6_code
def yX3_isShown : MethodName := ⟨RX3, "isShown", "(II)Z"⟩
def RX4 : String := "UnderBars$Readers"
def TX4 : u_T := fun k => match k with
  | 0 => ("UnderBars$Readers", "absent", "[I", true)
  | _ => ("UnderBars$Readers", "known", "[I", true)
def tyX4 : Nat → FieldType := fun k => match k with
  | 0 => .array .int
  | _ => .array .int
abbrev wsX40 : List Cond := u_ws RX4 TX4 2
theorem nmX4 : ∀ a, a < 2 → ∀ b, b < 2 → a ≠ b → (TX4 a).2.1 ≠ (TX4 b).2.1 := by decide +kernel
theorem tyX4_ok : ∀ k, k < 2 → parseFieldDescriptor (TX4 k).2.2.1 = some (tyX4 k) := by decide +kernel
abbrev cX4_init : ByteArray := prog_6_method_1_code
def yX4_init : MethodName := ⟨RX4, "<init>", "()V"⟩
abbrev cX4_learn : ByteArray := prog_6_method_2_code
def yX4_learn : MethodName := ⟨RX4, "learn", "(III)I"⟩
abbrev cX4_leave : ByteArray := prog_6_method_3_code
def yX4_leave : MethodName := ⟨RX4, "leave", "(II)I"⟩
abbrev cX4_leftBy : ByteArray := prog_6_method_4_code
def yX4_leftBy : MethodName := ⟨RX4, "leftBy", "(II)I"⟩
def RX5 : String := "UnderBars$Search"
def TX5 : u_T := fun k => match k with
  | 0 => ("UnderBars$Search", "names", "LUnderBars$Names;", true)
  | 1 => ("UnderBars$Search", "slots", "LUnderBars$Slots;", true)
  | 2 => ("UnderBars$Search", "tally", "LUnderBars$Tally;", true)
  | 3 => ("UnderBars$Search", "given", "[I", true)
  | 4 => ("UnderBars$Search", "tried", "[I", true)
  | 5 => ("UnderBars$Search", "shutOut", "[I", true)
  | 6 => ("UnderBars$Search", "free", "[I", true)
  | 7 => ("UnderBars$Search", "namesSoFar", "[I", true)
  | 8 => ("UnderBars$Search", "product", "[J", true)
  | 9 => ("UnderBars$Search", "tries", "I", false)
  | 10 => ("UnderBars$Search", "firstNew", "I", false)
  | _ => ("UnderBars$Search", "large", "Z", false)
def tyX5 : Nat → FieldType := fun k => match k with
  | 0 => .object "UnderBars$Names"
  | 1 => .object "UnderBars$Slots"
  | 2 => .object "UnderBars$Tally"
  | 3 => .array .int
  | 4 => .array .int
  | 5 => .array .int
  | 6 => .array .int
  | 7 => .array .int
  | 8 => .array .long
  | 9 => .int
  | 10 => .int
  | _ => .boolean
abbrev wsX50 : List Cond := u_ws RX5 TX5 12
theorem nmX5 : ∀ a, a < 12 → ∀ b, b < 12 → a ≠ b → (TX5 a).2.1 ≠ (TX5 b).2.1 := by decide +kernel
theorem tyX5_ok : ∀ k, k < 12 → parseFieldDescriptor (TX5 k).2.2.1 = some (tyX5 k) := by decide +kernel
abbrev cX5_init : ByteArray := prog_7_method_1_code
def yX5_init : MethodName := ⟨RX5, "<init>", "(LUnderBars$Names;LUnderBars$Slots;)V"⟩
abbrev cX5_go : ByteArray := prog_7_method_2_code
def yX5_go : MethodName := ⟨RX5, "go", "(I)V"⟩
abbrev cX5_tryOn : ByteArray := prog_7_method_3_code
def yX5_tryOn : MethodName := ⟨RX5, "tryOn", "(I)I"⟩
abbrev cX5_enter : ByteArray := prog_7_method_4_code
def yX5_enter : MethodName := ⟨RX5, "enter", "(I)V"⟩
abbrev cX5_give : ByteArray := prog_7_method_5_code
def yX5_give : MethodName := ⟨RX5, "give", "(II)V"⟩
abbrev cX5_takeReading : ByteArray := prog_7_method_6_code
def yX5_takeReading : MethodName := ⟨RX5, "takeReading", "(I)V"⟩
def RX6 : String := "UnderBars$Slots"
def TX6 : u_T := fun k => match k with
  | 0 => ("UnderBars$Slots", "pageOf", "[I", true)
  | 1 => ("UnderBars$Slots", "allowed", "[I", true)
  | 2 => ("UnderBars$Slots", "twinsAhead", "[I", true)
  | _ => ("UnderBars$Slots", "size", "I", false)
def tyX6 : Nat → FieldType := fun k => match k with
  | 0 => .array .int
  | 1 => .array .int
  | 2 => .array .int
  | _ => .int
abbrev wsX60 : List Cond := u_ws RX6 TX6 4
theorem nmX6 : ∀ a, a < 4 → ∀ b, b < 4 → a ≠ b → (TX6 a).2.1 ≠ (TX6 b).2.1 := by decide +kernel
theorem tyX6_ok : ∀ k, k < 4 → parseFieldDescriptor (TX6 k).2.2.1 = some (tyX6 k) := by decide +kernel
abbrev cX6_init : ByteArray := prog_8_method_1_code
def yX6_init : MethodName := ⟨RX6, "<init>", "()V"⟩
abbrev cX6_add : ByteArray := prog_8_method_2_code
def yX6_add : MethodName := ⟨RX6, "add", "(II)V"⟩
abbrev cX6_isBesideTheOneAhead : ByteArray := prog_8_method_3_code
def yX6_isBesideTheOneAhead : MethodName := ⟨RX6, "isBesideTheOneAhead", "(I)Z"⟩
def RX7 : String := "UnderBars$Tally"
def TX7 : u_T := fun k => match k with
  | 0 => ("UnderBars$Tally", "may", "[I", true)
  | 1 => ("UnderBars$Tally", "found", "I", false)
  | 2 => ("UnderBars$Tally", "inEach", "I", false)
  | 3 => ("UnderBars$Tally", "total", "J", false)
  | 4 => ("UnderBars$Tally", "part", "J", false)
  | 5 => ("UnderBars$Tally", "askedSlot", "I", false)
  | _ => ("UnderBars$Tally", "askedName", "I", false)
def tyX7 : Nat → FieldType := fun k => match k with
  | 0 => .array .int
  | 1 => .int
  | 2 => .int
  | 3 => .long
  | 4 => .long
  | 5 => .int
  | _ => .int
abbrev wsX70 : List Cond := u_ws RX7 TX7 7
theorem nmX7 : ∀ a, a < 7 → ∀ b, b < 7 → a ≠ b → (TX7 a).2.1 ≠ (TX7 b).2.1 := by decide +kernel
theorem tyX7_ok : ∀ k, k < 7 → parseFieldDescriptor (TX7 k).2.2.1 = some (tyX7 k) := by decide +kernel
abbrev cX7_init : ByteArray := prog_9_method_1_code
def yX7_init : MethodName := ⟨RX7, "<init>", "()V"⟩
abbrev cX7_ask : ByteArray := prog_9_method_2_code
def yX7_ask : MethodName := ⟨RX7, "ask", "(II)V"⟩
abbrev cX7_clear : ByteArray := prog_9_method_3_code
def yX7_clear : MethodName := ⟨RX7, "clear", "()V"⟩
abbrev cX7_add : ByteArray := prog_9_method_4_code
def yX7_add : MethodName := ⟨RX7, "add", "(IJZ)V"⟩
abbrev cX7_inSome : ByteArray := prog_9_method_5_code
def yX7_inSome : MethodName := ⟨RX7, "inSome", "(I)I"⟩
abbrev cX7_toldNames : ByteArray := prog_9_method_6_code
def yX7_toldNames : MethodName := ⟨RX7, "toldNames", "(I)I"⟩
def RX8 : String := "UnderBars$Text"
def TX8 : u_T := fun k => match k with
  | 0 => ("UnderBars$Text", "bytes", "[I", true)
  | _ => ("UnderBars$Text", "size", "I", false)
def tyX8 : Nat → FieldType := fun k => match k with
  | 0 => .array .int
  | _ => .int
abbrev wsX80 : List Cond := u_ws RX8 TX8 2
theorem nmX8 : ∀ a, a < 2 → ∀ b, b < 2 → a ≠ b → (TX8 a).2.1 ≠ (TX8 b).2.1 := by decide +kernel
theorem tyX8_ok : ∀ k, k < 2 → parseFieldDescriptor (TX8 k).2.2.1 = some (tyX8 k) := by decide +kernel
abbrev cX8_init : ByteArray := prog_10_method_1_code
def yX8_init : MethodName := ⟨RX8, "<init>", "()V"⟩
abbrev cX8_append : ByteArray := prog_10_method_2_code
def yX8_append : MethodName := ⟨RX8, "append", "(I)V"⟩
abbrev cX8_at : ByteArray := prog_10_method_3_code
def yX8_at : MethodName := ⟨RX8, "at", "(I)I"⟩
abbrev cX8_isLetter : ByteArray := prog_10_method_4_code
def yX8_isLetter : MethodName := ⟨RX8, "isLetter", "(I)Z"⟩
abbrev cX8_isFigure : ByteArray := prog_10_method_5_code
def yX8_isFigure : MethodName := ⟨RX8, "isFigure", "(I)Z"⟩
abbrev cX8_endOfWord : ByteArray := prog_10_method_6_code
def yX8_endOfWord : MethodName := ⟨RX8, "endOfWord", "(I)I"⟩
abbrev cX8_isRowOfLetters : ByteArray := prog_10_method_7_code
def yX8_isRowOfLetters : MethodName := ⟨RX8, "isRowOfLetters", "()Z"⟩
def RX9 : String := "UnderBars"
def TX9 : u_T := fun k => match k with
  | 0 => ("UnderBars", "text", "LUnderBars$Text;", true)
  | 1 => ("UnderBars", "names", "LUnderBars$Names;", true)
  | 2 => ("UnderBars", "pages", "LUnderBars$Pages;", true)
  | 3 => ("UnderBars", "parser", "LUnderBars$PageParser;", true)
  | 4 => ("UnderBars", "readers", "LUnderBars$Readers;", true)
  | 5 => ("UnderBars", "slots", "LUnderBars$Slots;", true)
  | 6 => ("UnderBars", "layout", "LUnderBars$Layout;", true)
  | 7 => ("UnderBars", "search", "LUnderBars$Search;", true)
  | 8 => ("UnderBars", "slackNow", "I", false)
  | 9 => ("UnderBars", "keptNow", "I", false)
  | _ => ("UnderBars", "faultAt", "I", false)
def tyX9 : Nat → FieldType := fun k => match k with
  | 0 => .object "UnderBars$Text"
  | 1 => .object "UnderBars$Names"
  | 2 => .object "UnderBars$Pages"
  | 3 => .object "UnderBars$PageParser"
  | 4 => .object "UnderBars$Readers"
  | 5 => .object "UnderBars$Slots"
  | 6 => .object "UnderBars$Layout"
  | 7 => .object "UnderBars$Search"
  | 8 => .int
  | 9 => .int
  | _ => .int
abbrev wsX90 : List Cond := u_ws RX9 TX9 11
theorem nmX9 : ∀ a, a < 11 → ∀ b, b < 11 → a ≠ b → (TX9 a).2.1 ≠ (TX9 b).2.1 := by decide +kernel
theorem tyX9_ok : ∀ k, k < 11 → parseFieldDescriptor (TX9 k).2.2.1 = some (tyX9 k) := by decide +kernel
abbrev cX9_init : ByteArray := prog_1_method_1_code
def yX9_init : MethodName := ⟨RX9, "<init>", "()V"⟩
abbrev cX9_wide : ByteArray := prog_1_method_2_code
def yX9_wide : MethodName := ⟨RX9, "wide", "(III)I"⟩
abbrev cX9_feed : ByteArray := prog_1_method_3_code
def yX9_feed : MethodName := ⟨RX9, "feed", "(IJ)I"⟩
abbrev cX9_name : ByteArray := prog_1_method_4_code
def yX9_name : MethodName := ⟨RX9, "name", "()I"⟩
abbrev cX9_offices : ByteArray := prog_1_method_5_code
def yX9_offices : MethodName := ⟨RX9, "offices", "(II)I"⟩
abbrev cX9_there : ByteArray := prog_1_method_6_code
def yX9_there : MethodName := ⟨RX9, "there", "(III)I"⟩
abbrev cX9_weight : ByteArray := prog_1_method_7_code
def yX9_weight : MethodName := ⟨RX9, "weight", "(II)I"⟩
abbrev cX9_never : ByteArray := prog_1_method_8_code
def yX9_never : MethodName := ⟨RX9, "never", "(IIZ)I"⟩
abbrev cX9_slack : ByteArray := prog_1_method_9_code
def yX9_slack : MethodName := ⟨RX9, "slack", "(I)I"⟩
abbrev cX9_told : ByteArray := prog_1_method_10_code
def yX9_told : MethodName := ⟨RX9, "told", "(II)I"⟩
abbrev cX9_count : ByteArray := prog_1_method_11_code
def yX9_count : MethodName := ⟨RX9, "count", "(I)I"⟩
abbrev cX9_page : ByteArray := prog_1_method_12_code
def yX9_page : MethodName := ⟨RX9, "page", "()I"⟩
abbrev cX9_fault : ByteArray := prog_1_method_13_code
def yX9_fault : MethodName := ⟨RX9, "fault", "()I"⟩
abbrev cX9_place : ByteArray := prog_1_method_14_code
def yX9_place : MethodName := ⟨RX9, "place", "(II)I"⟩
abbrev cX9_twins : ByteArray := prog_1_method_15_code
def yX9_twins : MethodName := ⟨RX9, "twins", "(II)I"⟩
abbrev cX9_readings : ByteArray := prog_1_method_16_code
def yX9_readings : MethodName := ⟨RX9, "readings", "()I"⟩
abbrev cX9_reading : ByteArray := prog_1_method_17_code
def yX9_reading : MethodName := ⟨RX9, "reading", "(II)I"⟩
abbrev cX9_may : ByteArray := prog_1_method_18_code
def yX9_may : MethodName := ⟨RX9, "may", "(I)I"⟩
abbrev cX9_fits : ByteArray := prog_1_method_19_code
def yX9_fits : MethodName := ⟨RX9, "fits", "(I)I"⟩
abbrev cX9_odds : ByteArray := prog_1_method_20_code
def yX9_odds : MethodName := ⟨RX9, "odds", "(III)J"⟩
abbrev cX9_on : ByteArray := prog_1_method_21_code
def yX9_on : MethodName := ⟨RX9, "on", "(I)I"⟩
abbrev cX9_away : ByteArray := prog_1_method_22_code
def yX9_away : MethodName := ⟨RX9, "away", "(II)I"⟩
abbrev cX9_knows : ByteArray := prog_1_method_23_code
def yX9_knows : MethodName := ⟨RX9, "knows", "(III)I"⟩
abbrev cX9_together : ByteArray := prog_1_method_24_code
def yX9_together : MethodName := ⟨RX9, "together", "(I)I"⟩
abbrev cX9_sees : ByteArray := prog_1_method_25_code
def yX9_sees : MethodName := ⟨RX9, "sees", "(II)I"⟩
abbrev cX9_keep : ByteArray := prog_1_method_26_code
def yX9_keep : MethodName := ⟨RX9, "keep", "(I)I"⟩
abbrev cX9_betrayed : ByteArray := prog_1_method_27_code
def yX9_betrayed : MethodName := ⟨RX9, "betrayed", "(I)I"⟩
abbrev cX9_opened : ByteArray := prog_1_method_28_code
def yX9_opened : MethodName := ⟨RX9, "opened", "(I)I"⟩
abbrev cX9_most : ByteArray := prog_1_method_29_code
def yX9_most : MethodName := ⟨RX9, "most", "()I"⟩
abbrev cX9_fewest : ByteArray := prog_1_method_30_code
def yX9_fewest : MethodName := ⟨RX9, "fewest", "()I"⟩
abbrev cX9_wider : ByteArray := prog_1_method_31_code
def yX9_wider : MethodName := ⟨RX9, "wider", "()I"⟩
abbrev cX9_addName : ByteArray := prog_1_method_32_code
def yX9_addName : MethodName := ⟨RX9, "addName", "()I"⟩
abbrev cX9_goThrough : ByteArray := prog_1_method_33_code
def yX9_goThrough : MethodName := ⟨RX9, "goThrough", "(II)V"⟩
abbrev cX9_countReadings : ByteArray := prog_1_method_34_code
def yX9_countReadings : MethodName := ⟨RX9, "countReadings", "(I)I"⟩
abbrev cX9_mayToReaders : ByteArray := prog_1_method_35_code
def yX9_mayToReaders : MethodName := ⟨RX9, "mayToReaders", "(II)I"⟩
abbrev cX9_betrayedNow : ByteArray := prog_1_method_36_code
def yX9_betrayedNow : MethodName := ⟨RX9, "betrayedNow", "()I"⟩
abbrev cX9_tryToOpen : ByteArray := prog_1_method_37_code
def yX9_tryToOpen : MethodName := ⟨RX9, "tryToOpen", "(I)I"⟩
abbrev cX9_tryToBar : ByteArray := prog_1_method_38_code
def yX9_tryToBar : MethodName := ⟨RX9, "tryToBar", "(I)I"⟩
abbrev cX9_areReaders : ByteArray := prog_1_method_39_code
def yX9_areReaders : MethodName := ⟨RX9, "areReaders", "(I)Z"⟩
abbrev cX9_within : ByteArray := prog_1_method_40_code
def yX9_within : MethodName := ⟨RX9, "within", "(III)Z"⟩
abbrev cX9_has : ByteArray := prog_1_method_41_code
def yX9_has : MethodName := ⟨RX9, "has", "(II)Z"⟩
abbrev cX9_allBelow : ByteArray := prog_1_method_42_code
def yX9_allBelow : MethodName := ⟨RX9, "allBelow", "(I)I"⟩
abbrev cX9_commonDivisor : ByteArray := prog_1_method_43_code
def yX9_commonDivisor : MethodName := ⟨RX9, "commonDivisor", "(JJ)J"⟩
def RX10 : String := "UnderBarsModel"
def TX10 : u_T := fun k => match k with
  | 0 => ("UnderBarsModel", "width", "[I", true)
  | 1 => ("UnderBarsModel", "names", "I", false)
  | 2 => ("UnderBarsModel", "letter", "[I", true)
  | 3 => ("UnderBarsModel", "size", "[I", true)
  | 4 => ("UnderBarsModel", "office", "[I", true)
  | 5 => ("UnderBarsModel", "since", "[I", true)
  | 6 => ("UnderBarsModel", "until", "[I", true)
  | 7 => ("UnderBarsModel", "weight", "[I", true)
  | 8 => ("UnderBarsModel", "never", "[I", true)
  | 9 => ("UnderBarsModel", "slack", "I", false)
  | 10 => ("UnderBarsModel", "kept", "I", false)
  | 11 => ("UnderBarsModel", "text", "[I", true)
  | 12 => ("UnderBarsModel", "textSize", "I", false)
  | 13 => ("UnderBarsModel", "pages", "I", false)
  | 14 => ("UnderBarsModel", "day", "[I", true)
  | 15 => ("UnderBarsModel", "fount", "[I", true)
  | 16 => ("UnderBarsModel", "places", "I", false)
  | 17 => ("UnderBarsModel", "pageOf", "[I", true)
  | 18 => ("UnderBarsModel", "officeOf", "[I", true)
  | 19 => ("UnderBarsModel", "shown", "[I", true)
  | 20 => ("UnderBarsModel", "barOf", "[I", true)
  | 21 => ("UnderBarsModel", "barWidth", "[I", true)
  | 22 => ("UnderBarsModel", "bars", "I", false)
  | 23 => ("UnderBarsModel", "placeOf", "[I", true)
  | 24 => ("UnderBarsModel", "twins", "I", false)
  | 25 => ("UnderBarsModel", "twinA", "[I", true)
  | 26 => ("UnderBarsModel", "twinB", "[I", true)
  | 27 => ("UnderBarsModel", "at", "I", false)
  | 28 => ("UnderBarsModel", "from", "I", false)
  | 29 => ("UnderBarsModel", "letters", "I", false)
  | 30 => ("UnderBarsModel", "faultOf", "I", false)
  | 31 => ("UnderBarsModel", "fault", "I", false)
  | 32 => ("UnderBarsModel", "newPlaces", "I", false)
  | 33 => ("UnderBarsModel", "newBars", "I", false)
  | 34 => ("UnderBarsModel", "newOffice", "[I", true)
  | 35 => ("UnderBarsModel", "newShown", "[I", true)
  | 36 => ("UnderBarsModel", "newWidth", "[I", true)
  | 37 => ("UnderBarsModel", "pageSet", "I", false)
  | 38 => ("UnderBarsModel", "barredSet", "I", false)
  | 39 => ("UnderBarsModel", "awaySet", "I", false)
  | 40 => ("UnderBarsModel", "must", "[I", true)
  | 41 => ("UnderBarsModel", "allowed", "I", false)
  | 42 => ("UnderBarsModel", "read", "[I", true)
  | 43 => ("UnderBarsModel", "reads", "I", false)
  | 44 => ("UnderBarsModel", "given", "[I", true)
  | 45 => ("UnderBarsModel", "openOnes", "[I", true)
  | 46 => ("UnderBarsModel", "opens", "I", false)
  | 47 => ("UnderBarsModel", "readings", "I", false)
  | 48 => ("UnderBarsModel", "weightAll", "J", false)
  | 49 => ("UnderBarsModel", "mayBe", "[I", true)
  | 50 => ("UnderBarsModel", "weightOf", "[J", true)
  | 51 => ("UnderBarsModel", "inEach", "I", false)
  | 52 => ("UnderBarsModel", "inSome", "I", false)
  | 53 => ("UnderBarsModel", "wantedReading", "I", false)
  | 54 => ("UnderBarsModel", "wantedBar", "I", false)
  | 55 => ("UnderBarsModel", "wantedName", "I", false)
  | 56 => ("UnderBarsModel", "shownOn", "[I", true)
  | 57 => ("UnderBarsModel", "away", "[I", true)
  | _ => ("UnderBarsModel", "known", "[I", true)
def tyX10 : Nat → FieldType := fun k => match k with
  | 0 => .array .int
  | 1 => .int
  | 2 => .array .int
  | 3 => .array .int
  | 4 => .array .int
  | 5 => .array .int
  | 6 => .array .int
  | 7 => .array .int
  | 8 => .array .int
  | 9 => .int
  | 10 => .int
  | 11 => .array .int
  | 12 => .int
  | 13 => .int
  | 14 => .array .int
  | 15 => .array .int
  | 16 => .int
  | 17 => .array .int
  | 18 => .array .int
  | 19 => .array .int
  | 20 => .array .int
  | 21 => .array .int
  | 22 => .int
  | 23 => .array .int
  | 24 => .int
  | 25 => .array .int
  | 26 => .array .int
  | 27 => .int
  | 28 => .int
  | 29 => .int
  | 30 => .int
  | 31 => .int
  | 32 => .int
  | 33 => .int
  | 34 => .array .int
  | 35 => .array .int
  | 36 => .array .int
  | 37 => .int
  | 38 => .int
  | 39 => .int
  | 40 => .array .int
  | 41 => .int
  | 42 => .array .int
  | 43 => .int
  | 44 => .array .int
  | 45 => .array .int
  | 46 => .int
  | 47 => .int
  | 48 => .long
  | 49 => .array .int
  | 50 => .array .long
  | 51 => .int
  | 52 => .int
  | 53 => .int
  | 54 => .int
  | 55 => .int
  | 56 => .array .int
  | 57 => .array .int
  | _ => .array .int
abbrev wsX100 : List Cond := u_ws RX10 TX10 59
theorem nmX10 : ∀ a, a < 59 → ∀ b, b < 59 → a ≠ b → (TX10 a).2.1 ≠ (TX10 b).2.1 := by decide +kernel
theorem tyX10_ok : ∀ k, k < 59 → parseFieldDescriptor (TX10 k).2.2.1 = some (tyX10 k) := by decide +kernel
abbrev cX10_init : ByteArray := prog_12_method_1_code
def yX10_init : MethodName := ⟨RX10, "<init>", "()V"⟩
abbrev cX10_in : ByteArray := prog_12_method_3_code
def yX10_in : MethodName := ⟨RX10, "in", "(JJJ)Z"⟩
abbrev cX10_one : ByteArray := prog_12_method_4_code
def yX10_one : MethodName := ⟨RX10, "one", "(Z)I"⟩
abbrev cX10_ones : ByteArray := prog_12_method_5_code
def yX10_ones : MethodName := ⟨RX10, "ones", "(I)I"⟩
abbrev cX10_wide : ByteArray := prog_12_method_6_code
def yX10_wide : MethodName := ⟨RX10, "wide", "(III)I"⟩
abbrev cX10_feed : ByteArray := prog_12_method_7_code
def yX10_feed : MethodName := ⟨RX10, "feed", "(IJ)I"⟩
abbrev cX10_nameAt : ByteArray := prog_12_method_8_code
def yX10_nameAt : MethodName := ⟨RX10, "nameAt", "(II)I"⟩
abbrev cX10_name : ByteArray := prog_12_method_9_code
def yX10_name : MethodName := ⟨RX10, "name", "()I"⟩
abbrev cX10_noName : ByteArray := prog_12_method_10_code
def yX10_noName : MethodName := ⟨RX10, "noName", "(I)Z"⟩
abbrev cX10_noSet : ByteArray := prog_12_method_11_code
def yX10_noSet : MethodName := ⟨RX10, "noSet", "(I)Z"⟩
abbrev cX10_offices : ByteArray := prog_12_method_12_code
def yX10_offices : MethodName := ⟨RX10, "offices", "(II)I"⟩
abbrev cX10_there : ByteArray := prog_12_method_13_code
def yX10_there : MethodName := ⟨RX10, "there", "(III)I"⟩
abbrev cX10_weight : ByteArray := prog_12_method_14_code
def yX10_weight : MethodName := ⟨RX10, "weight", "(II)I"⟩
abbrev cX10_never : ByteArray := prog_12_method_15_code
def yX10_never : MethodName := ⟨RX10, "never", "(IIZ)I"⟩
abbrev cX10_slack : ByteArray := prog_12_method_16_code
def yX10_slack : MethodName := ⟨RX10, "slack", "(I)I"⟩
abbrev cX10_widthOf : ByteArray := prog_12_method_17_code
def yX10_widthOf : MethodName := ⟨RX10, "widthOf", "(II)I"⟩
abbrev cX10_told : ByteArray := prog_12_method_18_code
def yX10_told : MethodName := ⟨RX10, "told", "(II)I"⟩
abbrev cX10_nevers : ByteArray := prog_12_method_19_code
def yX10_nevers : MethodName := ⟨RX10, "nevers", "()I"⟩
abbrev cX10_count : ByteArray := prog_12_method_20_code
def yX10_count : MethodName := ⟨RX10, "count", "(I)I"⟩
abbrev cX10_here : ByteArray := prog_12_method_21_code
def yX10_here : MethodName := ⟨RX10, "here", "()I"⟩
abbrev cX10_want : ByteArray := prog_12_method_22_code
def yX10_want : MethodName := ⟨RX10, "want", "(ZII)Z"⟩
abbrev cX10_takeWord : ByteArray := prog_12_method_23_code
def yX10_takeWord : MethodName := ⟨RX10, "takeWord", "()V"⟩
abbrev cX10_isWord : ByteArray := prog_12_method_24_code
def yX10_isWord : MethodName := ⟨RX10, "isWord", "(IIIIIII)Z"⟩
abbrev cX10_takeNumber : ByteArray := prog_12_method_25_code
def yX10_takeNumber : MethodName := ⟨RX10, "takeNumber", "(II)I"⟩
abbrev cX10_takeSign : ByteArray := prog_12_method_26_code
def yX10_takeSign : MethodName := ⟨RX10, "takeSign", "(I)V"⟩
abbrev cX10_takeName : ByteArray := prog_12_method_27_code
def yX10_takeName : MethodName := ⟨RX10, "takeName", "()V"⟩
abbrev cX10_takePlace : ByteArray := prog_12_method_28_code
def yX10_takePlace : MethodName := ⟨RX10, "takePlace", "()V"⟩
abbrev cX10_page : ByteArray := prog_12_method_29_code
def yX10_page : MethodName := ⟨RX10, "page", "()I"⟩
abbrev cX10_fault : ByteArray := prog_12_method_30_code
def yX10_fault : MethodName := ⟨RX10, "fault", "()I"⟩
abbrev cX10_wideAt : ByteArray := prog_12_method_31_code
def yX10_wideAt : MethodName := ⟨RX10, "wideAt", "(I)I"⟩
abbrev cX10_place : ByteArray := prog_12_method_32_code
def yX10_place : MethodName := ⟨RX10, "place", "(II)I"⟩
abbrev cX10_noBar : ByteArray := prog_12_method_33_code
def yX10_noBar : MethodName := ⟨RX10, "noBar", "(I)Z"⟩
abbrev cX10_twins : ByteArray := prog_12_method_34_code
def yX10_twins : MethodName := ⟨RX10, "twins", "(II)I"⟩
abbrev cX10_findOpen : ByteArray := prog_12_method_35_code
def yX10_findOpen : MethodName := ⟨RX10, "findOpen", "()V"⟩
abbrev cX10_isBarred : ByteArray := prog_12_method_36_code
def yX10_isBarred : MethodName := ⟨RX10, "isBarred", "(I)Z"⟩
abbrev cX10_begin : ByteArray := prog_12_method_37_code
def yX10_begin : MethodName := ⟨RX10, "begin", "()V"⟩
abbrev cX10_findShown : ByteArray := prog_12_method_38_code
def yX10_findShown : MethodName := ⟨RX10, "findShown", "()V"⟩
abbrev cX10_fitsAt : ByteArray := prog_12_method_39_code
def yX10_fitsAt : MethodName := ⟨RX10, "fitsAt", "(II)Z"⟩
abbrev cX10_twinsAgree : ByteArray := prog_12_method_40_code
def yX10_twinsAgree : MethodName := ⟨RX10, "twinsAgree", "(II)Z"⟩
abbrev cX10_mayGive : ByteArray := prog_12_method_41_code
def yX10_mayGive : MethodName := ⟨RX10, "mayGive", "(II)Z"⟩
abbrev cX10_takeReading : ByteArray := prog_12_method_42_code
def yX10_takeReading : MethodName := ⟨RX10, "takeReading", "()V"⟩
abbrev cX10_goThrough : ByteArray := prog_12_method_43_code
def yX10_goThrough : MethodName := ⟨RX10, "goThrough", "()Z"⟩
abbrev cX10_posOf : ByteArray := prog_12_method_44_code
def yX10_posOf : MethodName := ⟨RX10, "posOf", "(I)I"⟩
abbrev cX10_readings : ByteArray := prog_12_method_45_code
def yX10_readings : MethodName := ⟨RX10, "readings", "()I"⟩
abbrev cX10_reading : ByteArray := prog_12_method_46_code
def yX10_reading : MethodName := ⟨RX10, "reading", "(II)I"⟩
abbrev cX10_may : ByteArray := prog_12_method_47_code
def yX10_may : MethodName := ⟨RX10, "may", "(I)I"⟩
abbrev cX10_fits : ByteArray := prog_12_method_48_code
def yX10_fits : MethodName := ⟨RX10, "fits", "(I)I"⟩
abbrev cX10_gcd : ByteArray := prog_12_method_49_code
def yX10_gcd : MethodName := ⟨RX10, "gcd", "(JJ)J"⟩
abbrev cX10_odds : ByteArray := prog_12_method_50_code
def yX10_odds : MethodName := ⟨RX10, "odds", "(III)J"⟩
abbrev cX10_isShown : ByteArray := prog_12_method_51_code
def yX10_isShown : MethodName := ⟨RX10, "isShown", "(I)Z"⟩
abbrev cX10_on : ByteArray := prog_12_method_52_code
def yX10_on : MethodName := ⟨RX10, "on", "(I)I"⟩
abbrev cX10_isReader : ByteArray := prog_12_method_53_code
def yX10_isReader : MethodName := ⟨RX10, "isReader", "(I)Z"⟩
abbrev cX10_away : ByteArray := prog_12_method_54_code
def yX10_away : MethodName := ⟨RX10, "away", "(II)I"⟩
abbrev cX10_knows : ByteArray := prog_12_method_55_code
def yX10_knows : MethodName := ⟨RX10, "knows", "(III)I"⟩
abbrev cX10_join : ByteArray := prog_12_method_56_code
def yX10_join : MethodName := ⟨RX10, "join", "(I)V"⟩
abbrev cX10_together : ByteArray := prog_12_method_57_code
def yX10_together : MethodName := ⟨RX10, "together", "(I)I"⟩
abbrev cX10_sees : ByteArray := prog_12_method_58_code
def yX10_sees : MethodName := ⟨RX10, "sees", "(II)I"⟩
abbrev cX10_keep : ByteArray := prog_12_method_59_code
def yX10_keep : MethodName := ⟨RX10, "keep", "(I)I"⟩
abbrev cX10_betrayedNow : ByteArray := prog_12_method_60_code
def yX10_betrayedNow : MethodName := ⟨RX10, "betrayedNow", "()I"⟩
abbrev cX10_betrayed : ByteArray := prog_12_method_61_code
def yX10_betrayed : MethodName := ⟨RX10, "betrayed", "(I)I"⟩
abbrev cX10_showsKept : ByteArray := prog_12_method_62_code
def yX10_showsKept : MethodName := ⟨RX10, "showsKept", "(I)Z"⟩
abbrev cX10_openedBy : ByteArray := prog_12_method_63_code
def yX10_openedBy : MethodName := ⟨RX10, "openedBy", "(I)I"⟩
abbrev cX10_opened : ByteArray := prog_12_method_64_code
def yX10_opened : MethodName := ⟨RX10, "opened", "(I)I"⟩
abbrev cX10_most : ByteArray := prog_12_method_65_code
def yX10_most : MethodName := ⟨RX10, "most", "()I"⟩
abbrev cX10_isSafe : ByteArray := prog_12_method_66_code
def yX10_isSafe : MethodName := ⟨RX10, "isSafe", "(I)I"⟩
abbrev cX10_fewest : ByteArray := prog_12_method_67_code
def yX10_fewest : MethodName := ⟨RX10, "fewest", "()I"⟩
abbrev cX10_wider : ByteArray := prog_12_method_68_code
def yX10_wider : MethodName := ⟨RX10, "wider", "()I"⟩
def RJ6 : String := "java/lang/Integer"
def TJ6 : u_T := fun k => match k with
  | _ => ("", "", "", false)
def tyJ6 : Nat → FieldType := fun k => match k with
  | _ => .int
abbrev wsJ60 : List Cond := u_ws RJ6 TJ6 0
theorem nmJ6 : ∀ a, a < 0 → ∀ b, b < 0 → a ≠ b → (TJ6 a).2.1 ≠ (TJ6 b).2.1 := by decide +kernel
theorem tyJ6_ok : ∀ k, k < 0 → parseFieldDescriptor (TJ6 k).2.2.1 = some (tyJ6 k) := by decide +kernel
abbrev cJ6_bitCount_0f7a4 : ByteArray := prog_13_method_49_code
def yJ6_bitCount_0f7a4 : MethodName := ⟨RJ6, "bitCount", "(I)I"⟩
def RJ9 : String := "java/lang/Math"
def TJ9 : u_T := fun k => match k with
  | _ => ("", "", "", false)
def tyJ9 : Nat → FieldType := fun k => match k with
  | _ => .int
abbrev wsJ90 : List Cond := u_ws RJ9 TJ9 0
theorem nmJ9 : ∀ a, a < 0 → ∀ b, b < 0 → a ≠ b → (TJ9 a).2.1 ≠ (TJ9 b).2.1 := by decide +kernel
theorem tyJ9_ok : ∀ k, k < 0 → parseFieldDescriptor (TJ9 k).2.2.1 = some (tyJ9 k) := by decide +kernel
abbrev cJ9_min_7cf53 : ByteArray := prog_14_method_69_code
def yJ9_min_7cf53 : MethodName := ⟨RJ9, "min", "(II)I"⟩
def RJ0 : String := "java/lang/String"
def TJ0 : u_T := fun k => match k with
  | _ => ("", "", "", false)
def tyJ0 : Nat → FieldType := fun k => match k with
  | _ => .int
abbrev wsJ00 : List Cond := u_ws RJ0 TJ0 0
theorem nmJ0 : ∀ a, a < 0 → ∀ b, b < 0 → a ≠ b → (TJ0 a).2.1 ≠ (TJ0 b).2.1 := by decide +kernel
theorem tyJ0_ok : ∀ k, k < 0 → parseFieldDescriptor (TJ0 k).2.2.1 = some (tyJ0 k) := by decide +kernel
abbrev cJ0_length_8abf5 : ByteArray := prog_15_method_54_code
def yJ0_length_8abf5 : MethodName := ⟨RJ0, "length", "()I"⟩
abbrev cJ0_charAt_5068e : ByteArray := prog_15_method_56_code
def yJ0_charAt_5068e : MethodName := ⟨RJ0, "charAt", "(I)C"⟩
abbrev cJ0_coder_7d493 : ByteArray := prog_15_method_152_code
def yJ0_coder_7d493 : MethodName := ⟨RJ0, "coder", "()B"⟩
abbrev cJ0_isLatin1_aae02 : ByteArray := prog_15_method_154_code
def yJ0_isLatin1_aae02 : MethodName := ⟨RJ0, "isLatin1", "()Z"⟩
abbrev cJ0_checkIndex_df160 : ByteArray := prog_15_method_155_code
def yJ0_checkIndex_df160 : MethodName := ⟨RJ0, "checkIndex", "(II)V"⟩
def RJ1 : String := "java/lang/StringLatin1"
def TJ1 : u_T := fun k => match k with
  | _ => ("", "", "", false)
def tyJ1 : Nat → FieldType := fun k => match k with
  | _ => .int
abbrev wsJ10 : List Cond := u_ws RJ1 TJ1 0
theorem nmJ1 : ∀ a, a < 0 → ∀ b, b < 0 → a ≠ b → (TJ1 a).2.1 ≠ (TJ1 b).2.1 := by decide +kernel
theorem tyJ1_ok : ∀ k, k < 0 → parseFieldDescriptor (TJ1 k).2.2.1 = some (tyJ1 k) := by decide +kernel
abbrev cJ1_charAt_3b067 : ByteArray := prog_16_method_2_code
def yJ1_charAt_3b067 : MethodName := ⟨RJ1, "charAt", "([BI)C"⟩
def RJ2 : String := "java/lang/StringUTF16"
def TJ2 : u_T := fun k => match k with
  | _ => ("", "", "", false)
def tyJ2 : Nat → FieldType := fun k => match k with
  | _ => .int
abbrev wsJ20 : List Cond := u_ws RJ2 TJ2 0
theorem nmJ2 : ∀ a, a < 0 → ∀ b, b < 0 → a ≠ b → (TJ2 a).2.1 ≠ (TJ2 b).2.1 := by decide +kernel
theorem tyJ2_ok : ∀ k, k < 0 → parseFieldDescriptor (TJ2 k).2.2.1 = some (tyJ2 k) := by decide +kernel
abbrev cJ2_getChar_3b067 : ByteArray := prog_17_method_5_code
def yJ2_getChar_3b067 : MethodName := ⟨RJ2, "getChar", "([BI)C"⟩
abbrev cJ2_length_9d52b : ByteArray := prog_17_method_6_code
def yJ2_length_9d52b : MethodName := ⟨RJ2, "length", "([B)I"⟩
abbrev cJ2_charAt_3b067 : ByteArray := prog_17_method_83_code
def yJ2_charAt_3b067 : MethodName := ⟨RJ2, "charAt", "([BI)C"⟩
abbrev cJ2_checkIndex_2214a : ByteArray := prog_17_method_91_code
def yJ2_checkIndex_2214a : MethodName := ⟨RJ2, "checkIndex", "(I[B)V"⟩
def RJ7 : String := "java/util/Arrays"
def TJ7 : u_T := fun k => match k with
  | _ => ("", "", "", false)
def tyJ7 : Nat → FieldType := fun k => match k with
  | _ => .int
abbrev wsJ70 : List Cond := u_ws RJ7 TJ7 0
theorem nmJ7 : ∀ a, a < 0 → ∀ b, b < 0 → a ≠ b → (TJ7 a).2.1 ≠ (TJ7 b).2.1 := by decide +kernel
theorem tyJ7_ok : ∀ k, k < 0 → parseFieldDescriptor (TJ7 k).2.2.1 = some (tyJ7 k) := by decide +kernel
abbrev cJ7_fill_53178 : ByteArray := prog_18_method_103_code
def yJ7_fill_53178 : MethodName := ⟨RJ7, "fill", "([II)V"⟩
def RJ3 : String := "jdk/internal/util/Preconditions"
def TJ3 : u_T := fun k => match k with
  | _ => ("", "", "", false)
def tyJ3 : Nat → FieldType := fun k => match k with
  | _ => .int
abbrev wsJ30 : List Cond := u_ws RJ3 TJ3 0
theorem nmJ3 : ∀ a, a < 0 → ∀ b, b < 0 → a ≠ b → (TJ3 a).2.1 ≠ (TJ3 b).2.1 := by decide +kernel
theorem tyJ3_ok : ∀ k, k < 0 → parseFieldDescriptor (TJ3 k).2.2.1 = some (tyJ3 k) := by decide +kernel
abbrev cJ3_checkIndex_8e157 : ByteArray := prog_19_method_11_code
def yJ3_checkIndex_8e157 : MethodName := ⟨RJ3, "checkIndex", "(IILjava/util/function/BiFunction;)I"⟩
def RL : String := "UnderBarsLaw"
abbrev cL_law : ByteArray := code
def yL_law : MethodName := ⟨RL, "law", "([I)Z"⟩
theorem inX0 : ∀ w ∈ wsX00, w ∈ lw_tbl := by decide +kernel
theorem inX1 : ∀ w ∈ wsX10, w ∈ lw_tbl := by decide +kernel
theorem inX2 : ∀ w ∈ wsX20, w ∈ lw_tbl := by decide +kernel
theorem inX3 : ∀ w ∈ wsX30, w ∈ lw_tbl := by decide +kernel
theorem inX4 : ∀ w ∈ wsX40, w ∈ lw_tbl := by decide +kernel
theorem inX5 : ∀ w ∈ wsX50, w ∈ lw_tbl := by decide +kernel
theorem inX6 : ∀ w ∈ wsX60, w ∈ lw_tbl := by decide +kernel
theorem inX7 : ∀ w ∈ wsX70, w ∈ lw_tbl := by decide +kernel
theorem inX8 : ∀ w ∈ wsX80, w ∈ lw_tbl := by decide +kernel
theorem inX9 : ∀ w ∈ wsX90, w ∈ lw_tbl := by decide +kernel
theorem inX10 : ∀ w ∈ wsX100, w ∈ lw_tbl := by decide +kernel
abbrev classes : List vw_C := [(RX0, TX0, 6), (RX1, TX1, 10), (RX2, TX2, 13), (RX3, TX3, 15), (RX4, TX4, 2), (RX5, TX5, 12), (RX6, TX6, 4), (RX7, TX7, 7), (RX8, TX8, 2), (RX9, TX9, 11), (RX10, TX10, 59)]
/-- the cells, in the order in which they are made: an object (its number among the classes, its fields: 0 an int, 1 a long, r + 2 the cell r), or an array (length, 0 ints, 1 longs) -/
def shp : List ((Nat × List Nat) ⊕ (Nat × Nat)) := [.inl (9, [3, 5, 15, 26, 30, 33, 37, 41, 0, 0, 0]), .inl (8, [4, 0]), .inr (120, 0), .inl (1, [6, 7, 8, 9, 10, 11, 12, 13, 14, 0]), .inr (52, 0), .inr (120, 0), .inr (10, 0), .inr (20, 0), .inr (10, 0), .inr (10, 0), .inr (10, 0), .inr (10, 0), .inr (10, 0), .inl (3, [16, 17, 18, 19, 20, 21, 22, 23, 24, 25, 0, 0, 0, 0, 0]), .inr (8, 0), .inr (8, 0), .inr (32, 0), .inr (32, 0), .inr (32, 0), .inr (32, 0), .inr (32, 0), .inr (32, 0), .inr (10, 0), .inr (10, 0), .inl (2, [3, 5, 27, 28, 29, 0, 0, 0, 0, 0, 0, 0, 0]), .inr (4, 0), .inr (4, 0), .inr (4, 0), .inl (4, [31, 32]), .inr (4, 0), .inr (40, 0), .inl (6, [34, 35, 36, 0]), .inr (18, 0), .inr (18, 0), .inr (18, 0), .inl (0, [5, 15, 33, 38, 39, 40]), .inr (32, 0), .inr (8, 0), .inr (10, 0), .inl (5, [5, 33, 42, 44, 45, 46, 47, 48, 49, 0, 0, 0]), .inl (7, [43, 0, 0, 1, 1, 0, 0]), .inr (18, 0), .inr (18, 0), .inr (18, 0), .inr (18, 0), .inr (18, 0), .inr (18, 0), .inr (18, 1), .inl (10, [51, 0, 52, 53, 54, 55, 56, 57, 58, 0, 0, 59, 0, 0, 60, 61, 0, 62, 63, 64, 65, 66, 0, 67, 0, 68, 69, 0, 0, 0, 0, 0, 0, 0, 70, 71, 72, 0, 0, 0, 73, 0, 74, 0, 75, 76, 0, 0, 1, 77, 78, 0, 0, 0, 0, 0, 79, 80, 81]), .inr (52, 0), .inr (120, 0), .inr (10, 0), .inr (10, 0), .inr (10, 0), .inr (10, 0), .inr (10, 0), .inr (10, 0), .inr (120, 0), .inr (8, 0), .inr (8, 0), .inr (32, 0), .inr (32, 0), .inr (32, 0), .inr (32, 0), .inr (32, 0), .inr (10, 0), .inr (10, 0), .inr (10, 0), .inr (4, 0), .inr (4, 0), .inr (4, 0), .inr (10, 0), .inr (20, 0), .inr (20, 0), .inr (8, 0), .inr (20, 0), .inr (200, 1), .inr (8, 0), .inr (4, 0), .inr (40, 0)]
def nestL : List (String × Nat × MethodName × String) := [("UnderBars", 11, ⟨"UnderBars$Text", "<init>", "()V"⟩, "UnderBars"), ("UnderBars", 25, ⟨"UnderBars$Pages", "<init>", "()V"⟩, "UnderBars"), ("UnderBars", 48, ⟨"UnderBars$Slots", "<init>", "()V"⟩, "UnderBars"), ("UnderBars$Search", 11, ⟨"UnderBars$Tally", "<init>", "()V"⟩, "UnderBars"), ("UnderBars$Text", 23, ⟨"UnderBars", "within", "(III)Z"⟩, "UnderBars"), ("UnderBars$Names", 53, ⟨"UnderBars", "allBelow", "(I)I"⟩, "UnderBars"), ("UnderBars$Names", 49, ⟨"UnderBars", "within", "(III)Z"⟩, "UnderBars"), ("UnderBars$Names", 75, ⟨"UnderBars", "has", "(II)Z"⟩, "UnderBars"), ("UnderBars$PageParser", 105, ⟨"UnderBars", "within", "(III)Z"⟩, "UnderBars"), ("UnderBars$PageParser", 126, ⟨"UnderBars", "has", "(II)Z"⟩, "UnderBars"), ("UnderBars$Pages", 58, ⟨"UnderBars", "within", "(III)Z"⟩, "UnderBars"), ("UnderBars$Pages", 84, ⟨"UnderBars", "has", "(II)Z"⟩, "UnderBars"), ("UnderBars$Layout", 77, ⟨"UnderBars", "has", "(II)Z"⟩, "UnderBars"), ("UnderBars$Readers", 24, ⟨"UnderBars", "allBelow", "(I)I"⟩, "UnderBars"), ("UnderBars$Readers", 28, ⟨"UnderBars", "has", "(II)Z"⟩, "UnderBars"), ("UnderBars$Tally", 31, ⟨"UnderBars", "allBelow", "(I)I"⟩, "UnderBars"), ("UnderBars$Search", 84, ⟨"UnderBars", "has", "(II)Z"⟩, "UnderBars"), ("UnderBars$Search", 123, ⟨"UnderBars", "within", "(III)Z"⟩, "UnderBars")]
def slen : List Nat := [3, 5, 6]
def sbyt : List (List Int32) := [[100, 97, 121], [102, 111, 117, 110, 116], [111, 102, 102, 105, 99, 101]]
