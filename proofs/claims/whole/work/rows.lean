section
-- ===== PART A: goes FIRST, ahead of the names: the tables' words, and 'selects' of the private methods out of them =====
/-- a private method of a class that the tables say can be made, by its rows of tables_1 -/
def lw_okq (q : MethodName × Nat) : Prop := (q.1.cls ≠ "java/lang/invoke/MethodHandle" ∧ q.1.cls ≠ "java/lang/invoke/VarHandle") ∧ Cond.instantiable q.1.cls q.2 ∈ tables_1 ∧ Cond.privateMethod q.1 ∈ tables_1 ∧ Cond.instanceMethod q.1 ∈ tables_1
theorem lw_p0 : lw_okq (⟨"java/lang/Throwable", "fillInStackTrace", "(I)Ljava/lang/Throwable;"⟩, 6) := ⟨⟨by decide +kernel, by decide +kernel⟩, List.mem_of_getElem? (i := 169) (by decide +kernel), List.mem_of_getElem? (i := 167) (by decide +kernel), List.mem_of_getElem? (i := 168) (by decide +kernel)⟩
theorem lw_p1 : lw_okq (⟨"Lensbench", "tableAt", "(I)LLensbench$Table;"⟩, 9) := ⟨⟨by decide +kernel, by decide +kernel⟩, List.mem_of_getElem? (i := 23) (by decide +kernel), List.mem_of_getElem? (i := 258) (by decide +kernel), List.mem_of_getElem? (i := 259) (by decide +kernel)⟩
theorem lw_p2 : lw_okq (⟨"Lensbench", "showViews", "()V"⟩, 9) := ⟨⟨by decide +kernel, by decide +kernel⟩, List.mem_of_getElem? (i := 23) (by decide +kernel), List.mem_of_getElem? (i := 313) (by decide +kernel), List.mem_of_getElem? (i := 314) (by decide +kernel)⟩
theorem lw_p3 : lw_okq (⟨"Lensbench", "viewAt", "(I)LLensbench$View;"⟩, 9) := ⟨⟨by decide +kernel, by decide +kernel⟩, List.mem_of_getElem? (i := 23) (by decide +kernel), List.mem_of_getElem? (i := 317) (by decide +kernel), List.mem_of_getElem? (i := 318) (by decide +kernel)⟩
theorem lw_p4 : lw_okq (⟨"Lensbench", "keepView", "(LLensbench$View;)I"⟩, 9) := ⟨⟨by decide +kernel, by decide +kernel⟩, List.mem_of_getElem? (i := 23) (by decide +kernel), List.mem_of_getElem? (i := 495) (by decide +kernel), List.mem_of_getElem? (i := 496) (by decide +kernel)⟩
theorem lw_p5 : lw_okq (⟨"Lensbench", "planPutBack", "()V"⟩, 9) := ⟨⟨by decide +kernel, by decide +kernel⟩, List.mem_of_getElem? (i := 23) (by decide +kernel), List.mem_of_getElem? (i := 688) (by decide +kernel), List.mem_of_getElem? (i := 689) (by decide +kernel)⟩
theorem lw_p6 : lw_okq (⟨"Lensbench$DropView", "hiddenValue", "(I)I"⟩, 11) := ⟨⟨by decide +kernel, by decide +kernel⟩, List.mem_of_getElem? (i := 548) (by decide +kernel), List.mem_of_getElem? (i := 748) (by decide +kernel), List.mem_of_getElem? (i := 749) (by decide +kernel)⟩
theorem lw_p7 : lw_okq (⟨"Lensbench", "countPlanned", "()I"⟩, 9) := ⟨⟨by decide +kernel, by decide +kernel⟩, List.mem_of_getElem? (i := 23) (by decide +kernel), List.mem_of_getElem? (i := 806) (by decide +kernel), List.mem_of_getElem? (i := 807) (by decide +kernel)⟩
theorem lw_p8 : lw_okq (⟨"Lensbench", "onlyTable", "(I)LLensbench$Table;"⟩, 9) := ⟨⟨by decide +kernel, by decide +kernel⟩, List.mem_of_getElem? (i := 23) (by decide +kernel), List.mem_of_getElem? (i := 821) (by decide +kernel), List.mem_of_getElem? (i := 822) (by decide +kernel)⟩
theorem lw_p9 : lw_okq (⟨"Lensbench$Trials", "listRows", "(I)V"⟩, 6) := ⟨⟨by decide +kernel, by decide +kernel⟩, List.mem_of_getElem? (i := 68) (by decide +kernel), List.mem_of_getElem? (i := 845) (by decide +kernel), List.mem_of_getElem? (i := 846) (by decide +kernel)⟩
theorem lw_p10 : lw_okq (⟨"Lensbench$Trials", "sortRows", "(LLensbench$View;LLensbench$Table;LLensbench$Rows;)V"⟩, 6) := ⟨⟨by decide +kernel, by decide +kernel⟩, List.mem_of_getElem? (i := 68) (by decide +kernel), List.mem_of_getElem? (i := 851) (by decide +kernel), List.mem_of_getElem? (i := 852) (by decide +kernel)⟩
theorem lw_p11 : lw_okq (⟨"Lensbench$Trials", "rivalsOf", "(II)I"⟩, 6) := ⟨⟨by decide +kernel, by decide +kernel⟩, List.mem_of_getElem? (i := 68) (by decide +kernel), List.mem_of_getElem? (i := 868) (by decide +kernel), List.mem_of_getElem? (i := 869) (by decide +kernel)⟩
theorem lw_p12 : lw_okq (⟨"Lensbench$Trials", "hasUnlikeKeys", "(I)Z"⟩, 6) := ⟨⟨by decide +kernel, by decide +kernel⟩, List.mem_of_getElem? (i := 68) (by decide +kernel), List.mem_of_getElem? (i := 873) (by decide +kernel), List.mem_of_getElem? (i := 874) (by decide +kernel)⟩
theorem lw_p13 : lw_okq (⟨"Lensbench", "carryOut", "()V"⟩, 9) := ⟨⟨by decide +kernel, by decide +kernel⟩, List.mem_of_getElem? (i := 23) (by decide +kernel), List.mem_of_getElem? (i := 886) (by decide +kernel), List.mem_of_getElem? (i := 887) (by decide +kernel)⟩
theorem lw_p14 : lw_okq (⟨"Lensbench$Table", "forgetOldest", "()V"⟩, 5) := ⟨⟨by decide +kernel, by decide +kernel⟩, List.mem_of_getElem? (i := 214) (by decide +kernel), List.mem_of_getElem? (i := 894) (by decide +kernel), List.mem_of_getElem? (i := 895) (by decide +kernel)⟩
theorem lw_p15 : lw_okq (⟨"LensbenchModel", "isTable", "(I)Z"⟩, 36) := ⟨⟨by decide +kernel, by decide +kernel⟩, List.mem_of_getElem? (i := 912) (by decide +kernel), List.mem_of_getElem? (i := 1044) (by decide +kernel), List.mem_of_getElem? (i := 1045) (by decide +kernel)⟩
def lw_privs_1 : List (MethodName × Nat) := [(⟨"java/lang/Throwable", "fillInStackTrace", "(I)Ljava/lang/Throwable;"⟩, 6), (⟨"Lensbench", "tableAt", "(I)LLensbench$Table;"⟩, 9), (⟨"Lensbench", "showViews", "()V"⟩, 9), (⟨"Lensbench", "viewAt", "(I)LLensbench$View;"⟩, 9), (⟨"Lensbench", "keepView", "(LLensbench$View;)I"⟩, 9), (⟨"Lensbench", "planPutBack", "()V"⟩, 9), (⟨"Lensbench$DropView", "hiddenValue", "(I)I"⟩, 11), (⟨"Lensbench", "countPlanned", "()I"⟩, 9), (⟨"Lensbench", "onlyTable", "(I)LLensbench$Table;"⟩, 9), (⟨"Lensbench$Trials", "listRows", "(I)V"⟩, 6), (⟨"Lensbench$Trials", "sortRows", "(LLensbench$View;LLensbench$Table;LLensbench$Rows;)V"⟩, 6), (⟨"Lensbench$Trials", "rivalsOf", "(II)I"⟩, 6), (⟨"Lensbench$Trials", "hasUnlikeKeys", "(I)Z"⟩, 6), (⟨"Lensbench", "carryOut", "()V"⟩, 9), (⟨"Lensbench$Table", "forgetOldest", "()V"⟩, 5), (⟨"LensbenchModel", "isTable", "(I)Z"⟩, 36)]
theorem lw_r1 : ∀ q ∈ lw_privs_1, lw_okq q := List.forall_mem_cons.mpr ⟨lw_p0, List.forall_mem_cons.mpr ⟨lw_p1, List.forall_mem_cons.mpr ⟨lw_p2, List.forall_mem_cons.mpr ⟨lw_p3, List.forall_mem_cons.mpr ⟨lw_p4, List.forall_mem_cons.mpr ⟨lw_p5, List.forall_mem_cons.mpr ⟨lw_p6, List.forall_mem_cons.mpr ⟨lw_p7, List.forall_mem_cons.mpr ⟨lw_p8, List.forall_mem_cons.mpr ⟨lw_p9, List.forall_mem_cons.mpr ⟨lw_p10, List.forall_mem_cons.mpr ⟨lw_p11, List.forall_mem_cons.mpr ⟨lw_p12, List.forall_mem_cons.mpr ⟨lw_p13, List.forall_mem_cons.mpr ⟨lw_p14, List.forall_mem_cons.mpr ⟨lw_p15, fun _ h => absurd h List.not_mem_nil⟩⟩⟩⟩⟩⟩⟩⟩⟩⟩⟩⟩⟩⟩⟩⟩
theorem lw_p16 : lw_okq (⟨"LensbenchModel", "isRow", "(II)Z"⟩, 36) := ⟨⟨by decide +kernel, by decide +kernel⟩, List.mem_of_getElem? (i := 912) (by decide +kernel), List.mem_of_getElem? (i := 1048) (by decide +kernel), List.mem_of_getElem? (i := 1049) (by decide +kernel)⟩
theorem lw_p17 : lw_okq (⟨"LensbenchModel", "part", "(II)I"⟩, 36) := ⟨⟨by decide +kernel, by decide +kernel⟩, List.mem_of_getElem? (i := 912) (by decide +kernel), List.mem_of_getElem? (i := 1053) (by decide +kernel), List.mem_of_getElem? (i := 1054) (by decide +kernel)⟩
theorem lw_p18 : lw_okq (⟨"LensbenchModel", "digit", "(II)I"⟩, 36) := ⟨⟨by decide +kernel, by decide +kernel⟩, List.mem_of_getElem? (i := 912) (by decide +kernel), List.mem_of_getElem? (i := 1057) (by decide +kernel), List.mem_of_getElem? (i := 1058) (by decide +kernel)⟩
theorem lw_p19 : lw_okq (⟨"LensbenchModel", "rowWith", "([IIIII)I"⟩, 36) := ⟨⟨by decide +kernel, by decide +kernel⟩, List.mem_of_getElem? (i := 912) (by decide +kernel), List.mem_of_getElem? (i := 1061) (by decide +kernel), List.mem_of_getElem? (i := 1062) (by decide +kernel)⟩
theorem lw_p20 : lw_okq (⟨"LensbenchModel", "makes", "(IIIII)I"⟩, 36) := ⟨⟨by decide +kernel, by decide +kernel⟩, List.mem_of_getElem? (i := 912) (by decide +kernel), List.mem_of_getElem? (i := 1082) (by decide +kernel), List.mem_of_getElem? (i := 1083) (by decide +kernel)⟩
theorem lw_p21 : lw_okq (⟨"LensbenchModel", "isView", "(I)Z"⟩, 36) := ⟨⟨by decide +kernel, by decide +kernel⟩, List.mem_of_getElem? (i := 912) (by decide +kernel), List.mem_of_getElem? (i := 1090) (by decide +kernel), List.mem_of_getElem? (i := 1091) (by decide +kernel)⟩
theorem lw_p22 : lw_okq (⟨"LensbenchModel", "asksView", "(I)Z"⟩, 36) := ⟨⟨by decide +kernel, by decide +kernel⟩, List.mem_of_getElem? (i := 912) (by decide +kernel), List.mem_of_getElem? (i := 1109) (by decide +kernel), List.mem_of_getElem? (i := 1110) (by decide +kernel)⟩
theorem lw_p23 : lw_okq (⟨"LensbenchModel", "laysViews", "()V"⟩, 36) := ⟨⟨by decide +kernel, by decide +kernel⟩, List.mem_of_getElem? (i := 912) (by decide +kernel), List.mem_of_getElem? (i := 1121) (by decide +kernel), List.mem_of_getElem? (i := 1122) (by decide +kernel)⟩
theorem lw_p24 : lw_okq (⟨"LensbenchModel", "laysRow", "(II)V"⟩, 36) := ⟨⟨by decide +kernel, by decide +kernel⟩, List.mem_of_getElem? (i := 912) (by decide +kernel), List.mem_of_getElem? (i := 1125) (by decide +kernel), List.mem_of_getElem? (i := 1126) (by decide +kernel)⟩
theorem lw_p25 : lw_okq (⟨"LensbenchModel", "joins", "(II)V"⟩, 36) := ⟨⟨by decide +kernel, by decide +kernel⟩, List.mem_of_getElem? (i := 912) (by decide +kernel), List.mem_of_getElem? (i := 1129) (by decide +kernel), List.mem_of_getElem? (i := 1130) (by decide +kernel)⟩
theorem lw_p26 : lw_okq (⟨"LensbenchModel", "both", "(I)I"⟩, 36) := ⟨⟨by decide +kernel, by decide +kernel⟩, List.mem_of_getElem? (i := 912) (by decide +kernel), List.mem_of_getElem? (i := 1133) (by decide +kernel), List.mem_of_getElem? (i := 1134) (by decide +kernel)⟩
theorem lw_p27 : lw_okq (⟨"LensbenchModel", "isSelected", "(II)Z"⟩, 36) := ⟨⟨by decide +kernel, by decide +kernel⟩, List.mem_of_getElem? (i := 912) (by decide +kernel), List.mem_of_getElem? (i := 1137) (by decide +kernel), List.mem_of_getElem? (i := 1138) (by decide +kernel)⟩
theorem lw_p28 : lw_okq (⟨"LensbenchModel", "asksDraft", "()Z"⟩, 36) := ⟨⟨by decide +kernel, by decide +kernel⟩, List.mem_of_getElem? (i := 912) (by decide +kernel), List.mem_of_getElem? (i := 1169) (by decide +kernel), List.mem_of_getElem? (i := 1170) (by decide +kernel)⟩
theorem lw_p29 : lw_okq (⟨"LensbenchModel", "goes", "()V"⟩, 36) := ⟨⟨by decide +kernel, by decide +kernel⟩, List.mem_of_getElem? (i := 912) (by decide +kernel), List.mem_of_getElem? (i := 1173) (by decide +kernel), List.mem_of_getElem? (i := 1174) (by decide +kernel)⟩
theorem lw_p30 : lw_okq (⟨"LensbenchModel", "putsRow", "(II)V"⟩, 36) := ⟨⟨by decide +kernel, by decide +kernel⟩, List.mem_of_getElem? (i := 912) (by decide +kernel), List.mem_of_getElem? (i := 1177) (by decide +kernel), List.mem_of_getElem? (i := 1178) (by decide +kernel)⟩
theorem lw_p31 : lw_okq (⟨"LensbenchModel", "comes", "(I)V"⟩, 36) := ⟨⟨by decide +kernel, by decide +kernel⟩, List.mem_of_getElem? (i := 912) (by decide +kernel), List.mem_of_getElem? (i := 1181) (by decide +kernel), List.mem_of_getElem? (i := 1182) (by decide +kernel)⟩
def lw_privs_2 : List (MethodName × Nat) := [(⟨"LensbenchModel", "isRow", "(II)Z"⟩, 36), (⟨"LensbenchModel", "part", "(II)I"⟩, 36), (⟨"LensbenchModel", "digit", "(II)I"⟩, 36), (⟨"LensbenchModel", "rowWith", "([IIIII)I"⟩, 36), (⟨"LensbenchModel", "makes", "(IIIII)I"⟩, 36), (⟨"LensbenchModel", "isView", "(I)Z"⟩, 36), (⟨"LensbenchModel", "asksView", "(I)Z"⟩, 36), (⟨"LensbenchModel", "laysViews", "()V"⟩, 36), (⟨"LensbenchModel", "laysRow", "(II)V"⟩, 36), (⟨"LensbenchModel", "joins", "(II)V"⟩, 36), (⟨"LensbenchModel", "both", "(I)I"⟩, 36), (⟨"LensbenchModel", "isSelected", "(II)Z"⟩, 36), (⟨"LensbenchModel", "asksDraft", "()Z"⟩, 36), (⟨"LensbenchModel", "goes", "()V"⟩, 36), (⟨"LensbenchModel", "putsRow", "(II)V"⟩, 36), (⟨"LensbenchModel", "comes", "(I)V"⟩, 36)]
theorem lw_r2 : ∀ q ∈ lw_privs_2, lw_okq q := List.forall_mem_cons.mpr ⟨lw_p16, List.forall_mem_cons.mpr ⟨lw_p17, List.forall_mem_cons.mpr ⟨lw_p18, List.forall_mem_cons.mpr ⟨lw_p19, List.forall_mem_cons.mpr ⟨lw_p20, List.forall_mem_cons.mpr ⟨lw_p21, List.forall_mem_cons.mpr ⟨lw_p22, List.forall_mem_cons.mpr ⟨lw_p23, List.forall_mem_cons.mpr ⟨lw_p24, List.forall_mem_cons.mpr ⟨lw_p25, List.forall_mem_cons.mpr ⟨lw_p26, List.forall_mem_cons.mpr ⟨lw_p27, List.forall_mem_cons.mpr ⟨lw_p28, List.forall_mem_cons.mpr ⟨lw_p29, List.forall_mem_cons.mpr ⟨lw_p30, List.forall_mem_cons.mpr ⟨lw_p31, fun _ h => absurd h List.not_mem_nil⟩⟩⟩⟩⟩⟩⟩⟩⟩⟩⟩⟩⟩⟩⟩⟩
theorem lw_p32 : lw_okq (⟨"LensbenchModel", "looks", "(I)V"⟩, 36) := ⟨⟨by decide +kernel, by decide +kernel⟩, List.mem_of_getElem? (i := 912) (by decide +kernel), List.mem_of_getElem? (i := 1185) (by decide +kernel), List.mem_of_getElem? (i := 1186) (by decide +kernel)⟩
theorem lw_p33 : lw_okq (⟨"LensbenchModel", "looksForTwo", "(II)V"⟩, 36) := ⟨⟨by decide +kernel, by decide +kernel⟩, List.mem_of_getElem? (i := 912) (by decide +kernel), List.mem_of_getElem? (i := 1189) (by decide +kernel), List.mem_of_getElem? (i := 1190) (by decide +kernel)⟩
theorem lw_p34 : lw_okq (⟨"LensbenchModel", "areAgainst", "(IIII)Z"⟩, 36) := ⟨⟨by decide +kernel, by decide +kernel⟩, List.mem_of_getElem? (i := 912) (by decide +kernel), List.mem_of_getElem? (i := 1193) (by decide +kernel), List.mem_of_getElem? (i := 1194) (by decide +kernel)⟩
theorem lw_p35 : lw_okq (⟨"LensbenchModel", "tells", "(IIII)V"⟩, 36) := ⟨⟨by decide +kernel, by decide +kernel⟩, List.mem_of_getElem? (i := 912) (by decide +kernel), List.mem_of_getElem? (i := 1197) (by decide +kernel), List.mem_of_getElem? (i := 1198) (by decide +kernel)⟩
theorem lw_p36 : lw_okq (⟨"LensbenchModel", "goesBelow", "(I)V"⟩, 36) := ⟨⟨by decide +kernel, by decide +kernel⟩, List.mem_of_getElem? (i := 912) (by decide +kernel), List.mem_of_getElem? (i := 1201) (by decide +kernel), List.mem_of_getElem? (i := 1202) (by decide +kernel)⟩
theorem lw_p37 : lw_okq (⟨"LensbenchModel", "putsTable", "(I)V"⟩, 36) := ⟨⟨by decide +kernel, by decide +kernel⟩, List.mem_of_getElem? (i := 912) (by decide +kernel), List.mem_of_getElem? (i := 1205) (by decide +kernel), List.mem_of_getElem? (i := 1206) (by decide +kernel)⟩
theorem lw_p38 : lw_okq (⟨"LensbenchModel", "putsRight", "(I)V"⟩, 36) := ⟨⟨by decide +kernel, by decide +kernel⟩, List.mem_of_getElem? (i := 912) (by decide +kernel), List.mem_of_getElem? (i := 1209) (by decide +kernel), List.mem_of_getElem? (i := 1210) (by decide +kernel)⟩
theorem lw_p39 : lw_okq (⟨"LensbenchModel", "putsLeft", "(I)V"⟩, 36) := ⟨⟨by decide +kernel, by decide +kernel⟩, List.mem_of_getElem? (i := 912) (by decide +kernel), List.mem_of_getElem? (i := 1213) (by decide +kernel), List.mem_of_getElem? (i := 1214) (by decide +kernel)⟩
theorem lw_p40 : lw_okq (⟨"LensbenchModel", "isFree", "(II)Z"⟩, 36) := ⟨⟨by decide +kernel, by decide +kernel⟩, List.mem_of_getElem? (i := 912) (by decide +kernel), List.mem_of_getElem? (i := 1217) (by decide +kernel), List.mem_of_getElem? (i := 1218) (by decide +kernel)⟩
theorem lw_p41 : lw_okq (⟨"LensbenchModel", "putsOne", "(I)V"⟩, 36) := ⟨⟨by decide +kernel, by decide +kernel⟩, List.mem_of_getElem? (i := 912) (by decide +kernel), List.mem_of_getElem? (i := 1221) (by decide +kernel), List.mem_of_getElem? (i := 1222) (by decide +kernel)⟩
theorem lw_p42 : lw_okq (⟨"LensbenchModel", "manyChanges", "()I"⟩, 36) := ⟨⟨by decide +kernel, by decide +kernel⟩, List.mem_of_getElem? (i := 912) (by decide +kernel), List.mem_of_getElem? (i := 1233) (by decide +kernel), List.mem_of_getElem? (i := 1234) (by decide +kernel)⟩
theorem lw_p43 : lw_okq (⟨"LensbenchModel", "canTry", "()Z"⟩, 36) := ⟨⟨by decide +kernel, by decide +kernel⟩, List.mem_of_getElem? (i := 912) (by decide +kernel), List.mem_of_getElem? (i := 1241) (by decide +kernel), List.mem_of_getElem? (i := 1242) (by decide +kernel)⟩
theorem lw_p44 : lw_okq (⟨"LensbenchModel", "tableOf", "(I)I"⟩, 36) := ⟨⟨by decide +kernel, by decide +kernel⟩, List.mem_of_getElem? (i := 912) (by decide +kernel), List.mem_of_getElem? (i := 1245) (by decide +kernel), List.mem_of_getElem? (i := 1246) (by decide +kernel)⟩
theorem lw_p45 : lw_okq (⟨"LensbenchModel", "laysTable", "(II)Z"⟩, 36) := ⟨⟨by decide +kernel, by decide +kernel⟩, List.mem_of_getElem? (i := 912) (by decide +kernel), List.mem_of_getElem? (i := 1252) (by decide +kernel), List.mem_of_getElem? (i := 1253) (by decide +kernel)⟩
theorem lw_p46 : lw_okq (⟨"LensbenchModel", "rowBy", "(II)I"⟩, 36) := ⟨⟨by decide +kernel, by decide +kernel⟩, List.mem_of_getElem? (i := 912) (by decide +kernel), List.mem_of_getElem? (i := 1256) (by decide +kernel), List.mem_of_getElem? (i := 1257) (by decide +kernel)⟩
theorem lw_p47 : lw_okq (⟨"LensbenchModel", "isDraft", "()Z"⟩, 36) := ⟨⟨by decide +kernel, by decide +kernel⟩, List.mem_of_getElem? (i := 912) (by decide +kernel), List.mem_of_getElem? (i := 1260) (by decide +kernel), List.mem_of_getElem? (i := 1261) (by decide +kernel)⟩
def lw_privs_3 : List (MethodName × Nat) := [(⟨"LensbenchModel", "looks", "(I)V"⟩, 36), (⟨"LensbenchModel", "looksForTwo", "(II)V"⟩, 36), (⟨"LensbenchModel", "areAgainst", "(IIII)Z"⟩, 36), (⟨"LensbenchModel", "tells", "(IIII)V"⟩, 36), (⟨"LensbenchModel", "goesBelow", "(I)V"⟩, 36), (⟨"LensbenchModel", "putsTable", "(I)V"⟩, 36), (⟨"LensbenchModel", "putsRight", "(I)V"⟩, 36), (⟨"LensbenchModel", "putsLeft", "(I)V"⟩, 36), (⟨"LensbenchModel", "isFree", "(II)Z"⟩, 36), (⟨"LensbenchModel", "putsOne", "(I)V"⟩, 36), (⟨"LensbenchModel", "manyChanges", "()I"⟩, 36), (⟨"LensbenchModel", "canTry", "()Z"⟩, 36), (⟨"LensbenchModel", "tableOf", "(I)I"⟩, 36), (⟨"LensbenchModel", "laysTable", "(II)Z"⟩, 36), (⟨"LensbenchModel", "rowBy", "(II)I"⟩, 36), (⟨"LensbenchModel", "isDraft", "()Z"⟩, 36)]
theorem lw_r3 : ∀ q ∈ lw_privs_3, lw_okq q := List.forall_mem_cons.mpr ⟨lw_p32, List.forall_mem_cons.mpr ⟨lw_p33, List.forall_mem_cons.mpr ⟨lw_p34, List.forall_mem_cons.mpr ⟨lw_p35, List.forall_mem_cons.mpr ⟨lw_p36, List.forall_mem_cons.mpr ⟨lw_p37, List.forall_mem_cons.mpr ⟨lw_p38, List.forall_mem_cons.mpr ⟨lw_p39, List.forall_mem_cons.mpr ⟨lw_p40, List.forall_mem_cons.mpr ⟨lw_p41, List.forall_mem_cons.mpr ⟨lw_p42, List.forall_mem_cons.mpr ⟨lw_p43, List.forall_mem_cons.mpr ⟨lw_p44, List.forall_mem_cons.mpr ⟨lw_p45, List.forall_mem_cons.mpr ⟨lw_p46, List.forall_mem_cons.mpr ⟨lw_p47, fun _ h => absurd h List.not_mem_nil⟩⟩⟩⟩⟩⟩⟩⟩⟩⟩⟩⟩⟩⟩⟩⟩
theorem lw_p48 : lw_okq (⟨"LensbenchModel", "differs", "(II)I"⟩, 36) := ⟨⟨by decide +kernel, by decide +kernel⟩, List.mem_of_getElem? (i := 912) (by decide +kernel), List.mem_of_getElem? (i := 1264) (by decide +kernel), List.mem_of_getElem? (i := 1265) (by decide +kernel)⟩
theorem lw_p49 : lw_okq (⟨"LensbenchModel", "keeps", "()V"⟩, 36) := ⟨⟨by decide +kernel, by decide +kernel⟩, List.mem_of_getElem? (i := 912) (by decide +kernel), List.mem_of_getElem? (i := 1272) (by decide +kernel), List.mem_of_getElem? (i := 1273) (by decide +kernel)⟩
def lw_privs_4 : List (MethodName × Nat) := [(⟨"LensbenchModel", "differs", "(II)I"⟩, 36), (⟨"LensbenchModel", "keeps", "()V"⟩, 36)]
theorem lw_r4 : ∀ q ∈ lw_privs_4, lw_okq q := List.forall_mem_cons.mpr ⟨lw_p48, List.forall_mem_cons.mpr ⟨lw_p49, fun _ h => absurd h List.not_mem_nil⟩⟩
def lw_privs : List (MethodName × Nat) := lw_privs_1 ++ (lw_privs_2 ++ (lw_privs_3 ++ (lw_privs_4)))
def lw_tbl : List Cond := k2_sels lw_privs ++ tables_1
theorem lw_privs_ok : ∀ q ∈ lw_privs, lw_okq q := by
  show ∀ q ∈ lw_privs_1 ++ (lw_privs_2 ++ (lw_privs_3 ++ (lw_privs_4))), lw_okq q
  exact List.forall_mem_append.mpr ⟨lw_r1, List.forall_mem_append.mpr ⟨lw_r2, List.forall_mem_append.mpr ⟨lw_r3, lw_r4⟩⟩⟩
-- all the good words of the tables: every method's words are these, behind its own code
def ALL : List Cond := lw_tbl.filter goodWord
theorem ALL_good : ∀ w ∈ ALL, goodWord w = true := fun _ h => (List.mem_filter.mp h).2
theorem inA {w : Cond} (i : Nat) (h : lw_tbl[i]? = some w) (g : goodWord w = true) : w ∈ ALL := List.mem_filter.mpr ⟨List.mem_of_getElem? h, g⟩
end
section
def RX0 : String := "Lensbench$Conflict"
def TX0 : u_T := fun k => match k with
  | 0 => ("Lensbench$Conflict", "told", "I", false)
  | 1 => ("Lensbench$Conflict", "first", "I", false)
  | _ => ("Lensbench$Conflict", "second", "I", false)
def tyX0 : Nat → FieldType := fun k => match k with
  | 0 => .int
  | 1 => .int
  | _ => .int
theorem nmX0 : ∀ a, a < 3 → ∀ b, b < 3 → a ≠ b → (TX0 a).2.1 ≠ (TX0 b).2.1 := by decide +kernel
theorem tyX0_ok : ∀ k, k < 3 → parseFieldDescriptor (TX0 k).2.2.1 = some (tyX0 k) := by decide +kernel
abbrev cX0_init : ByteArray := prog_2_method_1_code
def yX0_init : MethodName := ⟨RX0, "<init>", "()V"⟩
abbrev cX0_isTold : ByteArray := prog_2_method_2_code
def yX0_isTold : MethodName := ⟨RX0, "isTold", "()Z"⟩
abbrev cX0_clear : ByteArray := prog_2_method_3_code
def yX0_clear : MethodName := ⟨RX0, "clear", "()V"⟩
abbrev cX0_tell : ByteArray := prog_2_method_4_code
def yX0_tell : MethodName := ⟨RX0, "tell", "(III)V"⟩
abbrev cX0_seekPair : ByteArray := prog_2_method_5_code
def yX0_seekPair : MethodName := ⟨RX0, "seekPair", "(LLensbench$View;III)V"⟩
def RX1 : String := "Lensbench$Digits"
def TX1 : u_T := fun k => match k with
  | _ => ("", "", "", false)
def tyX1 : Nat → FieldType := fun k => match k with
  | _ => .int
theorem nmX1 : ∀ a, a < 0 → ∀ b, b < 0 → a ≠ b → (TX1 a).2.1 ≠ (TX1 b).2.1 := by decide +kernel
theorem tyX1_ok : ∀ k, k < 0 → parseFieldDescriptor (TX1 k).2.2.1 = some (tyX1 k) := by decide +kernel
abbrev cX1_isIn : ByteArray := prog_3_method_2_code
def yX1_isIn : MethodName := ⟨RX1, "isIn", "(II)Z"⟩
abbrev cX1_isColumn : ByteArray := prog_3_method_3_code
def yX1_isColumn : MethodName := ⟨RX1, "isColumn", "(II)Z"⟩
abbrev cX1_isValue : ByteArray := prog_3_method_4_code
def yX1_isValue : MethodName := ⟨RX1, "isValue", "(I)Z"⟩
abbrev cX1_isRow : ByteArray := prog_3_method_5_code
def yX1_isRow : MethodName := ⟨RX1, "isRow", "(II)Z"⟩
abbrev cX1_digit : ByteArray := prog_3_method_6_code
def yX1_digit : MethodName := ⟨RX1, "digit", "(II)I"⟩
abbrev cX1_told : ByteArray := prog_3_method_7_code
def yX1_told : MethodName := ⟨RX1, "told", "(II)I"⟩
abbrev cX1_with : ByteArray := prog_3_method_8_code
def yX1_with : MethodName := ⟨RX1, "with", "(III)I"⟩
abbrev cX1_part : ByteArray := prog_3_method_9_code
def yX1_part : MethodName := ⟨RX1, "part", "(II)I"⟩
abbrev cX1_alike : ByteArray := prog_3_method_10_code
def yX1_alike : MethodName := ⟨RX1, "alike", "(III)Z"⟩
def RX2 : String := "Lensbench$DropView"
def TX2 : u_T := fun k => match k with
  | 0 => ("Lensbench$View", "number", "I", true)
  | 1 => ("Lensbench$View", "columns", "I", true)
  | 2 => ("Lensbench$View", "key", "I", true)
  | 3 => ("Lensbench$View", "tables", "I", true)
  | 4 => ("Lensbench$View", "left", "LLensbench$View;", true)
  | 5 => ("Lensbench$View", "right", "LLensbench$View;", true)
  | 6 => ("Lensbench$View", "shown", "LLensbench$Rows;", true)
  | 7 => ("Lensbench$View", "wanted", "LLensbench$Rows;", true)
  | 8 => ("Lensbench$DropView", "source", "LLensbench$View;", true)
  | 9 => ("Lensbench$DropView", "column", "I", true)
  | _ => ("Lensbench$DropView", "value", "I", true)
def tyX2 : Nat → FieldType := fun k => match k with
  | 0 => .int
  | 1 => .int
  | 2 => .int
  | 3 => .int
  | 4 => .object "Lensbench$View"
  | 5 => .object "Lensbench$View"
  | 6 => .object "Lensbench$Rows"
  | 7 => .object "Lensbench$Rows"
  | 8 => .object "Lensbench$View"
  | 9 => .int
  | _ => .int
theorem nmX2 : ∀ a, a < 11 → ∀ b, b < 11 → a ≠ b → (TX2 a).2.1 ≠ (TX2 b).2.1 := by decide +kernel
theorem tyX2_ok : ∀ k, k < 11 → parseFieldDescriptor (TX2 k).2.2.1 = some (tyX2 k) := by decide +kernel
abbrev cX2_init : ByteArray := prog_4_method_1_code
def yX2_init : MethodName := ⟨RX2, "<init>", "(ILLensbench$View;II)V"⟩
abbrev cX2_show : ByteArray := prog_4_method_2_code
def yX2_show : MethodName := ⟨RX2, "show", "()V"⟩
abbrev cX2_seekOwnConflict : ByteArray := prog_4_method_3_code
def yX2_seekOwnConflict : MethodName := ⟨RX2, "seekOwnConflict", "(LLensbench$Conflict;)V"⟩
abbrev cX2_passOn : ByteArray := prog_4_method_4_code
def yX2_passOn : MethodName := ⟨RX2, "passOn", "()V"⟩
abbrev cX2_hiddenValue : ByteArray := prog_4_method_5_code
def yX2_hiddenValue : MethodName := ⟨RX2, "hiddenValue", "(I)I"⟩
def RX3 : String := "Lensbench$JoinView"
def TX3 : u_T := fun k => match k with
  | 0 => ("Lensbench$View", "number", "I", true)
  | 1 => ("Lensbench$View", "columns", "I", true)
  | 2 => ("Lensbench$View", "key", "I", true)
  | 3 => ("Lensbench$View", "tables", "I", true)
  | 4 => ("Lensbench$View", "left", "LLensbench$View;", true)
  | 5 => ("Lensbench$View", "right", "LLensbench$View;", true)
  | 6 => ("Lensbench$View", "shown", "LLensbench$Rows;", true)
  | 7 => ("Lensbench$View", "wanted", "LLensbench$Rows;", true)
  | 8 => ("Lensbench$JoinView", "one", "LLensbench$View;", true)
  | 9 => ("Lensbench$JoinView", "other", "LLensbench$View;", true)
  | _ => ("Lensbench$JoinView", "common", "I", true)
def tyX3 : Nat → FieldType := fun k => match k with
  | 0 => .int
  | 1 => .int
  | 2 => .int
  | 3 => .int
  | 4 => .object "Lensbench$View"
  | 5 => .object "Lensbench$View"
  | 6 => .object "Lensbench$Rows"
  | 7 => .object "Lensbench$Rows"
  | 8 => .object "Lensbench$View"
  | 9 => .object "Lensbench$View"
  | _ => .int
theorem nmX3 : ∀ a, a < 11 → ∀ b, b < 11 → a ≠ b → (TX3 a).2.1 ≠ (TX3 b).2.1 := by decide +kernel
theorem tyX3_ok : ∀ k, k < 11 → parseFieldDescriptor (TX3 k).2.2.1 = some (tyX3 k) := by decide +kernel
abbrev cX3_init : ByteArray := prog_5_method_1_code
def yX3_init : MethodName := ⟨RX3, "<init>", "(ILLensbench$View;LLensbench$View;)V"⟩
abbrev cX3_show : ByteArray := prog_5_method_2_code
def yX3_show : MethodName := ⟨RX3, "show", "()V"⟩
abbrev cX3_seekOwnConflict : ByteArray := prog_5_method_3_code
def yX3_seekOwnConflict : MethodName := ⟨RX3, "seekOwnConflict", "(LLensbench$Conflict;)V"⟩
abbrev cX3_passOn : ByteArray := prog_5_method_4_code
def yX3_passOn : MethodName := ⟨RX3, "passOn", "()V"⟩
def RX4 : String := "Lensbench$Rows"
def TX4 : u_T := fun k => match k with
  | 0 => ("Lensbench$Rows", "numbers", "[I", true)
  | _ => ("Lensbench$Rows", "count", "I", false)
def tyX4 : Nat → FieldType := fun k => match k with
  | 0 => .array .int
  | _ => .int
theorem nmX4 : ∀ a, a < 2 → ∀ b, b < 2 → a ≠ b → (TX4 a).2.1 ≠ (TX4 b).2.1 := by decide +kernel
theorem tyX4_ok : ∀ k, k < 2 → parseFieldDescriptor (TX4 k).2.2.1 = some (tyX4 k) := by decide +kernel
abbrev cX4_init : ByteArray := prog_6_method_1_code
def yX4_init : MethodName := ⟨RX4, "<init>", "(I)V"⟩
abbrev cX4_size : ByteArray := prog_6_method_2_code
def yX4_size : MethodName := ⟨RX4, "size", "()I"⟩
abbrev cX4_at : ByteArray := prog_6_method_3_code
def yX4_at : MethodName := ⟨RX4, "at", "(I)I"⟩
abbrev cX4_has : ByteArray := prog_6_method_4_code
def yX4_has : MethodName := ⟨RX4, "has", "(I)Z"⟩
abbrev cX4_firstLike : ByteArray := prog_6_method_5_code
def yX4_firstLike : MethodName := ⟨RX4, "firstLike", "(II)I"⟩
abbrev cX4_countMissingIn : ByteArray := prog_6_method_6_code
def yX4_countMissingIn : MethodName := ⟨RX4, "countMissingIn", "(LLensbench$Rows;)I"⟩
abbrev cX4_clear : ByteArray := prog_6_method_7_code
def yX4_clear : MethodName := ⟨RX4, "clear", "()V"⟩
abbrev cX4_put : ByteArray := prog_6_method_8_code
def yX4_put : MethodName := ⟨RX4, "put", "(I)V"⟩
abbrev cX4_remove : ByteArray := prog_6_method_9_code
def yX4_remove : MethodName := ⟨RX4, "remove", "(I)V"⟩
abbrev cX4_takeOver : ByteArray := prog_6_method_10_code
def yX4_takeOver : MethodName := ⟨RX4, "takeOver", "(LLensbench$Rows;)V"⟩
def RX5 : String := "Lensbench$SelectView"
def TX5 : u_T := fun k => match k with
  | 0 => ("Lensbench$View", "number", "I", true)
  | 1 => ("Lensbench$View", "columns", "I", true)
  | 2 => ("Lensbench$View", "key", "I", true)
  | 3 => ("Lensbench$View", "tables", "I", true)
  | 4 => ("Lensbench$View", "left", "LLensbench$View;", true)
  | 5 => ("Lensbench$View", "right", "LLensbench$View;", true)
  | 6 => ("Lensbench$View", "shown", "LLensbench$Rows;", true)
  | 7 => ("Lensbench$View", "wanted", "LLensbench$Rows;", true)
  | 8 => ("Lensbench$SelectView", "source", "LLensbench$View;", true)
  | 9 => ("Lensbench$SelectView", "column", "I", true)
  | 10 => ("Lensbench$SelectView", "value", "I", true)
  | _ => ("Lensbench$SelectView", "isSame", "Z", true)
def tyX5 : Nat → FieldType := fun k => match k with
  | 0 => .int
  | 1 => .int
  | 2 => .int
  | 3 => .int
  | 4 => .object "Lensbench$View"
  | 5 => .object "Lensbench$View"
  | 6 => .object "Lensbench$Rows"
  | 7 => .object "Lensbench$Rows"
  | 8 => .object "Lensbench$View"
  | 9 => .int
  | 10 => .int
  | _ => .boolean
theorem nmX5 : ∀ a, a < 12 → ∀ b, b < 12 → a ≠ b → (TX5 a).2.1 ≠ (TX5 b).2.1 := by decide +kernel
theorem tyX5_ok : ∀ k, k < 12 → parseFieldDescriptor (TX5 k).2.2.1 = some (tyX5 k) := by decide +kernel
abbrev cX5_init : ByteArray := prog_7_method_1_code
def yX5_init : MethodName := ⟨RX5, "<init>", "(ILLensbench$View;IIZ)V"⟩
abbrev cX5_selects : ByteArray := prog_7_method_2_code
def yX5_selects : MethodName := ⟨RX5, "selects", "(I)Z"⟩
abbrev cX5_show : ByteArray := prog_7_method_3_code
def yX5_show : MethodName := ⟨RX5, "show", "()V"⟩
abbrev cX5_seekOwnConflict : ByteArray := prog_7_method_4_code
def yX5_seekOwnConflict : MethodName := ⟨RX5, "seekOwnConflict", "(LLensbench$Conflict;)V"⟩
abbrev cX5_passOn : ByteArray := prog_7_method_5_code
def yX5_passOn : MethodName := ⟨RX5, "passOn", "()V"⟩
def RX6 : String := "Lensbench$Table"
def TX6 : u_T := fun k => match k with
  | 0 => ("Lensbench$Table", "columns", "I", true)
  | 1 => ("Lensbench$Table", "key", "I", true)
  | 2 => ("Lensbench$Table", "rows", "LLensbench$Rows;", true)
  | 3 => ("Lensbench$Table", "wanted", "LLensbench$Rows;", true)
  | _ => ("Lensbench$Table", "past", "[LLensbench$Rows;", true)
def tyX6 : Nat → FieldType := fun k => match k with
  | 0 => .int
  | 1 => .int
  | 2 => .object "Lensbench$Rows"
  | 3 => .object "Lensbench$Rows"
  | _ => .array (.object "Lensbench$Rows")
theorem nmX6 : ∀ a, a < 5 → ∀ b, b < 5 → a ≠ b → (TX6 a).2.1 ≠ (TX6 b).2.1 := by decide +kernel
theorem tyX6_ok : ∀ k, k < 5 → parseFieldDescriptor (TX6 k).2.2.1 = some (tyX6 k) := by decide +kernel
abbrev cX6_init : ByteArray := prog_8_method_1_code
def yX6_init : MethodName := ⟨RX6, "<init>", "(II)V"⟩
abbrev cX6_remember : ByteArray := prog_8_method_2_code
def yX6_remember : MethodName := ⟨RX6, "remember", "(I)V"⟩
abbrev cX6_forgetOldest : ByteArray := prog_8_method_3_code
def yX6_forgetOldest : MethodName := ⟨RX6, "forgetOldest", "()V"⟩
abbrev cX6_recall : ByteArray := prog_8_method_4_code
def yX6_recall : MethodName := ⟨RX6, "recall", "(I)V"⟩
def RX7 : String := "Lensbench$TableView"
def TX7 : u_T := fun k => match k with
  | 0 => ("Lensbench$View", "number", "I", true)
  | 1 => ("Lensbench$View", "columns", "I", true)
  | 2 => ("Lensbench$View", "key", "I", true)
  | 3 => ("Lensbench$View", "tables", "I", true)
  | 4 => ("Lensbench$View", "left", "LLensbench$View;", true)
  | 5 => ("Lensbench$View", "right", "LLensbench$View;", true)
  | 6 => ("Lensbench$View", "shown", "LLensbench$Rows;", true)
  | 7 => ("Lensbench$View", "wanted", "LLensbench$Rows;", true)
  | _ => ("Lensbench$TableView", "table", "LLensbench$Table;", true)
def tyX7 : Nat → FieldType := fun k => match k with
  | 0 => .int
  | 1 => .int
  | 2 => .int
  | 3 => .int
  | 4 => .object "Lensbench$View"
  | 5 => .object "Lensbench$View"
  | 6 => .object "Lensbench$Rows"
  | 7 => .object "Lensbench$Rows"
  | _ => .object "Lensbench$Table"
theorem nmX7 : ∀ a, a < 9 → ∀ b, b < 9 → a ≠ b → (TX7 a).2.1 ≠ (TX7 b).2.1 := by decide +kernel
theorem tyX7_ok : ∀ k, k < 9 → parseFieldDescriptor (TX7 k).2.2.1 = some (tyX7 k) := by decide +kernel
abbrev cX7_init : ByteArray := prog_9_method_1_code
def yX7_init : MethodName := ⟨RX7, "<init>", "(ILLensbench$Table;I)V"⟩
abbrev cX7_show : ByteArray := prog_9_method_2_code
def yX7_show : MethodName := ⟨RX7, "show", "()V"⟩
abbrev cX7_seekOwnConflict : ByteArray := prog_9_method_3_code
def yX7_seekOwnConflict : MethodName := ⟨RX7, "seekOwnConflict", "(LLensbench$Conflict;)V"⟩
abbrev cX7_passOn : ByteArray := prog_9_method_4_code
def yX7_passOn : MethodName := ⟨RX7, "passOn", "()V"⟩
def RX8 : String := "Lensbench$Trials"
def TX8 : u_T := fun k => match k with
  | 0 => ("Lensbench$Trials", "tried", "[I", true)
  | 1 => ("Lensbench$Trials", "rivals", "[I", true)
  | 2 => ("Lensbench$Trials", "count", "I", false)
  | 3 => ("Lensbench$Trials", "held", "I", false)
  | 4 => ("Lensbench$Trials", "seen", "I", false)
  | _ => ("Lensbench$Trials", "unwanted", "I", false)
def tyX8 : Nat → FieldType := fun k => match k with
  | 0 => .array .int
  | 1 => .array .int
  | 2 => .int
  | 3 => .int
  | 4 => .int
  | _ => .int
theorem nmX8 : ∀ a, a < 6 → ∀ b, b < 6 → a ≠ b → (TX8 a).2.1 ≠ (TX8 b).2.1 := by decide +kernel
theorem tyX8_ok : ∀ k, k < 6 → parseFieldDescriptor (TX8 k).2.2.1 = some (tyX8 k) := by decide +kernel
abbrev cX8_init : ByteArray := prog_10_method_1_code
def yX8_init : MethodName := ⟨RX8, "<init>", "()V"⟩
abbrev cX8_canTry : ByteArray := prog_10_method_2_code
def yX8_canTry : MethodName := ⟨RX8, "canTry", "(LLensbench$Table;)Z"⟩
abbrev cX8_hasGreatValue : ByteArray := prog_10_method_3_code
def yX8_hasGreatValue : MethodName := ⟨RX8, "hasGreatValue", "(I)Z"⟩
abbrev cX8_fewestChanges : ByteArray := prog_10_method_4_code
def yX8_fewestChanges : MethodName := ⟨RX8, "fewestChanges", "(LLensbench$View;LLensbench$Table;LLensbench$Rows;)I"⟩
abbrev cX8_listRows : ByteArray := prog_10_method_5_code
def yX8_listRows : MethodName := ⟨RX8, "listRows", "(I)V"⟩
abbrev cX8_sortRows : ByteArray := prog_10_method_6_code
def yX8_sortRows : MethodName := ⟨RX8, "sortRows", "(LLensbench$View;LLensbench$Table;LLensbench$Rows;)V"⟩
abbrev cX8_rivalsOf : ByteArray := prog_10_method_7_code
def yX8_rivalsOf : MethodName := ⟨RX8, "rivalsOf", "(II)I"⟩
abbrev cX8_isSeen : ByteArray := prog_10_method_8_code
def yX8_isSeen : MethodName := ⟨RX8, "isSeen", "(LLensbench$View;I)Z"⟩
abbrev cX8_hasUnlikeKeys : ByteArray := prog_10_method_9_code
def yX8_hasUnlikeKeys : MethodName := ⟨RX8, "hasUnlikeKeys", "(I)Z"⟩
def RX9 : String := "Lensbench$View"
def TX9 : u_T := fun k => match k with
  | _ => ("", "", "", false)
def tyX9 : Nat → FieldType := fun k => match k with
  | _ => .int
theorem nmX9 : ∀ a, a < 0 → ∀ b, b < 0 → a ≠ b → (TX9 a).2.1 ≠ (TX9 b).2.1 := by decide +kernel
theorem tyX9_ok : ∀ k, k < 0 → parseFieldDescriptor (TX9 k).2.2.1 = some (tyX9 k) := by decide +kernel
abbrev cX9_init : ByteArray := prog_11_method_1_code
def yX9_init : MethodName := ⟨RX9, "<init>", "(IIIILLensbench$View;LLensbench$View;)V"⟩
abbrev cX9_selects : ByteArray := prog_11_method_5_code
def yX9_selects : MethodName := ⟨RX9, "selects", "(I)Z"⟩
abbrev cX9_seekConflict : ByteArray := prog_11_method_6_code
def yX9_seekConflict : MethodName := ⟨RX9, "seekConflict", "(LLensbench$Conflict;)V"⟩
abbrev cX9_wantsKeyOf : ByteArray := prog_11_method_7_code
def yX9_wantsKeyOf : MethodName := ⟨RX9, "wantsKeyOf", "(I)Z"⟩
abbrev cX9_wantParts : ByteArray := prog_11_method_8_code
def yX9_wantParts : MethodName := ⟨RX9, "wantParts", "(LLensbench$Rows;)V"⟩
def RX10 : String := "Lensbench"
def TX10 : u_T := fun k => match k with
  | 0 => ("Lensbench", "tables", "[LLensbench$Table;", true)
  | 1 => ("Lensbench", "tableCount", "I", false)
  | 2 => ("Lensbench", "views", "[LLensbench$View;", true)
  | 3 => ("Lensbench", "viewCount", "I", false)
  | 4 => ("Lensbench", "draft", "LLensbench$Rows;", true)
  | 5 => ("Lensbench", "draftView", "LLensbench$View;", false)
  | 6 => ("Lensbench", "found", "LLensbench$Conflict;", true)
  | 7 => ("Lensbench", "trials", "LLensbench$Trials;", true)
  | _ => ("Lensbench", "undoCount", "I", false)
def tyX10 : Nat → FieldType := fun k => match k with
  | 0 => .array (.object "Lensbench$Table")
  | 1 => .int
  | 2 => .array (.object "Lensbench$View")
  | 3 => .int
  | 4 => .object "Lensbench$Rows"
  | 5 => .object "Lensbench$View"
  | 6 => .object "Lensbench$Conflict"
  | 7 => .object "Lensbench$Trials"
  | _ => .int
theorem nmX10 : ∀ a, a < 9 → ∀ b, b < 9 → a ≠ b → (TX10 a).2.1 ≠ (TX10 b).2.1 := by decide +kernel
theorem tyX10_ok : ∀ k, k < 9 → parseFieldDescriptor (TX10 k).2.2.1 = some (tyX10 k) := by decide +kernel
abbrev cX10_init : ByteArray := prog_1_method_1_code
def yX10_init : MethodName := ⟨RX10, "<init>", "()V"⟩
abbrev cX10_table : ByteArray := prog_1_method_2_code
def yX10_table : MethodName := ⟨RX10, "table", "(II)I"⟩
abbrev cX10_insert : ByteArray := prog_1_method_3_code
def yX10_insert : MethodName := ⟨RX10, "insert", "(II)I"⟩
abbrev cX10_delete : ByteArray := prog_1_method_4_code
def yX10_delete : MethodName := ⟨RX10, "delete", "(II)I"⟩
abbrev cX10_of : ByteArray := prog_1_method_5_code
def yX10_of : MethodName := ⟨RX10, "of", "(I)I"⟩
abbrev cX10_select : ByteArray := prog_1_method_6_code
def yX10_select : MethodName := ⟨RX10, "select", "(IIIZ)I"⟩
abbrev cX10_drop : ByteArray := prog_1_method_7_code
def yX10_drop : MethodName := ⟨RX10, "drop", "(III)I"⟩
abbrev cX10_join : ByteArray := prog_1_method_8_code
def yX10_join : MethodName := ⟨RX10, "join", "(II)I"⟩
abbrev cX10_columns : ByteArray := prog_1_method_9_code
def yX10_columns : MethodName := ⟨RX10, "columns", "(I)I"⟩
abbrev cX10_key : ByteArray := prog_1_method_10_code
def yX10_key : MethodName := ⟨RX10, "key", "(I)I"⟩
abbrev cX10_rows : ByteArray := prog_1_method_11_code
def yX10_rows : MethodName := ⟨RX10, "rows", "(I)I"⟩
abbrev cX10_row : ByteArray := prog_1_method_12_code
def yX10_row : MethodName := ⟨RX10, "row", "(II)I"⟩
abbrev cX10_open : ByteArray := prog_1_method_13_code
def yX10_open : MethodName := ⟨RX10, "open", "(I)I"⟩
abbrev cX10_add : ByteArray := prog_1_method_14_code
def yX10_add : MethodName := ⟨RX10, "add", "(I)I"⟩
abbrev cX10_takeOut : ByteArray := prog_1_method_15_code
def yX10_takeOut : MethodName := ⟨RX10, "takeOut", "(I)I"⟩
abbrev cX10_change : ByteArray := prog_1_method_16_code
def yX10_change : MethodName := ⟨RX10, "change", "(III)I"⟩
abbrev cX10_draftRow : ByteArray := prog_1_method_17_code
def yX10_draftRow : MethodName := ⟨RX10, "draftRow", "(I)I"⟩
abbrev cX10_conflict : ByteArray := prog_1_method_18_code
def yX10_conflict : MethodName := ⟨RX10, "conflict", "()I"⟩
abbrev cX10_conflictRow : ByteArray := prog_1_method_19_code
def yX10_conflictRow : MethodName := ⟨RX10, "conflictRow", "(I)I"⟩
abbrev cX10_changes : ByteArray := prog_1_method_20_code
def yX10_changes : MethodName := ⟨RX10, "changes", "()I"⟩
abbrev cX10_fewest : ByteArray := prog_1_method_21_code
def yX10_fewest : MethodName := ⟨RX10, "fewest", "()I"⟩
abbrev cX10_putBack : ByteArray := prog_1_method_22_code
def yX10_putBack : MethodName := ⟨RX10, "putBack", "()I"⟩
abbrev cX10_undo : ByteArray := prog_1_method_23_code
def yX10_undo : MethodName := ⟨RX10, "undo", "()I"⟩
abbrev cX10_tableAt : ByteArray := prog_1_method_24_code
def yX10_tableAt : MethodName := ⟨RX10, "tableAt", "(I)LLensbench$Table;"⟩
abbrev cX10_viewAt : ByteArray := prog_1_method_25_code
def yX10_viewAt : MethodName := ⟨RX10, "viewAt", "(I)LLensbench$View;"⟩
abbrev cX10_onlyTable : ByteArray := prog_1_method_26_code
def yX10_onlyTable : MethodName := ⟨RX10, "onlyTable", "(I)LLensbench$Table;"⟩
abbrev cX10_keepView : ByteArray := prog_1_method_27_code
def yX10_keepView : MethodName := ⟨RX10, "keepView", "(LLensbench$View;)I"⟩
abbrev cX10_showViews : ByteArray := prog_1_method_28_code
def yX10_showViews : MethodName := ⟨RX10, "showViews", "()V"⟩
abbrev cX10_planPutBack : ByteArray := prog_1_method_29_code
def yX10_planPutBack : MethodName := ⟨RX10, "planPutBack", "()V"⟩
abbrev cX10_passDown : ByteArray := prog_1_method_30_code
def yX10_passDown : MethodName := ⟨RX10, "passDown", "(LLensbench$View;LLensbench$Conflict;I)V"⟩
abbrev cX10_countPlanned : ByteArray := prog_1_method_31_code
def yX10_countPlanned : MethodName := ⟨RX10, "countPlanned", "()I"⟩
abbrev cX10_carryOut : ByteArray := prog_1_method_32_code
def yX10_carryOut : MethodName := ⟨RX10, "carryOut", "()V"⟩
def RX11 : String := "LensbenchModel"
def TX11 : u_T := fun k => match k with
  | 0 => ("LensbenchModel", "thrown", "I", false)
  | 1 => ("LensbenchModel", "power", "[I", true)
  | 2 => ("LensbenchModel", "tables", "I", false)
  | 3 => ("LensbenchModel", "columnsOf", "[I", true)
  | 4 => ("LensbenchModel", "keyOf", "[I", true)
  | 5 => ("LensbenchModel", "many", "[I", true)
  | 6 => ("LensbenchModel", "rows", "[I", true)
  | 7 => ("LensbenchModel", "views", "I", false)
  | 8 => ("LensbenchModel", "kind", "[I", true)
  | 9 => ("LensbenchModel", "left", "[I", true)
  | 10 => ("LensbenchModel", "right", "[I", true)
  | 11 => ("LensbenchModel", "column", "[I", true)
  | 12 => ("LensbenchModel", "value", "[I", true)
  | 13 => ("LensbenchModel", "isSame", "[Z", true)
  | 14 => ("LensbenchModel", "columns", "[I", true)
  | 15 => ("LensbenchModel", "key", "[I", true)
  | 16 => ("LensbenchModel", "from", "[I", true)
  | 17 => ("LensbenchModel", "has", "[I", true)
  | 18 => ("LensbenchModel", "viewRow", "[I", true)
  | 19 => ("LensbenchModel", "puts", "[I", true)
  | 20 => ("LensbenchModel", "putRow", "[I", true)
  | 21 => ("LensbenchModel", "isOpen", "Z", false)
  | 22 => ("LensbenchModel", "view", "I", false)
  | 23 => ("LensbenchModel", "drafted", "I", false)
  | 24 => ("LensbenchModel", "draft", "[I", true)
  | 25 => ("LensbenchModel", "conflict", "I", false)
  | 26 => ("LensbenchModel", "first", "I", false)
  | 27 => ("LensbenchModel", "second", "I", false)
  | 28 => ("LensbenchModel", "newMany", "[I", true)
  | 29 => ("LensbenchModel", "newRow", "[I", true)
  | 30 => ("LensbenchModel", "waiting", "I", false)
  | 31 => ("LensbenchModel", "waits", "[I", true)
  | 32 => ("LensbenchModel", "undos", "I", false)
  | 33 => ("LensbenchModel", "undoMany", "[I", true)
  | 34 => ("LensbenchModel", "undoRow", "[I", true)
  | _ => ("LensbenchModel", "keptRow", "[I", true)
def tyX11 : Nat → FieldType := fun k => match k with
  | 0 => .int
  | 1 => .array .int
  | 2 => .int
  | 3 => .array .int
  | 4 => .array .int
  | 5 => .array .int
  | 6 => .array .int
  | 7 => .int
  | 8 => .array .int
  | 9 => .array .int
  | 10 => .array .int
  | 11 => .array .int
  | 12 => .array .int
  | 13 => .array .boolean
  | 14 => .array .int
  | 15 => .array .int
  | 16 => .array .int
  | 17 => .array .int
  | 18 => .array .int
  | 19 => .array .int
  | 20 => .array .int
  | 21 => .boolean
  | 22 => .int
  | 23 => .int
  | 24 => .array .int
  | 25 => .int
  | 26 => .int
  | 27 => .int
  | 28 => .array .int
  | 29 => .array .int
  | 30 => .int
  | 31 => .array .int
  | 32 => .int
  | 33 => .array .int
  | 34 => .array .int
  | _ => .array .int
theorem nmX11 : ∀ a, a < 36 → ∀ b, b < 36 → a ≠ b → (TX11 a).2.1 ≠ (TX11 b).2.1 := by decide +kernel
theorem tyX11_ok : ∀ k, k < 36 → parseFieldDescriptor (TX11 k).2.2.1 = some (tyX11 k) := by decide +kernel
abbrev cX11_init : ByteArray := prog_13_method_1_code
def yX11_init : MethodName := ⟨RX11, "<init>", "()V"⟩
abbrev cX11_thrown : ByteArray := prog_13_method_2_code
def yX11_thrown : MethodName := ⟨RX11, "thrown", "()I"⟩
abbrev cX11_in : ByteArray := prog_13_method_3_code
def yX11_in : MethodName := ⟨RX11, "in", "(III)Z"⟩
abbrev cX11_digit : ByteArray := prog_13_method_4_code
def yX11_digit : MethodName := ⟨RX11, "digit", "(II)I"⟩
abbrev cX11_part : ByteArray := prog_13_method_5_code
def yX11_part : MethodName := ⟨RX11, "part", "(II)I"⟩
abbrev cX11_isRow : ByteArray := prog_13_method_6_code
def yX11_isRow : MethodName := ⟨RX11, "isRow", "(II)Z"⟩
abbrev cX11_lays : ByteArray := prog_13_method_7_code
def yX11_lays : MethodName := ⟨RX11, "lays", "([IIII)I"⟩
abbrev cX11_placeOf : ByteArray := prog_13_method_8_code
def yX11_placeOf : MethodName := ⟨RX11, "placeOf", "([IIII)I"⟩
abbrev cX11_takes : ByteArray := prog_13_method_9_code
def yX11_takes : MethodName := ⟨RX11, "takes", "([IIII)I"⟩
abbrev cX11_rowWith : ByteArray := prog_13_method_10_code
def yX11_rowWith : MethodName := ⟨RX11, "rowWith", "([IIIII)I"⟩
abbrev cX11_isTable : ByteArray := prog_13_method_11_code
def yX11_isTable : MethodName := ⟨RX11, "isTable", "(I)Z"⟩
abbrev cX11_table : ByteArray := prog_13_method_12_code
def yX11_table : MethodName := ⟨RX11, "table", "(II)I"⟩
abbrev cX11_insert : ByteArray := prog_13_method_13_code
def yX11_insert : MethodName := ⟨RX11, "insert", "(II)I"⟩
abbrev cX11_delete : ByteArray := prog_13_method_14_code
def yX11_delete : MethodName := ⟨RX11, "delete", "(II)I"⟩
abbrev cX11_isView : ByteArray := prog_13_method_15_code
def yX11_isView : MethodName := ⟨RX11, "isView", "(I)Z"⟩
abbrev cX11_makes : ByteArray := prog_13_method_16_code
def yX11_makes : MethodName := ⟨RX11, "makes", "(IIIII)I"⟩
abbrev cX11_of : ByteArray := prog_13_method_17_code
def yX11_of : MethodName := ⟨RX11, "of", "(I)I"⟩
abbrev cX11_isOf : ByteArray := prog_13_method_18_code
def yX11_isOf : MethodName := ⟨RX11, "isOf", "(II)Z"⟩
abbrev cX11_select : ByteArray := prog_13_method_19_code
def yX11_select : MethodName := ⟨RX11, "select", "(IIIZ)I"⟩
abbrev cX11_drop : ByteArray := prog_13_method_20_code
def yX11_drop : MethodName := ⟨RX11, "drop", "(III)I"⟩
abbrev cX11_join : ByteArray := prog_13_method_21_code
def yX11_join : MethodName := ⟨RX11, "join", "(II)I"⟩
abbrev cX11_isSelected : ByteArray := prog_13_method_22_code
def yX11_isSelected : MethodName := ⟨RX11, "isSelected", "(II)Z"⟩
abbrev cX11_both : ByteArray := prog_13_method_23_code
def yX11_both : MethodName := ⟨RX11, "both", "(I)I"⟩
abbrev cX11_joins : ByteArray := prog_13_method_24_code
def yX11_joins : MethodName := ⟨RX11, "joins", "(II)V"⟩
abbrev cX11_laysRow : ByteArray := prog_13_method_25_code
def yX11_laysRow : MethodName := ⟨RX11, "laysRow", "(II)V"⟩
abbrev cX11_laysViews : ByteArray := prog_13_method_26_code
def yX11_laysViews : MethodName := ⟨RX11, "laysViews", "()V"⟩
abbrev cX11_asksView : ByteArray := prog_13_method_27_code
def yX11_asksView : MethodName := ⟨RX11, "asksView", "(I)Z"⟩
abbrev cX11_columns : ByteArray := prog_13_method_28_code
def yX11_columns : MethodName := ⟨RX11, "columns", "(I)I"⟩
abbrev cX11_key : ByteArray := prog_13_method_29_code
def yX11_key : MethodName := ⟨RX11, "key", "(I)I"⟩
abbrev cX11_rows : ByteArray := prog_13_method_30_code
def yX11_rows : MethodName := ⟨RX11, "rows", "(I)I"⟩
abbrev cX11_row : ByteArray := prog_13_method_31_code
def yX11_row : MethodName := ⟨RX11, "row", "(II)I"⟩
abbrev cX11_open : ByteArray := prog_13_method_32_code
def yX11_open : MethodName := ⟨RX11, "open", "(I)I"⟩
abbrev cX11_add : ByteArray := prog_13_method_33_code
def yX11_add : MethodName := ⟨RX11, "add", "(I)I"⟩
abbrev cX11_takeOut : ByteArray := prog_13_method_34_code
def yX11_takeOut : MethodName := ⟨RX11, "takeOut", "(I)I"⟩
abbrev cX11_change : ByteArray := prog_13_method_35_code
def yX11_change : MethodName := ⟨RX11, "change", "(III)I"⟩
abbrev cX11_draftRow : ByteArray := prog_13_method_36_code
def yX11_draftRow : MethodName := ⟨RX11, "draftRow", "(I)I"⟩
abbrev cX11_tells : ByteArray := prog_13_method_37_code
def yX11_tells : MethodName := ⟨RX11, "tells", "(IIII)V"⟩
abbrev cX11_areAgainst : ByteArray := prog_13_method_38_code
def yX11_areAgainst : MethodName := ⟨RX11, "areAgainst", "(IIII)Z"⟩
abbrev cX11_looksForTwo : ByteArray := prog_13_method_39_code
def yX11_looksForTwo : MethodName := ⟨RX11, "looksForTwo", "(II)V"⟩
abbrev cX11_looks : ByteArray := prog_13_method_40_code
def yX11_looks : MethodName := ⟨RX11, "looks", "(I)V"⟩
abbrev cX11_isFree : ByteArray := prog_13_method_41_code
def yX11_isFree : MethodName := ⟨RX11, "isFree", "(II)Z"⟩
abbrev cX11_putsRow : ByteArray := prog_13_method_42_code
def yX11_putsRow : MethodName := ⟨RX11, "putsRow", "(II)V"⟩
abbrev cX11_putsTable : ByteArray := prog_13_method_43_code
def yX11_putsTable : MethodName := ⟨RX11, "putsTable", "(I)V"⟩
abbrev cX11_putsOne : ByteArray := prog_13_method_44_code
def yX11_putsOne : MethodName := ⟨RX11, "putsOne", "(I)V"⟩
abbrev cX11_putsRight : ByteArray := prog_13_method_45_code
def yX11_putsRight : MethodName := ⟨RX11, "putsRight", "(I)V"⟩
abbrev cX11_putsLeft : ByteArray := prog_13_method_46_code
def yX11_putsLeft : MethodName := ⟨RX11, "putsLeft", "(I)V"⟩
abbrev cX11_comes : ByteArray := prog_13_method_47_code
def yX11_comes : MethodName := ⟨RX11, "comes", "(I)V"⟩
abbrev cX11_goes : ByteArray := prog_13_method_48_code
def yX11_goes : MethodName := ⟨RX11, "goes", "()V"⟩
abbrev cX11_goesBelow : ByteArray := prog_13_method_49_code
def yX11_goesBelow : MethodName := ⟨RX11, "goesBelow", "(I)V"⟩
abbrev cX11_asksDraft : ByteArray := prog_13_method_50_code
def yX11_asksDraft : MethodName := ⟨RX11, "asksDraft", "()Z"⟩
abbrev cX11_conflict : ByteArray := prog_13_method_51_code
def yX11_conflict : MethodName := ⟨RX11, "conflict", "()I"⟩
abbrev cX11_conflictRow : ByteArray := prog_13_method_52_code
def yX11_conflictRow : MethodName := ⟨RX11, "conflictRow", "(I)I"⟩
abbrev cX11_manyChanges : ByteArray := prog_13_method_53_code
def yX11_manyChanges : MethodName := ⟨RX11, "manyChanges", "()I"⟩
abbrev cX11_changes : ByteArray := prog_13_method_54_code
def yX11_changes : MethodName := ⟨RX11, "changes", "()I"⟩
abbrev cX11_tableOf : ByteArray := prog_13_method_55_code
def yX11_tableOf : MethodName := ⟨RX11, "tableOf", "(I)I"⟩
abbrev cX11_count : ByteArray := prog_13_method_56_code
def yX11_count : MethodName := ⟨RX11, "count", "(I)I"⟩
abbrev cX11_canTry : ByteArray := prog_13_method_57_code
def yX11_canTry : MethodName := ⟨RX11, "canTry", "()Z"⟩
abbrev cX11_rowBy : ByteArray := prog_13_method_58_code
def yX11_rowBy : MethodName := ⟨RX11, "rowBy", "(II)I"⟩
abbrev cX11_laysTable : ByteArray := prog_13_method_59_code
def yX11_laysTable : MethodName := ⟨RX11, "laysTable", "(II)Z"⟩
abbrev cX11_isDraft : ByteArray := prog_13_method_60_code
def yX11_isDraft : MethodName := ⟨RX11, "isDraft", "()Z"⟩
abbrev cX11_differs : ByteArray := prog_13_method_61_code
def yX11_differs : MethodName := ⟨RX11, "differs", "(II)I"⟩
abbrev cX11_fewest : ByteArray := prog_13_method_62_code
def yX11_fewest : MethodName := ⟨RX11, "fewest", "()I"⟩
abbrev cX11_keeps : ByteArray := prog_13_method_63_code
def yX11_keeps : MethodName := ⟨RX11, "keeps", "()V"⟩
abbrev cX11_putBack : ByteArray := prog_13_method_64_code
def yX11_putBack : MethodName := ⟨RX11, "putBack", "()I"⟩
abbrev cX11_undo : ByteArray := prog_13_method_65_code
def yX11_undo : MethodName := ⟨RX11, "undo", "()I"⟩
def RJx145de : String := "java/io/Serializable"
def RJ6 : String := "java/lang/Integer"
abbrev cJ6_bitCount_0f7a4 : ByteArray := prog_19_method_49_code
def yJ6_bitCount_0f7a4 : MethodName := ⟨RJ6, "bitCount", "(I)I"⟩
def RJ9 : String := "java/lang/Math"
abbrev cJ9_min_7cf53 : ByteArray := prog_20_method_69_code
def yJ9_min_7cf53 : MethodName := ⟨RJ9, "min", "(II)I"⟩
def RJ0 : String := "java/lang/String"
def RL : String := "LensbenchLaw"
abbrev cL_table : ByteArray := method_3_code
def yL_table : MethodName := ⟨RL, "table", "(LLensbench;II[J)I"⟩
abbrev cL_insert : ByteArray := method_4_code
def yL_insert : MethodName := ⟨RL, "insert", "(LLensbench;II[J)I"⟩
abbrev cL_delete : ByteArray := method_5_code
def yL_delete : MethodName := ⟨RL, "delete", "(LLensbench;II[J)I"⟩
abbrev cL_of : ByteArray := method_6_code
def yL_of : MethodName := ⟨RL, "of", "(LLensbench;I[J)I"⟩
abbrev cL_select : ByteArray := method_7_code
def yL_select : MethodName := ⟨RL, "select", "(LLensbench;IIIZ[J)I"⟩
abbrev cL_drop : ByteArray := method_8_code
def yL_drop : MethodName := ⟨RL, "drop", "(LLensbench;III[J)I"⟩
abbrev cL_join : ByteArray := method_9_code
def yL_join : MethodName := ⟨RL, "join", "(LLensbench;II[J)I"⟩
abbrev cL_columns : ByteArray := method_10_code
def yL_columns : MethodName := ⟨RL, "columns", "(LLensbench;I[J)I"⟩
abbrev cL_key : ByteArray := method_11_code
def yL_key : MethodName := ⟨RL, "key", "(LLensbench;I[J)I"⟩
abbrev cL_rows : ByteArray := method_12_code
def yL_rows : MethodName := ⟨RL, "rows", "(LLensbench;I[J)I"⟩
abbrev cL_row : ByteArray := method_13_code
def yL_row : MethodName := ⟨RL, "row", "(LLensbench;II[J)I"⟩
abbrev cL_open : ByteArray := method_14_code
def yL_open : MethodName := ⟨RL, "open", "(LLensbench;I[J)I"⟩
abbrev cL_add : ByteArray := method_15_code
def yL_add : MethodName := ⟨RL, "add", "(LLensbench;I[J)I"⟩
abbrev cL_takeOut : ByteArray := method_16_code
def yL_takeOut : MethodName := ⟨RL, "takeOut", "(LLensbench;I[J)I"⟩
abbrev cL_change : ByteArray := method_17_code
def yL_change : MethodName := ⟨RL, "change", "(LLensbench;III[J)I"⟩
abbrev cL_draftRow : ByteArray := method_18_code
def yL_draftRow : MethodName := ⟨RL, "draftRow", "(LLensbench;I[J)I"⟩
abbrev cL_conflict : ByteArray := method_19_code
def yL_conflict : MethodName := ⟨RL, "conflict", "(LLensbench;[J)I"⟩
abbrev cL_conflictRow : ByteArray := method_20_code
def yL_conflictRow : MethodName := ⟨RL, "conflictRow", "(LLensbench;I[J)I"⟩
abbrev cL_changes : ByteArray := method_21_code
def yL_changes : MethodName := ⟨RL, "changes", "(LLensbench;[J)I"⟩
abbrev cL_fewest : ByteArray := method_22_code
def yL_fewest : MethodName := ⟨RL, "fewest", "(LLensbench;[J)I"⟩
abbrev cL_putBack : ByteArray := method_23_code
def yL_putBack : MethodName := ⟨RL, "putBack", "(LLensbench;[J)I"⟩
abbrev cL_undo : ByteArray := method_24_code
def yL_undo : MethodName := ⟨RL, "undo", "(LLensbench;[J)I"⟩
abbrev cL_law : ByteArray := code
def yL_law : MethodName := ⟨RL, "law", "([I)Z"⟩
abbrev vwCl : List vw_C := [(RX0, TX0, 3), (RX2, TX2, 11), (RX3, TX3, 11), (RX4, TX4, 2), (RX5, TX5, 12), (RX6, TX6, 5), (RX7, TX7, 9), (RX8, TX8, 6), (RX10, TX10, 9), (RX11, TX11, 36)]
theorem a_0 : Cond.selects "java/lang/Throwable" ⟨"java/lang/Throwable", "fillInStackTrace", "(I)Ljava/lang/Throwable;"⟩ ⟨"java/lang/Throwable", "fillInStackTrace", "(I)Ljava/lang/Throwable;"⟩ ∈ ALL := inA 0 (by decide +kernel) (by decide +kernel)
theorem a_1 : Cond.selects RX10 yX10_tableAt yX10_tableAt ∈ ALL := inA 1 (by decide +kernel) (by decide +kernel)
theorem a_2 : Cond.selects RX10 yX10_showViews yX10_showViews ∈ ALL := inA 2 (by decide +kernel) (by decide +kernel)
theorem a_3 : Cond.selects RX10 yX10_viewAt yX10_viewAt ∈ ALL := inA 3 (by decide +kernel) (by decide +kernel)
theorem a_4 : Cond.selects RX10 yX10_keepView yX10_keepView ∈ ALL := inA 4 (by decide +kernel) (by decide +kernel)
theorem a_5 : Cond.selects RX10 yX10_planPutBack yX10_planPutBack ∈ ALL := inA 5 (by decide +kernel) (by decide +kernel)
theorem a_6 : Cond.selects RX2 yX2_hiddenValue yX2_hiddenValue ∈ ALL := inA 6 (by decide +kernel) (by decide +kernel)
theorem a_7 : Cond.selects RX10 yX10_countPlanned yX10_countPlanned ∈ ALL := inA 7 (by decide +kernel) (by decide +kernel)
theorem a_8 : Cond.selects RX10 yX10_onlyTable yX10_onlyTable ∈ ALL := inA 8 (by decide +kernel) (by decide +kernel)
theorem a_9 : Cond.selects RX8 yX8_listRows yX8_listRows ∈ ALL := inA 9 (by decide +kernel) (by decide +kernel)
theorem a_10 : Cond.selects RX8 yX8_sortRows yX8_sortRows ∈ ALL := inA 10 (by decide +kernel) (by decide +kernel)
theorem a_11 : Cond.selects RX8 yX8_rivalsOf yX8_rivalsOf ∈ ALL := inA 11 (by decide +kernel) (by decide +kernel)
theorem a_12 : Cond.selects RX8 yX8_hasUnlikeKeys yX8_hasUnlikeKeys ∈ ALL := inA 12 (by decide +kernel) (by decide +kernel)
theorem a_13 : Cond.selects RX10 yX10_carryOut yX10_carryOut ∈ ALL := inA 13 (by decide +kernel) (by decide +kernel)
theorem a_14 : Cond.selects RX6 yX6_forgetOldest yX6_forgetOldest ∈ ALL := inA 14 (by decide +kernel) (by decide +kernel)
theorem a_15 : Cond.selects RX11 yX11_isTable yX11_isTable ∈ ALL := inA 15 (by decide +kernel) (by decide +kernel)
theorem a_16 : Cond.selects RX11 yX11_isRow yX11_isRow ∈ ALL := inA 16 (by decide +kernel) (by decide +kernel)
theorem a_17 : Cond.selects RX11 yX11_part yX11_part ∈ ALL := inA 17 (by decide +kernel) (by decide +kernel)
theorem a_18 : Cond.selects RX11 yX11_digit yX11_digit ∈ ALL := inA 18 (by decide +kernel) (by decide +kernel)
theorem a_19 : Cond.selects RX11 yX11_rowWith yX11_rowWith ∈ ALL := inA 19 (by decide +kernel) (by decide +kernel)
theorem a_20 : Cond.selects RX11 yX11_makes yX11_makes ∈ ALL := inA 20 (by decide +kernel) (by decide +kernel)
theorem a_21 : Cond.selects RX11 yX11_isView yX11_isView ∈ ALL := inA 21 (by decide +kernel) (by decide +kernel)
theorem a_22 : Cond.selects RX11 yX11_asksView yX11_asksView ∈ ALL := inA 22 (by decide +kernel) (by decide +kernel)
theorem a_23 : Cond.selects RX11 yX11_laysViews yX11_laysViews ∈ ALL := inA 23 (by decide +kernel) (by decide +kernel)
theorem a_24 : Cond.selects RX11 yX11_laysRow yX11_laysRow ∈ ALL := inA 24 (by decide +kernel) (by decide +kernel)
theorem a_25 : Cond.selects RX11 yX11_joins yX11_joins ∈ ALL := inA 25 (by decide +kernel) (by decide +kernel)
theorem a_26 : Cond.selects RX11 yX11_both yX11_both ∈ ALL := inA 26 (by decide +kernel) (by decide +kernel)
theorem a_27 : Cond.selects RX11 yX11_isSelected yX11_isSelected ∈ ALL := inA 27 (by decide +kernel) (by decide +kernel)
theorem a_28 : Cond.selects RX11 yX11_asksDraft yX11_asksDraft ∈ ALL := inA 28 (by decide +kernel) (by decide +kernel)
theorem a_29 : Cond.selects RX11 yX11_goes yX11_goes ∈ ALL := inA 29 (by decide +kernel) (by decide +kernel)
theorem a_30 : Cond.selects RX11 yX11_putsRow yX11_putsRow ∈ ALL := inA 30 (by decide +kernel) (by decide +kernel)
theorem a_31 : Cond.selects RX11 yX11_comes yX11_comes ∈ ALL := inA 31 (by decide +kernel) (by decide +kernel)
theorem a_32 : Cond.selects RX11 yX11_looks yX11_looks ∈ ALL := inA 32 (by decide +kernel) (by decide +kernel)
theorem a_33 : Cond.selects RX11 yX11_looksForTwo yX11_looksForTwo ∈ ALL := inA 33 (by decide +kernel) (by decide +kernel)
theorem a_34 : Cond.selects RX11 yX11_areAgainst yX11_areAgainst ∈ ALL := inA 34 (by decide +kernel) (by decide +kernel)
theorem a_35 : Cond.selects RX11 yX11_tells yX11_tells ∈ ALL := inA 35 (by decide +kernel) (by decide +kernel)
theorem a_36 : Cond.selects RX11 yX11_goesBelow yX11_goesBelow ∈ ALL := inA 36 (by decide +kernel) (by decide +kernel)
theorem a_37 : Cond.selects RX11 yX11_putsTable yX11_putsTable ∈ ALL := inA 37 (by decide +kernel) (by decide +kernel)
theorem a_38 : Cond.selects RX11 yX11_putsRight yX11_putsRight ∈ ALL := inA 38 (by decide +kernel) (by decide +kernel)
theorem a_39 : Cond.selects RX11 yX11_putsLeft yX11_putsLeft ∈ ALL := inA 39 (by decide +kernel) (by decide +kernel)
theorem a_40 : Cond.selects RX11 yX11_isFree yX11_isFree ∈ ALL := inA 40 (by decide +kernel) (by decide +kernel)
theorem a_41 : Cond.selects RX11 yX11_putsOne yX11_putsOne ∈ ALL := inA 41 (by decide +kernel) (by decide +kernel)
theorem a_42 : Cond.selects RX11 yX11_manyChanges yX11_manyChanges ∈ ALL := inA 42 (by decide +kernel) (by decide +kernel)
theorem a_43 : Cond.selects RX11 yX11_canTry yX11_canTry ∈ ALL := inA 43 (by decide +kernel) (by decide +kernel)
theorem a_44 : Cond.selects RX11 yX11_tableOf yX11_tableOf ∈ ALL := inA 44 (by decide +kernel) (by decide +kernel)
theorem a_45 : Cond.selects RX11 yX11_laysTable yX11_laysTable ∈ ALL := inA 45 (by decide +kernel) (by decide +kernel)
theorem a_46 : Cond.selects RX11 yX11_rowBy yX11_rowBy ∈ ALL := inA 46 (by decide +kernel) (by decide +kernel)
theorem a_47 : Cond.selects RX11 yX11_isDraft yX11_isDraft ∈ ALL := inA 47 (by decide +kernel) (by decide +kernel)
theorem a_48 : Cond.selects RX11 yX11_differs yX11_differs ∈ ALL := inA 48 (by decide +kernel) (by decide +kernel)
theorem a_49 : Cond.selects RX11 yX11_keeps yX11_keeps ∈ ALL := inA 49 (by decide +kernel) (by decide +kernel)
theorem a_50 : Cond.initialized RL ∈ ALL := inA 50 (by decide +kernel) (by decide +kernel)
theorem a_51 : Cond.initialized RX10 ∈ ALL := inA 51 (by decide +kernel) (by decide +kernel)
theorem a_52 : Cond.initialized RX4 ∈ ALL := inA 52 (by decide +kernel) (by decide +kernel)
theorem a_53 : Cond.initialized RX0 ∈ ALL := inA 53 (by decide +kernel) (by decide +kernel)
theorem a_54 : Cond.initialized RX8 ∈ ALL := inA 54 (by decide +kernel) (by decide +kernel)
theorem a_55 : Cond.initialized RX11 ∈ ALL := inA 55 (by decide +kernel) (by decide +kernel)
theorem a_56 : Cond.initialized "java/lang/Throwable" ∈ ALL := inA 56 (by decide +kernel) (by decide +kernel)
theorem a_57 : Cond.initialized "java/lang/Exception" ∈ ALL := inA 57 (by decide +kernel) (by decide +kernel)
theorem a_58 : Cond.initialized "java/lang/RuntimeException" ∈ ALL := inA 58 (by decide +kernel) (by decide +kernel)
theorem a_59 : Cond.initialized "java/lang/IllegalArgumentException" ∈ ALL := inA 59 (by decide +kernel) (by decide +kernel)
theorem a_60 : Cond.initialized "java/lang/IllegalStateException" ∈ ALL := inA 60 (by decide +kernel) (by decide +kernel)
theorem a_61 : Cond.initialized RX6 ∈ ALL := inA 61 (by decide +kernel) (by decide +kernel)
theorem a_62 : Cond.initialized "java/lang/IndexOutOfBoundsException" ∈ ALL := inA 62 (by decide +kernel) (by decide +kernel)
theorem a_63 : Cond.initialized RX1 ∈ ALL := inA 63 (by decide +kernel) (by decide +kernel)
theorem a_64 : Cond.initialized RJ9 ∈ ALL := inA 64 (by decide +kernel) (by decide +kernel)
theorem a_65 : Cond.initialized "java/util/NoSuchElementException" ∈ ALL := inA 65 (by decide +kernel) (by decide +kernel)
theorem a_66 : Cond.initialized RX9 ∈ ALL := inA 66 (by decide +kernel) (by decide +kernel)
theorem a_67 : Cond.initialized RX7 ∈ ALL := inA 67 (by decide +kernel) (by decide +kernel)
theorem a_68 : Cond.initialized RX5 ∈ ALL := inA 68 (by decide +kernel) (by decide +kernel)
theorem a_69 : Cond.initialized RX2 ∈ ALL := inA 69 (by decide +kernel) (by decide +kernel)
theorem a_70 : Cond.initialized RX3 ∈ ALL := inA 70 (by decide +kernel) (by decide +kernel)
theorem a_71 : Cond.initialized RJ6 ∈ ALL := inA 71 (by decide +kernel) (by decide +kernel)
theorem a_72 : Cond.classLink RL 8 RX10 ∈ ALL := inA 72 (by decide +kernel) (by decide +kernel)
theorem a_73 : Cond.instantiable RX10 9 ∈ ALL := inA 73 (by decide +kernel) (by decide +kernel)
theorem a_74 : Cond.methodLink RL 88 yX10_init ∈ ALL := inA 74 (by decide +kernel) (by decide +kernel)
theorem a_75 : Cond.instanceMethod yX10_init ∈ ALL := inA 75 (by decide +kernel) (by decide +kernel)
theorem a_76 : Cond.code yX10_init cX10_init 1 none ∈ ALL := inA 76 (by decide +kernel) (by decide +kernel)
theorem a_77 : Cond.methodLink RX10 1 ⟨"java/lang/Object", "<init>", "()V"⟩ ∈ ALL := inA 77 (by decide +kernel) (by decide +kernel)
theorem a_78 : Cond.instanceMethod ⟨"java/lang/Object", "<init>", "()V"⟩ ∈ ALL := inA 78 (by decide +kernel) (by decide +kernel)
theorem a_79 : Cond.code ({ cls := "java/lang/Object", name := "<init>", desc := "()V" } : Jvm.MethodName) object_method_1_code (1 : Nat) (Option.none : Option Jvm.ClassFile.FieldType) ∈ ALL := inA 79 (by decide +kernel) (by decide +kernel)
theorem a_80 : Cond.classLink RX10 9 RX6 ∈ ALL := inA 80 (by decide +kernel) (by decide +kernel)
theorem a_81 : Cond.arrayOver (Jvm.ClassFile.FieldType.object "Lensbench$Table") ∈ lw_tbl := List.mem_of_getElem? (i := 81) (by decide +kernel)
theorem a_82 : Cond.classLink RX10 15 RX9 ∈ ALL := inA 82 (by decide +kernel) (by decide +kernel)
theorem a_83 : Cond.arrayOver (Jvm.ClassFile.FieldType.object "Lensbench$View") ∈ lw_tbl := List.mem_of_getElem? (i := 83) (by decide +kernel)
theorem a_84 : Cond.classLink RX10 21 RX4 ∈ ALL := inA 84 (by decide +kernel) (by decide +kernel)
theorem a_85 : Cond.instantiable RX4 2 ∈ ALL := inA 85 (by decide +kernel) (by decide +kernel)
theorem a_86 : Cond.methodLink RX10 23 yX4_init ∈ ALL := inA 86 (by decide +kernel) (by decide +kernel)
theorem a_87 : Cond.instanceMethod yX4_init ∈ ALL := inA 87 (by decide +kernel) (by decide +kernel)
theorem a_88 : Cond.code yX4_init cX4_init 2 none ∈ ALL := inA 88 (by decide +kernel) (by decide +kernel)
theorem a_89 : Cond.methodLink RX4 3 ⟨"java/lang/Object", "<init>", "()V"⟩ ∈ ALL := inA 89 (by decide +kernel) (by decide +kernel)
theorem a_90 : Cond.fieldLink RX4 9 "Lensbench$Rows" "numbers" "[I" ∈ ALL := inA 90 (by decide +kernel) (by decide +kernel)
theorem a_91 : Cond.fieldLink RX4 15 "Lensbench$Rows" "count" "I" ∈ ALL := inA 91 (by decide +kernel) (by decide +kernel)
theorem a_97 : Cond.arrayClass Jvm.ClassFile.FieldType.int ∈ ALL := inA 97 (by decide +kernel) (by decide +kernel)
theorem a_98 : Cond.classLink RX10 30 RX0 ∈ ALL := inA 98 (by decide +kernel) (by decide +kernel)
theorem a_99 : Cond.instantiable RX0 3 ∈ ALL := inA 99 (by decide +kernel) (by decide +kernel)
theorem a_100 : Cond.methodLinkNest RX10 32 yX0_init RX10 ∈ lw_tbl := List.mem_of_getElem? (i := 100) (by decide +kernel)
theorem a_101 : Cond.instanceMethod yX0_init ∈ ALL := inA 101 (by decide +kernel) (by decide +kernel)
theorem a_102 : Cond.code yX0_init cX0_init 1 none ∈ ALL := inA 102 (by decide +kernel) (by decide +kernel)
theorem a_103 : Cond.methodLink RX0 3 ⟨"java/lang/Object", "<init>", "()V"⟩ ∈ ALL := inA 103 (by decide +kernel) (by decide +kernel)
theorem a_104 : Cond.fieldLink RX0 18 "Lensbench$Conflict" "told" "I" ∈ ALL := inA 104 (by decide +kernel) (by decide +kernel)
theorem a_105 : Cond.fieldLink RX10 198 "Lensbench$Conflict" "told" "I" ∈ ALL := inA 105 (by decide +kernel) (by decide +kernel)
theorem a_106 : Cond.fieldLink RX0 9 "Lensbench$Conflict" "first" "I" ∈ ALL := inA 106 (by decide +kernel) (by decide +kernel)
theorem a_107 : Cond.fieldLink RX10 203 "Lensbench$Conflict" "first" "I" ∈ ALL := inA 107 (by decide +kernel) (by decide +kernel)
theorem a_108 : Cond.fieldLink RX0 15 "Lensbench$Conflict" "second" "I" ∈ ALL := inA 108 (by decide +kernel) (by decide +kernel)
theorem a_109 : Cond.fieldLink RX10 206 "Lensbench$Conflict" "second" "I" ∈ ALL := inA 109 (by decide +kernel) (by decide +kernel)
theorem a_117 : Cond.classLink RX10 37 RX8 ∈ ALL := inA 117 (by decide +kernel) (by decide +kernel)
theorem a_118 : Cond.instantiable RX8 6 ∈ ALL := inA 118 (by decide +kernel) (by decide +kernel)
theorem a_119 : Cond.methodLinkNest RX10 39 yX8_init RX10 ∈ lw_tbl := List.mem_of_getElem? (i := 119) (by decide +kernel)
theorem a_120 : Cond.instanceMethod yX8_init ∈ ALL := inA 120 (by decide +kernel) (by decide +kernel)
theorem a_121 : Cond.code yX8_init cX8_init 1 none ∈ ALL := inA 121 (by decide +kernel) (by decide +kernel)
theorem a_122 : Cond.methodLink RX8 3 ⟨"java/lang/Object", "<init>", "()V"⟩ ∈ ALL := inA 122 (by decide +kernel) (by decide +kernel)
theorem a_123 : Cond.fieldLink RX8 9 "Lensbench$Trials" "tried" "[I" ∈ ALL := inA 123 (by decide +kernel) (by decide +kernel)
theorem a_124 : Cond.fieldLink RX8 15 "Lensbench$Trials" "rivals" "[I" ∈ ALL := inA 124 (by decide +kernel) (by decide +kernel)
theorem a_125 : Cond.fieldLink RX8 61 "Lensbench$Trials" "count" "I" ∈ ALL := inA 125 (by decide +kernel) (by decide +kernel)
theorem a_126 : Cond.fieldLink RX8 73 "Lensbench$Trials" "held" "I" ∈ ALL := inA 126 (by decide +kernel) (by decide +kernel)
theorem a_127 : Cond.fieldLink RX8 67 "Lensbench$Trials" "seen" "I" ∈ ALL := inA 127 (by decide +kernel) (by decide +kernel)
theorem a_128 : Cond.fieldLink RX8 64 "Lensbench$Trials" "unwanted" "I" ∈ ALL := inA 128 (by decide +kernel) (by decide +kernel)
theorem a_142 : Cond.fieldLink RX10 11 "Lensbench" "tables" "[LLensbench$Table;" ∈ ALL := inA 142 (by decide +kernel) (by decide +kernel)
theorem a_143 : Cond.fieldLink RX10 51 "Lensbench" "tableCount" "I" ∈ ALL := inA 143 (by decide +kernel) (by decide +kernel)
theorem a_144 : Cond.fieldLink RX10 17 "Lensbench" "views" "[LLensbench$View;" ∈ ALL := inA 144 (by decide +kernel) (by decide +kernel)
theorem a_145 : Cond.fieldLink RX10 117 "Lensbench" "viewCount" "I" ∈ ALL := inA 145 (by decide +kernel) (by decide +kernel)
theorem a_146 : Cond.fieldLink RX10 26 "Lensbench" "draft" "LLensbench$Rows;" ∈ ALL := inA 146 (by decide +kernel) (by decide +kernel)
theorem a_147 : Cond.fieldLink RX10 175 "Lensbench" "draftView" "LLensbench$View;" ∈ ALL := inA 147 (by decide +kernel) (by decide +kernel)
theorem a_148 : Cond.fieldLink RX10 33 "Lensbench" "found" "LLensbench$Conflict;" ∈ ALL := inA 148 (by decide +kernel) (by decide +kernel)
theorem a_149 : Cond.fieldLink RX10 40 "Lensbench" "trials" "LLensbench$Trials;" ∈ ALL := inA 149 (by decide +kernel) (by decide +kernel)
theorem a_150 : Cond.fieldLink RX10 234 "Lensbench" "undoCount" "I" ∈ ALL := inA 150 (by decide +kernel) (by decide +kernel)
theorem a_170 : Cond.methodLink RL 92 yL_table ∈ ALL := inA 170 (by decide +kernel) (by decide +kernel)
theorem a_171 : Cond.static yL_table ∈ ALL := inA 171 (by decide +kernel) (by decide +kernel)
theorem a_172 : Cond.codeWith ({ cls := "LensbenchLaw", name := "table", desc := "(LLensbench;II[J)I" } : Jvm.MethodName) method_3_code (5 : Nat) (Option.some Jvm.ClassFile.FieldType.int) [((0 : Nat), (10 : Nat), (13 : Nat), (13 : Nat)), ((0 : Nat), (10 : Nat), (17 : Nat), (15 : Nat))] ∈ ALL := inA 172 (by decide +kernel) (by decide +kernel)
theorem a_173 : Cond.classLink RL 13 "java/lang/IllegalArgumentException" ∈ ALL := inA 173 (by decide +kernel) (by decide +kernel)
theorem a_174 : Cond.classLink RL 15 "java/lang/IllegalStateException" ∈ ALL := inA 174 (by decide +kernel) (by decide +kernel)
theorem a_175 : Cond.methodLink RL 7 yX10_table ∈ ALL := inA 175 (by decide +kernel) (by decide +kernel)
theorem a_176 : Cond.instanceMethod yX10_table ∈ ALL := inA 176 (by decide +kernel) (by decide +kernel)
theorem a_177 : Cond.selects RX10 yX10_table yX10_table ∈ ALL := inA 177 (by decide +kernel) (by decide +kernel)
theorem a_178 : Cond.code yX10_table cX10_table 3 (some .int) ∈ ALL := inA 178 (by decide +kernel) (by decide +kernel)
theorem a_179 : Cond.classLink RX10 44 "java/lang/IllegalArgumentException" ∈ ALL := inA 179 (by decide +kernel) (by decide +kernel)
theorem a_180 : Cond.instantiable "java/lang/IllegalArgumentException" 6 ∈ ALL := inA 180 (by decide +kernel) (by decide +kernel)
theorem a_181 : Cond.castable "java/lang/IllegalArgumentException" "java/lang/IllegalArgumentException" ∈ lw_tbl := List.mem_of_getElem? (i := 181) (by decide +kernel)
theorem a_182 : Cond.declares ⟨"java/lang/RuntimeException", "<init>", "()V"⟩ ∈ lw_tbl := List.mem_of_getElem? (i := 182) (by decide +kernel)
theorem a_183 : Cond.declares ⟨"java/lang/RuntimeException", "<init>", "(Ljava/lang/String;)V"⟩ ∈ lw_tbl := List.mem_of_getElem? (i := 183) (by decide +kernel)
theorem a_184 : Cond.declares ⟨"java/lang/Exception", "<init>", "()V"⟩ ∈ lw_tbl := List.mem_of_getElem? (i := 184) (by decide +kernel)
theorem a_185 : Cond.declares ⟨"java/lang/Exception", "<init>", "(Ljava/lang/String;)V"⟩ ∈ lw_tbl := List.mem_of_getElem? (i := 185) (by decide +kernel)
theorem a_186 : Cond.declares ⟨"java/lang/Throwable", "<init>", "()V"⟩ ∈ lw_tbl := List.mem_of_getElem? (i := 186) (by decide +kernel)
theorem a_187 : Cond.declares ⟨"java/lang/Throwable", "<init>", "(Ljava/lang/String;)V"⟩ ∈ lw_tbl := List.mem_of_getElem? (i := 187) (by decide +kernel)
theorem a_188 : Cond.selects "java/lang/IllegalArgumentException" ⟨"java/lang/Throwable", "fillInStackTrace", "(I)Ljava/lang/Throwable;"⟩ ⟨"java/lang/Throwable", "fillInStackTrace", "(I)Ljava/lang/Throwable;"⟩ ∈ ALL := inA 188 (by decide +kernel) (by decide +kernel)
theorem a_189 : Cond.selects "java/lang/IllegalArgumentException" ⟨"java/lang/Throwable", "fillInStackTrace", "()Ljava/lang/Throwable;"⟩ ⟨"java/lang/Throwable", "fillInStackTrace", "()Ljava/lang/Throwable;"⟩ ∈ ALL := inA 189 (by decide +kernel) (by decide +kernel)
theorem a_200 : Cond.fieldLink "java/lang/Throwable" 198 "java/lang/Throwable" "backtrace" "Ljava/lang/Object;" ∈ ALL := inA 200 (by decide +kernel) (by decide +kernel)
theorem a_202 : Cond.instanceMethod ⟨"java/lang/Throwable", "<init>", "()V"⟩ ∈ ALL := inA 202 (by decide +kernel) (by decide +kernel)
theorem a_203 : Cond.code ⟨"java/lang/Throwable", "<init>", "()V"⟩ prog_23_method_1_code 1 none ∈ ALL := inA 203 (by decide +kernel) (by decide +kernel)
theorem a_204 : Cond.methodLink "java/lang/Throwable" 1 ⟨"java/lang/Object", "<init>", "()V"⟩ ∈ ALL := inA 204 (by decide +kernel) (by decide +kernel)
theorem a_205 : Cond.fieldLink "java/lang/Throwable" 13 "java/lang/Throwable" "UNASSIGNED_STACK" "[Ljava/lang/StackTraceElement;" ∈ ALL := inA 205 (by decide +kernel) (by decide +kernel)
theorem a_207 : Cond.fieldLink "java/lang/Throwable" 20 "java/lang/Throwable" "SUPPRESSED_SENTINEL" "Ljava/util/List;" ∈ ALL := inA 207 (by decide +kernel) (by decide +kernel)
theorem a_209 : Cond.methodLink "java/lang/Throwable" 27 ⟨"java/lang/Throwable", "fillInStackTrace", "()Ljava/lang/Throwable;"⟩ ∈ ALL := inA 209 (by decide +kernel) (by decide +kernel)
theorem a_210 : Cond.instanceMethod ⟨"java/lang/Throwable", "fillInStackTrace", "()Ljava/lang/Throwable;"⟩ ∈ ALL := inA 210 (by decide +kernel) (by decide +kernel)
theorem a_211 : Cond.sameMethod "java/lang/Throwable" "java/lang/Throwable" "fillInStackTrace" "()Ljava/lang/Throwable;" ∈ ALL := inA 211 (by decide +kernel) (by decide +kernel)
theorem a_212 : Cond.selects "java/lang/IllegalStateException" ⟨"java/lang/Throwable", "fillInStackTrace", "()Ljava/lang/Throwable;"⟩ ⟨"java/lang/Throwable", "fillInStackTrace", "()Ljava/lang/Throwable;"⟩ ∈ ALL := inA 212 (by decide +kernel) (by decide +kernel)
theorem a_213 : Cond.selects "java/lang/IndexOutOfBoundsException" ⟨"java/lang/Throwable", "fillInStackTrace", "()Ljava/lang/Throwable;"⟩ ⟨"java/lang/Throwable", "fillInStackTrace", "()Ljava/lang/Throwable;"⟩ ∈ ALL := inA 213 (by decide +kernel) (by decide +kernel)
theorem a_214 : Cond.selects "java/util/NoSuchElementException" ⟨"java/lang/Throwable", "fillInStackTrace", "()Ljava/lang/Throwable;"⟩ ⟨"java/lang/Throwable", "fillInStackTrace", "()Ljava/lang/Throwable;"⟩ ∈ ALL := inA 214 (by decide +kernel) (by decide +kernel)
theorem a_216 : Cond.methodLink "java/lang/Throwable" 202 ⟨"java/lang/Throwable", "fillInStackTrace", "(I)Ljava/lang/Throwable;"⟩ ∈ ALL := inA 216 (by decide +kernel) (by decide +kernel)
theorem a_218 : Cond.instanceMethod ⟨"java/lang/Throwable", "fillInStackTrace", "(I)Ljava/lang/Throwable;"⟩ ∈ ALL := inA 218 (by decide +kernel) (by decide +kernel)
theorem a_219 : Cond.instantiable "java/lang/Throwable" 6 ∈ ALL := inA 219 (by decide +kernel) (by decide +kernel)
theorem a_222 : Cond.methodLink RX10 48 ⟨"java/lang/IllegalArgumentException", "<init>", "(Ljava/lang/String;)V"⟩ ∈ ALL := inA 222 (by decide +kernel) (by decide +kernel)
theorem a_223 : Cond.instanceMethod ⟨"java/lang/IllegalArgumentException", "<init>", "(Ljava/lang/String;)V"⟩ ∈ ALL := inA 223 (by decide +kernel) (by decide +kernel)
theorem a_224 : Cond.code ⟨"java/lang/IllegalArgumentException", "<init>", "(Ljava/lang/String;)V"⟩ prog_16_method_2_code 2 none ∈ ALL := inA 224 (by decide +kernel) (by decide +kernel)
theorem a_225 : Cond.methodLink "java/lang/IllegalArgumentException" 7 ⟨"java/lang/RuntimeException", "<init>", "(Ljava/lang/String;)V"⟩ ∈ ALL := inA 225 (by decide +kernel) (by decide +kernel)
theorem a_226 : Cond.instanceMethod ⟨"java/lang/RuntimeException", "<init>", "(Ljava/lang/String;)V"⟩ ∈ ALL := inA 226 (by decide +kernel) (by decide +kernel)
theorem a_227 : Cond.code ⟨"java/lang/RuntimeException", "<init>", "(Ljava/lang/String;)V"⟩ prog_21_method_2_code 2 none ∈ ALL := inA 227 (by decide +kernel) (by decide +kernel)
theorem a_228 : Cond.methodLink "java/lang/RuntimeException" 7 ⟨"java/lang/Exception", "<init>", "(Ljava/lang/String;)V"⟩ ∈ ALL := inA 228 (by decide +kernel) (by decide +kernel)
theorem a_229 : Cond.instanceMethod ⟨"java/lang/Exception", "<init>", "(Ljava/lang/String;)V"⟩ ∈ ALL := inA 229 (by decide +kernel) (by decide +kernel)
theorem a_230 : Cond.code ⟨"java/lang/Exception", "<init>", "(Ljava/lang/String;)V"⟩ prog_15_method_2_code 2 none ∈ ALL := inA 230 (by decide +kernel) (by decide +kernel)
theorem a_231 : Cond.methodLink "java/lang/Exception" 7 ⟨"java/lang/Throwable", "<init>", "(Ljava/lang/String;)V"⟩ ∈ ALL := inA 231 (by decide +kernel) (by decide +kernel)
theorem a_232 : Cond.instanceMethod ⟨"java/lang/Throwable", "<init>", "(Ljava/lang/String;)V"⟩ ∈ ALL := inA 232 (by decide +kernel) (by decide +kernel)
theorem a_233 : Cond.code ⟨"java/lang/Throwable", "<init>", "(Ljava/lang/String;)V"⟩ prog_23_method_2_code 2 none ∈ ALL := inA 233 (by decide +kernel) (by decide +kernel)
theorem a_235 : Cond.fieldLink "java/lang/Throwable" 31 "java/lang/Throwable" "detailMessage" "Ljava/lang/String;" ∈ ALL := inA 235 (by decide +kernel) (by decide +kernel)
theorem a_236 : Cond.fieldLink "java/lang/Throwable" 7 "java/lang/Throwable" "cause" "Ljava/lang/Throwable;" ∈ ALL := inA 236 (by decide +kernel) (by decide +kernel)
theorem a_237 : Cond.fieldLink "java/lang/Throwable" 17 "java/lang/Throwable" "stackTrace" "[Ljava/lang/StackTraceElement;" ∈ ALL := inA 237 (by decide +kernel) (by decide +kernel)
theorem a_238 : Cond.fieldLink "java/lang/Throwable" 24 "java/lang/Throwable" "suppressedExceptions" "Ljava/util/List;" ∈ ALL := inA 238 (by decide +kernel) (by decide +kernel)
theorem a_247 : Cond.arrayClass Jvm.ClassFile.FieldType.byte ∈ ALL := inA 247 (by decide +kernel) (by decide +kernel)
theorem a_248 : Cond.classLink RX10 55 "java/lang/IllegalStateException" ∈ ALL := inA 248 (by decide +kernel) (by decide +kernel)
theorem a_249 : Cond.instantiable "java/lang/IllegalStateException" 6 ∈ ALL := inA 249 (by decide +kernel) (by decide +kernel)
theorem a_250 : Cond.castable "java/lang/IllegalStateException" "java/lang/IllegalStateException" ∈ lw_tbl := List.mem_of_getElem? (i := 250) (by decide +kernel)
theorem a_251 : Cond.selects "java/lang/IllegalStateException" ⟨"java/lang/Throwable", "fillInStackTrace", "(I)Ljava/lang/Throwable;"⟩ ⟨"java/lang/Throwable", "fillInStackTrace", "(I)Ljava/lang/Throwable;"⟩ ∈ ALL := inA 251 (by decide +kernel) (by decide +kernel)
theorem a_258 : Cond.methodLink RX10 59 ⟨"java/lang/IllegalStateException", "<init>", "(Ljava/lang/String;)V"⟩ ∈ ALL := inA 258 (by decide +kernel) (by decide +kernel)
theorem a_259 : Cond.instanceMethod ⟨"java/lang/IllegalStateException", "<init>", "(Ljava/lang/String;)V"⟩ ∈ ALL := inA 259 (by decide +kernel) (by decide +kernel)
theorem a_260 : Cond.code ⟨"java/lang/IllegalStateException", "<init>", "(Ljava/lang/String;)V"⟩ prog_17_method_2_code 2 none ∈ ALL := inA 260 (by decide +kernel) (by decide +kernel)
theorem a_261 : Cond.methodLink "java/lang/IllegalStateException" 7 ⟨"java/lang/RuntimeException", "<init>", "(Ljava/lang/String;)V"⟩ ∈ ALL := inA 261 (by decide +kernel) (by decide +kernel)
theorem a_264 : Cond.instantiable RX6 5 ∈ ALL := inA 264 (by decide +kernel) (by decide +kernel)
theorem a_265 : Cond.methodLink RX10 60 yX6_init ∈ ALL := inA 265 (by decide +kernel) (by decide +kernel)
theorem a_266 : Cond.instanceMethod yX6_init ∈ ALL := inA 266 (by decide +kernel) (by decide +kernel)
theorem a_267 : Cond.code yX6_init cX6_init 4 none ∈ ALL := inA 267 (by decide +kernel) (by decide +kernel)
theorem a_268 : Cond.methodLink RX6 3 ⟨"java/lang/Object", "<init>", "()V"⟩ ∈ ALL := inA 268 (by decide +kernel) (by decide +kernel)
theorem a_269 : Cond.classLink RX6 9 RX4 ∈ ALL := inA 269 (by decide +kernel) (by decide +kernel)
theorem a_270 : Cond.methodLink RX6 11 yX4_init ∈ ALL := inA 270 (by decide +kernel) (by decide +kernel)
theorem a_271 : Cond.arrayOver (Jvm.ClassFile.FieldType.object "Lensbench$Rows") ∈ lw_tbl := List.mem_of_getElem? (i := 271) (by decide +kernel)
theorem a_272 : Cond.fieldLink RX7 3 "Lensbench$Table" "columns" "I" ∈ ALL := inA 272 (by decide +kernel) (by decide +kernel)
theorem a_273 : Cond.fieldLink RX6 27 "Lensbench$Table" "columns" "I" ∈ ALL := inA 273 (by decide +kernel) (by decide +kernel)
theorem a_274 : Cond.fieldLink RX8 18 "Lensbench$Table" "columns" "I" ∈ ALL := inA 274 (by decide +kernel) (by decide +kernel)
theorem a_275 : Cond.fieldLink RX10 72 "Lensbench$Table" "columns" "I" ∈ ALL := inA 275 (by decide +kernel) (by decide +kernel)
theorem a_276 : Cond.fieldLink RX7 9 "Lensbench$Table" "key" "I" ∈ ALL := inA 276 (by decide +kernel) (by decide +kernel)
theorem a_277 : Cond.fieldLink RX6 31 "Lensbench$Table" "key" "I" ∈ ALL := inA 277 (by decide +kernel) (by decide +kernel)
theorem a_278 : Cond.fieldLink RX10 90 "Lensbench$Table" "key" "I" ∈ ALL := inA 278 (by decide +kernel) (by decide +kernel)
theorem a_279 : Cond.fieldLink RX8 101 "Lensbench$Table" "key" "I" ∈ ALL := inA 279 (by decide +kernel) (by decide +kernel)
theorem a_280 : Cond.fieldLink RX6 14 "Lensbench$Table" "rows" "LLensbench$Rows;" ∈ ALL := inA 280 (by decide +kernel) (by decide +kernel)
theorem a_281 : Cond.fieldLink RX7 28 "Lensbench$Table" "rows" "LLensbench$Rows;" ∈ ALL := inA 281 (by decide +kernel) (by decide +kernel)
theorem a_282 : Cond.fieldLink RX8 30 "Lensbench$Table" "rows" "LLensbench$Rows;" ∈ ALL := inA 282 (by decide +kernel) (by decide +kernel)
theorem a_283 : Cond.fieldLink RX10 83 "Lensbench$Table" "rows" "LLensbench$Rows;" ∈ ALL := inA 283 (by decide +kernel) (by decide +kernel)
theorem a_284 : Cond.fieldLink RX6 20 "Lensbench$Table" "wanted" "LLensbench$Rows;" ∈ ALL := inA 284 (by decide +kernel) (by decide +kernel)
theorem a_285 : Cond.fieldLink RX7 53 "Lensbench$Table" "wanted" "LLensbench$Rows;" ∈ ALL := inA 285 (by decide +kernel) (by decide +kernel)
theorem a_286 : Cond.fieldLink RX10 248 "Lensbench$Table" "wanted" "LLensbench$Rows;" ∈ ALL := inA 286 (by decide +kernel) (by decide +kernel)
theorem a_287 : Cond.fieldLink RX6 23 "Lensbench$Table" "past" "[LLensbench$Rows;" ∈ ALL := inA 287 (by decide +kernel) (by decide +kernel)
theorem a_299 : Cond.methodLink RL 101 yL_insert ∈ ALL := inA 299 (by decide +kernel) (by decide +kernel)
theorem a_300 : Cond.static yL_insert ∈ ALL := inA 300 (by decide +kernel) (by decide +kernel)
theorem a_301 : Cond.codeWith ({ cls := "LensbenchLaw", name := "insert", desc := "(LLensbench;II[J)I" } : Jvm.MethodName) method_4_code (5 : Nat) (Option.some Jvm.ClassFile.FieldType.int) [((0 : Nat), (10 : Nat), (13 : Nat), (20 : Nat)), ((0 : Nat), (10 : Nat), (17 : Nat), (13 : Nat)), ((0 : Nat), (10 : Nat), (21 : Nat), (15 : Nat))] ∈ ALL := inA 301 (by decide +kernel) (by decide +kernel)
theorem a_302 : Cond.classLink RL 20 "java/lang/IndexOutOfBoundsException" ∈ ALL := inA 302 (by decide +kernel) (by decide +kernel)
theorem a_303 : Cond.methodLink RL 17 yX10_insert ∈ ALL := inA 303 (by decide +kernel) (by decide +kernel)
theorem a_304 : Cond.instanceMethod yX10_insert ∈ ALL := inA 304 (by decide +kernel) (by decide +kernel)
theorem a_305 : Cond.selects RX10 yX10_insert yX10_insert ∈ ALL := inA 305 (by decide +kernel) (by decide +kernel)
theorem a_306 : Cond.code yX10_insert cX10_insert 4 (some .int) ∈ ALL := inA 306 (by decide +kernel) (by decide +kernel)
theorem a_307 : Cond.methodLink RX10 63 yX10_tableAt ∈ ALL := inA 307 (by decide +kernel) (by decide +kernel)
theorem a_309 : Cond.instanceMethod yX10_tableAt ∈ ALL := inA 309 (by decide +kernel) (by decide +kernel)
theorem a_310 : Cond.code yX10_tableAt cX10_tableAt 2 (some (.object "Lensbench$Table")) ∈ ALL := inA 310 (by decide +kernel) (by decide +kernel)
theorem a_311 : Cond.classLink RX10 67 "java/lang/IndexOutOfBoundsException" ∈ ALL := inA 311 (by decide +kernel) (by decide +kernel)
theorem a_312 : Cond.instantiable "java/lang/IndexOutOfBoundsException" 6 ∈ ALL := inA 312 (by decide +kernel) (by decide +kernel)
theorem a_313 : Cond.castable "java/lang/IndexOutOfBoundsException" "java/lang/IndexOutOfBoundsException" ∈ lw_tbl := List.mem_of_getElem? (i := 313) (by decide +kernel)
theorem a_314 : Cond.selects "java/lang/IndexOutOfBoundsException" ⟨"java/lang/Throwable", "fillInStackTrace", "(I)Ljava/lang/Throwable;"⟩ ⟨"java/lang/Throwable", "fillInStackTrace", "(I)Ljava/lang/Throwable;"⟩ ∈ ALL := inA 314 (by decide +kernel) (by decide +kernel)
theorem a_321 : Cond.methodLink RX10 71 ⟨"java/lang/IndexOutOfBoundsException", "<init>", "(Ljava/lang/String;)V"⟩ ∈ ALL := inA 321 (by decide +kernel) (by decide +kernel)
theorem a_322 : Cond.instanceMethod ⟨"java/lang/IndexOutOfBoundsException", "<init>", "(Ljava/lang/String;)V"⟩ ∈ ALL := inA 322 (by decide +kernel) (by decide +kernel)
theorem a_323 : Cond.code ⟨"java/lang/IndexOutOfBoundsException", "<init>", "(Ljava/lang/String;)V"⟩ prog_18_method_2_code 2 none ∈ ALL := inA 323 (by decide +kernel) (by decide +kernel)
theorem a_324 : Cond.methodLink "java/lang/IndexOutOfBoundsException" 7 ⟨"java/lang/RuntimeException", "<init>", "(Ljava/lang/String;)V"⟩ ∈ ALL := inA 324 (by decide +kernel) (by decide +kernel)
theorem a_327 : Cond.methodLink RX10 75 yX1_isRow ∈ ALL := inA 327 (by decide +kernel) (by decide +kernel)
theorem a_328 : Cond.static yX1_isRow ∈ ALL := inA 328 (by decide +kernel) (by decide +kernel)
theorem a_329 : Cond.code yX1_isRow cX1_isRow 2 (some .boolean) ∈ ALL := inA 329 (by decide +kernel) (by decide +kernel)
theorem a_330 : Cond.constant RX1 15 (999999) ∈ ALL := inA 330 (by decide +kernel) (by decide +kernel)
theorem a_331 : Cond.methodLink RX1 16 yX1_part ∈ ALL := inA 331 (by decide +kernel) (by decide +kernel)
theorem a_332 : Cond.static yX1_part ∈ ALL := inA 332 (by decide +kernel) (by decide +kernel)
theorem a_333 : Cond.code yX1_part cX1_part 6 (some .int) ∈ ALL := inA 333 (by decide +kernel) (by decide +kernel)
theorem a_334 : Cond.methodLink RX1 9 yX1_isIn ∈ ALL := inA 334 (by decide +kernel) (by decide +kernel)
theorem a_335 : Cond.static yX1_isIn ∈ ALL := inA 335 (by decide +kernel) (by decide +kernel)
theorem a_336 : Cond.code yX1_isIn cX1_isIn 2 (some .boolean) ∈ ALL := inA 336 (by decide +kernel) (by decide +kernel)
theorem a_338 : Cond.methodLink RX10 86 yX4_size ∈ ALL := inA 338 (by decide +kernel) (by decide +kernel)
theorem a_339 : Cond.instanceMethod yX4_size ∈ ALL := inA 339 (by decide +kernel) (by decide +kernel)
theorem a_340 : Cond.selects RX4 yX4_size yX4_size ∈ ALL := inA 340 (by decide +kernel) (by decide +kernel)
theorem a_341 : Cond.code yX4_size cX4_size 1 (some .int) ∈ ALL := inA 341 (by decide +kernel) (by decide +kernel)
theorem a_342 : Cond.methodLink RX10 93 yX4_firstLike ∈ ALL := inA 342 (by decide +kernel) (by decide +kernel)
theorem a_343 : Cond.instanceMethod yX4_firstLike ∈ ALL := inA 343 (by decide +kernel) (by decide +kernel)
theorem a_344 : Cond.selects RX4 yX4_firstLike yX4_firstLike ∈ ALL := inA 344 (by decide +kernel) (by decide +kernel)
theorem a_345 : Cond.code yX4_firstLike cX4_firstLike 4 (some .int) ∈ ALL := inA 345 (by decide +kernel) (by decide +kernel)
theorem a_346 : Cond.methodLink RX4 19 yX4_at ∈ ALL := inA 346 (by decide +kernel) (by decide +kernel)
theorem a_347 : Cond.instanceMethod yX4_at ∈ ALL := inA 347 (by decide +kernel) (by decide +kernel)
theorem a_348 : Cond.selects RX4 yX4_at yX4_at ∈ ALL := inA 348 (by decide +kernel) (by decide +kernel)
theorem a_349 : Cond.code yX4_at cX4_at 2 (some .int) ∈ ALL := inA 349 (by decide +kernel) (by decide +kernel)
theorem a_350 : Cond.methodLink RX4 23 yX1_alike ∈ ALL := inA 350 (by decide +kernel) (by decide +kernel)
theorem a_351 : Cond.static yX1_alike ∈ ALL := inA 351 (by decide +kernel) (by decide +kernel)
theorem a_352 : Cond.code yX1_alike cX1_alike 6 (some .boolean) ∈ ALL := inA 352 (by decide +kernel) (by decide +kernel)
theorem a_354 : Cond.methodLink RX10 99 yX4_put ∈ ALL := inA 354 (by decide +kernel) (by decide +kernel)
theorem a_355 : Cond.instanceMethod yX4_put ∈ ALL := inA 355 (by decide +kernel) (by decide +kernel)
theorem a_356 : Cond.selects RX4 yX4_put yX4_put ∈ ALL := inA 356 (by decide +kernel) (by decide +kernel)
theorem a_357 : Cond.code yX4_put cX4_put 3 none ∈ ALL := inA 357 (by decide +kernel) (by decide +kernel)
theorem a_358 : Cond.methodLink RX4 29 yX4_has ∈ ALL := inA 358 (by decide +kernel) (by decide +kernel)
theorem a_359 : Cond.instanceMethod yX4_has ∈ ALL := inA 359 (by decide +kernel) (by decide +kernel)
theorem a_360 : Cond.selects RX4 yX4_has yX4_has ∈ ALL := inA 360 (by decide +kernel) (by decide +kernel)
theorem a_361 : Cond.code yX4_has cX4_has 3 (some .boolean) ∈ ALL := inA 361 (by decide +kernel) (by decide +kernel)
theorem a_362 : Cond.methodLink RX10 102 yX10_showViews ∈ ALL := inA 362 (by decide +kernel) (by decide +kernel)
theorem a_364 : Cond.instanceMethod yX10_showViews ∈ ALL := inA 364 (by decide +kernel) (by decide +kernel)
theorem a_365 : Cond.code yX10_showViews cX10_showViews 3 none ∈ ALL := inA 365 (by decide +kernel) (by decide +kernel)
theorem a_366 : Cond.methodLink RX10 131 yX10_viewAt ∈ ALL := inA 366 (by decide +kernel) (by decide +kernel)
theorem a_368 : Cond.instanceMethod yX10_viewAt ∈ ALL := inA 368 (by decide +kernel) (by decide +kernel)
theorem a_369 : Cond.code yX10_viewAt cX10_viewAt 2 (some (.object "Lensbench$View")) ∈ ALL := inA 369 (by decide +kernel) (by decide +kernel)
theorem a_370 : Cond.methodLink RX10 242 ⟨"Lensbench$View", "show", "()V"⟩ ∈ ALL := inA 370 (by decide +kernel) (by decide +kernel)
theorem a_371 : Cond.declares ⟨"Lensbench$View", "show", "()V"⟩ ∈ lw_tbl := List.mem_of_getElem? (i := 371) (by decide +kernel)
theorem a_372 : Cond.sameMethod "Lensbench$View" "Lensbench$View" "show" "()V" ∈ ALL := inA 372 (by decide +kernel) (by decide +kernel)
theorem a_373 : Cond.selects RX2 ⟨"Lensbench$View", "show", "()V"⟩ yX2_show ∈ ALL := inA 373 (by decide +kernel) (by decide +kernel)
theorem a_374 : Cond.instanceMethod yX2_show ∈ ALL := inA 374 (by decide +kernel) (by decide +kernel)
theorem a_375 : Cond.code yX2_show cX2_show 2 none ∈ ALL := inA 375 (by decide +kernel) (by decide +kernel)
theorem a_376 : Cond.methodLink RX2 35 yX4_clear ∈ ALL := inA 376 (by decide +kernel) (by decide +kernel)
theorem a_377 : Cond.instanceMethod yX4_clear ∈ ALL := inA 377 (by decide +kernel) (by decide +kernel)
theorem a_378 : Cond.selects RX4 yX4_clear yX4_clear ∈ ALL := inA 378 (by decide +kernel) (by decide +kernel)
theorem a_379 : Cond.code yX4_clear cX4_clear 1 none ∈ ALL := inA 379 (by decide +kernel) (by decide +kernel)
theorem a_380 : Cond.methodLink RX2 42 yX4_size ∈ ALL := inA 380 (by decide +kernel) (by decide +kernel)
theorem a_381 : Cond.methodLink RX2 46 yX4_at ∈ ALL := inA 381 (by decide +kernel) (by decide +kernel)
theorem a_382 : Cond.methodLink RX2 51 yX1_part ∈ ALL := inA 382 (by decide +kernel) (by decide +kernel)
theorem a_383 : Cond.methodLink RX2 57 yX4_put ∈ ALL := inA 383 (by decide +kernel) (by decide +kernel)
theorem a_384 : Cond.selects RX3 ⟨"Lensbench$View", "show", "()V"⟩ yX3_show ∈ ALL := inA 384 (by decide +kernel) (by decide +kernel)
theorem a_385 : Cond.instanceMethod yX3_show ∈ ALL := inA 385 (by decide +kernel) (by decide +kernel)
theorem a_386 : Cond.code yX3_show cX3_show 4 none ∈ ALL := inA 386 (by decide +kernel) (by decide +kernel)
theorem a_387 : Cond.methodLink RX3 35 yX4_clear ∈ ALL := inA 387 (by decide +kernel) (by decide +kernel)
theorem a_388 : Cond.methodLink RX3 42 yX4_size ∈ ALL := inA 388 (by decide +kernel) (by decide +kernel)
theorem a_389 : Cond.methodLink RX3 46 yX4_at ∈ ALL := inA 389 (by decide +kernel) (by decide +kernel)
theorem a_390 : Cond.methodLink RX3 50 yX4_firstLike ∈ ALL := inA 390 (by decide +kernel) (by decide +kernel)
theorem a_391 : Cond.methodLink RX3 54 yX1_part ∈ ALL := inA 391 (by decide +kernel) (by decide +kernel)
theorem a_392 : Cond.methodLink RX3 59 yX4_put ∈ ALL := inA 392 (by decide +kernel) (by decide +kernel)
theorem a_393 : Cond.selects RX5 ⟨"Lensbench$View", "show", "()V"⟩ yX5_show ∈ ALL := inA 393 (by decide +kernel) (by decide +kernel)
theorem a_394 : Cond.instanceMethod yX5_show ∈ ALL := inA 394 (by decide +kernel) (by decide +kernel)
theorem a_395 : Cond.code yX5_show cX5_show 3 none ∈ ALL := inA 395 (by decide +kernel) (by decide +kernel)
theorem a_396 : Cond.methodLink RX5 45 yX4_clear ∈ ALL := inA 396 (by decide +kernel) (by decide +kernel)
theorem a_397 : Cond.methodLink RX5 52 yX4_size ∈ ALL := inA 397 (by decide +kernel) (by decide +kernel)
theorem a_398 : Cond.methodLink RX5 56 yX4_at ∈ ALL := inA 398 (by decide +kernel) (by decide +kernel)
theorem a_399 : Cond.methodLink RX5 60 yX5_selects ∈ ALL := inA 399 (by decide +kernel) (by decide +kernel)
theorem a_400 : Cond.instanceMethod yX5_selects ∈ ALL := inA 400 (by decide +kernel) (by decide +kernel)
theorem a_401 : Cond.selects RX5 yX5_selects yX5_selects ∈ ALL := inA 401 (by decide +kernel) (by decide +kernel)
theorem a_402 : Cond.code yX5_selects cX5_selects 2 (some .boolean) ∈ ALL := inA 402 (by decide +kernel) (by decide +kernel)
theorem a_403 : Cond.methodLink RX5 35 yX1_digit ∈ ALL := inA 403 (by decide +kernel) (by decide +kernel)
theorem a_404 : Cond.static yX1_digit ∈ ALL := inA 404 (by decide +kernel) (by decide +kernel)
theorem a_405 : Cond.code yX1_digit cX1_digit 4 (some .int) ∈ ALL := inA 405 (by decide +kernel) (by decide +kernel)
theorem a_406 : Cond.methodLink RX5 64 yX4_put ∈ ALL := inA 406 (by decide +kernel) (by decide +kernel)
theorem a_407 : Cond.selects RX7 ⟨"Lensbench$View", "show", "()V"⟩ yX7_show ∈ ALL := inA 407 (by decide +kernel) (by decide +kernel)
theorem a_408 : Cond.instanceMethod yX7_show ∈ ALL := inA 408 (by decide +kernel) (by decide +kernel)
theorem a_409 : Cond.code yX7_show cX7_show 1 none ∈ ALL := inA 409 (by decide +kernel) (by decide +kernel)
theorem a_410 : Cond.methodLink RX7 31 yX4_takeOver ∈ ALL := inA 410 (by decide +kernel) (by decide +kernel)
theorem a_411 : Cond.instanceMethod yX4_takeOver ∈ ALL := inA 411 (by decide +kernel) (by decide +kernel)
theorem a_412 : Cond.selects RX4 yX4_takeOver yX4_takeOver ∈ ALL := inA 412 (by decide +kernel) (by decide +kernel)
theorem a_413 : Cond.code yX4_takeOver cX4_takeOver 3 none ∈ ALL := inA 413 (by decide +kernel) (by decide +kernel)
theorem a_414 : Cond.methodLink RX4 33 yJ9_min_7cf53 ∈ ALL := inA 414 (by decide +kernel) (by decide +kernel)
theorem a_415 : Cond.static yJ9_min_7cf53 ∈ ALL := inA 415 (by decide +kernel) (by decide +kernel)
theorem a_416 : Cond.code yJ9_min_7cf53 cJ9_min_7cf53 2 (some .int) ∈ ALL := inA 416 (by decide +kernel) (by decide +kernel)
theorem a_417 : Cond.methodLink RL 104 yL_delete ∈ ALL := inA 417 (by decide +kernel) (by decide +kernel)
theorem a_418 : Cond.static yL_delete ∈ ALL := inA 418 (by decide +kernel) (by decide +kernel)
theorem a_419 : Cond.codeWith ({ cls := "LensbenchLaw", name := "delete", desc := "(LLensbench;II[J)I" } : Jvm.MethodName) method_5_code (5 : Nat) (Option.some Jvm.ClassFile.FieldType.int) [((0 : Nat), (10 : Nat), (13 : Nat), (20 : Nat)), ((0 : Nat), (10 : Nat), (17 : Nat), (25 : Nat))] ∈ ALL := inA 419 (by decide +kernel) (by decide +kernel)
theorem a_420 : Cond.classLink RL 25 "java/util/NoSuchElementException" ∈ ALL := inA 420 (by decide +kernel) (by decide +kernel)
theorem a_421 : Cond.methodLink RL 22 yX10_delete ∈ ALL := inA 421 (by decide +kernel) (by decide +kernel)
theorem a_422 : Cond.instanceMethod yX10_delete ∈ ALL := inA 422 (by decide +kernel) (by decide +kernel)
theorem a_423 : Cond.selects RX10 yX10_delete yX10_delete ∈ ALL := inA 423 (by decide +kernel) (by decide +kernel)
theorem a_424 : Cond.code yX10_delete cX10_delete 4 (some .int) ∈ ALL := inA 424 (by decide +kernel) (by decide +kernel)
theorem a_425 : Cond.methodLink RX10 105 yX4_has ∈ ALL := inA 425 (by decide +kernel) (by decide +kernel)
theorem a_426 : Cond.classLink RX10 109 "java/util/NoSuchElementException" ∈ ALL := inA 426 (by decide +kernel) (by decide +kernel)
theorem a_427 : Cond.instantiable "java/util/NoSuchElementException" 6 ∈ ALL := inA 427 (by decide +kernel) (by decide +kernel)
theorem a_428 : Cond.castable "java/util/NoSuchElementException" "java/util/NoSuchElementException" ∈ lw_tbl := List.mem_of_getElem? (i := 428) (by decide +kernel)
theorem a_429 : Cond.selects "java/util/NoSuchElementException" ⟨"java/lang/Throwable", "fillInStackTrace", "(I)Ljava/lang/Throwable;"⟩ ⟨"java/lang/Throwable", "fillInStackTrace", "(I)Ljava/lang/Throwable;"⟩ ∈ ALL := inA 429 (by decide +kernel) (by decide +kernel)
theorem a_436 : Cond.methodLink RX10 113 ⟨"java/util/NoSuchElementException", "<init>", "(Ljava/lang/String;)V"⟩ ∈ ALL := inA 436 (by decide +kernel) (by decide +kernel)
theorem a_437 : Cond.instanceMethod ⟨"java/util/NoSuchElementException", "<init>", "(Ljava/lang/String;)V"⟩ ∈ ALL := inA 437 (by decide +kernel) (by decide +kernel)
theorem a_438 : Cond.code ⟨"java/util/NoSuchElementException", "<init>", "(Ljava/lang/String;)V"⟩ prog_24_method_4_code 2 none ∈ ALL := inA 438 (by decide +kernel) (by decide +kernel)
theorem a_439 : Cond.methodLink "java/util/NoSuchElementException" 13 ⟨"java/lang/RuntimeException", "<init>", "(Ljava/lang/String;)V"⟩ ∈ ALL := inA 439 (by decide +kernel) (by decide +kernel)
theorem a_442 : Cond.methodLink RX10 114 yX4_remove ∈ ALL := inA 442 (by decide +kernel) (by decide +kernel)
theorem a_443 : Cond.instanceMethod yX4_remove ∈ ALL := inA 443 (by decide +kernel) (by decide +kernel)
theorem a_444 : Cond.selects RX4 yX4_remove yX4_remove ∈ ALL := inA 444 (by decide +kernel) (by decide +kernel)
theorem a_445 : Cond.code yX4_remove cX4_remove 4 none ∈ ALL := inA 445 (by decide +kernel) (by decide +kernel)
theorem a_446 : Cond.methodLink RL 107 yL_of ∈ ALL := inA 446 (by decide +kernel) (by decide +kernel)
theorem a_447 : Cond.static yL_of ∈ ALL := inA 447 (by decide +kernel) (by decide +kernel)
theorem a_448 : Cond.codeWith ({ cls := "LensbenchLaw", name := "of", desc := "(LLensbench;I[J)I" } : Jvm.MethodName) method_6_code (4 : Nat) (Option.some Jvm.ClassFile.FieldType.int) [((0 : Nat), (9 : Nat), (12 : Nat), (20 : Nat)), ((0 : Nat), (9 : Nat), (15 : Nat), (15 : Nat))] ∈ ALL := inA 448 (by decide +kernel) (by decide +kernel)
theorem a_449 : Cond.methodLink RL 27 yX10_of ∈ ALL := inA 449 (by decide +kernel) (by decide +kernel)
theorem a_450 : Cond.instanceMethod yX10_of ∈ ALL := inA 450 (by decide +kernel) (by decide +kernel)
theorem a_451 : Cond.selects RX10 yX10_of yX10_of ∈ ALL := inA 451 (by decide +kernel) (by decide +kernel)
theorem a_452 : Cond.code yX10_of cX10_of 3 (some .int) ∈ ALL := inA 452 (by decide +kernel) (by decide +kernel)
theorem a_454 : Cond.classLink RX10 122 RX7 ∈ ALL := inA 454 (by decide +kernel) (by decide +kernel)
theorem a_455 : Cond.instantiable RX7 9 ∈ ALL := inA 455 (by decide +kernel) (by decide +kernel)
theorem a_456 : Cond.methodLink RX10 124 yX7_init ∈ ALL := inA 456 (by decide +kernel) (by decide +kernel)
theorem a_457 : Cond.instanceMethod yX7_init ∈ ALL := inA 457 (by decide +kernel) (by decide +kernel)
theorem a_458 : Cond.code yX7_init cX7_init 4 none ∈ ALL := inA 458 (by decide +kernel) (by decide +kernel)
theorem a_459 : Cond.methodLink RX7 12 yX9_init ∈ ALL := inA 459 (by decide +kernel) (by decide +kernel)
theorem a_460 : Cond.instanceMethod yX9_init ∈ ALL := inA 460 (by decide +kernel) (by decide +kernel)
theorem a_461 : Cond.code yX9_init cX9_init 7 none ∈ ALL := inA 461 (by decide +kernel) (by decide +kernel)
theorem a_462 : Cond.methodLink RX9 3 ⟨"java/lang/Object", "<init>", "()V"⟩ ∈ ALL := inA 462 (by decide +kernel) (by decide +kernel)
theorem a_463 : Cond.classLink RX9 9 RX4 ∈ ALL := inA 463 (by decide +kernel) (by decide +kernel)
theorem a_464 : Cond.methodLink RX9 11 yX4_init ∈ ALL := inA 464 (by decide +kernel) (by decide +kernel)
theorem a_465 : Cond.fieldLink RX7 18 "Lensbench$TableView" "table" "LLensbench$Table;" ∈ ALL := inA 465 (by decide +kernel) (by decide +kernel)
theorem a_466 : Cond.fieldLink RX9 23 "Lensbench$View" "number" "I" ∈ ALL := inA 466 (by decide +kernel) (by decide +kernel)
theorem a_467 : Cond.fieldLink RX7 44 "Lensbench$TableView" "number" "I" ∈ ALL := inA 467 (by decide +kernel) (by decide +kernel)
theorem a_468 : Cond.sameField "Lensbench$TableView" "Lensbench$View" "number" "I" ∈ ALL := inA 468 (by decide +kernel) (by decide +kernel)
theorem a_469 : Cond.fieldLink RX5 71 "Lensbench$SelectView" "number" "I" ∈ ALL := inA 469 (by decide +kernel) (by decide +kernel)
theorem a_470 : Cond.sameField "Lensbench$SelectView" "Lensbench$View" "number" "I" ∈ ALL := inA 470 (by decide +kernel) (by decide +kernel)
theorem a_471 : Cond.fieldLink RX0 47 "Lensbench$View" "number" "I" ∈ ALL := inA 471 (by decide +kernel) (by decide +kernel)
theorem a_472 : Cond.fieldLink RX10 245 "Lensbench$View" "number" "I" ∈ ALL := inA 472 (by decide +kernel) (by decide +kernel)
theorem a_473 : Cond.fieldLink RX5 3 "Lensbench$View" "columns" "I" ∈ ALL := inA 473 (by decide +kernel) (by decide +kernel)
theorem a_474 : Cond.fieldLink RX2 3 "Lensbench$View" "columns" "I" ∈ ALL := inA 474 (by decide +kernel) (by decide +kernel)
theorem a_475 : Cond.fieldLink RX3 3 "Lensbench$View" "columns" "I" ∈ ALL := inA 475 (by decide +kernel) (by decide +kernel)
theorem a_476 : Cond.fieldLink RX9 27 "Lensbench$View" "columns" "I" ∈ ALL := inA 476 (by decide +kernel) (by decide +kernel)
theorem a_477 : Cond.fieldLink RX2 50 "Lensbench$DropView" "columns" "I" ∈ ALL := inA 477 (by decide +kernel) (by decide +kernel)
theorem a_478 : Cond.sameField "Lensbench$DropView" "Lensbench$View" "columns" "I" ∈ ALL := inA 478 (by decide +kernel) (by decide +kernel)
theorem a_479 : Cond.fieldLink RX10 137 "Lensbench$View" "columns" "I" ∈ ALL := inA 479 (by decide +kernel) (by decide +kernel)
theorem a_480 : Cond.fieldLink RX8 95 "Lensbench$View" "columns" "I" ∈ ALL := inA 480 (by decide +kernel) (by decide +kernel)
theorem a_481 : Cond.fieldLink RX5 9 "Lensbench$View" "key" "I" ∈ ALL := inA 481 (by decide +kernel) (by decide +kernel)
theorem a_482 : Cond.fieldLink RX3 9 "Lensbench$View" "key" "I" ∈ ALL := inA 482 (by decide +kernel) (by decide +kernel)
theorem a_483 : Cond.fieldLink RX2 9 "Lensbench$View" "key" "I" ∈ ALL := inA 483 (by decide +kernel) (by decide +kernel)
theorem a_484 : Cond.fieldLink RX9 30 "Lensbench$View" "key" "I" ∈ ALL := inA 484 (by decide +kernel) (by decide +kernel)
theorem a_485 : Cond.fieldLink RX2 72 "Lensbench$DropView" "key" "I" ∈ ALL := inA 485 (by decide +kernel) (by decide +kernel)
theorem a_486 : Cond.sameField "Lensbench$DropView" "Lensbench$View" "key" "I" ∈ ALL := inA 486 (by decide +kernel) (by decide +kernel)
theorem a_487 : Cond.fieldLink RX10 151 "Lensbench$View" "key" "I" ∈ ALL := inA 487 (by decide +kernel) (by decide +kernel)
theorem a_488 : Cond.fieldLink RX5 12 "Lensbench$View" "tables" "I" ∈ ALL := inA 488 (by decide +kernel) (by decide +kernel)
theorem a_489 : Cond.fieldLink RX3 12 "Lensbench$View" "tables" "I" ∈ ALL := inA 489 (by decide +kernel) (by decide +kernel)
theorem a_490 : Cond.fieldLink RX2 12 "Lensbench$View" "tables" "I" ∈ ALL := inA 490 (by decide +kernel) (by decide +kernel)
theorem a_491 : Cond.fieldLink RX9 33 "Lensbench$View" "tables" "I" ∈ ALL := inA 491 (by decide +kernel) (by decide +kernel)
theorem a_492 : Cond.fieldLink RX10 157 "Lensbench$View" "tables" "I" ∈ ALL := inA 492 (by decide +kernel) (by decide +kernel)
theorem a_493 : Cond.fieldLink RX9 36 "Lensbench$View" "left" "LLensbench$View;" ∈ ALL := inA 493 (by decide +kernel) (by decide +kernel)
theorem a_494 : Cond.fieldLink RX8 114 "Lensbench$View" "left" "LLensbench$View;" ∈ ALL := inA 494 (by decide +kernel) (by decide +kernel)
theorem a_495 : Cond.fieldLink RX10 269 "Lensbench$View" "left" "LLensbench$View;" ∈ ALL := inA 495 (by decide +kernel) (by decide +kernel)
theorem a_496 : Cond.fieldLink RX9 40 "Lensbench$View" "right" "LLensbench$View;" ∈ ALL := inA 496 (by decide +kernel) (by decide +kernel)
theorem a_497 : Cond.fieldLink RX10 266 "Lensbench$View" "right" "LLensbench$View;" ∈ ALL := inA 497 (by decide +kernel) (by decide +kernel)
theorem a_498 : Cond.fieldLink RX9 14 "Lensbench$View" "shown" "LLensbench$Rows;" ∈ ALL := inA 498 (by decide +kernel) (by decide +kernel)
theorem a_499 : Cond.fieldLink RX2 31 "Lensbench$DropView" "shown" "LLensbench$Rows;" ∈ ALL := inA 499 (by decide +kernel) (by decide +kernel)
theorem a_500 : Cond.sameField "Lensbench$DropView" "Lensbench$View" "shown" "LLensbench$Rows;" ∈ ALL := inA 500 (by decide +kernel) (by decide +kernel)
theorem a_501 : Cond.fieldLink RX3 31 "Lensbench$JoinView" "shown" "LLensbench$Rows;" ∈ ALL := inA 501 (by decide +kernel) (by decide +kernel)
theorem a_502 : Cond.sameField "Lensbench$JoinView" "Lensbench$View" "shown" "LLensbench$Rows;" ∈ ALL := inA 502 (by decide +kernel) (by decide +kernel)
theorem a_503 : Cond.fieldLink RX7 24 "Lensbench$TableView" "shown" "LLensbench$Rows;" ∈ ALL := inA 503 (by decide +kernel) (by decide +kernel)
theorem a_504 : Cond.sameField "Lensbench$TableView" "Lensbench$View" "shown" "LLensbench$Rows;" ∈ ALL := inA 504 (by decide +kernel) (by decide +kernel)
theorem a_505 : Cond.fieldLink RX2 41 "Lensbench$View" "shown" "LLensbench$Rows;" ∈ ALL := inA 505 (by decide +kernel) (by decide +kernel)
theorem a_506 : Cond.fieldLink RX3 41 "Lensbench$View" "shown" "LLensbench$Rows;" ∈ ALL := inA 506 (by decide +kernel) (by decide +kernel)
theorem a_507 : Cond.fieldLink RX5 41 "Lensbench$SelectView" "shown" "LLensbench$Rows;" ∈ ALL := inA 507 (by decide +kernel) (by decide +kernel)
theorem a_508 : Cond.sameField "Lensbench$SelectView" "Lensbench$View" "shown" "LLensbench$Rows;" ∈ ALL := inA 508 (by decide +kernel) (by decide +kernel)
theorem a_509 : Cond.fieldLink RX5 51 "Lensbench$View" "shown" "LLensbench$Rows;" ∈ ALL := inA 509 (by decide +kernel) (by decide +kernel)
theorem a_510 : Cond.fieldLink RX10 166 "Lensbench$View" "shown" "LLensbench$Rows;" ∈ ALL := inA 510 (by decide +kernel) (by decide +kernel)
theorem a_511 : Cond.fieldLink RX9 20 "Lensbench$View" "wanted" "LLensbench$Rows;" ∈ ALL := inA 511 (by decide +kernel) (by decide +kernel)
theorem a_512 : Cond.fieldLink RX7 37 "Lensbench$TableView" "wanted" "LLensbench$Rows;" ∈ ALL := inA 512 (by decide +kernel) (by decide +kernel)
theorem a_513 : Cond.sameField "Lensbench$TableView" "Lensbench$View" "wanted" "LLensbench$Rows;" ∈ ALL := inA 513 (by decide +kernel) (by decide +kernel)
theorem a_514 : Cond.fieldLink RX5 68 "Lensbench$SelectView" "wanted" "LLensbench$Rows;" ∈ ALL := inA 514 (by decide +kernel) (by decide +kernel)
theorem a_515 : Cond.sameField "Lensbench$SelectView" "Lensbench$View" "wanted" "LLensbench$Rows;" ∈ ALL := inA 515 (by decide +kernel) (by decide +kernel)
theorem a_516 : Cond.fieldLink RX2 61 "Lensbench$View" "wanted" "LLensbench$Rows;" ∈ ALL := inA 516 (by decide +kernel) (by decide +kernel)
theorem a_517 : Cond.fieldLink RX3 69 "Lensbench$JoinView" "wanted" "LLensbench$Rows;" ∈ ALL := inA 517 (by decide +kernel) (by decide +kernel)
theorem a_518 : Cond.sameField "Lensbench$JoinView" "Lensbench$View" "wanted" "LLensbench$Rows;" ∈ ALL := inA 518 (by decide +kernel) (by decide +kernel)
theorem a_519 : Cond.fieldLink RX2 64 "Lensbench$DropView" "wanted" "LLensbench$Rows;" ∈ ALL := inA 519 (by decide +kernel) (by decide +kernel)
theorem a_520 : Cond.sameField "Lensbench$DropView" "Lensbench$View" "wanted" "LLensbench$Rows;" ∈ ALL := inA 520 (by decide +kernel) (by decide +kernel)
theorem a_521 : Cond.fieldLink RX3 80 "Lensbench$View" "wanted" "LLensbench$Rows;" ∈ ALL := inA 521 (by decide +kernel) (by decide +kernel)
theorem a_522 : Cond.fieldLink RX0 25 "Lensbench$View" "wanted" "LLensbench$Rows;" ∈ ALL := inA 522 (by decide +kernel) (by decide +kernel)
theorem a_523 : Cond.fieldLink RX5 80 "Lensbench$View" "wanted" "LLensbench$Rows;" ∈ ALL := inA 523 (by decide +kernel) (by decide +kernel)
theorem a_524 : Cond.fieldLink RX10 254 "Lensbench$View" "wanted" "LLensbench$Rows;" ∈ ALL := inA 524 (by decide +kernel) (by decide +kernel)
theorem a_544 : Cond.methodLink RX10 127 yX10_keepView ∈ ALL := inA 544 (by decide +kernel) (by decide +kernel)
theorem a_546 : Cond.instanceMethod yX10_keepView ∈ ALL := inA 546 (by decide +kernel) (by decide +kernel)
theorem a_547 : Cond.code yX10_keepView cX10_keepView 2 (some .int) ∈ ALL := inA 547 (by decide +kernel) (by decide +kernel)
theorem a_548 : Cond.methodLink RL 111 yL_select ∈ ALL := inA 548 (by decide +kernel) (by decide +kernel)
theorem a_549 : Cond.static yL_select ∈ ALL := inA 549 (by decide +kernel) (by decide +kernel)
theorem a_550 : Cond.codeWith ({ cls := "LensbenchLaw", name := "select", desc := "(LLensbench;IIIZ[J)I" } : Jvm.MethodName) method_7_code (7 : Nat) (Option.some Jvm.ClassFile.FieldType.int) [((0 : Nat), (14 : Nat), (17 : Nat), (20 : Nat)), ((0 : Nat), (14 : Nat), (21 : Nat), (13 : Nat)), ((0 : Nat), (14 : Nat), (25 : Nat), (15 : Nat))] ∈ ALL := inA 550 (by decide +kernel) (by decide +kernel)
theorem a_551 : Cond.methodLink RL 31 yX10_select ∈ ALL := inA 551 (by decide +kernel) (by decide +kernel)
theorem a_552 : Cond.instanceMethod yX10_select ∈ ALL := inA 552 (by decide +kernel) (by decide +kernel)
theorem a_553 : Cond.selects RX10 yX10_select yX10_select ∈ ALL := inA 553 (by decide +kernel) (by decide +kernel)
theorem a_554 : Cond.code yX10_select cX10_select 6 (some .int) ∈ ALL := inA 554 (by decide +kernel) (by decide +kernel)
theorem a_556 : Cond.methodLink RX10 138 yX1_isColumn ∈ ALL := inA 556 (by decide +kernel) (by decide +kernel)
theorem a_557 : Cond.static yX1_isColumn ∈ ALL := inA 557 (by decide +kernel) (by decide +kernel)
theorem a_558 : Cond.code yX1_isColumn cX1_isColumn 2 (some .boolean) ∈ ALL := inA 558 (by decide +kernel) (by decide +kernel)
theorem a_559 : Cond.methodLink RX10 141 yX1_isValue ∈ ALL := inA 559 (by decide +kernel) (by decide +kernel)
theorem a_560 : Cond.static yX1_isValue ∈ ALL := inA 560 (by decide +kernel) (by decide +kernel)
theorem a_561 : Cond.code yX1_isValue cX1_isValue 1 (some .boolean) ∈ ALL := inA 561 (by decide +kernel) (by decide +kernel)
theorem a_563 : Cond.classLink RX10 146 RX5 ∈ ALL := inA 563 (by decide +kernel) (by decide +kernel)
theorem a_564 : Cond.instantiable RX5 12 ∈ ALL := inA 564 (by decide +kernel) (by decide +kernel)
theorem a_565 : Cond.methodLink RX10 148 yX5_init ∈ ALL := inA 565 (by decide +kernel) (by decide +kernel)
theorem a_566 : Cond.instanceMethod yX5_init ∈ ALL := inA 566 (by decide +kernel) (by decide +kernel)
theorem a_567 : Cond.code yX5_init cX5_init 6 none ∈ ALL := inA 567 (by decide +kernel) (by decide +kernel)
theorem a_568 : Cond.methodLink RX5 15 yX9_init ∈ ALL := inA 568 (by decide +kernel) (by decide +kernel)
theorem a_569 : Cond.fieldLink RX5 19 "Lensbench$SelectView" "source" "LLensbench$View;" ∈ ALL := inA 569 (by decide +kernel) (by decide +kernel)
theorem a_570 : Cond.fieldLink RX5 25 "Lensbench$SelectView" "column" "I" ∈ ALL := inA 570 (by decide +kernel) (by decide +kernel)
theorem a_571 : Cond.fieldLink RX5 28 "Lensbench$SelectView" "value" "I" ∈ ALL := inA 571 (by decide +kernel) (by decide +kernel)
theorem a_572 : Cond.fieldLink RX5 31 "Lensbench$SelectView" "isSame" "Z" ∈ ALL := inA 572 (by decide +kernel) (by decide +kernel)
theorem a_590 : Cond.methodLink RL 115 yL_drop ∈ ALL := inA 590 (by decide +kernel) (by decide +kernel)
theorem a_591 : Cond.static yL_drop ∈ ALL := inA 591 (by decide +kernel) (by decide +kernel)
theorem a_592 : Cond.codeWith ({ cls := "LensbenchLaw", name := "drop", desc := "(LLensbench;III[J)I" } : Jvm.MethodName) method_8_code (6 : Nat) (Option.some Jvm.ClassFile.FieldType.int) [((0 : Nat), (12 : Nat), (15 : Nat), (20 : Nat)), ((0 : Nat), (12 : Nat), (19 : Nat), (13 : Nat)), ((0 : Nat), (12 : Nat), (23 : Nat), (15 : Nat))] ∈ ALL := inA 592 (by decide +kernel) (by decide +kernel)
theorem a_593 : Cond.methodLink RL 35 yX10_drop ∈ ALL := inA 593 (by decide +kernel) (by decide +kernel)
theorem a_594 : Cond.instanceMethod yX10_drop ∈ ALL := inA 594 (by decide +kernel) (by decide +kernel)
theorem a_595 : Cond.selects RX10 yX10_drop yX10_drop ∈ ALL := inA 595 (by decide +kernel) (by decide +kernel)
theorem a_596 : Cond.code yX10_drop cX10_drop 5 (some .int) ∈ ALL := inA 596 (by decide +kernel) (by decide +kernel)
theorem a_597 : Cond.classLink RX10 152 RX2 ∈ ALL := inA 597 (by decide +kernel) (by decide +kernel)
theorem a_598 : Cond.instantiable RX2 11 ∈ ALL := inA 598 (by decide +kernel) (by decide +kernel)
theorem a_599 : Cond.methodLink RX10 154 yX2_init ∈ ALL := inA 599 (by decide +kernel) (by decide +kernel)
theorem a_600 : Cond.instanceMethod yX2_init ∈ ALL := inA 600 (by decide +kernel) (by decide +kernel)
theorem a_601 : Cond.code yX2_init cX2_init 5 none ∈ ALL := inA 601 (by decide +kernel) (by decide +kernel)
theorem a_602 : Cond.methodLink RX2 15 yX9_init ∈ ALL := inA 602 (by decide +kernel) (by decide +kernel)
theorem a_603 : Cond.fieldLink RX2 19 "Lensbench$DropView" "source" "LLensbench$View;" ∈ ALL := inA 603 (by decide +kernel) (by decide +kernel)
theorem a_604 : Cond.fieldLink RX2 25 "Lensbench$DropView" "column" "I" ∈ ALL := inA 604 (by decide +kernel) (by decide +kernel)
theorem a_605 : Cond.fieldLink RX2 28 "Lensbench$DropView" "value" "I" ∈ ALL := inA 605 (by decide +kernel) (by decide +kernel)
theorem a_621 : Cond.methodLink RL 119 yL_join ∈ ALL := inA 621 (by decide +kernel) (by decide +kernel)
theorem a_622 : Cond.static yL_join ∈ ALL := inA 622 (by decide +kernel) (by decide +kernel)
theorem a_623 : Cond.codeWith ({ cls := "LensbenchLaw", name := "join", desc := "(LLensbench;II[J)I" } : Jvm.MethodName) method_9_code (5 : Nat) (Option.some Jvm.ClassFile.FieldType.int) [((0 : Nat), (10 : Nat), (13 : Nat), (20 : Nat)), ((0 : Nat), (10 : Nat), (17 : Nat), (13 : Nat)), ((0 : Nat), (10 : Nat), (21 : Nat), (15 : Nat))] ∈ ALL := inA 623 (by decide +kernel) (by decide +kernel)
theorem a_624 : Cond.methodLink RL 39 yX10_join ∈ ALL := inA 624 (by decide +kernel) (by decide +kernel)
theorem a_625 : Cond.instanceMethod yX10_join ∈ ALL := inA 625 (by decide +kernel) (by decide +kernel)
theorem a_626 : Cond.selects RX10 yX10_join yX10_join ∈ ALL := inA 626 (by decide +kernel) (by decide +kernel)
theorem a_627 : Cond.code yX10_join cX10_join 5 (some .int) ∈ ALL := inA 627 (by decide +kernel) (by decide +kernel)
theorem a_629 : Cond.classLink RX10 161 RX3 ∈ ALL := inA 629 (by decide +kernel) (by decide +kernel)
theorem a_630 : Cond.instantiable RX3 11 ∈ ALL := inA 630 (by decide +kernel) (by decide +kernel)
theorem a_631 : Cond.methodLink RX10 163 yX3_init ∈ ALL := inA 631 (by decide +kernel) (by decide +kernel)
theorem a_632 : Cond.instanceMethod yX3_init ∈ ALL := inA 632 (by decide +kernel) (by decide +kernel)
theorem a_633 : Cond.code yX3_init cX3_init 4 none ∈ ALL := inA 633 (by decide +kernel) (by decide +kernel)
theorem a_634 : Cond.methodLink RX3 15 yX9_init ∈ ALL := inA 634 (by decide +kernel) (by decide +kernel)
theorem a_635 : Cond.fieldLink RX3 19 "Lensbench$JoinView" "one" "LLensbench$View;" ∈ ALL := inA 635 (by decide +kernel) (by decide +kernel)
theorem a_636 : Cond.fieldLink RX3 25 "Lensbench$JoinView" "other" "LLensbench$View;" ∈ ALL := inA 636 (by decide +kernel) (by decide +kernel)
theorem a_637 : Cond.fieldLink RX3 28 "Lensbench$JoinView" "common" "I" ∈ ALL := inA 637 (by decide +kernel) (by decide +kernel)
theorem a_653 : Cond.methodLink RL 122 yL_columns ∈ ALL := inA 653 (by decide +kernel) (by decide +kernel)
theorem a_654 : Cond.static yL_columns ∈ ALL := inA 654 (by decide +kernel) (by decide +kernel)
theorem a_655 : Cond.codeWith ({ cls := "LensbenchLaw", name := "columns", desc := "(LLensbench;I[J)I" } : Jvm.MethodName) method_10_code (4 : Nat) (Option.some Jvm.ClassFile.FieldType.int) [((0 : Nat), (9 : Nat), (12 : Nat), (20 : Nat))] ∈ ALL := inA 655 (by decide +kernel) (by decide +kernel)
theorem a_656 : Cond.methodLink RL 42 yX10_columns ∈ ALL := inA 656 (by decide +kernel) (by decide +kernel)
theorem a_657 : Cond.instanceMethod yX10_columns ∈ ALL := inA 657 (by decide +kernel) (by decide +kernel)
theorem a_658 : Cond.selects RX10 yX10_columns yX10_columns ∈ ALL := inA 658 (by decide +kernel) (by decide +kernel)
theorem a_659 : Cond.code yX10_columns cX10_columns 3 (some .int) ∈ ALL := inA 659 (by decide +kernel) (by decide +kernel)
theorem a_660 : Cond.methodLink RL 125 yL_key ∈ ALL := inA 660 (by decide +kernel) (by decide +kernel)
theorem a_661 : Cond.static yL_key ∈ ALL := inA 661 (by decide +kernel) (by decide +kernel)
theorem a_662 : Cond.codeWith ({ cls := "LensbenchLaw", name := "key", desc := "(LLensbench;I[J)I" } : Jvm.MethodName) method_11_code (4 : Nat) (Option.some Jvm.ClassFile.FieldType.int) [((0 : Nat), (9 : Nat), (12 : Nat), (20 : Nat))] ∈ ALL := inA 662 (by decide +kernel) (by decide +kernel)
theorem a_663 : Cond.methodLink RL 45 yX10_key ∈ ALL := inA 663 (by decide +kernel) (by decide +kernel)
theorem a_664 : Cond.instanceMethod yX10_key ∈ ALL := inA 664 (by decide +kernel) (by decide +kernel)
theorem a_665 : Cond.selects RX10 yX10_key yX10_key ∈ ALL := inA 665 (by decide +kernel) (by decide +kernel)
theorem a_666 : Cond.code yX10_key cX10_key 3 (some .int) ∈ ALL := inA 666 (by decide +kernel) (by decide +kernel)
theorem a_667 : Cond.methodLink RL 128 yL_rows ∈ ALL := inA 667 (by decide +kernel) (by decide +kernel)
theorem a_668 : Cond.static yL_rows ∈ ALL := inA 668 (by decide +kernel) (by decide +kernel)
theorem a_669 : Cond.codeWith ({ cls := "LensbenchLaw", name := "rows", desc := "(LLensbench;I[J)I" } : Jvm.MethodName) method_12_code (4 : Nat) (Option.some Jvm.ClassFile.FieldType.int) [((0 : Nat), (9 : Nat), (12 : Nat), (20 : Nat))] ∈ ALL := inA 669 (by decide +kernel) (by decide +kernel)
theorem a_670 : Cond.methodLink RL 48 yX10_rows ∈ ALL := inA 670 (by decide +kernel) (by decide +kernel)
theorem a_671 : Cond.instanceMethod yX10_rows ∈ ALL := inA 671 (by decide +kernel) (by decide +kernel)
theorem a_672 : Cond.selects RX10 yX10_rows yX10_rows ∈ ALL := inA 672 (by decide +kernel) (by decide +kernel)
theorem a_673 : Cond.code yX10_rows cX10_rows 3 (some .int) ∈ ALL := inA 673 (by decide +kernel) (by decide +kernel)
theorem a_674 : Cond.methodLink RL 131 yL_row ∈ ALL := inA 674 (by decide +kernel) (by decide +kernel)
theorem a_675 : Cond.static yL_row ∈ ALL := inA 675 (by decide +kernel) (by decide +kernel)
theorem a_676 : Cond.codeWith ({ cls := "LensbenchLaw", name := "row", desc := "(LLensbench;II[J)I" } : Jvm.MethodName) method_13_code (5 : Nat) (Option.some Jvm.ClassFile.FieldType.int) [((0 : Nat), (10 : Nat), (13 : Nat), (20 : Nat))] ∈ ALL := inA 676 (by decide +kernel) (by decide +kernel)
theorem a_677 : Cond.methodLink RL 51 yX10_row ∈ ALL := inA 677 (by decide +kernel) (by decide +kernel)
theorem a_678 : Cond.instanceMethod yX10_row ∈ ALL := inA 678 (by decide +kernel) (by decide +kernel)
theorem a_679 : Cond.selects RX10 yX10_row yX10_row ∈ ALL := inA 679 (by decide +kernel) (by decide +kernel)
theorem a_680 : Cond.code yX10_row cX10_row 4 (some .int) ∈ ALL := inA 680 (by decide +kernel) (by decide +kernel)
theorem a_682 : Cond.methodLink RX10 171 yX4_at ∈ ALL := inA 682 (by decide +kernel) (by decide +kernel)
theorem a_683 : Cond.methodLink RL 134 yL_open ∈ ALL := inA 683 (by decide +kernel) (by decide +kernel)
theorem a_684 : Cond.static yL_open ∈ ALL := inA 684 (by decide +kernel) (by decide +kernel)
theorem a_685 : Cond.codeWith ({ cls := "LensbenchLaw", name := "open", desc := "(LLensbench;I[J)I" } : Jvm.MethodName) method_14_code (4 : Nat) (Option.some Jvm.ClassFile.FieldType.int) [((0 : Nat), (9 : Nat), (12 : Nat), (20 : Nat))] ∈ ALL := inA 685 (by decide +kernel) (by decide +kernel)
theorem a_686 : Cond.methodLink RL 54 yX10_open ∈ ALL := inA 686 (by decide +kernel) (by decide +kernel)
theorem a_687 : Cond.instanceMethod yX10_open ∈ ALL := inA 687 (by decide +kernel) (by decide +kernel)
theorem a_688 : Cond.selects RX10 yX10_open yX10_open ∈ ALL := inA 688 (by decide +kernel) (by decide +kernel)
theorem a_689 : Cond.code yX10_open cX10_open 3 (some .int) ∈ ALL := inA 689 (by decide +kernel) (by decide +kernel)
theorem a_690 : Cond.methodLink RX10 179 yX4_takeOver ∈ ALL := inA 690 (by decide +kernel) (by decide +kernel)
theorem a_691 : Cond.methodLink RL 137 yL_add ∈ ALL := inA 691 (by decide +kernel) (by decide +kernel)
theorem a_692 : Cond.static yL_add ∈ ALL := inA 692 (by decide +kernel) (by decide +kernel)
theorem a_693 : Cond.codeWith ({ cls := "LensbenchLaw", name := "add", desc := "(LLensbench;I[J)I" } : Jvm.MethodName) method_15_code (4 : Nat) (Option.some Jvm.ClassFile.FieldType.int) [((0 : Nat), (9 : Nat), (12 : Nat), (15 : Nat)), ((0 : Nat), (9 : Nat), (15 : Nat), (13 : Nat))] ∈ ALL := inA 693 (by decide +kernel) (by decide +kernel)
theorem a_694 : Cond.methodLink RL 57 yX10_add ∈ ALL := inA 694 (by decide +kernel) (by decide +kernel)
theorem a_695 : Cond.instanceMethod yX10_add ∈ ALL := inA 695 (by decide +kernel) (by decide +kernel)
theorem a_696 : Cond.selects RX10 yX10_add yX10_add ∈ ALL := inA 696 (by decide +kernel) (by decide +kernel)
theorem a_697 : Cond.code yX10_add cX10_add 2 (some .int) ∈ ALL := inA 697 (by decide +kernel) (by decide +kernel)
theorem a_699 : Cond.methodLink RL 140 yL_takeOut ∈ ALL := inA 699 (by decide +kernel) (by decide +kernel)
theorem a_700 : Cond.static yL_takeOut ∈ ALL := inA 700 (by decide +kernel) (by decide +kernel)
theorem a_701 : Cond.codeWith ({ cls := "LensbenchLaw", name := "takeOut", desc := "(LLensbench;I[J)I" } : Jvm.MethodName) method_16_code (4 : Nat) (Option.some Jvm.ClassFile.FieldType.int) [((0 : Nat), (9 : Nat), (12 : Nat), (15 : Nat)), ((0 : Nat), (9 : Nat), (15 : Nat), (25 : Nat))] ∈ ALL := inA 701 (by decide +kernel) (by decide +kernel)
theorem a_702 : Cond.methodLink RL 60 yX10_takeOut ∈ ALL := inA 702 (by decide +kernel) (by decide +kernel)
theorem a_703 : Cond.instanceMethod yX10_takeOut ∈ ALL := inA 703 (by decide +kernel) (by decide +kernel)
theorem a_704 : Cond.selects RX10 yX10_takeOut yX10_takeOut ∈ ALL := inA 704 (by decide +kernel) (by decide +kernel)
theorem a_705 : Cond.code yX10_takeOut cX10_takeOut 2 (some .int) ∈ ALL := inA 705 (by decide +kernel) (by decide +kernel)
theorem a_707 : Cond.methodLink RL 143 yL_change ∈ ALL := inA 707 (by decide +kernel) (by decide +kernel)
theorem a_708 : Cond.static yL_change ∈ ALL := inA 708 (by decide +kernel) (by decide +kernel)
theorem a_709 : Cond.codeWith ({ cls := "LensbenchLaw", name := "change", desc := "(LLensbench;III[J)I" } : Jvm.MethodName) method_17_code (6 : Nat) (Option.some Jvm.ClassFile.FieldType.int) [((0 : Nat), (12 : Nat), (15 : Nat), (15 : Nat)), ((0 : Nat), (12 : Nat), (19 : Nat), (13 : Nat)), ((0 : Nat), (12 : Nat), (23 : Nat), (25 : Nat))] ∈ ALL := inA 709 (by decide +kernel) (by decide +kernel)
theorem a_710 : Cond.methodLink RL 63 yX10_change ∈ ALL := inA 710 (by decide +kernel) (by decide +kernel)
theorem a_711 : Cond.instanceMethod yX10_change ∈ ALL := inA 711 (by decide +kernel) (by decide +kernel)
theorem a_712 : Cond.selects RX10 yX10_change yX10_change ∈ ALL := inA 712 (by decide +kernel) (by decide +kernel)
theorem a_713 : Cond.code yX10_change cX10_change 5 (some .int) ∈ ALL := inA 713 (by decide +kernel) (by decide +kernel)
theorem a_714 : Cond.methodLink RX10 187 yX1_with ∈ ALL := inA 714 (by decide +kernel) (by decide +kernel)
theorem a_715 : Cond.static yX1_with ∈ ALL := inA 715 (by decide +kernel) (by decide +kernel)
theorem a_716 : Cond.code yX1_with cX1_with 3 (some .int) ∈ ALL := inA 716 (by decide +kernel) (by decide +kernel)
theorem a_717 : Cond.methodLink RX1 20 yX1_digit ∈ ALL := inA 717 (by decide +kernel) (by decide +kernel)
theorem a_718 : Cond.methodLink RX1 23 yX1_told ∈ ALL := inA 718 (by decide +kernel) (by decide +kernel)
theorem a_719 : Cond.static yX1_told ∈ ALL := inA 719 (by decide +kernel) (by decide +kernel)
theorem a_720 : Cond.code yX1_told cX1_told 4 (some .int) ∈ ALL := inA 720 (by decide +kernel) (by decide +kernel)
theorem a_722 : Cond.methodLink RL 146 yL_draftRow ∈ ALL := inA 722 (by decide +kernel) (by decide +kernel)
theorem a_723 : Cond.static yL_draftRow ∈ ALL := inA 723 (by decide +kernel) (by decide +kernel)
theorem a_724 : Cond.codeWith ({ cls := "LensbenchLaw", name := "draftRow", desc := "(LLensbench;I[J)I" } : Jvm.MethodName) method_18_code (4 : Nat) (Option.some Jvm.ClassFile.FieldType.int) [((0 : Nat), (9 : Nat), (12 : Nat), (15 : Nat)), ((0 : Nat), (9 : Nat), (15 : Nat), (20 : Nat))] ∈ ALL := inA 724 (by decide +kernel) (by decide +kernel)
theorem a_725 : Cond.methodLink RL 66 yX10_draftRow ∈ ALL := inA 725 (by decide +kernel) (by decide +kernel)
theorem a_726 : Cond.instanceMethod yX10_draftRow ∈ ALL := inA 726 (by decide +kernel) (by decide +kernel)
theorem a_727 : Cond.selects RX10 yX10_draftRow yX10_draftRow ∈ ALL := inA 727 (by decide +kernel) (by decide +kernel)
theorem a_728 : Cond.code yX10_draftRow cX10_draftRow 2 (some .int) ∈ ALL := inA 728 (by decide +kernel) (by decide +kernel)
theorem a_730 : Cond.methodLink RL 149 yL_conflict ∈ ALL := inA 730 (by decide +kernel) (by decide +kernel)
theorem a_731 : Cond.static yL_conflict ∈ ALL := inA 731 (by decide +kernel) (by decide +kernel)
theorem a_732 : Cond.codeWith ({ cls := "LensbenchLaw", name := "conflict", desc := "(LLensbench;[J)I" } : Jvm.MethodName) method_19_code (3 : Nat) (Option.some Jvm.ClassFile.FieldType.int) [((0 : Nat), (8 : Nat), (11 : Nat), (15 : Nat))] ∈ ALL := inA 732 (by decide +kernel) (by decide +kernel)
theorem a_733 : Cond.methodLink RL 69 yX10_conflict ∈ ALL := inA 733 (by decide +kernel) (by decide +kernel)
theorem a_734 : Cond.instanceMethod yX10_conflict ∈ ALL := inA 734 (by decide +kernel) (by decide +kernel)
theorem a_735 : Cond.selects RX10 yX10_conflict yX10_conflict ∈ ALL := inA 735 (by decide +kernel) (by decide +kernel)
theorem a_736 : Cond.code yX10_conflict cX10_conflict 1 (some .int) ∈ ALL := inA 736 (by decide +kernel) (by decide +kernel)
theorem a_737 : Cond.methodLink RX10 195 yX10_planPutBack ∈ ALL := inA 737 (by decide +kernel) (by decide +kernel)
theorem a_739 : Cond.instanceMethod yX10_planPutBack ∈ ALL := inA 739 (by decide +kernel) (by decide +kernel)
theorem a_740 : Cond.code yX10_planPutBack cX10_planPutBack 3 none ∈ ALL := inA 740 (by decide +kernel) (by decide +kernel)
theorem a_741 : Cond.methodLink RX10 251 yX0_clear ∈ ALL := inA 741 (by decide +kernel) (by decide +kernel)
theorem a_742 : Cond.instanceMethod yX0_clear ∈ ALL := inA 742 (by decide +kernel) (by decide +kernel)
theorem a_743 : Cond.selects RX0 yX0_clear yX0_clear ∈ ALL := inA 743 (by decide +kernel) (by decide +kernel)
theorem a_744 : Cond.code yX0_clear cX0_clear 1 none ∈ ALL := inA 744 (by decide +kernel) (by decide +kernel)
theorem a_745 : Cond.methodLink RX0 21 yX0_tell ∈ ALL := inA 745 (by decide +kernel) (by decide +kernel)
theorem a_746 : Cond.instanceMethod yX0_tell ∈ ALL := inA 746 (by decide +kernel) (by decide +kernel)
theorem a_747 : Cond.selects RX0 yX0_tell yX0_tell ∈ ALL := inA 747 (by decide +kernel) (by decide +kernel)
theorem a_748 : Cond.code yX0_tell cX0_tell 4 none ∈ ALL := inA 748 (by decide +kernel) (by decide +kernel)
theorem a_749 : Cond.methodLink RX10 255 yX10_passDown ∈ ALL := inA 749 (by decide +kernel) (by decide +kernel)
theorem a_750 : Cond.static yX10_passDown ∈ ALL := inA 750 (by decide +kernel) (by decide +kernel)
theorem a_751 : Cond.code yX10_passDown cX10_passDown 3 none ∈ ALL := inA 751 (by decide +kernel) (by decide +kernel)
theorem a_752 : Cond.methodLink RX10 209 yX0_isTold ∈ ALL := inA 752 (by decide +kernel) (by decide +kernel)
theorem a_753 : Cond.instanceMethod yX0_isTold ∈ ALL := inA 753 (by decide +kernel) (by decide +kernel)
theorem a_754 : Cond.selects RX0 yX0_isTold yX0_isTold ∈ ALL := inA 754 (by decide +kernel) (by decide +kernel)
theorem a_755 : Cond.code yX0_isTold cX0_isTold 1 (some .boolean) ∈ ALL := inA 755 (by decide +kernel) (by decide +kernel)
theorem a_756 : Cond.methodLink RX10 259 yX9_seekConflict ∈ ALL := inA 756 (by decide +kernel) (by decide +kernel)
theorem a_757 : Cond.instanceMethod yX9_seekConflict ∈ ALL := inA 757 (by decide +kernel) (by decide +kernel)
theorem a_758 : Cond.sameMethod "Lensbench$View" "Lensbench$View" "seekConflict" "(LLensbench$Conflict;)V" ∈ ALL := inA 758 (by decide +kernel) (by decide +kernel)
theorem a_759 : Cond.selects RX2 yX9_seekConflict yX9_seekConflict ∈ ALL := inA 759 (by decide +kernel) (by decide +kernel)
theorem a_760 : Cond.selects RX3 yX9_seekConflict yX9_seekConflict ∈ ALL := inA 760 (by decide +kernel) (by decide +kernel)
theorem a_761 : Cond.selects RX5 yX9_seekConflict yX9_seekConflict ∈ ALL := inA 761 (by decide +kernel) (by decide +kernel)
theorem a_762 : Cond.selects RX7 yX9_seekConflict yX9_seekConflict ∈ ALL := inA 762 (by decide +kernel) (by decide +kernel)
theorem a_763 : Cond.code yX9_seekConflict cX9_seekConflict 2 none ∈ ALL := inA 763 (by decide +kernel) (by decide +kernel)
theorem a_764 : Cond.methodLink RX9 43 yX0_seekPair ∈ ALL := inA 764 (by decide +kernel) (by decide +kernel)
theorem a_765 : Cond.instanceMethod yX0_seekPair ∈ ALL := inA 765 (by decide +kernel) (by decide +kernel)
theorem a_766 : Cond.selects RX0 yX0_seekPair yX0_seekPair ∈ ALL := inA 766 (by decide +kernel) (by decide +kernel)
theorem a_767 : Cond.code yX0_seekPair cX0_seekPair 10 none ∈ ALL := inA 767 (by decide +kernel) (by decide +kernel)
theorem a_768 : Cond.methodLink RX0 31 yX4_size ∈ ALL := inA 768 (by decide +kernel) (by decide +kernel)
theorem a_769 : Cond.methodLink RX0 37 yX4_at ∈ ALL := inA 769 (by decide +kernel) (by decide +kernel)
theorem a_770 : Cond.methodLink RX0 41 yX1_alike ∈ ALL := inA 770 (by decide +kernel) (by decide +kernel)
theorem a_771 : Cond.methodLink RX9 49 yX0_isTold ∈ ALL := inA 771 (by decide +kernel) (by decide +kernel)
theorem a_772 : Cond.methodLink RX9 53 ⟨"Lensbench$View", "seekOwnConflict", "(LLensbench$Conflict;)V"⟩ ∈ ALL := inA 772 (by decide +kernel) (by decide +kernel)
theorem a_773 : Cond.declares ⟨"Lensbench$View", "seekOwnConflict", "(LLensbench$Conflict;)V"⟩ ∈ lw_tbl := List.mem_of_getElem? (i := 773) (by decide +kernel)
theorem a_774 : Cond.sameMethod "Lensbench$View" "Lensbench$View" "seekOwnConflict" "(LLensbench$Conflict;)V" ∈ ALL := inA 774 (by decide +kernel) (by decide +kernel)
theorem a_775 : Cond.selects RX2 ⟨"Lensbench$View", "seekOwnConflict", "(LLensbench$Conflict;)V"⟩ yX2_seekOwnConflict ∈ ALL := inA 775 (by decide +kernel) (by decide +kernel)
theorem a_776 : Cond.instanceMethod yX2_seekOwnConflict ∈ ALL := inA 776 (by decide +kernel) (by decide +kernel)
theorem a_777 : Cond.code yX2_seekOwnConflict cX2_seekOwnConflict 2 none ∈ ALL := inA 777 (by decide +kernel) (by decide +kernel)
theorem a_778 : Cond.selects RX3 ⟨"Lensbench$View", "seekOwnConflict", "(LLensbench$Conflict;)V"⟩ yX3_seekOwnConflict ∈ ALL := inA 778 (by decide +kernel) (by decide +kernel)
theorem a_779 : Cond.instanceMethod yX3_seekOwnConflict ∈ ALL := inA 779 (by decide +kernel) (by decide +kernel)
theorem a_780 : Cond.code yX3_seekOwnConflict cX3_seekOwnConflict 2 none ∈ ALL := inA 780 (by decide +kernel) (by decide +kernel)
theorem a_781 : Cond.methodLink RX3 63 yX0_seekPair ∈ ALL := inA 781 (by decide +kernel) (by decide +kernel)
theorem a_782 : Cond.selects RX5 ⟨"Lensbench$View", "seekOwnConflict", "(LLensbench$Conflict;)V"⟩ yX5_seekOwnConflict ∈ ALL := inA 782 (by decide +kernel) (by decide +kernel)
theorem a_783 : Cond.instanceMethod yX5_seekOwnConflict ∈ ALL := inA 783 (by decide +kernel) (by decide +kernel)
theorem a_784 : Cond.code yX5_seekOwnConflict cX5_seekOwnConflict 4 none ∈ ALL := inA 784 (by decide +kernel) (by decide +kernel)
theorem a_785 : Cond.methodLink RX5 74 yX0_tell ∈ ALL := inA 785 (by decide +kernel) (by decide +kernel)
theorem a_786 : Cond.selects RX7 ⟨"Lensbench$View", "seekOwnConflict", "(LLensbench$Conflict;)V"⟩ yX7_seekOwnConflict ∈ ALL := inA 786 (by decide +kernel) (by decide +kernel)
theorem a_787 : Cond.instanceMethod yX7_seekOwnConflict ∈ ALL := inA 787 (by decide +kernel) (by decide +kernel)
theorem a_788 : Cond.code yX7_seekOwnConflict cX7_seekOwnConflict 2 none ∈ ALL := inA 788 (by decide +kernel) (by decide +kernel)
theorem a_789 : Cond.methodLink RX7 40 yX4_size ∈ ALL := inA 789 (by decide +kernel) (by decide +kernel)
theorem a_790 : Cond.methodLink RX7 47 yX0_tell ∈ ALL := inA 790 (by decide +kernel) (by decide +kernel)
theorem a_791 : Cond.methodLink RX10 263 ⟨"Lensbench$View", "passOn", "()V"⟩ ∈ ALL := inA 791 (by decide +kernel) (by decide +kernel)
theorem a_792 : Cond.declares ⟨"Lensbench$View", "passOn", "()V"⟩ ∈ lw_tbl := List.mem_of_getElem? (i := 792) (by decide +kernel)
theorem a_793 : Cond.sameMethod "Lensbench$View" "Lensbench$View" "passOn" "()V" ∈ ALL := inA 793 (by decide +kernel) (by decide +kernel)
theorem a_794 : Cond.selects RX2 ⟨"Lensbench$View", "passOn", "()V"⟩ yX2_passOn ∈ ALL := inA 794 (by decide +kernel) (by decide +kernel)
theorem a_795 : Cond.instanceMethod yX2_passOn ∈ ALL := inA 795 (by decide +kernel) (by decide +kernel)
theorem a_796 : Cond.code yX2_passOn cX2_passOn 3 none ∈ ALL := inA 796 (by decide +kernel) (by decide +kernel)
theorem a_797 : Cond.methodLink RX2 65 yX2_hiddenValue ∈ ALL := inA 797 (by decide +kernel) (by decide +kernel)
theorem a_799 : Cond.instanceMethod yX2_hiddenValue ∈ ALL := inA 799 (by decide +kernel) (by decide +kernel)
theorem a_800 : Cond.code yX2_hiddenValue cX2_hiddenValue 3 (some .int) ∈ ALL := inA 800 (by decide +kernel) (by decide +kernel)
theorem a_801 : Cond.methodLink RX2 73 yX4_firstLike ∈ ALL := inA 801 (by decide +kernel) (by decide +kernel)
theorem a_802 : Cond.methodLink RX2 76 yX1_digit ∈ ALL := inA 802 (by decide +kernel) (by decide +kernel)
theorem a_803 : Cond.methodLink RX2 68 yX1_with ∈ ALL := inA 803 (by decide +kernel) (by decide +kernel)
theorem a_804 : Cond.selects RX3 ⟨"Lensbench$View", "passOn", "()V"⟩ yX3_passOn ∈ ALL := inA 804 (by decide +kernel) (by decide +kernel)
theorem a_805 : Cond.instanceMethod yX3_passOn ∈ ALL := inA 805 (by decide +kernel) (by decide +kernel)
theorem a_806 : Cond.code yX3_passOn cX3_passOn 3 none ∈ ALL := inA 806 (by decide +kernel) (by decide +kernel)
theorem a_807 : Cond.methodLink RX3 72 yX9_wantParts ∈ ALL := inA 807 (by decide +kernel) (by decide +kernel)
theorem a_808 : Cond.instanceMethod yX9_wantParts ∈ ALL := inA 808 (by decide +kernel) (by decide +kernel)
theorem a_809 : Cond.sameMethod "Lensbench$View" "Lensbench$View" "wantParts" "(LLensbench$Rows;)V" ∈ ALL := inA 809 (by decide +kernel) (by decide +kernel)
theorem a_810 : Cond.selects RX2 yX9_wantParts yX9_wantParts ∈ ALL := inA 810 (by decide +kernel) (by decide +kernel)
theorem a_811 : Cond.selects RX3 yX9_wantParts yX9_wantParts ∈ ALL := inA 811 (by decide +kernel) (by decide +kernel)
theorem a_812 : Cond.selects RX5 yX9_wantParts yX9_wantParts ∈ ALL := inA 812 (by decide +kernel) (by decide +kernel)
theorem a_813 : Cond.selects RX7 yX9_wantParts yX9_wantParts ∈ ALL := inA 813 (by decide +kernel) (by decide +kernel)
theorem a_814 : Cond.code yX9_wantParts cX9_wantParts 3 none ∈ ALL := inA 814 (by decide +kernel) (by decide +kernel)
theorem a_815 : Cond.methodLink RX9 61 yX4_clear ∈ ALL := inA 815 (by decide +kernel) (by decide +kernel)
theorem a_816 : Cond.methodLink RX9 64 yX4_size ∈ ALL := inA 816 (by decide +kernel) (by decide +kernel)
theorem a_817 : Cond.methodLink RX9 68 yX4_at ∈ ALL := inA 817 (by decide +kernel) (by decide +kernel)
theorem a_818 : Cond.methodLink RX9 72 yX1_part ∈ ALL := inA 818 (by decide +kernel) (by decide +kernel)
theorem a_819 : Cond.methodLink RX9 77 yX4_put ∈ ALL := inA 819 (by decide +kernel) (by decide +kernel)
theorem a_820 : Cond.methodLink RX3 76 yX9_wantsKeyOf ∈ ALL := inA 820 (by decide +kernel) (by decide +kernel)
theorem a_821 : Cond.instanceMethod yX9_wantsKeyOf ∈ ALL := inA 821 (by decide +kernel) (by decide +kernel)
theorem a_822 : Cond.sameMethod "Lensbench$View" "Lensbench$View" "wantsKeyOf" "(I)Z" ∈ ALL := inA 822 (by decide +kernel) (by decide +kernel)
theorem a_823 : Cond.selects RX2 yX9_wantsKeyOf yX9_wantsKeyOf ∈ ALL := inA 823 (by decide +kernel) (by decide +kernel)
theorem a_824 : Cond.selects RX3 yX9_wantsKeyOf yX9_wantsKeyOf ∈ ALL := inA 824 (by decide +kernel) (by decide +kernel)
theorem a_825 : Cond.selects RX5 yX9_wantsKeyOf yX9_wantsKeyOf ∈ ALL := inA 825 (by decide +kernel) (by decide +kernel)
theorem a_826 : Cond.selects RX7 yX9_wantsKeyOf yX9_wantsKeyOf ∈ ALL := inA 826 (by decide +kernel) (by decide +kernel)
theorem a_827 : Cond.code yX9_wantsKeyOf cX9_wantsKeyOf 2 (some .boolean) ∈ ALL := inA 827 (by decide +kernel) (by decide +kernel)
theorem a_828 : Cond.methodLink RX9 57 yX4_firstLike ∈ ALL := inA 828 (by decide +kernel) (by decide +kernel)
theorem a_829 : Cond.selects RX5 ⟨"Lensbench$View", "passOn", "()V"⟩ yX5_passOn ∈ ALL := inA 829 (by decide +kernel) (by decide +kernel)
theorem a_830 : Cond.instanceMethod yX5_passOn ∈ ALL := inA 830 (by decide +kernel) (by decide +kernel)
theorem a_831 : Cond.code yX5_passOn cX5_passOn 3 none ∈ ALL := inA 831 (by decide +kernel) (by decide +kernel)
theorem a_832 : Cond.methodLink RX5 81 yX4_takeOver ∈ ALL := inA 832 (by decide +kernel) (by decide +kernel)
theorem a_833 : Cond.methodLink RX5 85 ⟨"Lensbench$SelectView", "wantsKeyOf", "(I)Z"⟩ ∈ ALL := inA 833 (by decide +kernel) (by decide +kernel)
theorem a_834 : Cond.sameMethod "Lensbench$SelectView" "Lensbench$View" "wantsKeyOf" "(I)Z" ∈ ALL := inA 834 (by decide +kernel) (by decide +kernel)
theorem a_835 : Cond.declares yX9_wantsKeyOf ∈ lw_tbl := List.mem_of_getElem? (i := 835) (by decide +kernel)
theorem a_836 : Cond.selects RX5 ⟨"Lensbench$SelectView", "wantsKeyOf", "(I)Z"⟩ yX9_wantsKeyOf ∈ ALL := inA 836 (by decide +kernel) (by decide +kernel)
theorem a_837 : Cond.selects RX7 ⟨"Lensbench$View", "passOn", "()V"⟩ yX7_passOn ∈ ALL := inA 837 (by decide +kernel) (by decide +kernel)
theorem a_838 : Cond.instanceMethod yX7_passOn ∈ ALL := inA 838 (by decide +kernel) (by decide +kernel)
theorem a_839 : Cond.code yX7_passOn cX7_passOn 1 none ∈ ALL := inA 839 (by decide +kernel) (by decide +kernel)
theorem a_840 : Cond.methodLink RL 153 yL_conflictRow ∈ ALL := inA 840 (by decide +kernel) (by decide +kernel)
theorem a_841 : Cond.static yL_conflictRow ∈ ALL := inA 841 (by decide +kernel) (by decide +kernel)
theorem a_842 : Cond.codeWith ({ cls := "LensbenchLaw", name := "conflictRow", desc := "(LLensbench;I[J)I" } : Jvm.MethodName) method_20_code (4 : Nat) (Option.some Jvm.ClassFile.FieldType.int) [((0 : Nat), (9 : Nat), (12 : Nat), (15 : Nat)), ((0 : Nat), (9 : Nat), (15 : Nat), (13 : Nat))] ∈ ALL := inA 842 (by decide +kernel) (by decide +kernel)
theorem a_843 : Cond.methodLink RL 73 yX10_conflictRow ∈ ALL := inA 843 (by decide +kernel) (by decide +kernel)
theorem a_844 : Cond.instanceMethod yX10_conflictRow ∈ ALL := inA 844 (by decide +kernel) (by decide +kernel)
theorem a_845 : Cond.selects RX10 yX10_conflictRow yX10_conflictRow ∈ ALL := inA 845 (by decide +kernel) (by decide +kernel)
theorem a_846 : Cond.code yX10_conflictRow cX10_conflictRow 2 (some .int) ∈ ALL := inA 846 (by decide +kernel) (by decide +kernel)
theorem a_848 : Cond.methodLink RL 156 yL_changes ∈ ALL := inA 848 (by decide +kernel) (by decide +kernel)
theorem a_849 : Cond.static yL_changes ∈ ALL := inA 849 (by decide +kernel) (by decide +kernel)
theorem a_850 : Cond.codeWith ({ cls := "LensbenchLaw", name := "changes", desc := "(LLensbench;[J)I" } : Jvm.MethodName) method_21_code (3 : Nat) (Option.some Jvm.ClassFile.FieldType.int) [((0 : Nat), (8 : Nat), (11 : Nat), (15 : Nat))] ∈ ALL := inA 850 (by decide +kernel) (by decide +kernel)
theorem a_851 : Cond.methodLink RL 76 yX10_changes ∈ ALL := inA 851 (by decide +kernel) (by decide +kernel)
theorem a_852 : Cond.instanceMethod yX10_changes ∈ ALL := inA 852 (by decide +kernel) (by decide +kernel)
theorem a_853 : Cond.selects RX10 yX10_changes yX10_changes ∈ ALL := inA 853 (by decide +kernel) (by decide +kernel)
theorem a_854 : Cond.code yX10_changes cX10_changes 1 (some .int) ∈ ALL := inA 854 (by decide +kernel) (by decide +kernel)
theorem a_855 : Cond.methodLink RX10 213 yX10_countPlanned ∈ ALL := inA 855 (by decide +kernel) (by decide +kernel)
theorem a_857 : Cond.instanceMethod yX10_countPlanned ∈ ALL := inA 857 (by decide +kernel) (by decide +kernel)
theorem a_858 : Cond.code yX10_countPlanned cX10_countPlanned 4 (some .int) ∈ ALL := inA 858 (by decide +kernel) (by decide +kernel)
theorem a_859 : Cond.methodLink RX10 272 yX4_countMissingIn ∈ ALL := inA 859 (by decide +kernel) (by decide +kernel)
theorem a_860 : Cond.instanceMethod yX4_countMissingIn ∈ ALL := inA 860 (by decide +kernel) (by decide +kernel)
theorem a_861 : Cond.selects RX4 yX4_countMissingIn yX4_countMissingIn ∈ ALL := inA 861 (by decide +kernel) (by decide +kernel)
theorem a_862 : Cond.code yX4_countMissingIn cX4_countMissingIn 4 (some .int) ∈ ALL := inA 862 (by decide +kernel) (by decide +kernel)
theorem a_863 : Cond.methodLink RL 159 yL_fewest ∈ ALL := inA 863 (by decide +kernel) (by decide +kernel)
theorem a_864 : Cond.static yL_fewest ∈ ALL := inA 864 (by decide +kernel) (by decide +kernel)
theorem a_865 : Cond.codeWith ({ cls := "LensbenchLaw", name := "fewest", desc := "(LLensbench;[J)I" } : Jvm.MethodName) method_22_code (3 : Nat) (Option.some Jvm.ClassFile.FieldType.int) [((0 : Nat), (8 : Nat), (11 : Nat), (15 : Nat))] ∈ ALL := inA 865 (by decide +kernel) (by decide +kernel)
theorem a_866 : Cond.methodLink RL 79 yX10_fewest ∈ ALL := inA 866 (by decide +kernel) (by decide +kernel)
theorem a_867 : Cond.instanceMethod yX10_fewest ∈ ALL := inA 867 (by decide +kernel) (by decide +kernel)
theorem a_868 : Cond.selects RX10 yX10_fewest yX10_fewest ∈ ALL := inA 868 (by decide +kernel) (by decide +kernel)
theorem a_869 : Cond.code yX10_fewest cX10_fewest 2 (some .int) ∈ ALL := inA 869 (by decide +kernel) (by decide +kernel)
theorem a_870 : Cond.methodLink RX10 216 yX10_onlyTable ∈ ALL := inA 870 (by decide +kernel) (by decide +kernel)
theorem a_872 : Cond.instanceMethod yX10_onlyTable ∈ ALL := inA 872 (by decide +kernel) (by decide +kernel)
theorem a_873 : Cond.code yX10_onlyTable cX10_onlyTable 3 (some (.object "Lensbench$Table")) ∈ ALL := inA 873 (by decide +kernel) (by decide +kernel)
theorem a_874 : Cond.methodLink RX10 219 yX8_canTry ∈ ALL := inA 874 (by decide +kernel) (by decide +kernel)
theorem a_875 : Cond.static yX8_canTry ∈ ALL := inA 875 (by decide +kernel) (by decide +kernel)
theorem a_876 : Cond.code yX8_canTry cX8_canTry 2 (some .boolean) ∈ ALL := inA 876 (by decide +kernel) (by decide +kernel)
theorem a_877 : Cond.methodLink RX8 24 yJ6_bitCount_0f7a4 ∈ ALL := inA 877 (by decide +kernel) (by decide +kernel)
theorem a_878 : Cond.static yJ6_bitCount_0f7a4 ∈ ALL := inA 878 (by decide +kernel) (by decide +kernel)
theorem a_879 : Cond.code yJ6_bitCount_0f7a4 cJ6_bitCount_0f7a4 1 (some .int) ∈ ALL := inA 879 (by decide +kernel) (by decide +kernel)
theorem a_880 : Cond.constant RJ6 265 (1431655765) ∈ ALL := inA 880 (by decide +kernel) (by decide +kernel)
theorem a_881 : Cond.constant RJ6 266 (858993459) ∈ ALL := inA 881 (by decide +kernel) (by decide +kernel)
theorem a_882 : Cond.constant RJ6 267 (252645135) ∈ ALL := inA 882 (by decide +kernel) (by decide +kernel)
theorem a_883 : Cond.methodLink RX8 34 yX4_size ∈ ALL := inA 883 (by decide +kernel) (by decide +kernel)
theorem a_884 : Cond.methodLink RX8 40 yX4_at ∈ ALL := inA 884 (by decide +kernel) (by decide +kernel)
theorem a_885 : Cond.methodLink RX8 43 yX8_hasGreatValue ∈ ALL := inA 885 (by decide +kernel) (by decide +kernel)
theorem a_886 : Cond.static yX8_hasGreatValue ∈ ALL := inA 886 (by decide +kernel) (by decide +kernel)
theorem a_887 : Cond.code yX8_hasGreatValue cX8_hasGreatValue 2 (some .boolean) ∈ ALL := inA 887 (by decide +kernel) (by decide +kernel)
theorem a_888 : Cond.methodLink RX8 47 yX1_digit ∈ ALL := inA 888 (by decide +kernel) (by decide +kernel)
theorem a_890 : Cond.methodLink RX10 225 yX8_fewestChanges ∈ ALL := inA 890 (by decide +kernel) (by decide +kernel)
theorem a_891 : Cond.instanceMethod yX8_fewestChanges ∈ ALL := inA 891 (by decide +kernel) (by decide +kernel)
theorem a_892 : Cond.selects RX8 yX8_fewestChanges yX8_fewestChanges ∈ ALL := inA 892 (by decide +kernel) (by decide +kernel)
theorem a_893 : Cond.code yX8_fewestChanges cX8_fewestChanges 7 (some .int) ∈ ALL := inA 893 (by decide +kernel) (by decide +kernel)
theorem a_894 : Cond.methodLink RX8 53 yX8_listRows ∈ ALL := inA 894 (by decide +kernel) (by decide +kernel)
theorem a_896 : Cond.instanceMethod yX8_listRows ∈ ALL := inA 896 (by decide +kernel) (by decide +kernel)
theorem a_897 : Cond.code yX8_listRows cX8_listRows 5 none ∈ ALL := inA 897 (by decide +kernel) (by decide +kernel)
theorem a_898 : Cond.methodLink RX8 81 yX1_isIn ∈ ALL := inA 898 (by decide +kernel) (by decide +kernel)
theorem a_899 : Cond.methodLink RX8 85 yX1_told ∈ ALL := inA 899 (by decide +kernel) (by decide +kernel)
theorem a_900 : Cond.methodLink RX8 57 yX8_sortRows ∈ ALL := inA 900 (by decide +kernel) (by decide +kernel)
theorem a_902 : Cond.instanceMethod yX8_sortRows ∈ ALL := inA 902 (by decide +kernel) (by decide +kernel)
theorem a_903 : Cond.code yX8_sortRows cX8_sortRows 6 none ∈ ALL := inA 903 (by decide +kernel) (by decide +kernel)
theorem a_904 : Cond.methodLink RX8 88 yX4_has ∈ ALL := inA 904 (by decide +kernel) (by decide +kernel)
theorem a_905 : Cond.methodLink RX8 91 yX8_isSeen ∈ ALL := inA 905 (by decide +kernel) (by decide +kernel)
theorem a_906 : Cond.static yX8_isSeen ∈ ALL := inA 906 (by decide +kernel) (by decide +kernel)
theorem a_907 : Cond.code yX8_isSeen cX8_isSeen 3 (some .boolean) ∈ ALL := inA 907 (by decide +kernel) (by decide +kernel)
theorem a_908 : Cond.methodLink RX8 111 yX9_selects ∈ ALL := inA 908 (by decide +kernel) (by decide +kernel)
theorem a_909 : Cond.instanceMethod yX9_selects ∈ ALL := inA 909 (by decide +kernel) (by decide +kernel)
theorem a_910 : Cond.sameMethod "Lensbench$View" "Lensbench$View" "selects" "(I)Z" ∈ ALL := inA 910 (by decide +kernel) (by decide +kernel)
theorem a_911 : Cond.selects RX2 yX9_selects yX9_selects ∈ ALL := inA 911 (by decide +kernel) (by decide +kernel)
theorem a_912 : Cond.selects RX3 yX9_selects yX9_selects ∈ ALL := inA 912 (by decide +kernel) (by decide +kernel)
theorem a_913 : Cond.selects RX5 yX9_selects yX5_selects ∈ ALL := inA 913 (by decide +kernel) (by decide +kernel)
theorem a_914 : Cond.selects RX7 yX9_selects yX9_selects ∈ ALL := inA 914 (by decide +kernel) (by decide +kernel)
theorem a_915 : Cond.code yX9_selects cX9_selects 2 (some .boolean) ∈ ALL := inA 915 (by decide +kernel) (by decide +kernel)
theorem a_916 : Cond.methodLink RX8 98 yX1_part ∈ ALL := inA 916 (by decide +kernel) (by decide +kernel)
theorem a_917 : Cond.methodLink RX8 104 yX8_rivalsOf ∈ ALL := inA 917 (by decide +kernel) (by decide +kernel)
theorem a_919 : Cond.instanceMethod yX8_rivalsOf ∈ ALL := inA 919 (by decide +kernel) (by decide +kernel)
theorem a_920 : Cond.code yX8_rivalsOf cX8_rivalsOf 5 (some .int) ∈ ALL := inA 920 (by decide +kernel) (by decide +kernel)
theorem a_921 : Cond.methodLink RX8 107 yX1_alike ∈ ALL := inA 921 (by decide +kernel) (by decide +kernel)
theorem a_922 : Cond.methodLink RX8 70 yX8_hasUnlikeKeys ∈ ALL := inA 922 (by decide +kernel) (by decide +kernel)
theorem a_924 : Cond.instanceMethod yX8_hasUnlikeKeys ∈ ALL := inA 924 (by decide +kernel) (by decide +kernel)
theorem a_925 : Cond.code yX8_hasUnlikeKeys cX8_hasUnlikeKeys 3 (some .boolean) ∈ ALL := inA 925 (by decide +kernel) (by decide +kernel)
theorem a_926 : Cond.methodLink RX8 76 yJ9_min_7cf53 ∈ ALL := inA 926 (by decide +kernel) (by decide +kernel)
theorem a_927 : Cond.methodLink RL 162 yL_putBack ∈ ALL := inA 927 (by decide +kernel) (by decide +kernel)
theorem a_928 : Cond.static yL_putBack ∈ ALL := inA 928 (by decide +kernel) (by decide +kernel)
theorem a_929 : Cond.codeWith ({ cls := "LensbenchLaw", name := "putBack", desc := "(LLensbench;[J)I" } : Jvm.MethodName) method_23_code (3 : Nat) (Option.some Jvm.ClassFile.FieldType.int) [((0 : Nat), (8 : Nat), (11 : Nat), (15 : Nat))] ∈ ALL := inA 929 (by decide +kernel) (by decide +kernel)
theorem a_930 : Cond.methodLink RL 82 yX10_putBack ∈ ALL := inA 930 (by decide +kernel) (by decide +kernel)
theorem a_931 : Cond.instanceMethod yX10_putBack ∈ ALL := inA 931 (by decide +kernel) (by decide +kernel)
theorem a_932 : Cond.selects RX10 yX10_putBack yX10_putBack ∈ ALL := inA 932 (by decide +kernel) (by decide +kernel)
theorem a_933 : Cond.code yX10_putBack cX10_putBack 2 (some .int) ∈ ALL := inA 933 (by decide +kernel) (by decide +kernel)
theorem a_935 : Cond.methodLink RX10 231 yX10_carryOut ∈ ALL := inA 935 (by decide +kernel) (by decide +kernel)
theorem a_937 : Cond.instanceMethod yX10_carryOut ∈ ALL := inA 937 (by decide +kernel) (by decide +kernel)
theorem a_938 : Cond.code yX10_carryOut cX10_carryOut 3 none ∈ ALL := inA 938 (by decide +kernel) (by decide +kernel)
theorem a_939 : Cond.methodLink RX10 276 yX6_remember ∈ ALL := inA 939 (by decide +kernel) (by decide +kernel)
theorem a_940 : Cond.instanceMethod yX6_remember ∈ ALL := inA 940 (by decide +kernel) (by decide +kernel)
theorem a_941 : Cond.selects RX6 yX6_remember yX6_remember ∈ ALL := inA 941 (by decide +kernel) (by decide +kernel)
theorem a_942 : Cond.code yX6_remember cX6_remember 3 none ∈ ALL := inA 942 (by decide +kernel) (by decide +kernel)
theorem a_943 : Cond.methodLink RX6 34 yX6_forgetOldest ∈ ALL := inA 943 (by decide +kernel) (by decide +kernel)
theorem a_945 : Cond.instanceMethod yX6_forgetOldest ∈ ALL := inA 945 (by decide +kernel) (by decide +kernel)
theorem a_946 : Cond.code yX6_forgetOldest cX6_forgetOldest 2 none ∈ ALL := inA 946 (by decide +kernel) (by decide +kernel)
theorem a_947 : Cond.methodLink RX6 37 yX4_takeOver ∈ ALL := inA 947 (by decide +kernel) (by decide +kernel)
theorem a_948 : Cond.methodLink RX10 279 yJ9_min_7cf53 ∈ ALL := inA 948 (by decide +kernel) (by decide +kernel)
theorem a_949 : Cond.methodLink RL 165 yL_undo ∈ ALL := inA 949 (by decide +kernel) (by decide +kernel)
theorem a_950 : Cond.static yL_undo ∈ ALL := inA 950 (by decide +kernel) (by decide +kernel)
theorem a_951 : Cond.codeWith ({ cls := "LensbenchLaw", name := "undo", desc := "(LLensbench;[J)I" } : Jvm.MethodName) method_24_code (3 : Nat) (Option.some Jvm.ClassFile.FieldType.int) [((0 : Nat), (8 : Nat), (11 : Nat), (15 : Nat))] ∈ ALL := inA 951 (by decide +kernel) (by decide +kernel)
theorem a_952 : Cond.methodLink RL 85 yX10_undo ∈ ALL := inA 952 (by decide +kernel) (by decide +kernel)
theorem a_953 : Cond.instanceMethod yX10_undo ∈ ALL := inA 953 (by decide +kernel) (by decide +kernel)
theorem a_954 : Cond.selects RX10 yX10_undo yX10_undo ∈ ALL := inA 954 (by decide +kernel) (by decide +kernel)
theorem a_955 : Cond.code yX10_undo cX10_undo 3 (some .int) ∈ ALL := inA 955 (by decide +kernel) (by decide +kernel)
theorem a_957 : Cond.methodLink RX10 239 yX6_recall ∈ ALL := inA 957 (by decide +kernel) (by decide +kernel)
theorem a_958 : Cond.instanceMethod yX6_recall ∈ ALL := inA 958 (by decide +kernel) (by decide +kernel)
theorem a_959 : Cond.selects RX6 yX6_recall yX6_recall ∈ ALL := inA 959 (by decide +kernel) (by decide +kernel)
theorem a_960 : Cond.code yX6_recall cX6_recall 2 none ∈ ALL := inA 960 (by decide +kernel) (by decide +kernel)
theorem a_961 : Cond.classLink RL 89 RX11 ∈ ALL := inA 961 (by decide +kernel) (by decide +kernel)
theorem a_962 : Cond.instantiable RX11 36 ∈ ALL := inA 962 (by decide +kernel) (by decide +kernel)
theorem a_963 : Cond.methodLink RL 91 yX11_init ∈ ALL := inA 963 (by decide +kernel) (by decide +kernel)
theorem a_964 : Cond.instanceMethod yX11_init ∈ ALL := inA 964 (by decide +kernel) (by decide +kernel)
theorem a_965 : Cond.code yX11_init cX11_init 1 none ∈ ALL := inA 965 (by decide +kernel) (by decide +kernel)
theorem a_966 : Cond.methodLink RX11 1 ⟨"java/lang/Object", "<init>", "()V"⟩ ∈ ALL := inA 966 (by decide +kernel) (by decide +kernel)
theorem a_967 : Cond.constant RX11 7 (100000) ∈ ALL := inA 967 (by decide +kernel) (by decide +kernel)
theorem a_968 : Cond.fieldLink RX11 87 "LensbenchModel" "thrown" "I" ∈ ALL := inA 968 (by decide +kernel) (by decide +kernel)
theorem a_969 : Cond.fieldLink RX11 8 "LensbenchModel" "power" "[I" ∈ ALL := inA 969 (by decide +kernel) (by decide +kernel)
theorem a_970 : Cond.fieldLink RX11 103 "LensbenchModel" "tables" "I" ∈ ALL := inA 970 (by decide +kernel) (by decide +kernel)
theorem a_971 : Cond.fieldLink RX11 14 "LensbenchModel" "columnsOf" "[I" ∈ ALL := inA 971 (by decide +kernel) (by decide +kernel)
theorem a_972 : Cond.fieldLink RX11 17 "LensbenchModel" "keyOf" "[I" ∈ ALL := inA 972 (by decide +kernel) (by decide +kernel)
theorem a_973 : Cond.fieldLink RX11 20 "LensbenchModel" "many" "[I" ∈ ALL := inA 973 (by decide +kernel) (by decide +kernel)
theorem a_974 : Cond.fieldLink RX11 23 "LensbenchModel" "rows" "[I" ∈ ALL := inA 974 (by decide +kernel) (by decide +kernel)
theorem a_975 : Cond.fieldLink RX11 128 "LensbenchModel" "views" "I" ∈ ALL := inA 975 (by decide +kernel) (by decide +kernel)
theorem a_976 : Cond.fieldLink RX11 26 "LensbenchModel" "kind" "[I" ∈ ALL := inA 976 (by decide +kernel) (by decide +kernel)
theorem a_977 : Cond.fieldLink RX11 29 "LensbenchModel" "left" "[I" ∈ ALL := inA 977 (by decide +kernel) (by decide +kernel)
theorem a_978 : Cond.fieldLink RX11 32 "LensbenchModel" "right" "[I" ∈ ALL := inA 978 (by decide +kernel) (by decide +kernel)
theorem a_979 : Cond.fieldLink RX11 35 "LensbenchModel" "column" "[I" ∈ ALL := inA 979 (by decide +kernel) (by decide +kernel)
theorem a_980 : Cond.fieldLink RX11 38 "LensbenchModel" "value" "[I" ∈ ALL := inA 980 (by decide +kernel) (by decide +kernel)
theorem a_981 : Cond.fieldLink RX11 41 "LensbenchModel" "isSame" "[Z" ∈ ALL := inA 981 (by decide +kernel) (by decide +kernel)
theorem a_982 : Cond.fieldLink RX11 45 "LensbenchModel" "columns" "[I" ∈ ALL := inA 982 (by decide +kernel) (by decide +kernel)
theorem a_983 : Cond.fieldLink RX11 48 "LensbenchModel" "key" "[I" ∈ ALL := inA 983 (by decide +kernel) (by decide +kernel)
theorem a_984 : Cond.fieldLink RX11 51 "LensbenchModel" "from" "[I" ∈ ALL := inA 984 (by decide +kernel) (by decide +kernel)
theorem a_985 : Cond.fieldLink RX11 54 "LensbenchModel" "has" "[I" ∈ ALL := inA 985 (by decide +kernel) (by decide +kernel)
theorem a_986 : Cond.fieldLink RX11 57 "LensbenchModel" "viewRow" "[I" ∈ ALL := inA 986 (by decide +kernel) (by decide +kernel)
theorem a_987 : Cond.fieldLink RX11 60 "LensbenchModel" "puts" "[I" ∈ ALL := inA 987 (by decide +kernel) (by decide +kernel)
theorem a_988 : Cond.fieldLink RX11 63 "LensbenchModel" "putRow" "[I" ∈ ALL := inA 988 (by decide +kernel) (by decide +kernel)
theorem a_989 : Cond.fieldLink RX11 161 "LensbenchModel" "isOpen" "Z" ∈ ALL := inA 989 (by decide +kernel) (by decide +kernel)
theorem a_990 : Cond.fieldLink RX11 165 "LensbenchModel" "view" "I" ∈ ALL := inA 990 (by decide +kernel) (by decide +kernel)
theorem a_991 : Cond.fieldLink RX11 168 "LensbenchModel" "drafted" "I" ∈ ALL := inA 991 (by decide +kernel) (by decide +kernel)
theorem a_992 : Cond.fieldLink RX11 66 "LensbenchModel" "draft" "[I" ∈ ALL := inA 992 (by decide +kernel) (by decide +kernel)
theorem a_993 : Cond.fieldLink RX11 171 "LensbenchModel" "conflict" "I" ∈ ALL := inA 993 (by decide +kernel) (by decide +kernel)
theorem a_994 : Cond.fieldLink RX11 174 "LensbenchModel" "first" "I" ∈ ALL := inA 994 (by decide +kernel) (by decide +kernel)
theorem a_995 : Cond.fieldLink RX11 177 "LensbenchModel" "second" "I" ∈ ALL := inA 995 (by decide +kernel) (by decide +kernel)
theorem a_996 : Cond.fieldLink RX11 69 "LensbenchModel" "newMany" "[I" ∈ ALL := inA 996 (by decide +kernel) (by decide +kernel)
theorem a_997 : Cond.fieldLink RX11 72 "LensbenchModel" "newRow" "[I" ∈ ALL := inA 997 (by decide +kernel) (by decide +kernel)
theorem a_998 : Cond.fieldLink RX11 197 "LensbenchModel" "waiting" "I" ∈ ALL := inA 998 (by decide +kernel) (by decide +kernel)
theorem a_999 : Cond.fieldLink RX11 75 "LensbenchModel" "waits" "[I" ∈ ALL := inA 999 (by decide +kernel) (by decide +kernel)
theorem a_1000 : Cond.fieldLink RX11 254 "LensbenchModel" "undos" "I" ∈ ALL := inA 1000 (by decide +kernel) (by decide +kernel)
theorem a_1001 : Cond.fieldLink RX11 78 "LensbenchModel" "undoMany" "[I" ∈ ALL := inA 1001 (by decide +kernel) (by decide +kernel)
theorem a_1002 : Cond.fieldLink RX11 81 "LensbenchModel" "undoRow" "[I" ∈ ALL := inA 1002 (by decide +kernel) (by decide +kernel)
theorem a_1003 : Cond.fieldLink RX11 84 "LensbenchModel" "keptRow" "[I" ∈ ALL := inA 1003 (by decide +kernel) (by decide +kernel)
theorem a_1077 : Cond.arrayClass Jvm.ClassFile.FieldType.boolean ∈ ALL := inA 1077 (by decide +kernel) (by decide +kernel)
theorem a_1078 : Cond.methodLink RL 98 yX11_thrown ∈ ALL := inA 1078 (by decide +kernel) (by decide +kernel)
theorem a_1079 : Cond.instanceMethod yX11_thrown ∈ ALL := inA 1079 (by decide +kernel) (by decide +kernel)
theorem a_1080 : Cond.selects RX11 yX11_thrown yX11_thrown ∈ ALL := inA 1080 (by decide +kernel) (by decide +kernel)
theorem a_1081 : Cond.code yX11_thrown cX11_thrown 1 (some .int) ∈ ALL := inA 1081 (by decide +kernel) (by decide +kernel)
theorem a_1082 : Cond.methodLink RL 97 yX11_table ∈ ALL := inA 1082 (by decide +kernel) (by decide +kernel)
theorem a_1083 : Cond.instanceMethod yX11_table ∈ ALL := inA 1083 (by decide +kernel) (by decide +kernel)
theorem a_1084 : Cond.selects RX11 yX11_table yX11_table ∈ ALL := inA 1084 (by decide +kernel) (by decide +kernel)
theorem a_1085 : Cond.code yX11_table cX11_table 4 (some .int) ∈ ALL := inA 1085 (by decide +kernel) (by decide +kernel)
theorem a_1086 : Cond.methodLink RX11 96 yX11_in ∈ ALL := inA 1086 (by decide +kernel) (by decide +kernel)
theorem a_1087 : Cond.static yX11_in ∈ ALL := inA 1087 (by decide +kernel) (by decide +kernel)
theorem a_1088 : Cond.code yX11_in cX11_in 3 (some .boolean) ∈ ALL := inA 1088 (by decide +kernel) (by decide +kernel)
theorem a_1089 : Cond.methodLink RL 103 yX11_insert ∈ ALL := inA 1089 (by decide +kernel) (by decide +kernel)
theorem a_1090 : Cond.instanceMethod yX11_insert ∈ ALL := inA 1090 (by decide +kernel) (by decide +kernel)
theorem a_1091 : Cond.selects RX11 yX11_insert yX11_insert ∈ ALL := inA 1091 (by decide +kernel) (by decide +kernel)
theorem a_1092 : Cond.code yX11_insert cX11_insert 4 (some .int) ∈ ALL := inA 1092 (by decide +kernel) (by decide +kernel)
theorem a_1093 : Cond.methodLink RX11 106 yX11_isTable ∈ ALL := inA 1093 (by decide +kernel) (by decide +kernel)
theorem a_1095 : Cond.instanceMethod yX11_isTable ∈ ALL := inA 1095 (by decide +kernel) (by decide +kernel)
theorem a_1096 : Cond.code yX11_isTable cX11_isTable 2 (some .boolean) ∈ ALL := inA 1096 (by decide +kernel) (by decide +kernel)
theorem a_1097 : Cond.methodLink RX11 110 yX11_isRow ∈ ALL := inA 1097 (by decide +kernel) (by decide +kernel)
theorem a_1099 : Cond.instanceMethod yX11_isRow ∈ ALL := inA 1099 (by decide +kernel) (by decide +kernel)
theorem a_1100 : Cond.code yX11_isRow cX11_isRow 3 (some .boolean) ∈ ALL := inA 1100 (by decide +kernel) (by decide +kernel)
theorem a_1101 : Cond.constant RX11 95 (999999) ∈ ALL := inA 1101 (by decide +kernel) (by decide +kernel)
theorem a_1102 : Cond.methodLink RX11 100 yX11_part ∈ ALL := inA 1102 (by decide +kernel) (by decide +kernel)
theorem a_1104 : Cond.instanceMethod yX11_part ∈ ALL := inA 1104 (by decide +kernel) (by decide +kernel)
theorem a_1105 : Cond.code yX11_part cX11_part 5 (some .int) ∈ ALL := inA 1105 (by decide +kernel) (by decide +kernel)
theorem a_1106 : Cond.methodLink RX11 91 yX11_digit ∈ ALL := inA 1106 (by decide +kernel) (by decide +kernel)
theorem a_1108 : Cond.instanceMethod yX11_digit ∈ ALL := inA 1108 (by decide +kernel) (by decide +kernel)
theorem a_1109 : Cond.code yX11_digit cX11_digit 3 (some .int) ∈ ALL := inA 1109 (by decide +kernel) (by decide +kernel)
theorem a_1110 : Cond.methodLink RX11 114 yX11_rowWith ∈ ALL := inA 1110 (by decide +kernel) (by decide +kernel)
theorem a_1112 : Cond.instanceMethod yX11_rowWith ∈ ALL := inA 1112 (by decide +kernel) (by decide +kernel)
theorem a_1113 : Cond.code yX11_rowWith cX11_rowWith 8 (some .int) ∈ ALL := inA 1113 (by decide +kernel) (by decide +kernel)
theorem a_1114 : Cond.methodLink RX11 118 yX11_lays ∈ ALL := inA 1114 (by decide +kernel) (by decide +kernel)
theorem a_1115 : Cond.static yX11_lays ∈ ALL := inA 1115 (by decide +kernel) (by decide +kernel)
theorem a_1116 : Cond.code yX11_lays cX11_lays 6 (some .int) ∈ ALL := inA 1116 (by decide +kernel) (by decide +kernel)
theorem a_1117 : Cond.methodLink RL 106 yX11_delete ∈ ALL := inA 1117 (by decide +kernel) (by decide +kernel)
theorem a_1118 : Cond.instanceMethod yX11_delete ∈ ALL := inA 1118 (by decide +kernel) (by decide +kernel)
theorem a_1119 : Cond.selects RX11 yX11_delete yX11_delete ∈ ALL := inA 1119 (by decide +kernel) (by decide +kernel)
theorem a_1120 : Cond.code yX11_delete cX11_delete 3 (some .int) ∈ ALL := inA 1120 (by decide +kernel) (by decide +kernel)
theorem a_1121 : Cond.methodLink RX11 122 yX11_placeOf ∈ ALL := inA 1121 (by decide +kernel) (by decide +kernel)
theorem a_1122 : Cond.static yX11_placeOf ∈ ALL := inA 1122 (by decide +kernel) (by decide +kernel)
theorem a_1123 : Cond.code yX11_placeOf cX11_placeOf 6 (some .int) ∈ ALL := inA 1123 (by decide +kernel) (by decide +kernel)
theorem a_1124 : Cond.methodLink RX11 125 yX11_takes ∈ ALL := inA 1124 (by decide +kernel) (by decide +kernel)
theorem a_1125 : Cond.static yX11_takes ∈ ALL := inA 1125 (by decide +kernel) (by decide +kernel)
theorem a_1126 : Cond.code yX11_takes cX11_takes 5 (some .int) ∈ ALL := inA 1126 (by decide +kernel) (by decide +kernel)
theorem a_1127 : Cond.methodLink RL 110 yX11_of ∈ ALL := inA 1127 (by decide +kernel) (by decide +kernel)
theorem a_1128 : Cond.instanceMethod yX11_of ∈ ALL := inA 1128 (by decide +kernel) (by decide +kernel)
theorem a_1129 : Cond.selects RX11 yX11_of yX11_of ∈ ALL := inA 1129 (by decide +kernel) (by decide +kernel)
theorem a_1130 : Cond.code yX11_of cX11_of 2 (some .int) ∈ ALL := inA 1130 (by decide +kernel) (by decide +kernel)
theorem a_1131 : Cond.methodLink RX11 131 yX11_makes ∈ ALL := inA 1131 (by decide +kernel) (by decide +kernel)
theorem a_1133 : Cond.instanceMethod yX11_makes ∈ ALL := inA 1133 (by decide +kernel) (by decide +kernel)
theorem a_1134 : Cond.code yX11_makes cX11_makes 6 (some .int) ∈ ALL := inA 1134 (by decide +kernel) (by decide +kernel)
theorem a_1135 : Cond.methodLink RL 114 yX11_select ∈ ALL := inA 1135 (by decide +kernel) (by decide +kernel)
theorem a_1136 : Cond.instanceMethod yX11_select ∈ ALL := inA 1136 (by decide +kernel) (by decide +kernel)
theorem a_1137 : Cond.selects RX11 yX11_select yX11_select ∈ ALL := inA 1137 (by decide +kernel) (by decide +kernel)
theorem a_1138 : Cond.code yX11_select cX11_select 5 (some .int) ∈ ALL := inA 1138 (by decide +kernel) (by decide +kernel)
theorem a_1139 : Cond.methodLink RX11 135 yX11_isView ∈ ALL := inA 1139 (by decide +kernel) (by decide +kernel)
theorem a_1141 : Cond.instanceMethod yX11_isView ∈ ALL := inA 1141 (by decide +kernel) (by decide +kernel)
theorem a_1142 : Cond.code yX11_isView cX11_isView 2 (some .boolean) ∈ ALL := inA 1142 (by decide +kernel) (by decide +kernel)
theorem a_1143 : Cond.methodLink RX11 138 yX11_isOf ∈ ALL := inA 1143 (by decide +kernel) (by decide +kernel)
theorem a_1144 : Cond.static yX11_isOf ∈ ALL := inA 1144 (by decide +kernel) (by decide +kernel)
theorem a_1145 : Cond.code yX11_isOf cX11_isOf 2 (some .boolean) ∈ ALL := inA 1145 (by decide +kernel) (by decide +kernel)
theorem a_1146 : Cond.methodLink RL 118 yX11_drop ∈ ALL := inA 1146 (by decide +kernel) (by decide +kernel)
theorem a_1147 : Cond.instanceMethod yX11_drop ∈ ALL := inA 1147 (by decide +kernel) (by decide +kernel)
theorem a_1148 : Cond.selects RX11 yX11_drop yX11_drop ∈ ALL := inA 1148 (by decide +kernel) (by decide +kernel)
theorem a_1149 : Cond.code yX11_drop cX11_drop 4 (some .int) ∈ ALL := inA 1149 (by decide +kernel) (by decide +kernel)
theorem a_1150 : Cond.methodLink RL 121 yX11_join ∈ ALL := inA 1150 (by decide +kernel) (by decide +kernel)
theorem a_1151 : Cond.instanceMethod yX11_join ∈ ALL := inA 1151 (by decide +kernel) (by decide +kernel)
theorem a_1152 : Cond.selects RX11 yX11_join yX11_join ∈ ALL := inA 1152 (by decide +kernel) (by decide +kernel)
theorem a_1153 : Cond.code yX11_join cX11_join 4 (some .int) ∈ ALL := inA 1153 (by decide +kernel) (by decide +kernel)
theorem a_1154 : Cond.methodLink RL 124 yX11_columns ∈ ALL := inA 1154 (by decide +kernel) (by decide +kernel)
theorem a_1155 : Cond.instanceMethod yX11_columns ∈ ALL := inA 1155 (by decide +kernel) (by decide +kernel)
theorem a_1156 : Cond.selects RX11 yX11_columns yX11_columns ∈ ALL := inA 1156 (by decide +kernel) (by decide +kernel)
theorem a_1157 : Cond.code yX11_columns cX11_columns 2 (some .int) ∈ ALL := inA 1157 (by decide +kernel) (by decide +kernel)
theorem a_1158 : Cond.methodLink RX11 155 yX11_asksView ∈ ALL := inA 1158 (by decide +kernel) (by decide +kernel)
theorem a_1160 : Cond.instanceMethod yX11_asksView ∈ ALL := inA 1160 (by decide +kernel) (by decide +kernel)
theorem a_1161 : Cond.code yX11_asksView cX11_asksView 2 (some .boolean) ∈ ALL := inA 1161 (by decide +kernel) (by decide +kernel)
theorem a_1162 : Cond.methodLink RL 127 yX11_key ∈ ALL := inA 1162 (by decide +kernel) (by decide +kernel)
theorem a_1163 : Cond.instanceMethod yX11_key ∈ ALL := inA 1163 (by decide +kernel) (by decide +kernel)
theorem a_1164 : Cond.selects RX11 yX11_key yX11_key ∈ ALL := inA 1164 (by decide +kernel) (by decide +kernel)
theorem a_1165 : Cond.code yX11_key cX11_key 2 (some .int) ∈ ALL := inA 1165 (by decide +kernel) (by decide +kernel)
theorem a_1166 : Cond.methodLink RL 130 yX11_rows ∈ ALL := inA 1166 (by decide +kernel) (by decide +kernel)
theorem a_1167 : Cond.instanceMethod yX11_rows ∈ ALL := inA 1167 (by decide +kernel) (by decide +kernel)
theorem a_1168 : Cond.selects RX11 yX11_rows yX11_rows ∈ ALL := inA 1168 (by decide +kernel) (by decide +kernel)
theorem a_1169 : Cond.code yX11_rows cX11_rows 2 (some .int) ∈ ALL := inA 1169 (by decide +kernel) (by decide +kernel)
theorem a_1170 : Cond.methodLink RX11 158 yX11_laysViews ∈ ALL := inA 1170 (by decide +kernel) (by decide +kernel)
theorem a_1172 : Cond.instanceMethod yX11_laysViews ∈ ALL := inA 1172 (by decide +kernel) (by decide +kernel)
theorem a_1173 : Cond.code yX11_laysViews cX11_laysViews 4 none ∈ ALL := inA 1173 (by decide +kernel) (by decide +kernel)
theorem a_1174 : Cond.methodLink RX11 152 yX11_laysRow ∈ ALL := inA 1174 (by decide +kernel) (by decide +kernel)
theorem a_1176 : Cond.instanceMethod yX11_laysRow ∈ ALL := inA 1176 (by decide +kernel) (by decide +kernel)
theorem a_1177 : Cond.code yX11_laysRow cX11_laysRow 3 none ∈ ALL := inA 1177 (by decide +kernel) (by decide +kernel)
theorem a_1178 : Cond.methodLink RX11 145 yX11_joins ∈ ALL := inA 1178 (by decide +kernel) (by decide +kernel)
theorem a_1180 : Cond.instanceMethod yX11_joins ∈ ALL := inA 1180 (by decide +kernel) (by decide +kernel)
theorem a_1181 : Cond.code yX11_joins cX11_joins 6 none ∈ ALL := inA 1181 (by decide +kernel) (by decide +kernel)
theorem a_1182 : Cond.methodLink RX11 141 yX11_both ∈ ALL := inA 1182 (by decide +kernel) (by decide +kernel)
theorem a_1184 : Cond.instanceMethod yX11_both ∈ ALL := inA 1184 (by decide +kernel) (by decide +kernel)
theorem a_1185 : Cond.code yX11_both cX11_both 2 (some .int) ∈ ALL := inA 1185 (by decide +kernel) (by decide +kernel)
theorem a_1186 : Cond.methodLink RX11 149 yX11_isSelected ∈ ALL := inA 1186 (by decide +kernel) (by decide +kernel)
theorem a_1188 : Cond.instanceMethod yX11_isSelected ∈ ALL := inA 1188 (by decide +kernel) (by decide +kernel)
theorem a_1189 : Cond.code yX11_isSelected cX11_isSelected 3 (some .boolean) ∈ ALL := inA 1189 (by decide +kernel) (by decide +kernel)
theorem a_1190 : Cond.methodLink RL 133 yX11_row ∈ ALL := inA 1190 (by decide +kernel) (by decide +kernel)
theorem a_1191 : Cond.instanceMethod yX11_row ∈ ALL := inA 1191 (by decide +kernel) (by decide +kernel)
theorem a_1192 : Cond.selects RX11 yX11_row yX11_row ∈ ALL := inA 1192 (by decide +kernel) (by decide +kernel)
theorem a_1193 : Cond.code yX11_row cX11_row 3 (some .int) ∈ ALL := inA 1193 (by decide +kernel) (by decide +kernel)
theorem a_1194 : Cond.methodLink RL 136 yX11_open ∈ ALL := inA 1194 (by decide +kernel) (by decide +kernel)
theorem a_1195 : Cond.instanceMethod yX11_open ∈ ALL := inA 1195 (by decide +kernel) (by decide +kernel)
theorem a_1196 : Cond.selects RX11 yX11_open yX11_open ∈ ALL := inA 1196 (by decide +kernel) (by decide +kernel)
theorem a_1197 : Cond.code yX11_open cX11_open 3 (some .int) ∈ ALL := inA 1197 (by decide +kernel) (by decide +kernel)
theorem a_1198 : Cond.methodLink RL 139 yX11_add ∈ ALL := inA 1198 (by decide +kernel) (by decide +kernel)
theorem a_1199 : Cond.instanceMethod yX11_add ∈ ALL := inA 1199 (by decide +kernel) (by decide +kernel)
theorem a_1200 : Cond.selects RX11 yX11_add yX11_add ∈ ALL := inA 1200 (by decide +kernel) (by decide +kernel)
theorem a_1201 : Cond.code yX11_add cX11_add 2 (some .int) ∈ ALL := inA 1201 (by decide +kernel) (by decide +kernel)
theorem a_1202 : Cond.methodLink RL 142 yX11_takeOut ∈ ALL := inA 1202 (by decide +kernel) (by decide +kernel)
theorem a_1203 : Cond.instanceMethod yX11_takeOut ∈ ALL := inA 1203 (by decide +kernel) (by decide +kernel)
theorem a_1204 : Cond.selects RX11 yX11_takeOut yX11_takeOut ∈ ALL := inA 1204 (by decide +kernel) (by decide +kernel)
theorem a_1205 : Cond.code yX11_takeOut cX11_takeOut 2 (some .int) ∈ ALL := inA 1205 (by decide +kernel) (by decide +kernel)
theorem a_1206 : Cond.methodLink RL 145 yX11_change ∈ ALL := inA 1206 (by decide +kernel) (by decide +kernel)
theorem a_1207 : Cond.instanceMethod yX11_change ∈ ALL := inA 1207 (by decide +kernel) (by decide +kernel)
theorem a_1208 : Cond.selects RX11 yX11_change yX11_change ∈ ALL := inA 1208 (by decide +kernel) (by decide +kernel)
theorem a_1209 : Cond.code yX11_change cX11_change 5 (some .int) ∈ ALL := inA 1209 (by decide +kernel) (by decide +kernel)
theorem a_1210 : Cond.methodLink RL 148 yX11_draftRow ∈ ALL := inA 1210 (by decide +kernel) (by decide +kernel)
theorem a_1211 : Cond.instanceMethod yX11_draftRow ∈ ALL := inA 1211 (by decide +kernel) (by decide +kernel)
theorem a_1212 : Cond.selects RX11 yX11_draftRow yX11_draftRow ∈ ALL := inA 1212 (by decide +kernel) (by decide +kernel)
theorem a_1213 : Cond.code yX11_draftRow cX11_draftRow 2 (some .int) ∈ ALL := inA 1213 (by decide +kernel) (by decide +kernel)
theorem a_1214 : Cond.methodLink RL 152 yX11_conflict ∈ ALL := inA 1214 (by decide +kernel) (by decide +kernel)
theorem a_1215 : Cond.instanceMethod yX11_conflict ∈ ALL := inA 1215 (by decide +kernel) (by decide +kernel)
theorem a_1216 : Cond.selects RX11 yX11_conflict yX11_conflict ∈ ALL := inA 1216 (by decide +kernel) (by decide +kernel)
theorem a_1217 : Cond.code yX11_conflict cX11_conflict 1 (some .int) ∈ ALL := inA 1217 (by decide +kernel) (by decide +kernel)
theorem a_1218 : Cond.methodLink RX11 222 yX11_asksDraft ∈ ALL := inA 1218 (by decide +kernel) (by decide +kernel)
theorem a_1220 : Cond.instanceMethod yX11_asksDraft ∈ ALL := inA 1220 (by decide +kernel) (by decide +kernel)
theorem a_1221 : Cond.code yX11_asksDraft cX11_asksDraft 1 (some .boolean) ∈ ALL := inA 1221 (by decide +kernel) (by decide +kernel)
theorem a_1222 : Cond.methodLink RX11 226 yX11_goes ∈ ALL := inA 1222 (by decide +kernel) (by decide +kernel)
theorem a_1224 : Cond.instanceMethod yX11_goes ∈ ALL := inA 1224 (by decide +kernel) (by decide +kernel)
theorem a_1225 : Cond.code yX11_goes cX11_goes 3 none ∈ ALL := inA 1225 (by decide +kernel) (by decide +kernel)
theorem a_1226 : Cond.methodLink RX11 191 yX11_putsRow ∈ ALL := inA 1226 (by decide +kernel) (by decide +kernel)
theorem a_1228 : Cond.instanceMethod yX11_putsRow ∈ ALL := inA 1228 (by decide +kernel) (by decide +kernel)
theorem a_1229 : Cond.code yX11_putsRow cX11_putsRow 3 none ∈ ALL := inA 1229 (by decide +kernel) (by decide +kernel)
theorem a_1230 : Cond.methodLink RX11 200 yX11_comes ∈ ALL := inA 1230 (by decide +kernel) (by decide +kernel)
theorem a_1232 : Cond.instanceMethod yX11_comes ∈ ALL := inA 1232 (by decide +kernel) (by decide +kernel)
theorem a_1233 : Cond.code yX11_comes cX11_comes 2 none ∈ ALL := inA 1233 (by decide +kernel) (by decide +kernel)
theorem a_1234 : Cond.methodLink RX11 204 yX11_looks ∈ ALL := inA 1234 (by decide +kernel) (by decide +kernel)
theorem a_1236 : Cond.instanceMethod yX11_looks ∈ ALL := inA 1236 (by decide +kernel) (by decide +kernel)
theorem a_1237 : Cond.code yX11_looks cX11_looks 3 none ∈ ALL := inA 1237 (by decide +kernel) (by decide +kernel)
theorem a_1238 : Cond.methodLink RX11 188 yX11_looksForTwo ∈ ALL := inA 1238 (by decide +kernel) (by decide +kernel)
theorem a_1240 : Cond.instanceMethod yX11_looksForTwo ∈ ALL := inA 1240 (by decide +kernel) (by decide +kernel)
theorem a_1241 : Cond.code yX11_looksForTwo cX11_looksForTwo 7 none ∈ ALL := inA 1241 (by decide +kernel) (by decide +kernel)
theorem a_1242 : Cond.methodLink RX11 180 yX11_areAgainst ∈ ALL := inA 1242 (by decide +kernel) (by decide +kernel)
theorem a_1244 : Cond.instanceMethod yX11_areAgainst ∈ ALL := inA 1244 (by decide +kernel) (by decide +kernel)
theorem a_1245 : Cond.code yX11_areAgainst cX11_areAgainst 6 (some .boolean) ∈ ALL := inA 1245 (by decide +kernel) (by decide +kernel)
theorem a_1246 : Cond.methodLink RX11 184 yX11_tells ∈ ALL := inA 1246 (by decide +kernel) (by decide +kernel)
theorem a_1248 : Cond.instanceMethod yX11_tells ∈ ALL := inA 1248 (by decide +kernel) (by decide +kernel)
theorem a_1249 : Cond.code yX11_tells cX11_tells 5 none ∈ ALL := inA 1249 (by decide +kernel) (by decide +kernel)
theorem a_1250 : Cond.methodLink RX11 207 yX11_goesBelow ∈ ALL := inA 1250 (by decide +kernel) (by decide +kernel)
theorem a_1252 : Cond.instanceMethod yX11_goesBelow ∈ ALL := inA 1252 (by decide +kernel) (by decide +kernel)
theorem a_1253 : Cond.code yX11_goesBelow cX11_goesBelow 2 none ∈ ALL := inA 1253 (by decide +kernel) (by decide +kernel)
theorem a_1254 : Cond.methodLink RX11 210 yX11_putsTable ∈ ALL := inA 1254 (by decide +kernel) (by decide +kernel)
theorem a_1256 : Cond.instanceMethod yX11_putsTable ∈ ALL := inA 1256 (by decide +kernel) (by decide +kernel)
theorem a_1257 : Cond.code yX11_putsTable cX11_putsTable 4 none ∈ ALL := inA 1257 (by decide +kernel) (by decide +kernel)
theorem a_1258 : Cond.methodLink RX11 213 yX11_putsRight ∈ ALL := inA 1258 (by decide +kernel) (by decide +kernel)
theorem a_1260 : Cond.instanceMethod yX11_putsRight ∈ ALL := inA 1260 (by decide +kernel) (by decide +kernel)
theorem a_1261 : Cond.code yX11_putsRight cX11_putsRight 7 none ∈ ALL := inA 1261 (by decide +kernel) (by decide +kernel)
theorem a_1262 : Cond.methodLink RX11 216 yX11_putsLeft ∈ ALL := inA 1262 (by decide +kernel) (by decide +kernel)
theorem a_1264 : Cond.instanceMethod yX11_putsLeft ∈ ALL := inA 1264 (by decide +kernel) (by decide +kernel)
theorem a_1265 : Cond.code yX11_putsLeft cX11_putsLeft 7 none ∈ ALL := inA 1265 (by decide +kernel) (by decide +kernel)
theorem a_1266 : Cond.methodLink RX11 194 yX11_isFree ∈ ALL := inA 1266 (by decide +kernel) (by decide +kernel)
theorem a_1268 : Cond.instanceMethod yX11_isFree ∈ ALL := inA 1268 (by decide +kernel) (by decide +kernel)
theorem a_1269 : Cond.code yX11_isFree cX11_isFree 3 (some .boolean) ∈ ALL := inA 1269 (by decide +kernel) (by decide +kernel)
theorem a_1270 : Cond.methodLink RX11 219 yX11_putsOne ∈ ALL := inA 1270 (by decide +kernel) (by decide +kernel)
theorem a_1272 : Cond.instanceMethod yX11_putsOne ∈ ALL := inA 1272 (by decide +kernel) (by decide +kernel)
theorem a_1273 : Cond.code yX11_putsOne cX11_putsOne 6 none ∈ ALL := inA 1273 (by decide +kernel) (by decide +kernel)
theorem a_1274 : Cond.methodLink RL 155 yX11_conflictRow ∈ ALL := inA 1274 (by decide +kernel) (by decide +kernel)
theorem a_1275 : Cond.instanceMethod yX11_conflictRow ∈ ALL := inA 1275 (by decide +kernel) (by decide +kernel)
theorem a_1276 : Cond.selects RX11 yX11_conflictRow yX11_conflictRow ∈ ALL := inA 1276 (by decide +kernel) (by decide +kernel)
theorem a_1277 : Cond.code yX11_conflictRow cX11_conflictRow 2 (some .int) ∈ ALL := inA 1277 (by decide +kernel) (by decide +kernel)
theorem a_1278 : Cond.methodLink RL 158 yX11_changes ∈ ALL := inA 1278 (by decide +kernel) (by decide +kernel)
theorem a_1279 : Cond.instanceMethod yX11_changes ∈ ALL := inA 1279 (by decide +kernel) (by decide +kernel)
theorem a_1280 : Cond.selects RX11 yX11_changes yX11_changes ∈ ALL := inA 1280 (by decide +kernel) (by decide +kernel)
theorem a_1281 : Cond.code yX11_changes cX11_changes 1 (some .int) ∈ ALL := inA 1281 (by decide +kernel) (by decide +kernel)
theorem a_1282 : Cond.methodLink RX11 229 yX11_manyChanges ∈ ALL := inA 1282 (by decide +kernel) (by decide +kernel)
theorem a_1284 : Cond.instanceMethod yX11_manyChanges ∈ ALL := inA 1284 (by decide +kernel) (by decide +kernel)
theorem a_1285 : Cond.code yX11_manyChanges cX11_manyChanges 4 (some .int) ∈ ALL := inA 1285 (by decide +kernel) (by decide +kernel)
theorem a_1286 : Cond.methodLink RL 161 yX11_fewest ∈ ALL := inA 1286 (by decide +kernel) (by decide +kernel)
theorem a_1287 : Cond.instanceMethod yX11_fewest ∈ ALL := inA 1287 (by decide +kernel) (by decide +kernel)
theorem a_1288 : Cond.selects RX11 yX11_fewest yX11_fewest ∈ ALL := inA 1288 (by decide +kernel) (by decide +kernel)
theorem a_1289 : Cond.code yX11_fewest cX11_fewest 6 (some .int) ∈ ALL := inA 1289 (by decide +kernel) (by decide +kernel)
theorem a_1290 : Cond.methodLink RX11 242 yX11_canTry ∈ ALL := inA 1290 (by decide +kernel) (by decide +kernel)
theorem a_1292 : Cond.instanceMethod yX11_canTry ∈ ALL := inA 1292 (by decide +kernel) (by decide +kernel)
theorem a_1293 : Cond.code yX11_canTry cX11_canTry 5 (some .boolean) ∈ ALL := inA 1293 (by decide +kernel) (by decide +kernel)
theorem a_1294 : Cond.methodLink RX11 233 yX11_tableOf ∈ ALL := inA 1294 (by decide +kernel) (by decide +kernel)
theorem a_1296 : Cond.instanceMethod yX11_tableOf ∈ ALL := inA 1296 (by decide +kernel) (by decide +kernel)
theorem a_1297 : Cond.code yX11_tableOf cX11_tableOf 2 (some .int) ∈ ALL := inA 1297 (by decide +kernel) (by decide +kernel)
theorem a_1298 : Cond.methodLink RX11 236 yX11_count ∈ ALL := inA 1298 (by decide +kernel) (by decide +kernel)
theorem a_1299 : Cond.static yX11_count ∈ ALL := inA 1299 (by decide +kernel) (by decide +kernel)
theorem a_1300 : Cond.code yX11_count cX11_count 3 (some .int) ∈ ALL := inA 1300 (by decide +kernel) (by decide +kernel)
theorem a_1301 : Cond.methodLink RX11 245 yX11_laysTable ∈ ALL := inA 1301 (by decide +kernel) (by decide +kernel)
theorem a_1303 : Cond.instanceMethod yX11_laysTable ∈ ALL := inA 1303 (by decide +kernel) (by decide +kernel)
theorem a_1304 : Cond.code yX11_laysTable cX11_laysTable 6 (some .boolean) ∈ ALL := inA 1304 (by decide +kernel) (by decide +kernel)
theorem a_1305 : Cond.methodLink RX11 239 yX11_rowBy ∈ ALL := inA 1305 (by decide +kernel) (by decide +kernel)
theorem a_1307 : Cond.instanceMethod yX11_rowBy ∈ ALL := inA 1307 (by decide +kernel) (by decide +kernel)
theorem a_1308 : Cond.code yX11_rowBy cX11_rowBy 6 (some .int) ∈ ALL := inA 1308 (by decide +kernel) (by decide +kernel)
theorem a_1309 : Cond.methodLink RX11 248 yX11_isDraft ∈ ALL := inA 1309 (by decide +kernel) (by decide +kernel)
theorem a_1311 : Cond.instanceMethod yX11_isDraft ∈ ALL := inA 1311 (by decide +kernel) (by decide +kernel)
theorem a_1312 : Cond.code yX11_isDraft cX11_isDraft 3 (some .boolean) ∈ ALL := inA 1312 (by decide +kernel) (by decide +kernel)
theorem a_1313 : Cond.methodLink RX11 251 yX11_differs ∈ ALL := inA 1313 (by decide +kernel) (by decide +kernel)
theorem a_1315 : Cond.instanceMethod yX11_differs ∈ ALL := inA 1315 (by decide +kernel) (by decide +kernel)
theorem a_1316 : Cond.code yX11_differs cX11_differs 5 (some .int) ∈ ALL := inA 1316 (by decide +kernel) (by decide +kernel)
theorem a_1317 : Cond.methodLink RL 164 yX11_putBack ∈ ALL := inA 1317 (by decide +kernel) (by decide +kernel)
theorem a_1318 : Cond.instanceMethod yX11_putBack ∈ ALL := inA 1318 (by decide +kernel) (by decide +kernel)
theorem a_1319 : Cond.selects RX11 yX11_putBack yX11_putBack ∈ ALL := inA 1319 (by decide +kernel) (by decide +kernel)
theorem a_1320 : Cond.code yX11_putBack cX11_putBack 4 (some .int) ∈ ALL := inA 1320 (by decide +kernel) (by decide +kernel)
theorem a_1321 : Cond.methodLink RX11 257 yX11_keeps ∈ ALL := inA 1321 (by decide +kernel) (by decide +kernel)
theorem a_1323 : Cond.instanceMethod yX11_keeps ∈ ALL := inA 1323 (by decide +kernel) (by decide +kernel)
theorem a_1324 : Cond.code yX11_keeps cX11_keeps 2 none ∈ ALL := inA 1324 (by decide +kernel) (by decide +kernel)
theorem a_1325 : Cond.methodLink RL 167 yX11_undo ∈ ALL := inA 1325 (by decide +kernel) (by decide +kernel)
theorem a_1326 : Cond.instanceMethod yX11_undo ∈ ALL := inA 1326 (by decide +kernel) (by decide +kernel)
theorem a_1327 : Cond.selects RX11 yX11_undo yX11_undo ∈ ALL := inA 1327 (by decide +kernel) (by decide +kernel)
theorem a_1328 : Cond.code yX11_undo cX11_undo 2 (some .int) ∈ ALL := inA 1328 (by decide +kernel) (by decide +kernel)
theorem a_1329 : Cond.arrayClass Jvm.ClassFile.FieldType.long ∈ ALL := inA 1329 (by decide +kernel) (by decide +kernel)
theorem a_1330 : Cond.sameMethod "java/lang/Throwable" "java/lang/Throwable" "fillInStackTrace" "(I)Ljava/lang/Throwable;" ∈ ALL := inA 1330 (by decide +kernel) (by decide +kernel)
theorem a_1331 : Cond.castable RX10 "java/lang/Object" ∈ lw_tbl := List.mem_of_getElem? (i := 1331) (by decide +kernel)
theorem a_1332 : Cond.castable RX4 "java/lang/Object" ∈ lw_tbl := List.mem_of_getElem? (i := 1332) (by decide +kernel)
theorem a_1333 : Cond.castable RX0 "java/lang/Object" ∈ lw_tbl := List.mem_of_getElem? (i := 1333) (by decide +kernel)
theorem a_1334 : Cond.castable RX8 "java/lang/Object" ∈ lw_tbl := List.mem_of_getElem? (i := 1334) (by decide +kernel)
theorem a_1335 : Cond.castable RX11 "java/lang/Object" ∈ lw_tbl := List.mem_of_getElem? (i := 1335) (by decide +kernel)
theorem a_1336 : Cond.castable "java/lang/IllegalArgumentException" "java/lang/Object" ∈ lw_tbl := List.mem_of_getElem? (i := 1336) (by decide +kernel)
theorem a_1337 : Cond.castable "java/lang/IllegalStateException" "java/lang/Object" ∈ lw_tbl := List.mem_of_getElem? (i := 1337) (by decide +kernel)
theorem a_1338 : Cond.castable RX6 "java/lang/Object" ∈ lw_tbl := List.mem_of_getElem? (i := 1338) (by decide +kernel)
theorem a_1339 : Cond.castable "java/lang/IndexOutOfBoundsException" "java/lang/Object" ∈ lw_tbl := List.mem_of_getElem? (i := 1339) (by decide +kernel)
theorem a_1340 : Cond.castable "java/util/NoSuchElementException" "java/lang/Object" ∈ lw_tbl := List.mem_of_getElem? (i := 1340) (by decide +kernel)
theorem a_1341 : Cond.castable RX7 "java/lang/Object" ∈ lw_tbl := List.mem_of_getElem? (i := 1341) (by decide +kernel)
theorem a_1342 : Cond.castable RX5 "java/lang/Object" ∈ lw_tbl := List.mem_of_getElem? (i := 1342) (by decide +kernel)
theorem a_1343 : Cond.castable RX2 "java/lang/Object" ∈ lw_tbl := List.mem_of_getElem? (i := 1343) (by decide +kernel)
theorem a_1344 : Cond.castable RX3 "java/lang/Object" ∈ lw_tbl := List.mem_of_getElem? (i := 1344) (by decide +kernel)
theorem a_1345 : Cond.castable "java/lang/Throwable" "java/lang/Object" ∈ lw_tbl := List.mem_of_getElem? (i := 1345) (by decide +kernel)
theorem a_1346 : Cond.castable RJ0 "java/lang/Object" ∈ lw_tbl := List.mem_of_getElem? (i := 1346) (by decide +kernel)
theorem a_1347 : Cond.castable RX7 RX9 ∈ lw_tbl := List.mem_of_getElem? (i := 1347) (by decide +kernel)
theorem a_1348 : Cond.castable RX5 RX9 ∈ lw_tbl := List.mem_of_getElem? (i := 1348) (by decide +kernel)
theorem a_1349 : Cond.castable RX2 RX9 ∈ lw_tbl := List.mem_of_getElem? (i := 1349) (by decide +kernel)
theorem a_1350 : Cond.castable RX3 RX9 ∈ lw_tbl := List.mem_of_getElem? (i := 1350) (by decide +kernel)
end
section
theorem dX11_init_0 : decode cX11_init 0 = .ok (.aload_n 0, 1) := by decide +kernel
theorem dX11_init_1 : decode cX11_init 1 = .ok (.invokespecial 1, 3) := by decide +kernel
theorem dX11_init_4 : decode cX11_init 4 = .ok (.aload_n 0, 1) := by decide +kernel
theorem dX11_init_5 : decode cX11_init 5 = .ok (.bipush 6, 2) := by decide +kernel
theorem dX11_init_7 : decode cX11_init 7 = .ok (.newarray .int, 2) := by decide +kernel
theorem dX11_init_9 : decode cX11_init 9 = .ok (.dup, 1) := by decide +kernel
theorem dX11_init_10 : decode cX11_init 10 = .ok (.iconst 0, 1) := by decide +kernel
theorem dX11_init_11 : decode cX11_init 11 = .ok (.iconst 1, 1) := by decide +kernel
theorem dX11_init_12 : decode cX11_init 12 = .ok (.iastore, 1) := by decide +kernel
theorem dX11_init_13 : decode cX11_init 13 = .ok (.dup, 1) := by decide +kernel
theorem dX11_init_14 : decode cX11_init 14 = .ok (.iconst 1, 1) := by decide +kernel
theorem dX11_init_15 : decode cX11_init 15 = .ok (.bipush 10, 2) := by decide +kernel
theorem dX11_init_17 : decode cX11_init 17 = .ok (.iastore, 1) := by decide +kernel
theorem dX11_init_18 : decode cX11_init 18 = .ok (.dup, 1) := by decide +kernel
theorem dX11_init_19 : decode cX11_init 19 = .ok (.iconst 2, 1) := by decide +kernel
theorem dX11_init_20 : decode cX11_init 20 = .ok (.bipush 100, 2) := by decide +kernel
theorem dX11_init_22 : decode cX11_init 22 = .ok (.iastore, 1) := by decide +kernel
theorem dX11_init_23 : decode cX11_init 23 = .ok (.dup, 1) := by decide +kernel
theorem dX11_init_24 : decode cX11_init 24 = .ok (.iconst 3, 1) := by decide +kernel
theorem dX11_init_25 : decode cX11_init 25 = .ok (.sipush 1000, 3) := by decide +kernel
theorem dX11_init_28 : decode cX11_init 28 = .ok (.iastore, 1) := by decide +kernel
theorem dX11_init_29 : decode cX11_init 29 = .ok (.dup, 1) := by decide +kernel
theorem dX11_init_30 : decode cX11_init 30 = .ok (.iconst 4, 1) := by decide +kernel
theorem dX11_init_31 : decode cX11_init 31 = .ok (.sipush 10000, 3) := by decide +kernel
theorem dX11_init_34 : decode cX11_init 34 = .ok (.iastore, 1) := by decide +kernel
theorem dX11_init_35 : decode cX11_init 35 = .ok (.dup, 1) := by decide +kernel
theorem dX11_init_36 : decode cX11_init 36 = .ok (.iconst 5, 1) := by decide +kernel
theorem dX11_init_37 : decode cX11_init 37 = .ok (.ldc 7, 2) := by decide +kernel
theorem dX11_init_39 : decode cX11_init 39 = .ok (.iastore, 1) := by decide +kernel
theorem dX11_init_40 : decode cX11_init 40 = .ok (.putfield 8, 3) := by decide +kernel
theorem dX11_init_43 : decode cX11_init 43 = .ok (.aload_n 0, 1) := by decide +kernel
theorem dX11_init_44 : decode cX11_init 44 = .ok (.iconst 3, 1) := by decide +kernel
theorem dX11_init_45 : decode cX11_init 45 = .ok (.newarray .int, 2) := by decide +kernel
theorem dX11_init_47 : decode cX11_init 47 = .ok (.putfield 14, 3) := by decide +kernel
theorem dX11_init_50 : decode cX11_init 50 = .ok (.aload_n 0, 1) := by decide +kernel
theorem dX11_init_51 : decode cX11_init 51 = .ok (.iconst 3, 1) := by decide +kernel
theorem dX11_init_52 : decode cX11_init 52 = .ok (.newarray .int, 2) := by decide +kernel
theorem dX11_init_54 : decode cX11_init 54 = .ok (.putfield 17, 3) := by decide +kernel
theorem dX11_init_57 : decode cX11_init 57 = .ok (.aload_n 0, 1) := by decide +kernel
theorem dX11_init_58 : decode cX11_init 58 = .ok (.iconst 3, 1) := by decide +kernel
theorem dX11_init_59 : decode cX11_init 59 = .ok (.newarray .int, 2) := by decide +kernel
theorem dX11_init_61 : decode cX11_init 61 = .ok (.putfield 20, 3) := by decide +kernel
theorem dX11_init_64 : decode cX11_init 64 = .ok (.aload_n 0, 1) := by decide +kernel
theorem dX11_init_65 : decode cX11_init 65 = .ok (.bipush 36, 2) := by decide +kernel
theorem dX11_init_67 : decode cX11_init 67 = .ok (.newarray .int, 2) := by decide +kernel
theorem dX11_init_69 : decode cX11_init 69 = .ok (.putfield 23, 3) := by decide +kernel
theorem dX11_init_72 : decode cX11_init 72 = .ok (.aload_n 0, 1) := by decide +kernel
theorem dX11_init_73 : decode cX11_init 73 = .ok (.bipush 10, 2) := by decide +kernel
theorem dX11_init_75 : decode cX11_init 75 = .ok (.newarray .int, 2) := by decide +kernel
theorem dX11_init_77 : decode cX11_init 77 = .ok (.putfield 26, 3) := by decide +kernel
theorem dX11_init_80 : decode cX11_init 80 = .ok (.aload_n 0, 1) := by decide +kernel
theorem dX11_init_81 : decode cX11_init 81 = .ok (.bipush 10, 2) := by decide +kernel
theorem dX11_init_83 : decode cX11_init 83 = .ok (.newarray .int, 2) := by decide +kernel
theorem dX11_init_85 : decode cX11_init 85 = .ok (.putfield 29, 3) := by decide +kernel
theorem dX11_init_88 : decode cX11_init 88 = .ok (.aload_n 0, 1) := by decide +kernel
theorem dX11_init_89 : decode cX11_init 89 = .ok (.bipush 10, 2) := by decide +kernel
theorem dX11_init_91 : decode cX11_init 91 = .ok (.newarray .int, 2) := by decide +kernel
theorem dX11_init_93 : decode cX11_init 93 = .ok (.putfield 32, 3) := by decide +kernel
theorem dX11_init_96 : decode cX11_init 96 = .ok (.aload_n 0, 1) := by decide +kernel
theorem dX11_init_97 : decode cX11_init 97 = .ok (.bipush 10, 2) := by decide +kernel
theorem dX11_init_99 : decode cX11_init 99 = .ok (.newarray .int, 2) := by decide +kernel
theorem dX11_init_101 : decode cX11_init 101 = .ok (.putfield 35, 3) := by decide +kernel
theorem dX11_init_104 : decode cX11_init 104 = .ok (.aload_n 0, 1) := by decide +kernel
theorem dX11_init_105 : decode cX11_init 105 = .ok (.bipush 10, 2) := by decide +kernel
theorem dX11_init_107 : decode cX11_init 107 = .ok (.newarray .int, 2) := by decide +kernel
theorem dX11_init_109 : decode cX11_init 109 = .ok (.putfield 38, 3) := by decide +kernel
theorem dX11_init_112 : decode cX11_init 112 = .ok (.aload_n 0, 1) := by decide +kernel
theorem dX11_init_113 : decode cX11_init 113 = .ok (.bipush 10, 2) := by decide +kernel
theorem dX11_init_115 : decode cX11_init 115 = .ok (.newarray .boolean, 2) := by decide +kernel
theorem dX11_init_117 : decode cX11_init 117 = .ok (.putfield 41, 3) := by decide +kernel
theorem dX11_init_120 : decode cX11_init 120 = .ok (.aload_n 0, 1) := by decide +kernel
theorem dX11_init_121 : decode cX11_init 121 = .ok (.bipush 10, 2) := by decide +kernel
theorem dX11_init_123 : decode cX11_init 123 = .ok (.newarray .int, 2) := by decide +kernel
theorem dX11_init_125 : decode cX11_init 125 = .ok (.putfield 45, 3) := by decide +kernel
theorem dX11_init_128 : decode cX11_init 128 = .ok (.aload_n 0, 1) := by decide +kernel
theorem dX11_init_129 : decode cX11_init 129 = .ok (.bipush 10, 2) := by decide +kernel
theorem dX11_init_131 : decode cX11_init 131 = .ok (.newarray .int, 2) := by decide +kernel
theorem dX11_init_133 : decode cX11_init 133 = .ok (.putfield 48, 3) := by decide +kernel
theorem dX11_init_136 : decode cX11_init 136 = .ok (.aload_n 0, 1) := by decide +kernel
theorem dX11_init_137 : decode cX11_init 137 = .ok (.bipush 10, 2) := by decide +kernel
theorem dX11_init_139 : decode cX11_init 139 = .ok (.newarray .int, 2) := by decide +kernel
theorem dX11_init_141 : decode cX11_init 141 = .ok (.putfield 51, 3) := by decide +kernel
theorem dX11_init_144 : decode cX11_init 144 = .ok (.aload_n 0, 1) := by decide +kernel
theorem dX11_init_145 : decode cX11_init 145 = .ok (.bipush 10, 2) := by decide +kernel
theorem dX11_init_147 : decode cX11_init 147 = .ok (.newarray .int, 2) := by decide +kernel
theorem dX11_init_149 : decode cX11_init 149 = .ok (.putfield 54, 3) := by decide +kernel
theorem dX11_init_152 : decode cX11_init 152 = .ok (.aload_n 0, 1) := by decide +kernel
theorem dX11_init_153 : decode cX11_init 153 = .ok (.sipush 400, 3) := by decide +kernel
theorem dX11_init_156 : decode cX11_init 156 = .ok (.newarray .int, 2) := by decide +kernel
theorem dX11_init_158 : decode cX11_init 158 = .ok (.putfield 57, 3) := by decide +kernel
theorem dX11_init_161 : decode cX11_init 161 = .ok (.aload_n 0, 1) := by decide +kernel
theorem dX11_init_162 : decode cX11_init 162 = .ok (.bipush 10, 2) := by decide +kernel
theorem dX11_init_164 : decode cX11_init 164 = .ok (.newarray .int, 2) := by decide +kernel
theorem dX11_init_166 : decode cX11_init 166 = .ok (.putfield 60, 3) := by decide +kernel
theorem dX11_init_169 : decode cX11_init 169 = .ok (.aload_n 0, 1) := by decide +kernel
theorem dX11_init_170 : decode cX11_init 170 = .ok (.sipush 400, 3) := by decide +kernel
theorem dX11_init_173 : decode cX11_init 173 = .ok (.newarray .int, 2) := by decide +kernel
theorem dX11_init_175 : decode cX11_init 175 = .ok (.putfield 63, 3) := by decide +kernel
theorem dX11_init_178 : decode cX11_init 178 = .ok (.aload_n 0, 1) := by decide +kernel
theorem dX11_init_179 : decode cX11_init 179 = .ok (.bipush 20, 2) := by decide +kernel
theorem dX11_init_181 : decode cX11_init 181 = .ok (.newarray .int, 2) := by decide +kernel
theorem dX11_init_183 : decode cX11_init 183 = .ok (.putfield 66, 3) := by decide +kernel
theorem dX11_init_186 : decode cX11_init 186 = .ok (.aload_n 0, 1) := by decide +kernel
theorem dX11_init_187 : decode cX11_init 187 = .ok (.iconst 3, 1) := by decide +kernel
theorem dX11_init_188 : decode cX11_init 188 = .ok (.newarray .int, 2) := by decide +kernel
theorem dX11_init_190 : decode cX11_init 190 = .ok (.putfield 69, 3) := by decide +kernel
theorem dX11_init_193 : decode cX11_init 193 = .ok (.aload_n 0, 1) := by decide +kernel
theorem dX11_init_194 : decode cX11_init 194 = .ok (.bipush 36, 2) := by decide +kernel
theorem dX11_init_196 : decode cX11_init 196 = .ok (.newarray .int, 2) := by decide +kernel
theorem dX11_init_198 : decode cX11_init 198 = .ok (.putfield 72, 3) := by decide +kernel
theorem dX11_init_201 : decode cX11_init 201 = .ok (.aload_n 0, 1) := by decide +kernel
theorem dX11_init_202 : decode cX11_init 202 = .ok (.bipush 10, 2) := by decide +kernel
theorem dX11_init_204 : decode cX11_init 204 = .ok (.newarray .int, 2) := by decide +kernel
theorem dX11_init_206 : decode cX11_init 206 = .ok (.putfield 75, 3) := by decide +kernel
theorem dX11_init_209 : decode cX11_init 209 = .ok (.aload_n 0, 1) := by decide +kernel
theorem dX11_init_210 : decode cX11_init 210 = .ok (.bipush 15, 2) := by decide +kernel
theorem dX11_init_212 : decode cX11_init 212 = .ok (.newarray .int, 2) := by decide +kernel
theorem dX11_init_214 : decode cX11_init 214 = .ok (.putfield 78, 3) := by decide +kernel
theorem dX11_init_217 : decode cX11_init 217 = .ok (.aload_n 0, 1) := by decide +kernel
theorem dX11_init_218 : decode cX11_init 218 = .ok (.sipush 180, 3) := by decide +kernel
theorem dX11_init_221 : decode cX11_init 221 = .ok (.newarray .int, 2) := by decide +kernel
theorem dX11_init_223 : decode cX11_init 223 = .ok (.putfield 81, 3) := by decide +kernel
theorem dX11_init_226 : decode cX11_init 226 = .ok (.aload_n 0, 1) := by decide +kernel
theorem dX11_init_227 : decode cX11_init 227 = .ok (.bipush 12, 2) := by decide +kernel
theorem dX11_init_229 : decode cX11_init 229 = .ok (.newarray .int, 2) := by decide +kernel
theorem dX11_init_231 : decode cX11_init 231 = .ok (.putfield 84, 3) := by decide +kernel
theorem dX11_init_234 : decode cX11_init 234 = .ok (.return_, 1) := by decide +kernel
theorem dX11_thrown_0 : decode cX11_thrown 0 = .ok (.aload_n 0, 1) := by decide +kernel
theorem dX11_thrown_1 : decode cX11_thrown 1 = .ok (.getfield 87, 3) := by decide +kernel
theorem dX11_thrown_4 : decode cX11_thrown 4 = .ok (.ireturn, 1) := by decide +kernel
theorem dX11_in_0 : decode cX11_in 0 = .ok (.iload_n 0, 1) := by decide +kernel
theorem dX11_in_1 : decode cX11_in 1 = .ok (.iload_n 1, 1) := by decide +kernel
theorem dX11_in_2 : decode cX11_in 2 = .ok (.if_icmp .lt 12, 3) := by decide +kernel
theorem dX11_in_5 : decode cX11_in 5 = .ok (.iload_n 0, 1) := by decide +kernel
theorem dX11_in_6 : decode cX11_in 6 = .ok (.iload_n 2, 1) := by decide +kernel
theorem dX11_in_7 : decode cX11_in 7 = .ok (.if_icmp .gt 7, 3) := by decide +kernel
theorem dX11_in_10 : decode cX11_in 10 = .ok (.iconst 1, 1) := by decide +kernel
theorem dX11_in_11 : decode cX11_in 11 = .ok (.goto 4, 3) := by decide +kernel
theorem dX11_in_14 : decode cX11_in 14 = .ok (.iconst 0, 1) := by decide +kernel
theorem dX11_in_15 : decode cX11_in 15 = .ok (.ireturn, 1) := by decide +kernel
theorem dX11_digit_0 : decode cX11_digit 0 = .ok (.iload_n 1, 1) := by decide +kernel
theorem dX11_digit_1 : decode cX11_digit 1 = .ok (.aload_n 0, 1) := by decide +kernel
theorem dX11_digit_2 : decode cX11_digit 2 = .ok (.getfield 8, 3) := by decide +kernel
theorem dX11_digit_5 : decode cX11_digit 5 = .ok (.iload_n 2, 1) := by decide +kernel
theorem dX11_digit_6 : decode cX11_digit 6 = .ok (.iaload, 1) := by decide +kernel
theorem dX11_digit_7 : decode cX11_digit 7 = .ok (.idiv, 1) := by decide +kernel
theorem dX11_digit_8 : decode cX11_digit 8 = .ok (.bipush 10, 2) := by decide +kernel
theorem dX11_digit_10 : decode cX11_digit 10 = .ok (.irem, 1) := by decide +kernel
theorem dX11_digit_11 : decode cX11_digit 11 = .ok (.ireturn, 1) := by decide +kernel
theorem dX11_part_0 : decode cX11_part 0 = .ok (.iconst 0, 1) := by decide +kernel
theorem dX11_part_1 : decode cX11_part 1 = .ok (.istore_n 3, 1) := by decide +kernel
theorem dX11_part_2 : decode cX11_part 2 = .ok (.iconst 0, 1) := by decide +kernel
theorem dX11_part_3 : decode cX11_part 3 = .ok (.istore 4, 2) := by decide +kernel
theorem dX11_part_5 : decode cX11_part 5 = .ok (.iload 4, 2) := by decide +kernel
theorem dX11_part_7 : decode cX11_part 7 = .ok (.bipush 6, 2) := by decide +kernel
theorem dX11_part_9 : decode cX11_part 9 = .ok (.if_icmp .ge 41, 3) := by decide +kernel
theorem dX11_part_12 : decode cX11_part 12 = .ok (.iload_n 3, 1) := by decide +kernel
theorem dX11_part_13 : decode cX11_part 13 = .ok (.iload_n 2, 1) := by decide +kernel
theorem dX11_part_14 : decode cX11_part 14 = .ok (.iload 4, 2) := by decide +kernel
theorem dX11_part_16 : decode cX11_part 16 = .ok (.ishr, 1) := by decide +kernel
theorem dX11_part_17 : decode cX11_part 17 = .ok (.iconst 1, 1) := by decide +kernel
theorem dX11_part_18 : decode cX11_part 18 = .ok (.iand, 1) := by decide +kernel
theorem dX11_part_19 : decode cX11_part 19 = .ok (.iconst 1, 1) := by decide +kernel
theorem dX11_part_20 : decode cX11_part 20 = .ok (.if_icmp .ne 21, 3) := by decide +kernel
theorem dX11_part_23 : decode cX11_part 23 = .ok (.aload_n 0, 1) := by decide +kernel
theorem dX11_part_24 : decode cX11_part 24 = .ok (.iload_n 1, 1) := by decide +kernel
theorem dX11_part_25 : decode cX11_part 25 = .ok (.iload 4, 2) := by decide +kernel
theorem dX11_part_27 : decode cX11_part 27 = .ok (.invokevirtual 91, 3) := by decide +kernel
theorem dX11_part_30 : decode cX11_part 30 = .ok (.aload_n 0, 1) := by decide +kernel
theorem dX11_part_31 : decode cX11_part 31 = .ok (.getfield 8, 3) := by decide +kernel
theorem dX11_part_34 : decode cX11_part 34 = .ok (.iload 4, 2) := by decide +kernel
theorem dX11_part_36 : decode cX11_part 36 = .ok (.iaload, 1) := by decide +kernel
theorem dX11_part_37 : decode cX11_part 37 = .ok (.imul, 1) := by decide +kernel
theorem dX11_part_38 : decode cX11_part 38 = .ok (.goto 4, 3) := by decide +kernel
theorem dX11_part_41 : decode cX11_part 41 = .ok (.iconst 0, 1) := by decide +kernel
theorem dX11_part_42 : decode cX11_part 42 = .ok (.iadd, 1) := by decide +kernel
theorem dX11_part_43 : decode cX11_part 43 = .ok (.istore_n 3, 1) := by decide +kernel
theorem dX11_part_44 : decode cX11_part 44 = .ok (.iinc 4 1, 3) := by decide +kernel
theorem dX11_part_47 : decode cX11_part 47 = .ok (.goto (-42), 3) := by decide +kernel
theorem dX11_part_50 : decode cX11_part 50 = .ok (.iload_n 3, 1) := by decide +kernel
theorem dX11_part_51 : decode cX11_part 51 = .ok (.ireturn, 1) := by decide +kernel
theorem dX11_isRow_0 : decode cX11_isRow 0 = .ok (.iload_n 1, 1) := by decide +kernel
theorem dX11_isRow_1 : decode cX11_isRow 1 = .ok (.iconst 0, 1) := by decide +kernel
theorem dX11_isRow_2 : decode cX11_isRow 2 = .ok (.ldc 95, 2) := by decide +kernel
theorem dX11_isRow_4 : decode cX11_isRow 4 = .ok (.invokestatic 96, 3) := by decide +kernel
theorem dX11_isRow_7 : decode cX11_isRow 7 = .ok (.ifCond .eq 17, 3) := by decide +kernel
theorem dX11_isRow_10 : decode cX11_isRow 10 = .ok (.aload_n 0, 1) := by decide +kernel
theorem dX11_isRow_11 : decode cX11_isRow 11 = .ok (.iload_n 1, 1) := by decide +kernel
theorem dX11_isRow_12 : decode cX11_isRow 12 = .ok (.iload_n 2, 1) := by decide +kernel
theorem dX11_isRow_13 : decode cX11_isRow 13 = .ok (.invokevirtual 100, 3) := by decide +kernel
theorem dX11_isRow_16 : decode cX11_isRow 16 = .ok (.iload_n 1, 1) := by decide +kernel
theorem dX11_isRow_17 : decode cX11_isRow 17 = .ok (.if_icmp .ne 7, 3) := by decide +kernel
theorem dX11_isRow_20 : decode cX11_isRow 20 = .ok (.iconst 1, 1) := by decide +kernel
theorem dX11_isRow_21 : decode cX11_isRow 21 = .ok (.goto 4, 3) := by decide +kernel
theorem dX11_isRow_24 : decode cX11_isRow 24 = .ok (.iconst 0, 1) := by decide +kernel
theorem dX11_isRow_25 : decode cX11_isRow 25 = .ok (.ireturn, 1) := by decide +kernel
theorem dX11_lays_0 : decode cX11_lays 0 = .ok (.iload_n 2, 1) := by decide +kernel
theorem dX11_lays_1 : decode cX11_lays 1 = .ok (.istore 4, 2) := by decide +kernel
theorem dX11_lays_3 : decode cX11_lays 3 = .ok (.iconst 0, 1) := by decide +kernel
theorem dX11_lays_4 : decode cX11_lays 4 = .ok (.istore 5, 2) := by decide +kernel
theorem dX11_lays_6 : decode cX11_lays 6 = .ok (.iload 5, 2) := by decide +kernel
theorem dX11_lays_8 : decode cX11_lays 8 = .ok (.iload_n 2, 1) := by decide +kernel
theorem dX11_lays_9 : decode cX11_lays 9 = .ok (.if_icmp .ge 21, 3) := by decide +kernel
theorem dX11_lays_12 : decode cX11_lays 12 = .ok (.aload_n 0, 1) := by decide +kernel
theorem dX11_lays_13 : decode cX11_lays 13 = .ok (.iload_n 1, 1) := by decide +kernel
theorem dX11_lays_14 : decode cX11_lays 14 = .ok (.iload 5, 2) := by decide +kernel
theorem dX11_lays_16 : decode cX11_lays 16 = .ok (.iadd, 1) := by decide +kernel
theorem dX11_lays_17 : decode cX11_lays 17 = .ok (.iaload, 1) := by decide +kernel
theorem dX11_lays_18 : decode cX11_lays 18 = .ok (.iload_n 3, 1) := by decide +kernel
theorem dX11_lays_19 : decode cX11_lays 19 = .ok (.if_icmp .ne 5, 3) := by decide +kernel
theorem dX11_lays_22 : decode cX11_lays 22 = .ok (.iload_n 2, 1) := by decide +kernel
theorem dX11_lays_23 : decode cX11_lays 23 = .ok (.ireturn, 1) := by decide +kernel
theorem dX11_lays_24 : decode cX11_lays 24 = .ok (.iinc 5 1, 3) := by decide +kernel
theorem dX11_lays_27 : decode cX11_lays 27 = .ok (.goto (-21), 3) := by decide +kernel
theorem dX11_lays_30 : decode cX11_lays 30 = .ok (.iload 4, 2) := by decide +kernel
theorem dX11_lays_32 : decode cX11_lays 32 = .ok (.ifCond .le 35, 3) := by decide +kernel
theorem dX11_lays_35 : decode cX11_lays 35 = .ok (.aload_n 0, 1) := by decide +kernel
theorem dX11_lays_36 : decode cX11_lays 36 = .ok (.iload_n 1, 1) := by decide +kernel
theorem dX11_lays_37 : decode cX11_lays 37 = .ok (.iload 4, 2) := by decide +kernel
theorem dX11_lays_39 : decode cX11_lays 39 = .ok (.iadd, 1) := by decide +kernel
theorem dX11_lays_40 : decode cX11_lays 40 = .ok (.iconst 1, 1) := by decide +kernel
theorem dX11_lays_41 : decode cX11_lays 41 = .ok (.isub, 1) := by decide +kernel
theorem dX11_lays_42 : decode cX11_lays 42 = .ok (.iaload, 1) := by decide +kernel
theorem dX11_lays_43 : decode cX11_lays 43 = .ok (.iload_n 3, 1) := by decide +kernel
theorem dX11_lays_44 : decode cX11_lays 44 = .ok (.if_icmp .le 23, 3) := by decide +kernel
theorem dX11_lays_47 : decode cX11_lays 47 = .ok (.aload_n 0, 1) := by decide +kernel
theorem dX11_lays_48 : decode cX11_lays 48 = .ok (.iload_n 1, 1) := by decide +kernel
theorem dX11_lays_49 : decode cX11_lays 49 = .ok (.iload 4, 2) := by decide +kernel
theorem dX11_lays_51 : decode cX11_lays 51 = .ok (.iadd, 1) := by decide +kernel
theorem dX11_lays_52 : decode cX11_lays 52 = .ok (.aload_n 0, 1) := by decide +kernel
theorem dX11_lays_53 : decode cX11_lays 53 = .ok (.iload_n 1, 1) := by decide +kernel
theorem dX11_lays_54 : decode cX11_lays 54 = .ok (.iload 4, 2) := by decide +kernel
theorem dX11_lays_56 : decode cX11_lays 56 = .ok (.iadd, 1) := by decide +kernel
theorem dX11_lays_57 : decode cX11_lays 57 = .ok (.iconst 1, 1) := by decide +kernel
theorem dX11_lays_58 : decode cX11_lays 58 = .ok (.isub, 1) := by decide +kernel
theorem dX11_lays_59 : decode cX11_lays 59 = .ok (.iaload, 1) := by decide +kernel
theorem dX11_lays_60 : decode cX11_lays 60 = .ok (.iastore, 1) := by decide +kernel
theorem dX11_lays_61 : decode cX11_lays 61 = .ok (.iinc 4 (-1), 3) := by decide +kernel
theorem dX11_lays_64 : decode cX11_lays 64 = .ok (.goto (-34), 3) := by decide +kernel
theorem dX11_lays_67 : decode cX11_lays 67 = .ok (.aload_n 0, 1) := by decide +kernel
theorem dX11_lays_68 : decode cX11_lays 68 = .ok (.iload_n 1, 1) := by decide +kernel
theorem dX11_lays_69 : decode cX11_lays 69 = .ok (.iload 4, 2) := by decide +kernel
theorem dX11_lays_71 : decode cX11_lays 71 = .ok (.iadd, 1) := by decide +kernel
theorem dX11_lays_72 : decode cX11_lays 72 = .ok (.iload_n 3, 1) := by decide +kernel
theorem dX11_lays_73 : decode cX11_lays 73 = .ok (.iastore, 1) := by decide +kernel
theorem dX11_lays_74 : decode cX11_lays 74 = .ok (.iload_n 2, 1) := by decide +kernel
theorem dX11_lays_75 : decode cX11_lays 75 = .ok (.iconst 1, 1) := by decide +kernel
theorem dX11_lays_76 : decode cX11_lays 76 = .ok (.iadd, 1) := by decide +kernel
theorem dX11_lays_77 : decode cX11_lays 77 = .ok (.ireturn, 1) := by decide +kernel
theorem dX11_placeOf_0 : decode cX11_placeOf 0 = .ok (.iconst (-1), 1) := by decide +kernel
theorem dX11_placeOf_1 : decode cX11_placeOf 1 = .ok (.istore 4, 2) := by decide +kernel
theorem dX11_placeOf_3 : decode cX11_placeOf 3 = .ok (.iconst 0, 1) := by decide +kernel
theorem dX11_placeOf_4 : decode cX11_placeOf 4 = .ok (.istore 5, 2) := by decide +kernel
theorem dX11_placeOf_6 : decode cX11_placeOf 6 = .ok (.iload 5, 2) := by decide +kernel
theorem dX11_placeOf_8 : decode cX11_placeOf 8 = .ok (.iload_n 2, 1) := by decide +kernel
theorem dX11_placeOf_9 : decode cX11_placeOf 9 = .ok (.if_icmp .ge 28, 3) := by decide +kernel
theorem dX11_placeOf_12 : decode cX11_placeOf 12 = .ok (.aload_n 0, 1) := by decide +kernel
theorem dX11_placeOf_13 : decode cX11_placeOf 13 = .ok (.iload_n 1, 1) := by decide +kernel
theorem dX11_placeOf_14 : decode cX11_placeOf 14 = .ok (.iload 5, 2) := by decide +kernel
theorem dX11_placeOf_16 : decode cX11_placeOf 16 = .ok (.iadd, 1) := by decide +kernel
theorem dX11_placeOf_17 : decode cX11_placeOf 17 = .ok (.iaload, 1) := by decide +kernel
theorem dX11_placeOf_18 : decode cX11_placeOf 18 = .ok (.iload_n 3, 1) := by decide +kernel
theorem dX11_placeOf_19 : decode cX11_placeOf 19 = .ok (.if_icmp .ne 8, 3) := by decide +kernel
theorem dX11_placeOf_22 : decode cX11_placeOf 22 = .ok (.iload 5, 2) := by decide +kernel
theorem dX11_placeOf_24 : decode cX11_placeOf 24 = .ok (.goto 5, 3) := by decide +kernel
theorem dX11_placeOf_27 : decode cX11_placeOf 27 = .ok (.iload 4, 2) := by decide +kernel
theorem dX11_placeOf_29 : decode cX11_placeOf 29 = .ok (.istore 4, 2) := by decide +kernel
theorem dX11_placeOf_31 : decode cX11_placeOf 31 = .ok (.iinc 5 1, 3) := by decide +kernel
theorem dX11_placeOf_34 : decode cX11_placeOf 34 = .ok (.goto (-28), 3) := by decide +kernel
theorem dX11_placeOf_37 : decode cX11_placeOf 37 = .ok (.iload 4, 2) := by decide +kernel
theorem dX11_placeOf_39 : decode cX11_placeOf 39 = .ok (.ireturn, 1) := by decide +kernel
theorem dX11_takes_0 : decode cX11_takes 0 = .ok (.iload_n 3, 1) := by decide +kernel
theorem dX11_takes_1 : decode cX11_takes 1 = .ok (.istore 4, 2) := by decide +kernel
theorem dX11_takes_3 : decode cX11_takes 3 = .ok (.iload 4, 2) := by decide +kernel
theorem dX11_takes_5 : decode cX11_takes 5 = .ok (.iload_n 2, 1) := by decide +kernel
theorem dX11_takes_6 : decode cX11_takes 6 = .ok (.iconst 1, 1) := by decide +kernel
theorem dX11_takes_7 : decode cX11_takes 7 = .ok (.isub, 1) := by decide +kernel
theorem dX11_takes_8 : decode cX11_takes 8 = .ok (.if_icmp .ge 23, 3) := by decide +kernel
theorem dX11_takes_11 : decode cX11_takes 11 = .ok (.aload_n 0, 1) := by decide +kernel
theorem dX11_takes_12 : decode cX11_takes 12 = .ok (.iload_n 1, 1) := by decide +kernel
theorem dX11_takes_13 : decode cX11_takes 13 = .ok (.iload 4, 2) := by decide +kernel
theorem dX11_takes_15 : decode cX11_takes 15 = .ok (.iadd, 1) := by decide +kernel
theorem dX11_takes_16 : decode cX11_takes 16 = .ok (.aload_n 0, 1) := by decide +kernel
theorem dX11_takes_17 : decode cX11_takes 17 = .ok (.iload_n 1, 1) := by decide +kernel
theorem dX11_takes_18 : decode cX11_takes 18 = .ok (.iload 4, 2) := by decide +kernel
theorem dX11_takes_20 : decode cX11_takes 20 = .ok (.iadd, 1) := by decide +kernel
theorem dX11_takes_21 : decode cX11_takes 21 = .ok (.iconst 1, 1) := by decide +kernel
theorem dX11_takes_22 : decode cX11_takes 22 = .ok (.iadd, 1) := by decide +kernel
theorem dX11_takes_23 : decode cX11_takes 23 = .ok (.iaload, 1) := by decide +kernel
theorem dX11_takes_24 : decode cX11_takes 24 = .ok (.iastore, 1) := by decide +kernel
theorem dX11_takes_25 : decode cX11_takes 25 = .ok (.iinc 4 1, 3) := by decide +kernel
theorem dX11_takes_28 : decode cX11_takes 28 = .ok (.goto (-25), 3) := by decide +kernel
theorem dX11_takes_31 : decode cX11_takes 31 = .ok (.iload_n 2, 1) := by decide +kernel
theorem dX11_takes_32 : decode cX11_takes 32 = .ok (.iconst 1, 1) := by decide +kernel
theorem dX11_takes_33 : decode cX11_takes 33 = .ok (.isub, 1) := by decide +kernel
theorem dX11_takes_34 : decode cX11_takes 34 = .ok (.ireturn, 1) := by decide +kernel
theorem dX11_rowWith_0 : decode cX11_rowWith 0 = .ok (.iconst (-1), 1) := by decide +kernel
theorem dX11_rowWith_1 : decode cX11_rowWith 1 = .ok (.istore 6, 2) := by decide +kernel
theorem dX11_rowWith_3 : decode cX11_rowWith 3 = .ok (.iload_n 3, 1) := by decide +kernel
theorem dX11_rowWith_4 : decode cX11_rowWith 4 = .ok (.iconst 1, 1) := by decide +kernel
theorem dX11_rowWith_5 : decode cX11_rowWith 5 = .ok (.isub, 1) := by decide +kernel
theorem dX11_rowWith_6 : decode cX11_rowWith 6 = .ok (.istore 7, 2) := by decide +kernel
theorem dX11_rowWith_8 : decode cX11_rowWith 8 = .ok (.iload 7, 2) := by decide +kernel
theorem dX11_rowWith_10 : decode cX11_rowWith 10 = .ok (.ifCond .lt 39, 3) := by decide +kernel
theorem dX11_rowWith_13 : decode cX11_rowWith 13 = .ok (.aload_n 0, 1) := by decide +kernel
theorem dX11_rowWith_14 : decode cX11_rowWith 14 = .ok (.aload_n 1, 1) := by decide +kernel
theorem dX11_rowWith_15 : decode cX11_rowWith 15 = .ok (.iload_n 2, 1) := by decide +kernel
theorem dX11_rowWith_16 : decode cX11_rowWith 16 = .ok (.iload 7, 2) := by decide +kernel
theorem dX11_rowWith_18 : decode cX11_rowWith 18 = .ok (.iadd, 1) := by decide +kernel
theorem dX11_rowWith_19 : decode cX11_rowWith 19 = .ok (.iaload, 1) := by decide +kernel
theorem dX11_rowWith_20 : decode cX11_rowWith 20 = .ok (.iload 4, 2) := by decide +kernel
theorem dX11_rowWith_22 : decode cX11_rowWith 22 = .ok (.invokevirtual 100, 3) := by decide +kernel
theorem dX11_rowWith_25 : decode cX11_rowWith 25 = .ok (.iload 5, 2) := by decide +kernel
theorem dX11_rowWith_27 : decode cX11_rowWith 27 = .ok (.if_icmp .ne 12, 3) := by decide +kernel
theorem dX11_rowWith_30 : decode cX11_rowWith 30 = .ok (.aload_n 1, 1) := by decide +kernel
theorem dX11_rowWith_31 : decode cX11_rowWith 31 = .ok (.iload_n 2, 1) := by decide +kernel
theorem dX11_rowWith_32 : decode cX11_rowWith 32 = .ok (.iload 7, 2) := by decide +kernel
theorem dX11_rowWith_34 : decode cX11_rowWith 34 = .ok (.iadd, 1) := by decide +kernel
theorem dX11_rowWith_35 : decode cX11_rowWith 35 = .ok (.iaload, 1) := by decide +kernel
theorem dX11_rowWith_36 : decode cX11_rowWith 36 = .ok (.goto 5, 3) := by decide +kernel
theorem dX11_rowWith_39 : decode cX11_rowWith 39 = .ok (.iload 6, 2) := by decide +kernel
theorem dX11_rowWith_41 : decode cX11_rowWith 41 = .ok (.istore 6, 2) := by decide +kernel
theorem dX11_rowWith_43 : decode cX11_rowWith 43 = .ok (.iinc 7 (-1), 3) := by decide +kernel
theorem dX11_rowWith_46 : decode cX11_rowWith 46 = .ok (.goto (-38), 3) := by decide +kernel
theorem dX11_rowWith_49 : decode cX11_rowWith 49 = .ok (.iload 6, 2) := by decide +kernel
theorem dX11_rowWith_51 : decode cX11_rowWith 51 = .ok (.ireturn, 1) := by decide +kernel
theorem dX11_isTable_0 : decode cX11_isTable 0 = .ok (.iload_n 1, 1) := by decide +kernel
theorem dX11_isTable_1 : decode cX11_isTable 1 = .ok (.iconst 0, 1) := by decide +kernel
theorem dX11_isTable_2 : decode cX11_isTable 2 = .ok (.aload_n 0, 1) := by decide +kernel
theorem dX11_isTable_3 : decode cX11_isTable 3 = .ok (.getfield 103, 3) := by decide +kernel
theorem dX11_isTable_6 : decode cX11_isTable 6 = .ok (.iconst 1, 1) := by decide +kernel
theorem dX11_isTable_7 : decode cX11_isTable 7 = .ok (.isub, 1) := by decide +kernel
theorem dX11_isTable_8 : decode cX11_isTable 8 = .ok (.invokestatic 96, 3) := by decide +kernel
theorem dX11_isTable_11 : decode cX11_isTable 11 = .ok (.ireturn, 1) := by decide +kernel
theorem dX11_table_0 : decode cX11_table 0 = .ok (.iload_n 1, 1) := by decide +kernel
theorem dX11_table_1 : decode cX11_table 1 = .ok (.iconst 1, 1) := by decide +kernel
theorem dX11_table_2 : decode cX11_table 2 = .ok (.bipush 63, 2) := by decide +kernel
theorem dX11_table_4 : decode cX11_table 4 = .ok (.invokestatic 96, 3) := by decide +kernel
theorem dX11_table_7 : decode cX11_table 7 = .ok (.ifCond .eq 19, 3) := by decide +kernel
theorem dX11_table_10 : decode cX11_table 10 = .ok (.iload_n 2, 1) := by decide +kernel
theorem dX11_table_11 : decode cX11_table 11 = .ok (.ifCond .le 15, 3) := by decide +kernel
theorem dX11_table_14 : decode cX11_table 14 = .ok (.iload_n 2, 1) := by decide +kernel
theorem dX11_table_15 : decode cX11_table 15 = .ok (.iload_n 1, 1) := by decide +kernel
theorem dX11_table_16 : decode cX11_table 16 = .ok (.iconst (-1), 1) := by decide +kernel
theorem dX11_table_17 : decode cX11_table 17 = .ok (.ixor, 1) := by decide +kernel
theorem dX11_table_18 : decode cX11_table 18 = .ok (.iand, 1) := by decide +kernel
theorem dX11_table_19 : decode cX11_table 19 = .ok (.ifCond .ne 7, 3) := by decide +kernel
theorem dX11_table_22 : decode cX11_table 22 = .ok (.iconst 1, 1) := by decide +kernel
theorem dX11_table_23 : decode cX11_table 23 = .ok (.goto 4, 3) := by decide +kernel
theorem dX11_table_26 : decode cX11_table 26 = .ok (.iconst 0, 1) := by decide +kernel
theorem dX11_table_27 : decode cX11_table 27 = .ok (.istore_n 3, 1) := by decide +kernel
theorem dX11_table_28 : decode cX11_table 28 = .ok (.aload_n 0, 1) := by decide +kernel
theorem dX11_table_29 : decode cX11_table 29 = .ok (.iload_n 3, 1) := by decide +kernel
theorem dX11_table_30 : decode cX11_table 30 = .ok (.ifCond .ne 7, 3) := by decide +kernel
theorem dX11_table_33 : decode cX11_table 33 = .ok (.iconst 1, 1) := by decide +kernel
theorem dX11_table_34 : decode cX11_table 34 = .ok (.goto 16, 3) := by decide +kernel
theorem dX11_table_37 : decode cX11_table 37 = .ok (.aload_n 0, 1) := by decide +kernel
theorem dX11_table_38 : decode cX11_table 38 = .ok (.getfield 103, 3) := by decide +kernel
theorem dX11_table_41 : decode cX11_table 41 = .ok (.iconst 3, 1) := by decide +kernel
theorem dX11_table_42 : decode cX11_table 42 = .ok (.if_icmp .ne 7, 3) := by decide +kernel
theorem dX11_table_45 : decode cX11_table 45 = .ok (.iconst 2, 1) := by decide +kernel
theorem dX11_table_46 : decode cX11_table 46 = .ok (.goto 4, 3) := by decide +kernel
theorem dX11_table_49 : decode cX11_table 49 = .ok (.iconst 0, 1) := by decide +kernel
theorem dX11_table_50 : decode cX11_table 50 = .ok (.putfield 87, 3) := by decide +kernel
theorem dX11_table_53 : decode cX11_table 53 = .ok (.aload_n 0, 1) := by decide +kernel
theorem dX11_table_54 : decode cX11_table 54 = .ok (.getfield 87, 3) := by decide +kernel
theorem dX11_table_57 : decode cX11_table 57 = .ok (.ifCond .le 5, 3) := by decide +kernel
theorem dX11_table_60 : decode cX11_table 60 = .ok (.iconst 0, 1) := by decide +kernel
theorem dX11_table_61 : decode cX11_table 61 = .ok (.ireturn, 1) := by decide +kernel
theorem dX11_table_62 : decode cX11_table 62 = .ok (.aload_n 0, 1) := by decide +kernel
theorem dX11_table_63 : decode cX11_table 63 = .ok (.getfield 14, 3) := by decide +kernel
theorem dX11_table_66 : decode cX11_table 66 = .ok (.aload_n 0, 1) := by decide +kernel
theorem dX11_table_67 : decode cX11_table 67 = .ok (.getfield 103, 3) := by decide +kernel
theorem dX11_table_70 : decode cX11_table 70 = .ok (.iload_n 1, 1) := by decide +kernel
theorem dX11_table_71 : decode cX11_table 71 = .ok (.iastore, 1) := by decide +kernel
theorem dX11_table_72 : decode cX11_table 72 = .ok (.aload_n 0, 1) := by decide +kernel
theorem dX11_table_73 : decode cX11_table 73 = .ok (.getfield 17, 3) := by decide +kernel
theorem dX11_table_76 : decode cX11_table 76 = .ok (.aload_n 0, 1) := by decide +kernel
theorem dX11_table_77 : decode cX11_table 77 = .ok (.getfield 103, 3) := by decide +kernel
theorem dX11_table_80 : decode cX11_table 80 = .ok (.iload_n 2, 1) := by decide +kernel
theorem dX11_table_81 : decode cX11_table 81 = .ok (.iastore, 1) := by decide +kernel
theorem dX11_table_82 : decode cX11_table 82 = .ok (.aload_n 0, 1) := by decide +kernel
theorem dX11_table_83 : decode cX11_table 83 = .ok (.getfield 20, 3) := by decide +kernel
theorem dX11_table_86 : decode cX11_table 86 = .ok (.aload_n 0, 1) := by decide +kernel
theorem dX11_table_87 : decode cX11_table 87 = .ok (.getfield 103, 3) := by decide +kernel
theorem dX11_table_90 : decode cX11_table 90 = .ok (.iconst 0, 1) := by decide +kernel
theorem dX11_table_91 : decode cX11_table 91 = .ok (.iastore, 1) := by decide +kernel
theorem dX11_table_92 : decode cX11_table 92 = .ok (.aload_n 0, 1) := by decide +kernel
theorem dX11_table_93 : decode cX11_table 93 = .ok (.dup, 1) := by decide +kernel
theorem dX11_table_94 : decode cX11_table 94 = .ok (.getfield 103, 3) := by decide +kernel
theorem dX11_table_97 : decode cX11_table 97 = .ok (.iconst 1, 1) := by decide +kernel
theorem dX11_table_98 : decode cX11_table 98 = .ok (.iadd, 1) := by decide +kernel
theorem dX11_table_99 : decode cX11_table 99 = .ok (.putfield 103, 3) := by decide +kernel
theorem dX11_table_102 : decode cX11_table 102 = .ok (.aload_n 0, 1) := by decide +kernel
theorem dX11_table_103 : decode cX11_table 103 = .ok (.getfield 103, 3) := by decide +kernel
theorem dX11_table_106 : decode cX11_table 106 = .ok (.iconst 1, 1) := by decide +kernel
theorem dX11_table_107 : decode cX11_table 107 = .ok (.isub, 1) := by decide +kernel
theorem dX11_table_108 : decode cX11_table 108 = .ok (.ireturn, 1) := by decide +kernel
theorem dX11_insert_0 : decode cX11_insert 0 = .ok (.aload_n 0, 1) := by decide +kernel
theorem dX11_insert_1 : decode cX11_insert 1 = .ok (.aload_n 0, 1) := by decide +kernel
theorem dX11_insert_2 : decode cX11_insert 2 = .ok (.iload_n 1, 1) := by decide +kernel
theorem dX11_insert_3 : decode cX11_insert 3 = .ok (.invokevirtual 106, 3) := by decide +kernel
theorem dX11_insert_6 : decode cX11_insert 6 = .ok (.ifCond .ne 7, 3) := by decide +kernel
theorem dX11_insert_9 : decode cX11_insert 9 = .ok (.iconst 1, 1) := by decide +kernel
theorem dX11_insert_10 : decode cX11_insert 10 = .ok (.goto 22, 3) := by decide +kernel
theorem dX11_insert_13 : decode cX11_insert 13 = .ok (.aload_n 0, 1) := by decide +kernel
theorem dX11_insert_14 : decode cX11_insert 14 = .ok (.iload_n 2, 1) := by decide +kernel
theorem dX11_insert_15 : decode cX11_insert 15 = .ok (.aload_n 0, 1) := by decide +kernel
theorem dX11_insert_16 : decode cX11_insert 16 = .ok (.getfield 14, 3) := by decide +kernel
theorem dX11_insert_19 : decode cX11_insert 19 = .ok (.iload_n 1, 1) := by decide +kernel
theorem dX11_insert_20 : decode cX11_insert 20 = .ok (.iaload, 1) := by decide +kernel
theorem dX11_insert_21 : decode cX11_insert 21 = .ok (.invokevirtual 110, 3) := by decide +kernel
theorem dX11_insert_24 : decode cX11_insert 24 = .ok (.ifCond .ne 7, 3) := by decide +kernel
theorem dX11_insert_27 : decode cX11_insert 27 = .ok (.iconst 2, 1) := by decide +kernel
theorem dX11_insert_28 : decode cX11_insert 28 = .ok (.goto 4, 3) := by decide +kernel
theorem dX11_insert_31 : decode cX11_insert 31 = .ok (.iconst 0, 1) := by decide +kernel
theorem dX11_insert_32 : decode cX11_insert 32 = .ok (.putfield 87, 3) := by decide +kernel
theorem dX11_insert_35 : decode cX11_insert 35 = .ok (.aload_n 0, 1) := by decide +kernel
theorem dX11_insert_36 : decode cX11_insert 36 = .ok (.getfield 87, 3) := by decide +kernel
theorem dX11_insert_39 : decode cX11_insert 39 = .ok (.ifCond .ne 72, 3) := by decide +kernel
theorem dX11_insert_42 : decode cX11_insert 42 = .ok (.aload_n 0, 1) := by decide +kernel
theorem dX11_insert_43 : decode cX11_insert 43 = .ok (.aload_n 0, 1) := by decide +kernel
theorem dX11_insert_44 : decode cX11_insert 44 = .ok (.getfield 23, 3) := by decide +kernel
theorem dX11_insert_47 : decode cX11_insert 47 = .ok (.bipush 12, 2) := by decide +kernel
theorem dX11_insert_49 : decode cX11_insert 49 = .ok (.iload_n 1, 1) := by decide +kernel
theorem dX11_insert_50 : decode cX11_insert 50 = .ok (.imul, 1) := by decide +kernel
theorem dX11_insert_51 : decode cX11_insert 51 = .ok (.aload_n 0, 1) := by decide +kernel
theorem dX11_insert_52 : decode cX11_insert 52 = .ok (.getfield 20, 3) := by decide +kernel
theorem dX11_insert_55 : decode cX11_insert 55 = .ok (.iload_n 1, 1) := by decide +kernel
theorem dX11_insert_56 : decode cX11_insert 56 = .ok (.iaload, 1) := by decide +kernel
theorem dX11_insert_57 : decode cX11_insert 57 = .ok (.aload_n 0, 1) := by decide +kernel
theorem dX11_insert_58 : decode cX11_insert 58 = .ok (.getfield 17, 3) := by decide +kernel
theorem dX11_insert_61 : decode cX11_insert 61 = .ok (.iload_n 1, 1) := by decide +kernel
theorem dX11_insert_62 : decode cX11_insert 62 = .ok (.iaload, 1) := by decide +kernel
theorem dX11_insert_63 : decode cX11_insert 63 = .ok (.aload_n 0, 1) := by decide +kernel
theorem dX11_insert_64 : decode cX11_insert 64 = .ok (.iload_n 2, 1) := by decide +kernel
theorem dX11_insert_65 : decode cX11_insert 65 = .ok (.aload_n 0, 1) := by decide +kernel
theorem dX11_insert_66 : decode cX11_insert 66 = .ok (.getfield 17, 3) := by decide +kernel
theorem dX11_insert_69 : decode cX11_insert 69 = .ok (.iload_n 1, 1) := by decide +kernel
theorem dX11_insert_70 : decode cX11_insert 70 = .ok (.iaload, 1) := by decide +kernel
theorem dX11_insert_71 : decode cX11_insert 71 = .ok (.invokevirtual 100, 3) := by decide +kernel
theorem dX11_insert_74 : decode cX11_insert 74 = .ok (.invokevirtual 114, 3) := by decide +kernel
theorem dX11_insert_77 : decode cX11_insert 77 = .ok (.iconst (-1), 1) := by decide +kernel
theorem dX11_insert_78 : decode cX11_insert 78 = .ok (.if_icmp .eq 7, 3) := by decide +kernel
theorem dX11_insert_81 : decode cX11_insert 81 = .ok (.iconst 1, 1) := by decide +kernel
theorem dX11_insert_82 : decode cX11_insert 82 = .ok (.goto 4, 3) := by decide +kernel
theorem dX11_insert_85 : decode cX11_insert 85 = .ok (.iconst 0, 1) := by decide +kernel
theorem dX11_insert_86 : decode cX11_insert 86 = .ok (.istore_n 3, 1) := by decide +kernel
theorem dX11_insert_87 : decode cX11_insert 87 = .ok (.aload_n 0, 1) := by decide +kernel
theorem dX11_insert_88 : decode cX11_insert 88 = .ok (.iload_n 3, 1) := by decide +kernel
theorem dX11_insert_89 : decode cX11_insert 89 = .ok (.ifCond .ne 14, 3) := by decide +kernel
theorem dX11_insert_92 : decode cX11_insert 92 = .ok (.aload_n 0, 1) := by decide +kernel
theorem dX11_insert_93 : decode cX11_insert 93 = .ok (.getfield 20, 3) := by decide +kernel
theorem dX11_insert_96 : decode cX11_insert 96 = .ok (.iload_n 1, 1) := by decide +kernel
theorem dX11_insert_97 : decode cX11_insert 97 = .ok (.iaload, 1) := by decide +kernel
theorem dX11_insert_98 : decode cX11_insert 98 = .ok (.bipush 12, 2) := by decide +kernel
theorem dX11_insert_100 : decode cX11_insert 100 = .ok (.if_icmp .ne 7, 3) := by decide +kernel
theorem dX11_insert_103 : decode cX11_insert 103 = .ok (.iconst 3, 1) := by decide +kernel
theorem dX11_insert_104 : decode cX11_insert 104 = .ok (.goto 4, 3) := by decide +kernel
theorem dX11_insert_107 : decode cX11_insert 107 = .ok (.iconst 0, 1) := by decide +kernel
theorem dX11_insert_108 : decode cX11_insert 108 = .ok (.putfield 87, 3) := by decide +kernel
theorem dX11_insert_111 : decode cX11_insert 111 = .ok (.aload_n 0, 1) := by decide +kernel
theorem dX11_insert_112 : decode cX11_insert 112 = .ok (.getfield 87, 3) := by decide +kernel
theorem dX11_insert_115 : decode cX11_insert 115 = .ok (.ifCond .le 5, 3) := by decide +kernel
theorem dX11_insert_118 : decode cX11_insert 118 = .ok (.iconst 0, 1) := by decide +kernel
theorem dX11_insert_119 : decode cX11_insert 119 = .ok (.ireturn, 1) := by decide +kernel
theorem dX11_insert_120 : decode cX11_insert 120 = .ok (.aload_n 0, 1) := by decide +kernel
theorem dX11_insert_121 : decode cX11_insert 121 = .ok (.getfield 20, 3) := by decide +kernel
theorem dX11_insert_124 : decode cX11_insert 124 = .ok (.iload_n 1, 1) := by decide +kernel
theorem dX11_insert_125 : decode cX11_insert 125 = .ok (.aload_n 0, 1) := by decide +kernel
theorem dX11_insert_126 : decode cX11_insert 126 = .ok (.getfield 23, 3) := by decide +kernel
theorem dX11_insert_129 : decode cX11_insert 129 = .ok (.bipush 12, 2) := by decide +kernel
theorem dX11_insert_131 : decode cX11_insert 131 = .ok (.iload_n 1, 1) := by decide +kernel
theorem dX11_insert_132 : decode cX11_insert 132 = .ok (.imul, 1) := by decide +kernel
theorem dX11_insert_133 : decode cX11_insert 133 = .ok (.aload_n 0, 1) := by decide +kernel
theorem dX11_insert_134 : decode cX11_insert 134 = .ok (.getfield 20, 3) := by decide +kernel
theorem dX11_insert_137 : decode cX11_insert 137 = .ok (.iload_n 1, 1) := by decide +kernel
theorem dX11_insert_138 : decode cX11_insert 138 = .ok (.iaload, 1) := by decide +kernel
theorem dX11_insert_139 : decode cX11_insert 139 = .ok (.iload_n 2, 1) := by decide +kernel
theorem dX11_insert_140 : decode cX11_insert 140 = .ok (.invokestatic 118, 3) := by decide +kernel
theorem dX11_insert_143 : decode cX11_insert 143 = .ok (.iastore, 1) := by decide +kernel
theorem dX11_insert_144 : decode cX11_insert 144 = .ok (.aload_n 0, 1) := by decide +kernel
theorem dX11_insert_145 : decode cX11_insert 145 = .ok (.getfield 20, 3) := by decide +kernel
theorem dX11_insert_148 : decode cX11_insert 148 = .ok (.iload_n 1, 1) := by decide +kernel
theorem dX11_insert_149 : decode cX11_insert 149 = .ok (.iaload, 1) := by decide +kernel
theorem dX11_insert_150 : decode cX11_insert 150 = .ok (.ireturn, 1) := by decide +kernel
theorem dX11_delete_0 : decode cX11_delete 0 = .ok (.aload_n 0, 1) := by decide +kernel
theorem dX11_delete_1 : decode cX11_delete 1 = .ok (.aload_n 0, 1) := by decide +kernel
theorem dX11_delete_2 : decode cX11_delete 2 = .ok (.iload_n 1, 1) := by decide +kernel
theorem dX11_delete_3 : decode cX11_delete 3 = .ok (.invokevirtual 106, 3) := by decide +kernel
theorem dX11_delete_6 : decode cX11_delete 6 = .ok (.ifCond .ne 7, 3) := by decide +kernel
theorem dX11_delete_9 : decode cX11_delete 9 = .ok (.iconst 1, 1) := by decide +kernel
theorem dX11_delete_10 : decode cX11_delete 10 = .ok (.goto 30, 3) := by decide +kernel
theorem dX11_delete_13 : decode cX11_delete 13 = .ok (.aload_n 0, 1) := by decide +kernel
theorem dX11_delete_14 : decode cX11_delete 14 = .ok (.getfield 23, 3) := by decide +kernel
theorem dX11_delete_17 : decode cX11_delete 17 = .ok (.bipush 12, 2) := by decide +kernel
theorem dX11_delete_19 : decode cX11_delete 19 = .ok (.iload_n 1, 1) := by decide +kernel
theorem dX11_delete_20 : decode cX11_delete 20 = .ok (.imul, 1) := by decide +kernel
theorem dX11_delete_21 : decode cX11_delete 21 = .ok (.aload_n 0, 1) := by decide +kernel
theorem dX11_delete_22 : decode cX11_delete 22 = .ok (.getfield 20, 3) := by decide +kernel
theorem dX11_delete_25 : decode cX11_delete 25 = .ok (.iload_n 1, 1) := by decide +kernel
theorem dX11_delete_26 : decode cX11_delete 26 = .ok (.iaload, 1) := by decide +kernel
theorem dX11_delete_27 : decode cX11_delete 27 = .ok (.iload_n 2, 1) := by decide +kernel
theorem dX11_delete_28 : decode cX11_delete 28 = .ok (.invokestatic 122, 3) := by decide +kernel
theorem dX11_delete_31 : decode cX11_delete 31 = .ok (.iconst (-1), 1) := by decide +kernel
theorem dX11_delete_32 : decode cX11_delete 32 = .ok (.if_icmp .ne 7, 3) := by decide +kernel
theorem dX11_delete_35 : decode cX11_delete 35 = .ok (.iconst 2, 1) := by decide +kernel
theorem dX11_delete_36 : decode cX11_delete 36 = .ok (.goto 4, 3) := by decide +kernel
theorem dX11_delete_39 : decode cX11_delete 39 = .ok (.iconst 0, 1) := by decide +kernel
theorem dX11_delete_40 : decode cX11_delete 40 = .ok (.putfield 87, 3) := by decide +kernel
theorem dX11_delete_43 : decode cX11_delete 43 = .ok (.aload_n 0, 1) := by decide +kernel
theorem dX11_delete_44 : decode cX11_delete 44 = .ok (.getfield 87, 3) := by decide +kernel
theorem dX11_delete_47 : decode cX11_delete 47 = .ok (.ifCond .le 5, 3) := by decide +kernel
theorem dX11_delete_50 : decode cX11_delete 50 = .ok (.iconst 0, 1) := by decide +kernel
theorem dX11_delete_51 : decode cX11_delete 51 = .ok (.ireturn, 1) := by decide +kernel
theorem dX11_delete_52 : decode cX11_delete 52 = .ok (.aload_n 0, 1) := by decide +kernel
theorem dX11_delete_53 : decode cX11_delete 53 = .ok (.getfield 20, 3) := by decide +kernel
theorem dX11_delete_56 : decode cX11_delete 56 = .ok (.iload_n 1, 1) := by decide +kernel
theorem dX11_delete_57 : decode cX11_delete 57 = .ok (.aload_n 0, 1) := by decide +kernel
theorem dX11_delete_58 : decode cX11_delete 58 = .ok (.getfield 23, 3) := by decide +kernel
theorem dX11_delete_61 : decode cX11_delete 61 = .ok (.bipush 12, 2) := by decide +kernel
theorem dX11_delete_63 : decode cX11_delete 63 = .ok (.iload_n 1, 1) := by decide +kernel
theorem dX11_delete_64 : decode cX11_delete 64 = .ok (.imul, 1) := by decide +kernel
theorem dX11_delete_65 : decode cX11_delete 65 = .ok (.aload_n 0, 1) := by decide +kernel
theorem dX11_delete_66 : decode cX11_delete 66 = .ok (.getfield 20, 3) := by decide +kernel
theorem dX11_delete_69 : decode cX11_delete 69 = .ok (.iload_n 1, 1) := by decide +kernel
theorem dX11_delete_70 : decode cX11_delete 70 = .ok (.iaload, 1) := by decide +kernel
theorem dX11_delete_71 : decode cX11_delete 71 = .ok (.aload_n 0, 1) := by decide +kernel
theorem dX11_delete_72 : decode cX11_delete 72 = .ok (.getfield 23, 3) := by decide +kernel
theorem dX11_delete_75 : decode cX11_delete 75 = .ok (.bipush 12, 2) := by decide +kernel
theorem dX11_delete_77 : decode cX11_delete 77 = .ok (.iload_n 1, 1) := by decide +kernel
theorem dX11_delete_78 : decode cX11_delete 78 = .ok (.imul, 1) := by decide +kernel
theorem dX11_delete_79 : decode cX11_delete 79 = .ok (.aload_n 0, 1) := by decide +kernel
theorem dX11_delete_80 : decode cX11_delete 80 = .ok (.getfield 20, 3) := by decide +kernel
theorem dX11_delete_83 : decode cX11_delete 83 = .ok (.iload_n 1, 1) := by decide +kernel
theorem dX11_delete_84 : decode cX11_delete 84 = .ok (.iaload, 1) := by decide +kernel
theorem dX11_delete_85 : decode cX11_delete 85 = .ok (.iload_n 2, 1) := by decide +kernel
theorem dX11_delete_86 : decode cX11_delete 86 = .ok (.invokestatic 122, 3) := by decide +kernel
theorem dX11_delete_89 : decode cX11_delete 89 = .ok (.invokestatic 125, 3) := by decide +kernel
theorem dX11_delete_92 : decode cX11_delete 92 = .ok (.iastore, 1) := by decide +kernel
theorem dX11_delete_93 : decode cX11_delete 93 = .ok (.aload_n 0, 1) := by decide +kernel
theorem dX11_delete_94 : decode cX11_delete 94 = .ok (.getfield 20, 3) := by decide +kernel
theorem dX11_delete_97 : decode cX11_delete 97 = .ok (.iload_n 1, 1) := by decide +kernel
theorem dX11_delete_98 : decode cX11_delete 98 = .ok (.iaload, 1) := by decide +kernel
theorem dX11_delete_99 : decode cX11_delete 99 = .ok (.ireturn, 1) := by decide +kernel
theorem dX11_isView_0 : decode cX11_isView 0 = .ok (.iload_n 1, 1) := by decide +kernel
theorem dX11_isView_1 : decode cX11_isView 1 = .ok (.iconst 0, 1) := by decide +kernel
theorem dX11_isView_2 : decode cX11_isView 2 = .ok (.aload_n 0, 1) := by decide +kernel
theorem dX11_isView_3 : decode cX11_isView 3 = .ok (.getfield 128, 3) := by decide +kernel
theorem dX11_isView_6 : decode cX11_isView 6 = .ok (.iconst 1, 1) := by decide +kernel
theorem dX11_isView_7 : decode cX11_isView 7 = .ok (.isub, 1) := by decide +kernel
theorem dX11_isView_8 : decode cX11_isView 8 = .ok (.invokestatic 96, 3) := by decide +kernel
theorem dX11_isView_11 : decode cX11_isView 11 = .ok (.ireturn, 1) := by decide +kernel
theorem dX11_makes_0 : decode cX11_makes 0 = .ok (.aload_n 0, 1) := by decide +kernel
theorem dX11_makes_1 : decode cX11_makes 1 = .ok (.getfield 26, 3) := by decide +kernel
theorem dX11_makes_4 : decode cX11_makes 4 = .ok (.aload_n 0, 1) := by decide +kernel
theorem dX11_makes_5 : decode cX11_makes 5 = .ok (.getfield 128, 3) := by decide +kernel
theorem dX11_makes_8 : decode cX11_makes 8 = .ok (.iload_n 1, 1) := by decide +kernel
theorem dX11_makes_9 : decode cX11_makes 9 = .ok (.iastore, 1) := by decide +kernel
theorem dX11_makes_10 : decode cX11_makes 10 = .ok (.aload_n 0, 1) := by decide +kernel
theorem dX11_makes_11 : decode cX11_makes 11 = .ok (.getfield 29, 3) := by decide +kernel
theorem dX11_makes_14 : decode cX11_makes 14 = .ok (.aload_n 0, 1) := by decide +kernel
theorem dX11_makes_15 : decode cX11_makes 15 = .ok (.getfield 128, 3) := by decide +kernel
theorem dX11_makes_18 : decode cX11_makes 18 = .ok (.iload_n 2, 1) := by decide +kernel
theorem dX11_makes_19 : decode cX11_makes 19 = .ok (.iastore, 1) := by decide +kernel
theorem dX11_makes_20 : decode cX11_makes 20 = .ok (.aload_n 0, 1) := by decide +kernel
theorem dX11_makes_21 : decode cX11_makes 21 = .ok (.getfield 45, 3) := by decide +kernel
theorem dX11_makes_24 : decode cX11_makes 24 = .ok (.aload_n 0, 1) := by decide +kernel
theorem dX11_makes_25 : decode cX11_makes 25 = .ok (.getfield 128, 3) := by decide +kernel
theorem dX11_makes_28 : decode cX11_makes 28 = .ok (.iload_n 3, 1) := by decide +kernel
theorem dX11_makes_29 : decode cX11_makes 29 = .ok (.iastore, 1) := by decide +kernel
theorem dX11_makes_30 : decode cX11_makes 30 = .ok (.aload_n 0, 1) := by decide +kernel
theorem dX11_makes_31 : decode cX11_makes 31 = .ok (.getfield 48, 3) := by decide +kernel
theorem dX11_makes_34 : decode cX11_makes 34 = .ok (.aload_n 0, 1) := by decide +kernel
theorem dX11_makes_35 : decode cX11_makes 35 = .ok (.getfield 128, 3) := by decide +kernel
theorem dX11_makes_38 : decode cX11_makes 38 = .ok (.iload 4, 2) := by decide +kernel
theorem dX11_makes_40 : decode cX11_makes 40 = .ok (.iastore, 1) := by decide +kernel
theorem dX11_makes_41 : decode cX11_makes 41 = .ok (.aload_n 0, 1) := by decide +kernel
theorem dX11_makes_42 : decode cX11_makes 42 = .ok (.getfield 51, 3) := by decide +kernel
theorem dX11_makes_45 : decode cX11_makes 45 = .ok (.aload_n 0, 1) := by decide +kernel
theorem dX11_makes_46 : decode cX11_makes 46 = .ok (.getfield 128, 3) := by decide +kernel
theorem dX11_makes_49 : decode cX11_makes 49 = .ok (.iload 5, 2) := by decide +kernel
theorem dX11_makes_51 : decode cX11_makes 51 = .ok (.iastore, 1) := by decide +kernel
theorem dX11_makes_52 : decode cX11_makes 52 = .ok (.aload_n 0, 1) := by decide +kernel
theorem dX11_makes_53 : decode cX11_makes 53 = .ok (.dup, 1) := by decide +kernel
theorem dX11_makes_54 : decode cX11_makes 54 = .ok (.getfield 128, 3) := by decide +kernel
theorem dX11_makes_57 : decode cX11_makes 57 = .ok (.iconst 1, 1) := by decide +kernel
theorem dX11_makes_58 : decode cX11_makes 58 = .ok (.iadd, 1) := by decide +kernel
theorem dX11_makes_59 : decode cX11_makes 59 = .ok (.putfield 128, 3) := by decide +kernel
theorem dX11_makes_62 : decode cX11_makes 62 = .ok (.aload_n 0, 1) := by decide +kernel
theorem dX11_makes_63 : decode cX11_makes 63 = .ok (.getfield 128, 3) := by decide +kernel
theorem dX11_makes_66 : decode cX11_makes 66 = .ok (.iconst 1, 1) := by decide +kernel
theorem dX11_makes_67 : decode cX11_makes 67 = .ok (.isub, 1) := by decide +kernel
theorem dX11_makes_68 : decode cX11_makes 68 = .ok (.ireturn, 1) := by decide +kernel
theorem dX11_of_0 : decode cX11_of 0 = .ok (.aload_n 0, 1) := by decide +kernel
theorem dX11_of_1 : decode cX11_of 1 = .ok (.aload_n 0, 1) := by decide +kernel
theorem dX11_of_2 : decode cX11_of 2 = .ok (.iload_n 1, 1) := by decide +kernel
theorem dX11_of_3 : decode cX11_of 3 = .ok (.invokevirtual 106, 3) := by decide +kernel
theorem dX11_of_6 : decode cX11_of 6 = .ok (.ifCond .ne 7, 3) := by decide +kernel
theorem dX11_of_9 : decode cX11_of 9 = .ok (.iconst 1, 1) := by decide +kernel
theorem dX11_of_10 : decode cX11_of 10 = .ok (.goto 17, 3) := by decide +kernel
theorem dX11_of_13 : decode cX11_of 13 = .ok (.aload_n 0, 1) := by decide +kernel
theorem dX11_of_14 : decode cX11_of 14 = .ok (.getfield 128, 3) := by decide +kernel
theorem dX11_of_17 : decode cX11_of 17 = .ok (.bipush 10, 2) := by decide +kernel
theorem dX11_of_19 : decode cX11_of 19 = .ok (.if_icmp .ne 7, 3) := by decide +kernel
theorem dX11_of_22 : decode cX11_of 22 = .ok (.iconst 2, 1) := by decide +kernel
theorem dX11_of_23 : decode cX11_of 23 = .ok (.goto 4, 3) := by decide +kernel
theorem dX11_of_26 : decode cX11_of 26 = .ok (.iconst 0, 1) := by decide +kernel
theorem dX11_of_27 : decode cX11_of 27 = .ok (.putfield 87, 3) := by decide +kernel
theorem dX11_of_30 : decode cX11_of 30 = .ok (.aload_n 0, 1) := by decide +kernel
theorem dX11_of_31 : decode cX11_of 31 = .ok (.getfield 87, 3) := by decide +kernel
theorem dX11_of_34 : decode cX11_of 34 = .ok (.ifCond .le 7, 3) := by decide +kernel
theorem dX11_of_37 : decode cX11_of 37 = .ok (.iconst 0, 1) := by decide +kernel
theorem dX11_of_38 : decode cX11_of 38 = .ok (.goto 24, 3) := by decide +kernel
theorem dX11_of_41 : decode cX11_of 41 = .ok (.aload_n 0, 1) := by decide +kernel
theorem dX11_of_42 : decode cX11_of 42 = .ok (.iconst 0, 1) := by decide +kernel
theorem dX11_of_43 : decode cX11_of 43 = .ok (.iload_n 1, 1) := by decide +kernel
theorem dX11_of_44 : decode cX11_of 44 = .ok (.aload_n 0, 1) := by decide +kernel
theorem dX11_of_45 : decode cX11_of 45 = .ok (.getfield 14, 3) := by decide +kernel
theorem dX11_of_48 : decode cX11_of 48 = .ok (.iload_n 1, 1) := by decide +kernel
theorem dX11_of_49 : decode cX11_of 49 = .ok (.iaload, 1) := by decide +kernel
theorem dX11_of_50 : decode cX11_of 50 = .ok (.aload_n 0, 1) := by decide +kernel
theorem dX11_of_51 : decode cX11_of 51 = .ok (.getfield 17, 3) := by decide +kernel
theorem dX11_of_54 : decode cX11_of 54 = .ok (.iload_n 1, 1) := by decide +kernel
theorem dX11_of_55 : decode cX11_of 55 = .ok (.iaload, 1) := by decide +kernel
theorem dX11_of_56 : decode cX11_of 56 = .ok (.iconst 1, 1) := by decide +kernel
theorem dX11_of_57 : decode cX11_of 57 = .ok (.iload_n 1, 1) := by decide +kernel
theorem dX11_of_58 : decode cX11_of 58 = .ok (.ishl, 1) := by decide +kernel
theorem dX11_of_59 : decode cX11_of 59 = .ok (.invokevirtual 131, 3) := by decide +kernel
theorem dX11_of_62 : decode cX11_of 62 = .ok (.ireturn, 1) := by decide +kernel
theorem dX11_isOf_0 : decode cX11_isOf 0 = .ok (.iload_n 0, 1) := by decide +kernel
theorem dX11_isOf_1 : decode cX11_isOf 1 = .ok (.iconst 0, 1) := by decide +kernel
theorem dX11_isOf_2 : decode cX11_isOf 2 = .ok (.iconst 5, 1) := by decide +kernel
theorem dX11_isOf_3 : decode cX11_isOf 3 = .ok (.invokestatic 96, 3) := by decide +kernel
theorem dX11_isOf_6 : decode cX11_isOf 6 = .ok (.ifCond .eq 16, 3) := by decide +kernel
theorem dX11_isOf_9 : decode cX11_isOf 9 = .ok (.iload_n 1, 1) := by decide +kernel
theorem dX11_isOf_10 : decode cX11_isOf 10 = .ok (.iload_n 0, 1) := by decide +kernel
theorem dX11_isOf_11 : decode cX11_isOf 11 = .ok (.ishr, 1) := by decide +kernel
theorem dX11_isOf_12 : decode cX11_isOf 12 = .ok (.iconst 1, 1) := by decide +kernel
theorem dX11_isOf_13 : decode cX11_isOf 13 = .ok (.iand, 1) := by decide +kernel
theorem dX11_isOf_14 : decode cX11_isOf 14 = .ok (.iconst 1, 1) := by decide +kernel
theorem dX11_isOf_15 : decode cX11_isOf 15 = .ok (.if_icmp .ne 7, 3) := by decide +kernel
theorem dX11_isOf_18 : decode cX11_isOf 18 = .ok (.iconst 1, 1) := by decide +kernel
theorem dX11_isOf_19 : decode cX11_isOf 19 = .ok (.goto 4, 3) := by decide +kernel
theorem dX11_isOf_22 : decode cX11_isOf 22 = .ok (.iconst 0, 1) := by decide +kernel
theorem dX11_isOf_23 : decode cX11_isOf 23 = .ok (.ireturn, 1) := by decide +kernel
theorem dX11_select_0 : decode cX11_select 0 = .ok (.aload_n 0, 1) := by decide +kernel
theorem dX11_select_1 : decode cX11_select 1 = .ok (.aload_n 0, 1) := by decide +kernel
theorem dX11_select_2 : decode cX11_select 2 = .ok (.iload_n 1, 1) := by decide +kernel
theorem dX11_select_3 : decode cX11_select 3 = .ok (.invokevirtual 135, 3) := by decide +kernel
theorem dX11_select_6 : decode cX11_select 6 = .ok (.ifCond .ne 7, 3) := by decide +kernel
theorem dX11_select_9 : decode cX11_select 9 = .ok (.iconst 1, 1) := by decide +kernel
theorem dX11_select_10 : decode cX11_select 10 = .ok (.goto 44, 3) := by decide +kernel
theorem dX11_select_13 : decode cX11_select 13 = .ok (.iload_n 2, 1) := by decide +kernel
theorem dX11_select_14 : decode cX11_select 14 = .ok (.aload_n 0, 1) := by decide +kernel
theorem dX11_select_15 : decode cX11_select 15 = .ok (.getfield 45, 3) := by decide +kernel
theorem dX11_select_18 : decode cX11_select 18 = .ok (.iload_n 1, 1) := by decide +kernel
theorem dX11_select_19 : decode cX11_select 19 = .ok (.iaload, 1) := by decide +kernel
theorem dX11_select_20 : decode cX11_select 20 = .ok (.invokestatic 138, 3) := by decide +kernel
theorem dX11_select_23 : decode cX11_select 23 = .ok (.ifCond .eq 13, 3) := by decide +kernel
theorem dX11_select_26 : decode cX11_select 26 = .ok (.iload_n 3, 1) := by decide +kernel
theorem dX11_select_27 : decode cX11_select 27 = .ok (.iconst 0, 1) := by decide +kernel
theorem dX11_select_28 : decode cX11_select 28 = .ok (.bipush 9, 2) := by decide +kernel
theorem dX11_select_30 : decode cX11_select 30 = .ok (.invokestatic 96, 3) := by decide +kernel
theorem dX11_select_33 : decode cX11_select 33 = .ok (.ifCond .ne 7, 3) := by decide +kernel
theorem dX11_select_36 : decode cX11_select 36 = .ok (.iconst 2, 1) := by decide +kernel
theorem dX11_select_37 : decode cX11_select 37 = .ok (.goto 17, 3) := by decide +kernel
theorem dX11_select_40 : decode cX11_select 40 = .ok (.aload_n 0, 1) := by decide +kernel
theorem dX11_select_41 : decode cX11_select 41 = .ok (.getfield 128, 3) := by decide +kernel
theorem dX11_select_44 : decode cX11_select 44 = .ok (.bipush 10, 2) := by decide +kernel
theorem dX11_select_46 : decode cX11_select 46 = .ok (.if_icmp .ne 7, 3) := by decide +kernel
theorem dX11_select_49 : decode cX11_select 49 = .ok (.iconst 3, 1) := by decide +kernel
theorem dX11_select_50 : decode cX11_select 50 = .ok (.goto 4, 3) := by decide +kernel
theorem dX11_select_53 : decode cX11_select 53 = .ok (.iconst 0, 1) := by decide +kernel
theorem dX11_select_54 : decode cX11_select 54 = .ok (.putfield 87, 3) := by decide +kernel
theorem dX11_select_57 : decode cX11_select 57 = .ok (.aload_n 0, 1) := by decide +kernel
theorem dX11_select_58 : decode cX11_select 58 = .ok (.getfield 87, 3) := by decide +kernel
theorem dX11_select_61 : decode cX11_select 61 = .ok (.ifCond .le 5, 3) := by decide +kernel
theorem dX11_select_64 : decode cX11_select 64 = .ok (.iconst 0, 1) := by decide +kernel
theorem dX11_select_65 : decode cX11_select 65 = .ok (.ireturn, 1) := by decide +kernel
theorem dX11_select_66 : decode cX11_select 66 = .ok (.aload_n 0, 1) := by decide +kernel
theorem dX11_select_67 : decode cX11_select 67 = .ok (.getfield 35, 3) := by decide +kernel
theorem dX11_select_70 : decode cX11_select 70 = .ok (.aload_n 0, 1) := by decide +kernel
theorem dX11_select_71 : decode cX11_select 71 = .ok (.getfield 128, 3) := by decide +kernel
theorem dX11_select_74 : decode cX11_select 74 = .ok (.iload_n 2, 1) := by decide +kernel
theorem dX11_select_75 : decode cX11_select 75 = .ok (.iastore, 1) := by decide +kernel
theorem dX11_select_76 : decode cX11_select 76 = .ok (.aload_n 0, 1) := by decide +kernel
theorem dX11_select_77 : decode cX11_select 77 = .ok (.getfield 38, 3) := by decide +kernel
theorem dX11_select_80 : decode cX11_select 80 = .ok (.aload_n 0, 1) := by decide +kernel
theorem dX11_select_81 : decode cX11_select 81 = .ok (.getfield 128, 3) := by decide +kernel
theorem dX11_select_84 : decode cX11_select 84 = .ok (.iload_n 3, 1) := by decide +kernel
theorem dX11_select_85 : decode cX11_select 85 = .ok (.iastore, 1) := by decide +kernel
theorem dX11_select_86 : decode cX11_select 86 = .ok (.aload_n 0, 1) := by decide +kernel
theorem dX11_select_87 : decode cX11_select 87 = .ok (.getfield 41, 3) := by decide +kernel
theorem dX11_select_90 : decode cX11_select 90 = .ok (.aload_n 0, 1) := by decide +kernel
theorem dX11_select_91 : decode cX11_select 91 = .ok (.getfield 128, 3) := by decide +kernel
theorem dX11_select_94 : decode cX11_select 94 = .ok (.iload 4, 2) := by decide +kernel
theorem dX11_select_96 : decode cX11_select 96 = .ok (.bastore, 1) := by decide +kernel
theorem dX11_select_97 : decode cX11_select 97 = .ok (.aload_n 0, 1) := by decide +kernel
theorem dX11_select_98 : decode cX11_select 98 = .ok (.iconst 1, 1) := by decide +kernel
theorem dX11_select_99 : decode cX11_select 99 = .ok (.iload_n 1, 1) := by decide +kernel
theorem dX11_select_100 : decode cX11_select 100 = .ok (.aload_n 0, 1) := by decide +kernel
theorem dX11_select_101 : decode cX11_select 101 = .ok (.getfield 45, 3) := by decide +kernel
theorem dX11_select_104 : decode cX11_select 104 = .ok (.iload_n 1, 1) := by decide +kernel
theorem dX11_select_105 : decode cX11_select 105 = .ok (.iaload, 1) := by decide +kernel
theorem dX11_select_106 : decode cX11_select 106 = .ok (.aload_n 0, 1) := by decide +kernel
theorem dX11_select_107 : decode cX11_select 107 = .ok (.getfield 48, 3) := by decide +kernel
theorem dX11_select_110 : decode cX11_select 110 = .ok (.iload_n 1, 1) := by decide +kernel
theorem dX11_select_111 : decode cX11_select 111 = .ok (.iaload, 1) := by decide +kernel
theorem dX11_select_112 : decode cX11_select 112 = .ok (.aload_n 0, 1) := by decide +kernel
theorem dX11_select_113 : decode cX11_select 113 = .ok (.getfield 51, 3) := by decide +kernel
theorem dX11_select_116 : decode cX11_select 116 = .ok (.iload_n 1, 1) := by decide +kernel
theorem dX11_select_117 : decode cX11_select 117 = .ok (.iaload, 1) := by decide +kernel
theorem dX11_select_118 : decode cX11_select 118 = .ok (.invokevirtual 131, 3) := by decide +kernel
theorem dX11_select_121 : decode cX11_select 121 = .ok (.ireturn, 1) := by decide +kernel
theorem dX11_drop_0 : decode cX11_drop 0 = .ok (.aload_n 0, 1) := by decide +kernel
theorem dX11_drop_1 : decode cX11_drop 1 = .ok (.aload_n 0, 1) := by decide +kernel
theorem dX11_drop_2 : decode cX11_drop 2 = .ok (.iload_n 1, 1) := by decide +kernel
theorem dX11_drop_3 : decode cX11_drop 3 = .ok (.invokevirtual 135, 3) := by decide +kernel
theorem dX11_drop_6 : decode cX11_drop 6 = .ok (.ifCond .ne 7, 3) := by decide +kernel
theorem dX11_drop_9 : decode cX11_drop 9 = .ok (.iconst 1, 1) := by decide +kernel
theorem dX11_drop_10 : decode cX11_drop 10 = .ok (.goto 53, 3) := by decide +kernel
theorem dX11_drop_13 : decode cX11_drop 13 = .ok (.iload_n 2, 1) := by decide +kernel
theorem dX11_drop_14 : decode cX11_drop 14 = .ok (.aload_n 0, 1) := by decide +kernel
theorem dX11_drop_15 : decode cX11_drop 15 = .ok (.getfield 45, 3) := by decide +kernel
theorem dX11_drop_18 : decode cX11_drop 18 = .ok (.iload_n 1, 1) := by decide +kernel
theorem dX11_drop_19 : decode cX11_drop 19 = .ok (.iaload, 1) := by decide +kernel
theorem dX11_drop_20 : decode cX11_drop 20 = .ok (.aload_n 0, 1) := by decide +kernel
theorem dX11_drop_21 : decode cX11_drop 21 = .ok (.getfield 48, 3) := by decide +kernel
theorem dX11_drop_24 : decode cX11_drop 24 = .ok (.iload_n 1, 1) := by decide +kernel
theorem dX11_drop_25 : decode cX11_drop 25 = .ok (.iaload, 1) := by decide +kernel
theorem dX11_drop_26 : decode cX11_drop 26 = .ok (.iconst (-1), 1) := by decide +kernel
theorem dX11_drop_27 : decode cX11_drop 27 = .ok (.ixor, 1) := by decide +kernel
theorem dX11_drop_28 : decode cX11_drop 28 = .ok (.iand, 1) := by decide +kernel
theorem dX11_drop_29 : decode cX11_drop 29 = .ok (.invokestatic 138, 3) := by decide +kernel
theorem dX11_drop_32 : decode cX11_drop 32 = .ok (.ifCond .eq 13, 3) := by decide +kernel
theorem dX11_drop_35 : decode cX11_drop 35 = .ok (.iload_n 3, 1) := by decide +kernel
theorem dX11_drop_36 : decode cX11_drop 36 = .ok (.iconst 0, 1) := by decide +kernel
theorem dX11_drop_37 : decode cX11_drop 37 = .ok (.bipush 9, 2) := by decide +kernel
theorem dX11_drop_39 : decode cX11_drop 39 = .ok (.invokestatic 96, 3) := by decide +kernel
theorem dX11_drop_42 : decode cX11_drop 42 = .ok (.ifCond .ne 7, 3) := by decide +kernel
theorem dX11_drop_45 : decode cX11_drop 45 = .ok (.iconst 2, 1) := by decide +kernel
theorem dX11_drop_46 : decode cX11_drop 46 = .ok (.goto 17, 3) := by decide +kernel
theorem dX11_drop_49 : decode cX11_drop 49 = .ok (.aload_n 0, 1) := by decide +kernel
theorem dX11_drop_50 : decode cX11_drop 50 = .ok (.getfield 128, 3) := by decide +kernel
theorem dX11_drop_53 : decode cX11_drop 53 = .ok (.bipush 10, 2) := by decide +kernel
theorem dX11_drop_55 : decode cX11_drop 55 = .ok (.if_icmp .ne 7, 3) := by decide +kernel
theorem dX11_drop_58 : decode cX11_drop 58 = .ok (.iconst 3, 1) := by decide +kernel
theorem dX11_drop_59 : decode cX11_drop 59 = .ok (.goto 4, 3) := by decide +kernel
theorem dX11_drop_62 : decode cX11_drop 62 = .ok (.iconst 0, 1) := by decide +kernel
theorem dX11_drop_63 : decode cX11_drop 63 = .ok (.putfield 87, 3) := by decide +kernel
theorem dX11_drop_66 : decode cX11_drop 66 = .ok (.aload_n 0, 1) := by decide +kernel
theorem dX11_drop_67 : decode cX11_drop 67 = .ok (.getfield 87, 3) := by decide +kernel
theorem dX11_drop_70 : decode cX11_drop 70 = .ok (.ifCond .le 5, 3) := by decide +kernel
theorem dX11_drop_73 : decode cX11_drop 73 = .ok (.iconst 0, 1) := by decide +kernel
theorem dX11_drop_74 : decode cX11_drop 74 = .ok (.ireturn, 1) := by decide +kernel
theorem dX11_drop_75 : decode cX11_drop 75 = .ok (.aload_n 0, 1) := by decide +kernel
theorem dX11_drop_76 : decode cX11_drop 76 = .ok (.getfield 35, 3) := by decide +kernel
theorem dX11_drop_79 : decode cX11_drop 79 = .ok (.aload_n 0, 1) := by decide +kernel
theorem dX11_drop_80 : decode cX11_drop 80 = .ok (.getfield 128, 3) := by decide +kernel
theorem dX11_drop_83 : decode cX11_drop 83 = .ok (.iload_n 2, 1) := by decide +kernel
theorem dX11_drop_84 : decode cX11_drop 84 = .ok (.iastore, 1) := by decide +kernel
theorem dX11_drop_85 : decode cX11_drop 85 = .ok (.aload_n 0, 1) := by decide +kernel
theorem dX11_drop_86 : decode cX11_drop 86 = .ok (.getfield 38, 3) := by decide +kernel
theorem dX11_drop_89 : decode cX11_drop 89 = .ok (.aload_n 0, 1) := by decide +kernel
theorem dX11_drop_90 : decode cX11_drop 90 = .ok (.getfield 128, 3) := by decide +kernel
theorem dX11_drop_93 : decode cX11_drop 93 = .ok (.iload_n 3, 1) := by decide +kernel
theorem dX11_drop_94 : decode cX11_drop 94 = .ok (.iastore, 1) := by decide +kernel
theorem dX11_drop_95 : decode cX11_drop 95 = .ok (.aload_n 0, 1) := by decide +kernel
theorem dX11_drop_96 : decode cX11_drop 96 = .ok (.iconst 2, 1) := by decide +kernel
theorem dX11_drop_97 : decode cX11_drop 97 = .ok (.iload_n 1, 1) := by decide +kernel
theorem dX11_drop_98 : decode cX11_drop 98 = .ok (.aload_n 0, 1) := by decide +kernel
theorem dX11_drop_99 : decode cX11_drop 99 = .ok (.getfield 45, 3) := by decide +kernel
theorem dX11_drop_102 : decode cX11_drop 102 = .ok (.iload_n 1, 1) := by decide +kernel
theorem dX11_drop_103 : decode cX11_drop 103 = .ok (.iaload, 1) := by decide +kernel
theorem dX11_drop_104 : decode cX11_drop 104 = .ok (.iconst 1, 1) := by decide +kernel
theorem dX11_drop_105 : decode cX11_drop 105 = .ok (.iload_n 2, 1) := by decide +kernel
theorem dX11_drop_106 : decode cX11_drop 106 = .ok (.ishl, 1) := by decide +kernel
theorem dX11_drop_107 : decode cX11_drop 107 = .ok (.iconst (-1), 1) := by decide +kernel
theorem dX11_drop_108 : decode cX11_drop 108 = .ok (.ixor, 1) := by decide +kernel
theorem dX11_drop_109 : decode cX11_drop 109 = .ok (.iand, 1) := by decide +kernel
theorem dX11_drop_110 : decode cX11_drop 110 = .ok (.aload_n 0, 1) := by decide +kernel
theorem dX11_drop_111 : decode cX11_drop 111 = .ok (.getfield 48, 3) := by decide +kernel
theorem dX11_drop_114 : decode cX11_drop 114 = .ok (.iload_n 1, 1) := by decide +kernel
theorem dX11_drop_115 : decode cX11_drop 115 = .ok (.iaload, 1) := by decide +kernel
theorem dX11_drop_116 : decode cX11_drop 116 = .ok (.aload_n 0, 1) := by decide +kernel
theorem dX11_drop_117 : decode cX11_drop 117 = .ok (.getfield 51, 3) := by decide +kernel
theorem dX11_drop_120 : decode cX11_drop 120 = .ok (.iload_n 1, 1) := by decide +kernel
theorem dX11_drop_121 : decode cX11_drop 121 = .ok (.iaload, 1) := by decide +kernel
theorem dX11_drop_122 : decode cX11_drop 122 = .ok (.invokevirtual 131, 3) := by decide +kernel
theorem dX11_drop_125 : decode cX11_drop 125 = .ok (.ireturn, 1) := by decide +kernel
theorem dX11_join_0 : decode cX11_join 0 = .ok (.aload_n 0, 1) := by decide +kernel
theorem dX11_join_1 : decode cX11_join 1 = .ok (.aload_n 0, 1) := by decide +kernel
theorem dX11_join_2 : decode cX11_join 2 = .ok (.iload_n 1, 1) := by decide +kernel
theorem dX11_join_3 : decode cX11_join 3 = .ok (.invokevirtual 135, 3) := by decide +kernel
theorem dX11_join_6 : decode cX11_join 6 = .ok (.ifCond .eq 15, 3) := by decide +kernel
theorem dX11_join_9 : decode cX11_join 9 = .ok (.aload_n 0, 1) := by decide +kernel
theorem dX11_join_10 : decode cX11_join 10 = .ok (.iload_n 2, 1) := by decide +kernel
theorem dX11_join_11 : decode cX11_join 11 = .ok (.invokevirtual 135, 3) := by decide +kernel
theorem dX11_join_14 : decode cX11_join 14 = .ok (.ifCond .eq 7, 3) := by decide +kernel
theorem dX11_join_17 : decode cX11_join 17 = .ok (.iconst 0, 1) := by decide +kernel
theorem dX11_join_18 : decode cX11_join 18 = .ok (.goto 4, 3) := by decide +kernel
theorem dX11_join_21 : decode cX11_join 21 = .ok (.iconst 1, 1) := by decide +kernel
theorem dX11_join_22 : decode cX11_join 22 = .ok (.putfield 87, 3) := by decide +kernel
theorem dX11_join_25 : decode cX11_join 25 = .ok (.aload_n 0, 1) := by decide +kernel
theorem dX11_join_26 : decode cX11_join 26 = .ok (.getfield 87, 3) := by decide +kernel
theorem dX11_join_29 : decode cX11_join 29 = .ok (.ifCond .ne 69, 3) := by decide +kernel
theorem dX11_join_32 : decode cX11_join 32 = .ok (.aload_n 0, 1) := by decide +kernel
theorem dX11_join_33 : decode cX11_join 33 = .ok (.getfield 51, 3) := by decide +kernel
theorem dX11_join_36 : decode cX11_join 36 = .ok (.iload_n 1, 1) := by decide +kernel
theorem dX11_join_37 : decode cX11_join 37 = .ok (.iaload, 1) := by decide +kernel
theorem dX11_join_38 : decode cX11_join 38 = .ok (.aload_n 0, 1) := by decide +kernel
theorem dX11_join_39 : decode cX11_join 39 = .ok (.getfield 51, 3) := by decide +kernel
theorem dX11_join_42 : decode cX11_join 42 = .ok (.iload_n 2, 1) := by decide +kernel
theorem dX11_join_43 : decode cX11_join 43 = .ok (.iaload, 1) := by decide +kernel
theorem dX11_join_44 : decode cX11_join 44 = .ok (.iand, 1) := by decide +kernel
theorem dX11_join_45 : decode cX11_join 45 = .ok (.ifCond .ne 25, 3) := by decide +kernel
theorem dX11_join_48 : decode cX11_join 48 = .ok (.aload_n 0, 1) := by decide +kernel
theorem dX11_join_49 : decode cX11_join 49 = .ok (.getfield 48, 3) := by decide +kernel
theorem dX11_join_52 : decode cX11_join 52 = .ok (.iload_n 2, 1) := by decide +kernel
theorem dX11_join_53 : decode cX11_join 53 = .ok (.iaload, 1) := by decide +kernel
theorem dX11_join_54 : decode cX11_join 54 = .ok (.aload_n 0, 1) := by decide +kernel
theorem dX11_join_55 : decode cX11_join 55 = .ok (.getfield 45, 3) := by decide +kernel
theorem dX11_join_58 : decode cX11_join 58 = .ok (.iload_n 1, 1) := by decide +kernel
theorem dX11_join_59 : decode cX11_join 59 = .ok (.iaload, 1) := by decide +kernel
theorem dX11_join_60 : decode cX11_join 60 = .ok (.iconst (-1), 1) := by decide +kernel
theorem dX11_join_61 : decode cX11_join 61 = .ok (.ixor, 1) := by decide +kernel
theorem dX11_join_62 : decode cX11_join 62 = .ok (.iand, 1) := by decide +kernel
theorem dX11_join_63 : decode cX11_join 63 = .ok (.ifCond .ne 7, 3) := by decide +kernel
theorem dX11_join_66 : decode cX11_join 66 = .ok (.iconst 1, 1) := by decide +kernel
theorem dX11_join_67 : decode cX11_join 67 = .ok (.goto 4, 3) := by decide +kernel
theorem dX11_join_70 : decode cX11_join 70 = .ok (.iconst 0, 1) := by decide +kernel
theorem dX11_join_71 : decode cX11_join 71 = .ok (.istore_n 3, 1) := by decide +kernel
theorem dX11_join_72 : decode cX11_join 72 = .ok (.aload_n 0, 1) := by decide +kernel
theorem dX11_join_73 : decode cX11_join 73 = .ok (.iload_n 3, 1) := by decide +kernel
theorem dX11_join_74 : decode cX11_join 74 = .ok (.ifCond .ne 7, 3) := by decide +kernel
theorem dX11_join_77 : decode cX11_join 77 = .ok (.iconst 2, 1) := by decide +kernel
theorem dX11_join_78 : decode cX11_join 78 = .ok (.goto 17, 3) := by decide +kernel
theorem dX11_join_81 : decode cX11_join 81 = .ok (.aload_n 0, 1) := by decide +kernel
theorem dX11_join_82 : decode cX11_join 82 = .ok (.getfield 128, 3) := by decide +kernel
theorem dX11_join_85 : decode cX11_join 85 = .ok (.bipush 10, 2) := by decide +kernel
theorem dX11_join_87 : decode cX11_join 87 = .ok (.if_icmp .ne 7, 3) := by decide +kernel
theorem dX11_join_90 : decode cX11_join 90 = .ok (.iconst 3, 1) := by decide +kernel
theorem dX11_join_91 : decode cX11_join 91 = .ok (.goto 4, 3) := by decide +kernel
theorem dX11_join_94 : decode cX11_join 94 = .ok (.iconst 0, 1) := by decide +kernel
theorem dX11_join_95 : decode cX11_join 95 = .ok (.putfield 87, 3) := by decide +kernel
theorem dX11_join_98 : decode cX11_join 98 = .ok (.aload_n 0, 1) := by decide +kernel
theorem dX11_join_99 : decode cX11_join 99 = .ok (.getfield 87, 3) := by decide +kernel
theorem dX11_join_102 : decode cX11_join 102 = .ok (.ifCond .le 5, 3) := by decide +kernel
theorem dX11_join_105 : decode cX11_join 105 = .ok (.iconst 0, 1) := by decide +kernel
theorem dX11_join_106 : decode cX11_join 106 = .ok (.ireturn, 1) := by decide +kernel
theorem dX11_join_107 : decode cX11_join 107 = .ok (.aload_n 0, 1) := by decide +kernel
theorem dX11_join_108 : decode cX11_join 108 = .ok (.getfield 32, 3) := by decide +kernel
theorem dX11_join_111 : decode cX11_join 111 = .ok (.aload_n 0, 1) := by decide +kernel
theorem dX11_join_112 : decode cX11_join 112 = .ok (.getfield 128, 3) := by decide +kernel
theorem dX11_join_115 : decode cX11_join 115 = .ok (.iload_n 2, 1) := by decide +kernel
theorem dX11_join_116 : decode cX11_join 116 = .ok (.iastore, 1) := by decide +kernel
theorem dX11_join_117 : decode cX11_join 117 = .ok (.aload_n 0, 1) := by decide +kernel
theorem dX11_join_118 : decode cX11_join 118 = .ok (.iconst 3, 1) := by decide +kernel
theorem dX11_join_119 : decode cX11_join 119 = .ok (.iload_n 1, 1) := by decide +kernel
theorem dX11_join_120 : decode cX11_join 120 = .ok (.aload_n 0, 1) := by decide +kernel
theorem dX11_join_121 : decode cX11_join 121 = .ok (.getfield 45, 3) := by decide +kernel
theorem dX11_join_124 : decode cX11_join 124 = .ok (.iload_n 1, 1) := by decide +kernel
theorem dX11_join_125 : decode cX11_join 125 = .ok (.iaload, 1) := by decide +kernel
theorem dX11_join_126 : decode cX11_join 126 = .ok (.aload_n 0, 1) := by decide +kernel
theorem dX11_join_127 : decode cX11_join 127 = .ok (.getfield 45, 3) := by decide +kernel
theorem dX11_join_130 : decode cX11_join 130 = .ok (.iload_n 2, 1) := by decide +kernel
theorem dX11_join_131 : decode cX11_join 131 = .ok (.iaload, 1) := by decide +kernel
theorem dX11_join_132 : decode cX11_join 132 = .ok (.ior, 1) := by decide +kernel
theorem dX11_join_133 : decode cX11_join 133 = .ok (.aload_n 0, 1) := by decide +kernel
theorem dX11_join_134 : decode cX11_join 134 = .ok (.getfield 48, 3) := by decide +kernel
theorem dX11_join_137 : decode cX11_join 137 = .ok (.iload_n 1, 1) := by decide +kernel
theorem dX11_join_138 : decode cX11_join 138 = .ok (.iaload, 1) := by decide +kernel
theorem dX11_join_139 : decode cX11_join 139 = .ok (.aload_n 0, 1) := by decide +kernel
theorem dX11_join_140 : decode cX11_join 140 = .ok (.getfield 51, 3) := by decide +kernel
theorem dX11_join_143 : decode cX11_join 143 = .ok (.iload_n 1, 1) := by decide +kernel
theorem dX11_join_144 : decode cX11_join 144 = .ok (.iaload, 1) := by decide +kernel
theorem dX11_join_145 : decode cX11_join 145 = .ok (.aload_n 0, 1) := by decide +kernel
theorem dX11_join_146 : decode cX11_join 146 = .ok (.getfield 51, 3) := by decide +kernel
theorem dX11_join_149 : decode cX11_join 149 = .ok (.iload_n 2, 1) := by decide +kernel
theorem dX11_join_150 : decode cX11_join 150 = .ok (.iaload, 1) := by decide +kernel
theorem dX11_join_151 : decode cX11_join 151 = .ok (.ior, 1) := by decide +kernel
theorem dX11_join_152 : decode cX11_join 152 = .ok (.invokevirtual 131, 3) := by decide +kernel
theorem dX11_join_155 : decode cX11_join 155 = .ok (.ireturn, 1) := by decide +kernel
theorem dX11_isSelected_0 : decode cX11_isSelected 0 = .ok (.aload_n 0, 1) := by decide +kernel
theorem dX11_isSelected_1 : decode cX11_isSelected 1 = .ok (.iload_n 2, 1) := by decide +kernel
theorem dX11_isSelected_2 : decode cX11_isSelected 2 = .ok (.aload_n 0, 1) := by decide +kernel
theorem dX11_isSelected_3 : decode cX11_isSelected 3 = .ok (.getfield 35, 3) := by decide +kernel
theorem dX11_isSelected_6 : decode cX11_isSelected 6 = .ok (.iload_n 1, 1) := by decide +kernel
theorem dX11_isSelected_7 : decode cX11_isSelected 7 = .ok (.iaload, 1) := by decide +kernel
theorem dX11_isSelected_8 : decode cX11_isSelected 8 = .ok (.invokevirtual 91, 3) := by decide +kernel
theorem dX11_isSelected_11 : decode cX11_isSelected 11 = .ok (.aload_n 0, 1) := by decide +kernel
theorem dX11_isSelected_12 : decode cX11_isSelected 12 = .ok (.getfield 38, 3) := by decide +kernel
theorem dX11_isSelected_15 : decode cX11_isSelected 15 = .ok (.iload_n 1, 1) := by decide +kernel
theorem dX11_isSelected_16 : decode cX11_isSelected 16 = .ok (.iaload, 1) := by decide +kernel
theorem dX11_isSelected_17 : decode cX11_isSelected 17 = .ok (.if_icmp .ne 7, 3) := by decide +kernel
theorem dX11_isSelected_20 : decode cX11_isSelected 20 = .ok (.iconst 1, 1) := by decide +kernel
theorem dX11_isSelected_21 : decode cX11_isSelected 21 = .ok (.goto 4, 3) := by decide +kernel
theorem dX11_isSelected_24 : decode cX11_isSelected 24 = .ok (.iconst 0, 1) := by decide +kernel
theorem dX11_isSelected_25 : decode cX11_isSelected 25 = .ok (.aload_n 0, 1) := by decide +kernel
theorem dX11_isSelected_26 : decode cX11_isSelected 26 = .ok (.getfield 41, 3) := by decide +kernel
theorem dX11_isSelected_29 : decode cX11_isSelected 29 = .ok (.iload_n 1, 1) := by decide +kernel
theorem dX11_isSelected_30 : decode cX11_isSelected 30 = .ok (.baload, 1) := by decide +kernel
theorem dX11_isSelected_31 : decode cX11_isSelected 31 = .ok (.if_icmp .ne 7, 3) := by decide +kernel
theorem dX11_isSelected_34 : decode cX11_isSelected 34 = .ok (.iconst 1, 1) := by decide +kernel
theorem dX11_isSelected_35 : decode cX11_isSelected 35 = .ok (.goto 4, 3) := by decide +kernel
theorem dX11_isSelected_38 : decode cX11_isSelected 38 = .ok (.iconst 0, 1) := by decide +kernel
theorem dX11_isSelected_39 : decode cX11_isSelected 39 = .ok (.ireturn, 1) := by decide +kernel
theorem dX11_both_0 : decode cX11_both 0 = .ok (.aload_n 0, 1) := by decide +kernel
theorem dX11_both_1 : decode cX11_both 1 = .ok (.getfield 45, 3) := by decide +kernel
theorem dX11_both_4 : decode cX11_both 4 = .ok (.aload_n 0, 1) := by decide +kernel
theorem dX11_both_5 : decode cX11_both 5 = .ok (.getfield 29, 3) := by decide +kernel
theorem dX11_both_8 : decode cX11_both 8 = .ok (.iload_n 1, 1) := by decide +kernel
theorem dX11_both_9 : decode cX11_both 9 = .ok (.iaload, 1) := by decide +kernel
theorem dX11_both_10 : decode cX11_both 10 = .ok (.iaload, 1) := by decide +kernel
theorem dX11_both_11 : decode cX11_both 11 = .ok (.aload_n 0, 1) := by decide +kernel
theorem dX11_both_12 : decode cX11_both 12 = .ok (.getfield 45, 3) := by decide +kernel
theorem dX11_both_15 : decode cX11_both 15 = .ok (.aload_n 0, 1) := by decide +kernel
theorem dX11_both_16 : decode cX11_both 16 = .ok (.getfield 32, 3) := by decide +kernel
theorem dX11_both_19 : decode cX11_both 19 = .ok (.iload_n 1, 1) := by decide +kernel
theorem dX11_both_20 : decode cX11_both 20 = .ok (.iaload, 1) := by decide +kernel
theorem dX11_both_21 : decode cX11_both 21 = .ok (.iaload, 1) := by decide +kernel
theorem dX11_both_22 : decode cX11_both 22 = .ok (.iand, 1) := by decide +kernel
theorem dX11_both_23 : decode cX11_both 23 = .ok (.ireturn, 1) := by decide +kernel
theorem dX11_joins_0 : decode cX11_joins 0 = .ok (.aload_n 0, 1) := by decide +kernel
theorem dX11_joins_1 : decode cX11_joins 1 = .ok (.getfield 32, 3) := by decide +kernel
theorem dX11_joins_4 : decode cX11_joins 4 = .ok (.iload_n 1, 1) := by decide +kernel
theorem dX11_joins_5 : decode cX11_joins 5 = .ok (.iaload, 1) := by decide +kernel
theorem dX11_joins_6 : decode cX11_joins 6 = .ok (.istore_n 3, 1) := by decide +kernel
theorem dX11_joins_7 : decode cX11_joins 7 = .ok (.iconst 0, 1) := by decide +kernel
theorem dX11_joins_8 : decode cX11_joins 8 = .ok (.istore 4, 2) := by decide +kernel
theorem dX11_joins_10 : decode cX11_joins 10 = .ok (.iload 4, 2) := by decide +kernel
theorem dX11_joins_12 : decode cX11_joins 12 = .ok (.aload_n 0, 1) := by decide +kernel
theorem dX11_joins_13 : decode cX11_joins 13 = .ok (.getfield 54, 3) := by decide +kernel
theorem dX11_joins_16 : decode cX11_joins 16 = .ok (.iload_n 3, 1) := by decide +kernel
theorem dX11_joins_17 : decode cX11_joins 17 = .ok (.iaload, 1) := by decide +kernel
theorem dX11_joins_18 : decode cX11_joins 18 = .ok (.if_icmp .ge 98, 3) := by decide +kernel
theorem dX11_joins_21 : decode cX11_joins 21 = .ok (.aload_n 0, 1) := by decide +kernel
theorem dX11_joins_22 : decode cX11_joins 22 = .ok (.getfield 57, 3) := by decide +kernel
theorem dX11_joins_25 : decode cX11_joins 25 = .ok (.bipush 40, 2) := by decide +kernel
theorem dX11_joins_27 : decode cX11_joins 27 = .ok (.iload_n 3, 1) := by decide +kernel
theorem dX11_joins_28 : decode cX11_joins 28 = .ok (.imul, 1) := by decide +kernel
theorem dX11_joins_29 : decode cX11_joins 29 = .ok (.iload 4, 2) := by decide +kernel
theorem dX11_joins_31 : decode cX11_joins 31 = .ok (.iadd, 1) := by decide +kernel
theorem dX11_joins_32 : decode cX11_joins 32 = .ok (.iaload, 1) := by decide +kernel
theorem dX11_joins_33 : decode cX11_joins 33 = .ok (.istore 5, 2) := by decide +kernel
theorem dX11_joins_35 : decode cX11_joins 35 = .ok (.aload_n 0, 1) := by decide +kernel
theorem dX11_joins_36 : decode cX11_joins 36 = .ok (.iload_n 2, 1) := by decide +kernel
theorem dX11_joins_37 : decode cX11_joins 37 = .ok (.aload_n 0, 1) := by decide +kernel
theorem dX11_joins_38 : decode cX11_joins 38 = .ok (.iload_n 1, 1) := by decide +kernel
theorem dX11_joins_39 : decode cX11_joins 39 = .ok (.invokevirtual 141, 3) := by decide +kernel
theorem dX11_joins_42 : decode cX11_joins 42 = .ok (.invokevirtual 100, 3) := by decide +kernel
theorem dX11_joins_45 : decode cX11_joins 45 = .ok (.aload_n 0, 1) := by decide +kernel
theorem dX11_joins_46 : decode cX11_joins 46 = .ok (.iload 5, 2) := by decide +kernel
theorem dX11_joins_48 : decode cX11_joins 48 = .ok (.aload_n 0, 1) := by decide +kernel
theorem dX11_joins_49 : decode cX11_joins 49 = .ok (.iload_n 1, 1) := by decide +kernel
theorem dX11_joins_50 : decode cX11_joins 50 = .ok (.invokevirtual 141, 3) := by decide +kernel
theorem dX11_joins_53 : decode cX11_joins 53 = .ok (.invokevirtual 100, 3) := by decide +kernel
theorem dX11_joins_56 : decode cX11_joins 56 = .ok (.if_icmp .ne 54, 3) := by decide +kernel
theorem dX11_joins_59 : decode cX11_joins 59 = .ok (.aload_n 0, 1) := by decide +kernel
theorem dX11_joins_60 : decode cX11_joins 60 = .ok (.getfield 54, 3) := by decide +kernel
theorem dX11_joins_63 : decode cX11_joins 63 = .ok (.iload_n 1, 1) := by decide +kernel
theorem dX11_joins_64 : decode cX11_joins 64 = .ok (.aload_n 0, 1) := by decide +kernel
theorem dX11_joins_65 : decode cX11_joins 65 = .ok (.getfield 57, 3) := by decide +kernel
theorem dX11_joins_68 : decode cX11_joins 68 = .ok (.bipush 40, 2) := by decide +kernel
theorem dX11_joins_70 : decode cX11_joins 70 = .ok (.iload_n 1, 1) := by decide +kernel
theorem dX11_joins_71 : decode cX11_joins 71 = .ok (.imul, 1) := by decide +kernel
theorem dX11_joins_72 : decode cX11_joins 72 = .ok (.aload_n 0, 1) := by decide +kernel
theorem dX11_joins_73 : decode cX11_joins 73 = .ok (.getfield 54, 3) := by decide +kernel
theorem dX11_joins_76 : decode cX11_joins 76 = .ok (.iload_n 1, 1) := by decide +kernel
theorem dX11_joins_77 : decode cX11_joins 77 = .ok (.iaload, 1) := by decide +kernel
theorem dX11_joins_78 : decode cX11_joins 78 = .ok (.iload_n 2, 1) := by decide +kernel
theorem dX11_joins_79 : decode cX11_joins 79 = .ok (.aload_n 0, 1) := by decide +kernel
theorem dX11_joins_80 : decode cX11_joins 80 = .ok (.iload 5, 2) := by decide +kernel
theorem dX11_joins_82 : decode cX11_joins 82 = .ok (.aload_n 0, 1) := by decide +kernel
theorem dX11_joins_83 : decode cX11_joins 83 = .ok (.getfield 45, 3) := by decide +kernel
theorem dX11_joins_86 : decode cX11_joins 86 = .ok (.iload_n 3, 1) := by decide +kernel
theorem dX11_joins_87 : decode cX11_joins 87 = .ok (.iaload, 1) := by decide +kernel
theorem dX11_joins_88 : decode cX11_joins 88 = .ok (.aload_n 0, 1) := by decide +kernel
theorem dX11_joins_89 : decode cX11_joins 89 = .ok (.getfield 45, 3) := by decide +kernel
theorem dX11_joins_92 : decode cX11_joins 92 = .ok (.aload_n 0, 1) := by decide +kernel
theorem dX11_joins_93 : decode cX11_joins 93 = .ok (.getfield 29, 3) := by decide +kernel
theorem dX11_joins_96 : decode cX11_joins 96 = .ok (.iload_n 1, 1) := by decide +kernel
theorem dX11_joins_97 : decode cX11_joins 97 = .ok (.iaload, 1) := by decide +kernel
theorem dX11_joins_98 : decode cX11_joins 98 = .ok (.iaload, 1) := by decide +kernel
theorem dX11_joins_99 : decode cX11_joins 99 = .ok (.iconst (-1), 1) := by decide +kernel
theorem dX11_joins_100 : decode cX11_joins 100 = .ok (.ixor, 1) := by decide +kernel
theorem dX11_joins_101 : decode cX11_joins 101 = .ok (.iand, 1) := by decide +kernel
theorem dX11_joins_102 : decode cX11_joins 102 = .ok (.invokevirtual 100, 3) := by decide +kernel
theorem dX11_joins_105 : decode cX11_joins 105 = .ok (.iadd, 1) := by decide +kernel
theorem dX11_joins_106 : decode cX11_joins 106 = .ok (.invokestatic 118, 3) := by decide +kernel
theorem dX11_joins_109 : decode cX11_joins 109 = .ok (.iastore, 1) := by decide +kernel
theorem dX11_joins_110 : decode cX11_joins 110 = .ok (.iinc 4 1, 3) := by decide +kernel
theorem dX11_joins_113 : decode cX11_joins 113 = .ok (.goto (-103), 3) := by decide +kernel
theorem dX11_joins_116 : decode cX11_joins 116 = .ok (.return_, 1) := by decide +kernel
theorem dX11_laysRow_0 : decode cX11_laysRow 0 = .ok (.aload_n 0, 1) := by decide +kernel
theorem dX11_laysRow_1 : decode cX11_laysRow 1 = .ok (.getfield 26, 3) := by decide +kernel
theorem dX11_laysRow_4 : decode cX11_laysRow 4 = .ok (.iload_n 1, 1) := by decide +kernel
theorem dX11_laysRow_5 : decode cX11_laysRow 5 = .ok (.iaload, 1) := by decide +kernel
theorem dX11_laysRow_6 : decode cX11_laysRow 6 = .ok (.iconst 3, 1) := by decide +kernel
theorem dX11_laysRow_7 : decode cX11_laysRow 7 = .ok (.if_icmp .ne 12, 3) := by decide +kernel
theorem dX11_laysRow_10 : decode cX11_laysRow 10 = .ok (.aload_n 0, 1) := by decide +kernel
theorem dX11_laysRow_11 : decode cX11_laysRow 11 = .ok (.iload_n 1, 1) := by decide +kernel
theorem dX11_laysRow_12 : decode cX11_laysRow 12 = .ok (.iload_n 2, 1) := by decide +kernel
theorem dX11_laysRow_13 : decode cX11_laysRow 13 = .ok (.invokevirtual 145, 3) := by decide +kernel
theorem dX11_laysRow_16 : decode cX11_laysRow 16 = .ok (.goto 56, 3) := by decide +kernel
theorem dX11_laysRow_19 : decode cX11_laysRow 19 = .ok (.aload_n 0, 1) := by decide +kernel
theorem dX11_laysRow_20 : decode cX11_laysRow 20 = .ok (.getfield 26, 3) := by decide +kernel
theorem dX11_laysRow_23 : decode cX11_laysRow 23 = .ok (.iload_n 1, 1) := by decide +kernel
theorem dX11_laysRow_24 : decode cX11_laysRow 24 = .ok (.iaload, 1) := by decide +kernel
theorem dX11_laysRow_25 : decode cX11_laysRow 25 = .ok (.iconst 1, 1) := by decide +kernel
theorem dX11_laysRow_26 : decode cX11_laysRow 26 = .ok (.if_icmp .ne 12, 3) := by decide +kernel
theorem dX11_laysRow_29 : decode cX11_laysRow 29 = .ok (.aload_n 0, 1) := by decide +kernel
theorem dX11_laysRow_30 : decode cX11_laysRow 30 = .ok (.iload_n 1, 1) := by decide +kernel
theorem dX11_laysRow_31 : decode cX11_laysRow 31 = .ok (.iload_n 2, 1) := by decide +kernel
theorem dX11_laysRow_32 : decode cX11_laysRow 32 = .ok (.invokevirtual 149, 3) := by decide +kernel
theorem dX11_laysRow_35 : decode cX11_laysRow 35 = .ok (.ifCond .eq 37, 3) := by decide +kernel
theorem dX11_laysRow_38 : decode cX11_laysRow 38 = .ok (.aload_n 0, 1) := by decide +kernel
theorem dX11_laysRow_39 : decode cX11_laysRow 39 = .ok (.getfield 54, 3) := by decide +kernel
theorem dX11_laysRow_42 : decode cX11_laysRow 42 = .ok (.iload_n 1, 1) := by decide +kernel
theorem dX11_laysRow_43 : decode cX11_laysRow 43 = .ok (.aload_n 0, 1) := by decide +kernel
theorem dX11_laysRow_44 : decode cX11_laysRow 44 = .ok (.getfield 57, 3) := by decide +kernel
theorem dX11_laysRow_47 : decode cX11_laysRow 47 = .ok (.bipush 40, 2) := by decide +kernel
theorem dX11_laysRow_49 : decode cX11_laysRow 49 = .ok (.iload_n 1, 1) := by decide +kernel
theorem dX11_laysRow_50 : decode cX11_laysRow 50 = .ok (.imul, 1) := by decide +kernel
theorem dX11_laysRow_51 : decode cX11_laysRow 51 = .ok (.aload_n 0, 1) := by decide +kernel
theorem dX11_laysRow_52 : decode cX11_laysRow 52 = .ok (.getfield 54, 3) := by decide +kernel
theorem dX11_laysRow_55 : decode cX11_laysRow 55 = .ok (.iload_n 1, 1) := by decide +kernel
theorem dX11_laysRow_56 : decode cX11_laysRow 56 = .ok (.iaload, 1) := by decide +kernel
theorem dX11_laysRow_57 : decode cX11_laysRow 57 = .ok (.aload_n 0, 1) := by decide +kernel
theorem dX11_laysRow_58 : decode cX11_laysRow 58 = .ok (.iload_n 2, 1) := by decide +kernel
theorem dX11_laysRow_59 : decode cX11_laysRow 59 = .ok (.aload_n 0, 1) := by decide +kernel
theorem dX11_laysRow_60 : decode cX11_laysRow 60 = .ok (.getfield 45, 3) := by decide +kernel
theorem dX11_laysRow_63 : decode cX11_laysRow 63 = .ok (.iload_n 1, 1) := by decide +kernel
theorem dX11_laysRow_64 : decode cX11_laysRow 64 = .ok (.iaload, 1) := by decide +kernel
theorem dX11_laysRow_65 : decode cX11_laysRow 65 = .ok (.invokevirtual 100, 3) := by decide +kernel
theorem dX11_laysRow_68 : decode cX11_laysRow 68 = .ok (.invokestatic 118, 3) := by decide +kernel
theorem dX11_laysRow_71 : decode cX11_laysRow 71 = .ok (.iastore, 1) := by decide +kernel
theorem dX11_laysRow_72 : decode cX11_laysRow 72 = .ok (.return_, 1) := by decide +kernel
theorem dX11_laysViews_0 : decode cX11_laysViews 0 = .ok (.iconst 0, 1) := by decide +kernel
theorem dX11_laysViews_1 : decode cX11_laysViews 1 = .ok (.istore_n 1, 1) := by decide +kernel
theorem dX11_laysViews_2 : decode cX11_laysViews 2 = .ok (.iload_n 1, 1) := by decide +kernel
theorem dX11_laysViews_3 : decode cX11_laysViews 3 = .ok (.aload_n 0, 1) := by decide +kernel
theorem dX11_laysViews_4 : decode cX11_laysViews 4 = .ok (.getfield 128, 3) := by decide +kernel
theorem dX11_laysViews_7 : decode cX11_laysViews 7 = .ok (.if_icmp .ge 98, 3) := by decide +kernel
theorem dX11_laysViews_10 : decode cX11_laysViews 10 = .ok (.aload_n 0, 1) := by decide +kernel
theorem dX11_laysViews_11 : decode cX11_laysViews 11 = .ok (.getfield 54, 3) := by decide +kernel
theorem dX11_laysViews_14 : decode cX11_laysViews 14 = .ok (.iload_n 1, 1) := by decide +kernel
theorem dX11_laysViews_15 : decode cX11_laysViews 15 = .ok (.iconst 0, 1) := by decide +kernel
theorem dX11_laysViews_16 : decode cX11_laysViews 16 = .ok (.iastore, 1) := by decide +kernel
theorem dX11_laysViews_17 : decode cX11_laysViews 17 = .ok (.aload_n 0, 1) := by decide +kernel
theorem dX11_laysViews_18 : decode cX11_laysViews 18 = .ok (.getfield 29, 3) := by decide +kernel
theorem dX11_laysViews_21 : decode cX11_laysViews 21 = .ok (.iload_n 1, 1) := by decide +kernel
theorem dX11_laysViews_22 : decode cX11_laysViews 22 = .ok (.iaload, 1) := by decide +kernel
theorem dX11_laysViews_23 : decode cX11_laysViews 23 = .ok (.istore_n 2, 1) := by decide +kernel
theorem dX11_laysViews_24 : decode cX11_laysViews 24 = .ok (.iconst 0, 1) := by decide +kernel
theorem dX11_laysViews_25 : decode cX11_laysViews 25 = .ok (.istore_n 3, 1) := by decide +kernel
theorem dX11_laysViews_26 : decode cX11_laysViews 26 = .ok (.iload_n 3, 1) := by decide +kernel
theorem dX11_laysViews_27 : decode cX11_laysViews 27 = .ok (.aload_n 0, 1) := by decide +kernel
theorem dX11_laysViews_28 : decode cX11_laysViews 28 = .ok (.getfield 26, 3) := by decide +kernel
theorem dX11_laysViews_31 : decode cX11_laysViews 31 = .ok (.iload_n 1, 1) := by decide +kernel
theorem dX11_laysViews_32 : decode cX11_laysViews 32 = .ok (.iaload, 1) := by decide +kernel
theorem dX11_laysViews_33 : decode cX11_laysViews 33 = .ok (.ifCond .ne 12, 3) := by decide +kernel
theorem dX11_laysViews_36 : decode cX11_laysViews 36 = .ok (.aload_n 0, 1) := by decide +kernel
theorem dX11_laysViews_37 : decode cX11_laysViews 37 = .ok (.getfield 20, 3) := by decide +kernel
theorem dX11_laysViews_40 : decode cX11_laysViews 40 = .ok (.iload_n 2, 1) := by decide +kernel
theorem dX11_laysViews_41 : decode cX11_laysViews 41 = .ok (.iaload, 1) := by decide +kernel
theorem dX11_laysViews_42 : decode cX11_laysViews 42 = .ok (.goto 9, 3) := by decide +kernel
theorem dX11_laysViews_45 : decode cX11_laysViews 45 = .ok (.aload_n 0, 1) := by decide +kernel
theorem dX11_laysViews_46 : decode cX11_laysViews 46 = .ok (.getfield 54, 3) := by decide +kernel
theorem dX11_laysViews_49 : decode cX11_laysViews 49 = .ok (.iload_n 2, 1) := by decide +kernel
theorem dX11_laysViews_50 : decode cX11_laysViews 50 = .ok (.iaload, 1) := by decide +kernel
theorem dX11_laysViews_51 : decode cX11_laysViews 51 = .ok (.if_icmp .ge 48, 3) := by decide +kernel
theorem dX11_laysViews_54 : decode cX11_laysViews 54 = .ok (.aload_n 0, 1) := by decide +kernel
theorem dX11_laysViews_55 : decode cX11_laysViews 55 = .ok (.iload_n 1, 1) := by decide +kernel
theorem dX11_laysViews_56 : decode cX11_laysViews 56 = .ok (.aload_n 0, 1) := by decide +kernel
theorem dX11_laysViews_57 : decode cX11_laysViews 57 = .ok (.getfield 26, 3) := by decide +kernel
theorem dX11_laysViews_60 : decode cX11_laysViews 60 = .ok (.iload_n 1, 1) := by decide +kernel
theorem dX11_laysViews_61 : decode cX11_laysViews 61 = .ok (.iaload, 1) := by decide +kernel
theorem dX11_laysViews_62 : decode cX11_laysViews 62 = .ok (.ifCond .ne 17, 3) := by decide +kernel
theorem dX11_laysViews_65 : decode cX11_laysViews 65 = .ok (.aload_n 0, 1) := by decide +kernel
theorem dX11_laysViews_66 : decode cX11_laysViews 66 = .ok (.getfield 23, 3) := by decide +kernel
theorem dX11_laysViews_69 : decode cX11_laysViews 69 = .ok (.bipush 12, 2) := by decide +kernel
theorem dX11_laysViews_71 : decode cX11_laysViews 71 = .ok (.iload_n 2, 1) := by decide +kernel
theorem dX11_laysViews_72 : decode cX11_laysViews 72 = .ok (.imul, 1) := by decide +kernel
theorem dX11_laysViews_73 : decode cX11_laysViews 73 = .ok (.iload_n 3, 1) := by decide +kernel
theorem dX11_laysViews_74 : decode cX11_laysViews 74 = .ok (.iadd, 1) := by decide +kernel
theorem dX11_laysViews_75 : decode cX11_laysViews 75 = .ok (.iaload, 1) := by decide +kernel
theorem dX11_laysViews_76 : decode cX11_laysViews 76 = .ok (.goto 14, 3) := by decide +kernel
theorem dX11_laysViews_79 : decode cX11_laysViews 79 = .ok (.aload_n 0, 1) := by decide +kernel
theorem dX11_laysViews_80 : decode cX11_laysViews 80 = .ok (.getfield 57, 3) := by decide +kernel
theorem dX11_laysViews_83 : decode cX11_laysViews 83 = .ok (.bipush 40, 2) := by decide +kernel
theorem dX11_laysViews_85 : decode cX11_laysViews 85 = .ok (.iload_n 2, 1) := by decide +kernel
theorem dX11_laysViews_86 : decode cX11_laysViews 86 = .ok (.imul, 1) := by decide +kernel
theorem dX11_laysViews_87 : decode cX11_laysViews 87 = .ok (.iload_n 3, 1) := by decide +kernel
theorem dX11_laysViews_88 : decode cX11_laysViews 88 = .ok (.iadd, 1) := by decide +kernel
theorem dX11_laysViews_89 : decode cX11_laysViews 89 = .ok (.iaload, 1) := by decide +kernel
theorem dX11_laysViews_90 : decode cX11_laysViews 90 = .ok (.invokevirtual 152, 3) := by decide +kernel
theorem dX11_laysViews_93 : decode cX11_laysViews 93 = .ok (.iinc 3 1, 3) := by decide +kernel
theorem dX11_laysViews_96 : decode cX11_laysViews 96 = .ok (.goto (-70), 3) := by decide +kernel
theorem dX11_laysViews_99 : decode cX11_laysViews 99 = .ok (.iinc 1 1, 3) := by decide +kernel
theorem dX11_laysViews_102 : decode cX11_laysViews 102 = .ok (.goto (-100), 3) := by decide +kernel
theorem dX11_laysViews_105 : decode cX11_laysViews 105 = .ok (.return_, 1) := by decide +kernel
theorem dX11_asksView_0 : decode cX11_asksView 0 = .ok (.aload_n 0, 1) := by decide +kernel
theorem dX11_asksView_1 : decode cX11_asksView 1 = .ok (.aload_n 0, 1) := by decide +kernel
theorem dX11_asksView_2 : decode cX11_asksView 2 = .ok (.iload_n 1, 1) := by decide +kernel
theorem dX11_asksView_3 : decode cX11_asksView 3 = .ok (.invokevirtual 135, 3) := by decide +kernel
theorem dX11_asksView_6 : decode cX11_asksView 6 = .ok (.ifCond .eq 7, 3) := by decide +kernel
theorem dX11_asksView_9 : decode cX11_asksView 9 = .ok (.iconst 0, 1) := by decide +kernel
theorem dX11_asksView_10 : decode cX11_asksView 10 = .ok (.goto 4, 3) := by decide +kernel
theorem dX11_asksView_13 : decode cX11_asksView 13 = .ok (.iconst 1, 1) := by decide +kernel
theorem dX11_asksView_14 : decode cX11_asksView 14 = .ok (.putfield 87, 3) := by decide +kernel
theorem dX11_asksView_17 : decode cX11_asksView 17 = .ok (.aload_n 0, 1) := by decide +kernel
theorem dX11_asksView_18 : decode cX11_asksView 18 = .ok (.getfield 87, 3) := by decide +kernel
theorem dX11_asksView_21 : decode cX11_asksView 21 = .ok (.ifCond .ne 7, 3) := by decide +kernel
theorem dX11_asksView_24 : decode cX11_asksView 24 = .ok (.iconst 1, 1) := by decide +kernel
theorem dX11_asksView_25 : decode cX11_asksView 25 = .ok (.goto 4, 3) := by decide +kernel
theorem dX11_asksView_28 : decode cX11_asksView 28 = .ok (.iconst 0, 1) := by decide +kernel
theorem dX11_asksView_29 : decode cX11_asksView 29 = .ok (.ireturn, 1) := by decide +kernel
theorem dX11_columns_0 : decode cX11_columns 0 = .ok (.aload_n 0, 1) := by decide +kernel
theorem dX11_columns_1 : decode cX11_columns 1 = .ok (.iload_n 1, 1) := by decide +kernel
theorem dX11_columns_2 : decode cX11_columns 2 = .ok (.invokevirtual 155, 3) := by decide +kernel
theorem dX11_columns_5 : decode cX11_columns 5 = .ok (.ifCond .eq 12, 3) := by decide +kernel
theorem dX11_columns_8 : decode cX11_columns 8 = .ok (.aload_n 0, 1) := by decide +kernel
theorem dX11_columns_9 : decode cX11_columns 9 = .ok (.getfield 45, 3) := by decide +kernel
theorem dX11_columns_12 : decode cX11_columns 12 = .ok (.iload_n 1, 1) := by decide +kernel
theorem dX11_columns_13 : decode cX11_columns 13 = .ok (.iaload, 1) := by decide +kernel
theorem dX11_columns_14 : decode cX11_columns 14 = .ok (.goto 4, 3) := by decide +kernel
theorem dX11_columns_17 : decode cX11_columns 17 = .ok (.iconst 0, 1) := by decide +kernel
theorem dX11_columns_18 : decode cX11_columns 18 = .ok (.ireturn, 1) := by decide +kernel
theorem dX11_key_0 : decode cX11_key 0 = .ok (.aload_n 0, 1) := by decide +kernel
theorem dX11_key_1 : decode cX11_key 1 = .ok (.iload_n 1, 1) := by decide +kernel
theorem dX11_key_2 : decode cX11_key 2 = .ok (.invokevirtual 155, 3) := by decide +kernel
theorem dX11_key_5 : decode cX11_key 5 = .ok (.ifCond .eq 12, 3) := by decide +kernel
theorem dX11_key_8 : decode cX11_key 8 = .ok (.aload_n 0, 1) := by decide +kernel
theorem dX11_key_9 : decode cX11_key 9 = .ok (.getfield 48, 3) := by decide +kernel
theorem dX11_key_12 : decode cX11_key 12 = .ok (.iload_n 1, 1) := by decide +kernel
theorem dX11_key_13 : decode cX11_key 13 = .ok (.iaload, 1) := by decide +kernel
theorem dX11_key_14 : decode cX11_key 14 = .ok (.goto 4, 3) := by decide +kernel
theorem dX11_key_17 : decode cX11_key 17 = .ok (.iconst 0, 1) := by decide +kernel
theorem dX11_key_18 : decode cX11_key 18 = .ok (.ireturn, 1) := by decide +kernel
theorem dX11_rows_0 : decode cX11_rows 0 = .ok (.aload_n 0, 1) := by decide +kernel
theorem dX11_rows_1 : decode cX11_rows 1 = .ok (.iload_n 1, 1) := by decide +kernel
theorem dX11_rows_2 : decode cX11_rows 2 = .ok (.invokevirtual 155, 3) := by decide +kernel
theorem dX11_rows_5 : decode cX11_rows 5 = .ok (.ifCond .ne 5, 3) := by decide +kernel
theorem dX11_rows_8 : decode cX11_rows 8 = .ok (.iconst 0, 1) := by decide +kernel
theorem dX11_rows_9 : decode cX11_rows 9 = .ok (.ireturn, 1) := by decide +kernel
theorem dX11_rows_10 : decode cX11_rows 10 = .ok (.aload_n 0, 1) := by decide +kernel
theorem dX11_rows_11 : decode cX11_rows 11 = .ok (.invokevirtual 158, 3) := by decide +kernel
theorem dX11_rows_14 : decode cX11_rows 14 = .ok (.aload_n 0, 1) := by decide +kernel
theorem dX11_rows_15 : decode cX11_rows 15 = .ok (.getfield 54, 3) := by decide +kernel
theorem dX11_rows_18 : decode cX11_rows 18 = .ok (.iload_n 1, 1) := by decide +kernel
theorem dX11_rows_19 : decode cX11_rows 19 = .ok (.iaload, 1) := by decide +kernel
theorem dX11_rows_20 : decode cX11_rows 20 = .ok (.ireturn, 1) := by decide +kernel
theorem dX11_row_0 : decode cX11_row 0 = .ok (.aload_n 0, 1) := by decide +kernel
theorem dX11_row_1 : decode cX11_row 1 = .ok (.iload_n 1, 1) := by decide +kernel
theorem dX11_row_2 : decode cX11_row 2 = .ok (.invokevirtual 155, 3) := by decide +kernel
theorem dX11_row_5 : decode cX11_row 5 = .ok (.ifCond .ne 5, 3) := by decide +kernel
theorem dX11_row_8 : decode cX11_row 8 = .ok (.iconst 0, 1) := by decide +kernel
theorem dX11_row_9 : decode cX11_row 9 = .ok (.ireturn, 1) := by decide +kernel
theorem dX11_row_10 : decode cX11_row 10 = .ok (.aload_n 0, 1) := by decide +kernel
theorem dX11_row_11 : decode cX11_row 11 = .ok (.invokevirtual 158, 3) := by decide +kernel
theorem dX11_row_14 : decode cX11_row 14 = .ok (.aload_n 0, 1) := by decide +kernel
theorem dX11_row_15 : decode cX11_row 15 = .ok (.iload_n 2, 1) := by decide +kernel
theorem dX11_row_16 : decode cX11_row 16 = .ok (.iconst 0, 1) := by decide +kernel
theorem dX11_row_17 : decode cX11_row 17 = .ok (.aload_n 0, 1) := by decide +kernel
theorem dX11_row_18 : decode cX11_row 18 = .ok (.getfield 54, 3) := by decide +kernel
theorem dX11_row_21 : decode cX11_row 21 = .ok (.iload_n 1, 1) := by decide +kernel
theorem dX11_row_22 : decode cX11_row 22 = .ok (.iaload, 1) := by decide +kernel
theorem dX11_row_23 : decode cX11_row 23 = .ok (.iconst 1, 1) := by decide +kernel
theorem dX11_row_24 : decode cX11_row 24 = .ok (.isub, 1) := by decide +kernel
theorem dX11_row_25 : decode cX11_row 25 = .ok (.invokestatic 96, 3) := by decide +kernel
theorem dX11_row_28 : decode cX11_row 28 = .ok (.ifCond .eq 7, 3) := by decide +kernel
theorem dX11_row_31 : decode cX11_row 31 = .ok (.iconst 0, 1) := by decide +kernel
theorem dX11_row_32 : decode cX11_row 32 = .ok (.goto 4, 3) := by decide +kernel
theorem dX11_row_35 : decode cX11_row 35 = .ok (.iconst 1, 1) := by decide +kernel
theorem dX11_row_36 : decode cX11_row 36 = .ok (.putfield 87, 3) := by decide +kernel
theorem dX11_row_39 : decode cX11_row 39 = .ok (.aload_n 0, 1) := by decide +kernel
theorem dX11_row_40 : decode cX11_row 40 = .ok (.getfield 87, 3) := by decide +kernel
theorem dX11_row_43 : decode cX11_row 43 = .ok (.ifCond .le 7, 3) := by decide +kernel
theorem dX11_row_46 : decode cX11_row 46 = .ok (.iconst 0, 1) := by decide +kernel
theorem dX11_row_47 : decode cX11_row 47 = .ok (.goto 14, 3) := by decide +kernel
theorem dX11_row_50 : decode cX11_row 50 = .ok (.aload_n 0, 1) := by decide +kernel
theorem dX11_row_51 : decode cX11_row 51 = .ok (.getfield 57, 3) := by decide +kernel
theorem dX11_row_54 : decode cX11_row 54 = .ok (.bipush 40, 2) := by decide +kernel
theorem dX11_row_56 : decode cX11_row 56 = .ok (.iload_n 1, 1) := by decide +kernel
theorem dX11_row_57 : decode cX11_row 57 = .ok (.imul, 1) := by decide +kernel
theorem dX11_row_58 : decode cX11_row 58 = .ok (.iload_n 2, 1) := by decide +kernel
theorem dX11_row_59 : decode cX11_row 59 = .ok (.iadd, 1) := by decide +kernel
theorem dX11_row_60 : decode cX11_row 60 = .ok (.iaload, 1) := by decide +kernel
theorem dX11_row_61 : decode cX11_row 61 = .ok (.ireturn, 1) := by decide +kernel
theorem dX11_open_0 : decode cX11_open 0 = .ok (.aload_n 0, 1) := by decide +kernel
theorem dX11_open_1 : decode cX11_open 1 = .ok (.iload_n 1, 1) := by decide +kernel
theorem dX11_open_2 : decode cX11_open 2 = .ok (.invokevirtual 155, 3) := by decide +kernel
theorem dX11_open_5 : decode cX11_open 5 = .ok (.ifCond .ne 5, 3) := by decide +kernel
theorem dX11_open_8 : decode cX11_open 8 = .ok (.iconst 0, 1) := by decide +kernel
theorem dX11_open_9 : decode cX11_open 9 = .ok (.ireturn, 1) := by decide +kernel
theorem dX11_open_10 : decode cX11_open 10 = .ok (.aload_n 0, 1) := by decide +kernel
theorem dX11_open_11 : decode cX11_open 11 = .ok (.invokevirtual 158, 3) := by decide +kernel
theorem dX11_open_14 : decode cX11_open 14 = .ok (.aload_n 0, 1) := by decide +kernel
theorem dX11_open_15 : decode cX11_open 15 = .ok (.iconst 1, 1) := by decide +kernel
theorem dX11_open_16 : decode cX11_open 16 = .ok (.putfield 161, 3) := by decide +kernel
theorem dX11_open_19 : decode cX11_open 19 = .ok (.aload_n 0, 1) := by decide +kernel
theorem dX11_open_20 : decode cX11_open 20 = .ok (.iload_n 1, 1) := by decide +kernel
theorem dX11_open_21 : decode cX11_open 21 = .ok (.putfield 165, 3) := by decide +kernel
theorem dX11_open_24 : decode cX11_open 24 = .ok (.aload_n 0, 1) := by decide +kernel
theorem dX11_open_25 : decode cX11_open 25 = .ok (.aload_n 0, 1) := by decide +kernel
theorem dX11_open_26 : decode cX11_open 26 = .ok (.getfield 54, 3) := by decide +kernel
theorem dX11_open_29 : decode cX11_open 29 = .ok (.iload_n 1, 1) := by decide +kernel
theorem dX11_open_30 : decode cX11_open 30 = .ok (.iaload, 1) := by decide +kernel
theorem dX11_open_31 : decode cX11_open 31 = .ok (.putfield 168, 3) := by decide +kernel
theorem dX11_open_34 : decode cX11_open 34 = .ok (.iconst 0, 1) := by decide +kernel
theorem dX11_open_35 : decode cX11_open 35 = .ok (.istore_n 2, 1) := by decide +kernel
theorem dX11_open_36 : decode cX11_open 36 = .ok (.iload_n 2, 1) := by decide +kernel
theorem dX11_open_37 : decode cX11_open 37 = .ok (.aload_n 0, 1) := by decide +kernel
theorem dX11_open_38 : decode cX11_open 38 = .ok (.getfield 168, 3) := by decide +kernel
theorem dX11_open_41 : decode cX11_open 41 = .ok (.if_icmp .ge 26, 3) := by decide +kernel
theorem dX11_open_44 : decode cX11_open 44 = .ok (.aload_n 0, 1) := by decide +kernel
theorem dX11_open_45 : decode cX11_open 45 = .ok (.getfield 66, 3) := by decide +kernel
theorem dX11_open_48 : decode cX11_open 48 = .ok (.iload_n 2, 1) := by decide +kernel
theorem dX11_open_49 : decode cX11_open 49 = .ok (.aload_n 0, 1) := by decide +kernel
theorem dX11_open_50 : decode cX11_open 50 = .ok (.getfield 57, 3) := by decide +kernel
theorem dX11_open_53 : decode cX11_open 53 = .ok (.bipush 40, 2) := by decide +kernel
theorem dX11_open_55 : decode cX11_open 55 = .ok (.iload_n 1, 1) := by decide +kernel
theorem dX11_open_56 : decode cX11_open 56 = .ok (.imul, 1) := by decide +kernel
theorem dX11_open_57 : decode cX11_open 57 = .ok (.iload_n 2, 1) := by decide +kernel
theorem dX11_open_58 : decode cX11_open 58 = .ok (.iadd, 1) := by decide +kernel
theorem dX11_open_59 : decode cX11_open 59 = .ok (.iaload, 1) := by decide +kernel
theorem dX11_open_60 : decode cX11_open 60 = .ok (.iastore, 1) := by decide +kernel
theorem dX11_open_61 : decode cX11_open 61 = .ok (.iinc 2 1, 3) := by decide +kernel
theorem dX11_open_64 : decode cX11_open 64 = .ok (.goto (-28), 3) := by decide +kernel
theorem dX11_open_67 : decode cX11_open 67 = .ok (.aload_n 0, 1) := by decide +kernel
theorem dX11_open_68 : decode cX11_open 68 = .ok (.getfield 168, 3) := by decide +kernel
theorem dX11_open_71 : decode cX11_open 71 = .ok (.ireturn, 1) := by decide +kernel
theorem dX11_add_0 : decode cX11_add 0 = .ok (.aload_n 0, 1) := by decide +kernel
theorem dX11_add_1 : decode cX11_add 1 = .ok (.aload_n 0, 1) := by decide +kernel
theorem dX11_add_2 : decode cX11_add 2 = .ok (.getfield 161, 3) := by decide +kernel
theorem dX11_add_5 : decode cX11_add 5 = .ok (.ifCond .eq 29, 3) := by decide +kernel
theorem dX11_add_8 : decode cX11_add 8 = .ok (.aload_n 0, 1) := by decide +kernel
theorem dX11_add_9 : decode cX11_add 9 = .ok (.getfield 66, 3) := by decide +kernel
theorem dX11_add_12 : decode cX11_add 12 = .ok (.iconst 0, 1) := by decide +kernel
theorem dX11_add_13 : decode cX11_add 13 = .ok (.aload_n 0, 1) := by decide +kernel
theorem dX11_add_14 : decode cX11_add 14 = .ok (.getfield 168, 3) := by decide +kernel
theorem dX11_add_17 : decode cX11_add 17 = .ok (.iload_n 1, 1) := by decide +kernel
theorem dX11_add_18 : decode cX11_add 18 = .ok (.invokestatic 122, 3) := by decide +kernel
theorem dX11_add_21 : decode cX11_add 21 = .ok (.iconst (-1), 1) := by decide +kernel
theorem dX11_add_22 : decode cX11_add 22 = .ok (.if_icmp .ne 12, 3) := by decide +kernel
theorem dX11_add_25 : decode cX11_add 25 = .ok (.aload_n 0, 1) := by decide +kernel
theorem dX11_add_26 : decode cX11_add 26 = .ok (.getfield 168, 3) := by decide +kernel
theorem dX11_add_29 : decode cX11_add 29 = .ok (.bipush 20, 2) := by decide +kernel
theorem dX11_add_31 : decode cX11_add 31 = .ok (.if_icmp .ne 7, 3) := by decide +kernel
theorem dX11_add_34 : decode cX11_add 34 = .ok (.iconst 1, 1) := by decide +kernel
theorem dX11_add_35 : decode cX11_add 35 = .ok (.goto 25, 3) := by decide +kernel
theorem dX11_add_38 : decode cX11_add 38 = .ok (.aload_n 0, 1) := by decide +kernel
theorem dX11_add_39 : decode cX11_add 39 = .ok (.iload_n 1, 1) := by decide +kernel
theorem dX11_add_40 : decode cX11_add 40 = .ok (.aload_n 0, 1) := by decide +kernel
theorem dX11_add_41 : decode cX11_add 41 = .ok (.getfield 45, 3) := by decide +kernel
theorem dX11_add_44 : decode cX11_add 44 = .ok (.aload_n 0, 1) := by decide +kernel
theorem dX11_add_45 : decode cX11_add 45 = .ok (.getfield 165, 3) := by decide +kernel
theorem dX11_add_48 : decode cX11_add 48 = .ok (.iaload, 1) := by decide +kernel
theorem dX11_add_49 : decode cX11_add 49 = .ok (.invokevirtual 110, 3) := by decide +kernel
theorem dX11_add_52 : decode cX11_add 52 = .ok (.ifCond .eq 7, 3) := by decide +kernel
theorem dX11_add_55 : decode cX11_add 55 = .ok (.iconst 0, 1) := by decide +kernel
theorem dX11_add_56 : decode cX11_add 56 = .ok (.goto 4, 3) := by decide +kernel
theorem dX11_add_59 : decode cX11_add 59 = .ok (.iconst 2, 1) := by decide +kernel
theorem dX11_add_60 : decode cX11_add 60 = .ok (.putfield 87, 3) := by decide +kernel
theorem dX11_add_63 : decode cX11_add 63 = .ok (.aload_n 0, 1) := by decide +kernel
theorem dX11_add_64 : decode cX11_add 64 = .ok (.getfield 87, 3) := by decide +kernel
theorem dX11_add_67 : decode cX11_add 67 = .ok (.ifCond .le 5, 3) := by decide +kernel
theorem dX11_add_70 : decode cX11_add 70 = .ok (.iconst 0, 1) := by decide +kernel
theorem dX11_add_71 : decode cX11_add 71 = .ok (.ireturn, 1) := by decide +kernel
theorem dX11_add_72 : decode cX11_add 72 = .ok (.aload_n 0, 1) := by decide +kernel
theorem dX11_add_73 : decode cX11_add 73 = .ok (.aload_n 0, 1) := by decide +kernel
theorem dX11_add_74 : decode cX11_add 74 = .ok (.getfield 66, 3) := by decide +kernel
theorem dX11_add_77 : decode cX11_add 77 = .ok (.iconst 0, 1) := by decide +kernel
theorem dX11_add_78 : decode cX11_add 78 = .ok (.aload_n 0, 1) := by decide +kernel
theorem dX11_add_79 : decode cX11_add 79 = .ok (.getfield 168, 3) := by decide +kernel
theorem dX11_add_82 : decode cX11_add 82 = .ok (.iload_n 1, 1) := by decide +kernel
theorem dX11_add_83 : decode cX11_add 83 = .ok (.invokestatic 118, 3) := by decide +kernel
theorem dX11_add_86 : decode cX11_add 86 = .ok (.putfield 168, 3) := by decide +kernel
theorem dX11_add_89 : decode cX11_add 89 = .ok (.aload_n 0, 1) := by decide +kernel
theorem dX11_add_90 : decode cX11_add 90 = .ok (.getfield 168, 3) := by decide +kernel
theorem dX11_add_93 : decode cX11_add 93 = .ok (.ireturn, 1) := by decide +kernel
theorem dX11_takeOut_0 : decode cX11_takeOut 0 = .ok (.aload_n 0, 1) := by decide +kernel
theorem dX11_takeOut_1 : decode cX11_takeOut 1 = .ok (.aload_n 0, 1) := by decide +kernel
theorem dX11_takeOut_2 : decode cX11_takeOut 2 = .ok (.getfield 161, 3) := by decide +kernel
theorem dX11_takeOut_5 : decode cX11_takeOut 5 = .ok (.ifCond .ne 7, 3) := by decide +kernel
theorem dX11_takeOut_8 : decode cX11_takeOut 8 = .ok (.iconst 1, 1) := by decide +kernel
theorem dX11_takeOut_9 : decode cX11_takeOut 9 = .ok (.goto 25, 3) := by decide +kernel
theorem dX11_takeOut_12 : decode cX11_takeOut 12 = .ok (.aload_n 0, 1) := by decide +kernel
theorem dX11_takeOut_13 : decode cX11_takeOut 13 = .ok (.getfield 66, 3) := by decide +kernel
theorem dX11_takeOut_16 : decode cX11_takeOut 16 = .ok (.iconst 0, 1) := by decide +kernel
theorem dX11_takeOut_17 : decode cX11_takeOut 17 = .ok (.aload_n 0, 1) := by decide +kernel
theorem dX11_takeOut_18 : decode cX11_takeOut 18 = .ok (.getfield 168, 3) := by decide +kernel
theorem dX11_takeOut_21 : decode cX11_takeOut 21 = .ok (.iload_n 1, 1) := by decide +kernel
theorem dX11_takeOut_22 : decode cX11_takeOut 22 = .ok (.invokestatic 122, 3) := by decide +kernel
theorem dX11_takeOut_25 : decode cX11_takeOut 25 = .ok (.iconst (-1), 1) := by decide +kernel
theorem dX11_takeOut_26 : decode cX11_takeOut 26 = .ok (.if_icmp .ne 7, 3) := by decide +kernel
theorem dX11_takeOut_29 : decode cX11_takeOut 29 = .ok (.iconst 2, 1) := by decide +kernel
theorem dX11_takeOut_30 : decode cX11_takeOut 30 = .ok (.goto 4, 3) := by decide +kernel
theorem dX11_takeOut_33 : decode cX11_takeOut 33 = .ok (.iconst 0, 1) := by decide +kernel
theorem dX11_takeOut_34 : decode cX11_takeOut 34 = .ok (.putfield 87, 3) := by decide +kernel
theorem dX11_takeOut_37 : decode cX11_takeOut 37 = .ok (.aload_n 0, 1) := by decide +kernel
theorem dX11_takeOut_38 : decode cX11_takeOut 38 = .ok (.getfield 87, 3) := by decide +kernel
theorem dX11_takeOut_41 : decode cX11_takeOut 41 = .ok (.ifCond .le 5, 3) := by decide +kernel
theorem dX11_takeOut_44 : decode cX11_takeOut 44 = .ok (.iconst 0, 1) := by decide +kernel
theorem dX11_takeOut_45 : decode cX11_takeOut 45 = .ok (.ireturn, 1) := by decide +kernel
theorem dX11_takeOut_46 : decode cX11_takeOut 46 = .ok (.aload_n 0, 1) := by decide +kernel
theorem dX11_takeOut_47 : decode cX11_takeOut 47 = .ok (.aload_n 0, 1) := by decide +kernel
theorem dX11_takeOut_48 : decode cX11_takeOut 48 = .ok (.getfield 66, 3) := by decide +kernel
theorem dX11_takeOut_51 : decode cX11_takeOut 51 = .ok (.iconst 0, 1) := by decide +kernel
theorem dX11_takeOut_52 : decode cX11_takeOut 52 = .ok (.aload_n 0, 1) := by decide +kernel
theorem dX11_takeOut_53 : decode cX11_takeOut 53 = .ok (.getfield 168, 3) := by decide +kernel
theorem dX11_takeOut_56 : decode cX11_takeOut 56 = .ok (.aload_n 0, 1) := by decide +kernel
theorem dX11_takeOut_57 : decode cX11_takeOut 57 = .ok (.getfield 66, 3) := by decide +kernel
theorem dX11_takeOut_60 : decode cX11_takeOut 60 = .ok (.iconst 0, 1) := by decide +kernel
theorem dX11_takeOut_61 : decode cX11_takeOut 61 = .ok (.aload_n 0, 1) := by decide +kernel
theorem dX11_takeOut_62 : decode cX11_takeOut 62 = .ok (.getfield 168, 3) := by decide +kernel
theorem dX11_takeOut_65 : decode cX11_takeOut 65 = .ok (.iload_n 1, 1) := by decide +kernel
theorem dX11_takeOut_66 : decode cX11_takeOut 66 = .ok (.invokestatic 122, 3) := by decide +kernel
theorem dX11_takeOut_69 : decode cX11_takeOut 69 = .ok (.invokestatic 125, 3) := by decide +kernel
theorem dX11_takeOut_72 : decode cX11_takeOut 72 = .ok (.putfield 168, 3) := by decide +kernel
theorem dX11_takeOut_75 : decode cX11_takeOut 75 = .ok (.aload_n 0, 1) := by decide +kernel
theorem dX11_takeOut_76 : decode cX11_takeOut 76 = .ok (.getfield 168, 3) := by decide +kernel
theorem dX11_takeOut_79 : decode cX11_takeOut 79 = .ok (.ireturn, 1) := by decide +kernel
theorem dX11_change_0 : decode cX11_change 0 = .ok (.aload_n 0, 1) := by decide +kernel
theorem dX11_change_1 : decode cX11_change 1 = .ok (.aload_n 0, 1) := by decide +kernel
theorem dX11_change_2 : decode cX11_change 2 = .ok (.getfield 161, 3) := by decide +kernel
theorem dX11_change_5 : decode cX11_change 5 = .ok (.ifCond .ne 7, 3) := by decide +kernel
theorem dX11_change_8 : decode cX11_change 8 = .ok (.iconst 1, 1) := by decide +kernel
theorem dX11_change_9 : decode cX11_change 9 = .ok (.goto 55, 3) := by decide +kernel
theorem dX11_change_12 : decode cX11_change 12 = .ok (.iload_n 2, 1) := by decide +kernel
theorem dX11_change_13 : decode cX11_change 13 = .ok (.aload_n 0, 1) := by decide +kernel
theorem dX11_change_14 : decode cX11_change 14 = .ok (.getfield 45, 3) := by decide +kernel
theorem dX11_change_17 : decode cX11_change 17 = .ok (.aload_n 0, 1) := by decide +kernel
theorem dX11_change_18 : decode cX11_change 18 = .ok (.getfield 165, 3) := by decide +kernel
theorem dX11_change_21 : decode cX11_change 21 = .ok (.iaload, 1) := by decide +kernel
theorem dX11_change_22 : decode cX11_change 22 = .ok (.invokestatic 138, 3) := by decide +kernel
theorem dX11_change_25 : decode cX11_change 25 = .ok (.ifCond .eq 13, 3) := by decide +kernel
theorem dX11_change_28 : decode cX11_change 28 = .ok (.iload_n 3, 1) := by decide +kernel
theorem dX11_change_29 : decode cX11_change 29 = .ok (.iconst 0, 1) := by decide +kernel
theorem dX11_change_30 : decode cX11_change 30 = .ok (.bipush 9, 2) := by decide +kernel
theorem dX11_change_32 : decode cX11_change 32 = .ok (.invokestatic 96, 3) := by decide +kernel
theorem dX11_change_35 : decode cX11_change 35 = .ok (.ifCond .ne 7, 3) := by decide +kernel
theorem dX11_change_38 : decode cX11_change 38 = .ok (.iconst 2, 1) := by decide +kernel
theorem dX11_change_39 : decode cX11_change 39 = .ok (.goto 25, 3) := by decide +kernel
theorem dX11_change_42 : decode cX11_change 42 = .ok (.aload_n 0, 1) := by decide +kernel
theorem dX11_change_43 : decode cX11_change 43 = .ok (.getfield 66, 3) := by decide +kernel
theorem dX11_change_46 : decode cX11_change 46 = .ok (.iconst 0, 1) := by decide +kernel
theorem dX11_change_47 : decode cX11_change 47 = .ok (.aload_n 0, 1) := by decide +kernel
theorem dX11_change_48 : decode cX11_change 48 = .ok (.getfield 168, 3) := by decide +kernel
theorem dX11_change_51 : decode cX11_change 51 = .ok (.iload_n 1, 1) := by decide +kernel
theorem dX11_change_52 : decode cX11_change 52 = .ok (.invokestatic 122, 3) := by decide +kernel
theorem dX11_change_55 : decode cX11_change 55 = .ok (.iconst (-1), 1) := by decide +kernel
theorem dX11_change_56 : decode cX11_change 56 = .ok (.if_icmp .ne 7, 3) := by decide +kernel
theorem dX11_change_59 : decode cX11_change 59 = .ok (.iconst 3, 1) := by decide +kernel
theorem dX11_change_60 : decode cX11_change 60 = .ok (.goto 4, 3) := by decide +kernel
theorem dX11_change_63 : decode cX11_change 63 = .ok (.iconst 0, 1) := by decide +kernel
theorem dX11_change_64 : decode cX11_change 64 = .ok (.putfield 87, 3) := by decide +kernel
theorem dX11_change_67 : decode cX11_change 67 = .ok (.aload_n 0, 1) := by decide +kernel
theorem dX11_change_68 : decode cX11_change 68 = .ok (.getfield 87, 3) := by decide +kernel
theorem dX11_change_71 : decode cX11_change 71 = .ok (.ifCond .le 5, 3) := by decide +kernel
theorem dX11_change_74 : decode cX11_change 74 = .ok (.iconst 0, 1) := by decide +kernel
theorem dX11_change_75 : decode cX11_change 75 = .ok (.ireturn, 1) := by decide +kernel
theorem dX11_change_76 : decode cX11_change 76 = .ok (.iload_n 1, 1) := by decide +kernel
theorem dX11_change_77 : decode cX11_change 77 = .ok (.iload_n 3, 1) := by decide +kernel
theorem dX11_change_78 : decode cX11_change 78 = .ok (.aload_n 0, 1) := by decide +kernel
theorem dX11_change_79 : decode cX11_change 79 = .ok (.iload_n 1, 1) := by decide +kernel
theorem dX11_change_80 : decode cX11_change 80 = .ok (.iload_n 2, 1) := by decide +kernel
theorem dX11_change_81 : decode cX11_change 81 = .ok (.invokevirtual 91, 3) := by decide +kernel
theorem dX11_change_84 : decode cX11_change 84 = .ok (.isub, 1) := by decide +kernel
theorem dX11_change_85 : decode cX11_change 85 = .ok (.aload_n 0, 1) := by decide +kernel
theorem dX11_change_86 : decode cX11_change 86 = .ok (.getfield 8, 3) := by decide +kernel
theorem dX11_change_89 : decode cX11_change 89 = .ok (.iload_n 2, 1) := by decide +kernel
theorem dX11_change_90 : decode cX11_change 90 = .ok (.iaload, 1) := by decide +kernel
theorem dX11_change_91 : decode cX11_change 91 = .ok (.imul, 1) := by decide +kernel
theorem dX11_change_92 : decode cX11_change 92 = .ok (.iadd, 1) := by decide +kernel
theorem dX11_change_93 : decode cX11_change 93 = .ok (.istore 4, 2) := by decide +kernel
theorem dX11_change_95 : decode cX11_change 95 = .ok (.aload_n 0, 1) := by decide +kernel
theorem dX11_change_96 : decode cX11_change 96 = .ok (.iload 4, 2) := by decide +kernel
theorem dX11_change_98 : decode cX11_change 98 = .ok (.iload_n 1, 1) := by decide +kernel
theorem dX11_change_99 : decode cX11_change 99 = .ok (.if_icmp .eq 25, 3) := by decide +kernel
theorem dX11_change_102 : decode cX11_change 102 = .ok (.aload_n 0, 1) := by decide +kernel
theorem dX11_change_103 : decode cX11_change 103 = .ok (.getfield 66, 3) := by decide +kernel
theorem dX11_change_106 : decode cX11_change 106 = .ok (.iconst 0, 1) := by decide +kernel
theorem dX11_change_107 : decode cX11_change 107 = .ok (.aload_n 0, 1) := by decide +kernel
theorem dX11_change_108 : decode cX11_change 108 = .ok (.getfield 168, 3) := by decide +kernel
theorem dX11_change_111 : decode cX11_change 111 = .ok (.iload 4, 2) := by decide +kernel
theorem dX11_change_113 : decode cX11_change 113 = .ok (.invokestatic 122, 3) := by decide +kernel
theorem dX11_change_116 : decode cX11_change 116 = .ok (.iconst (-1), 1) := by decide +kernel
theorem dX11_change_117 : decode cX11_change 117 = .ok (.if_icmp .eq 7, 3) := by decide +kernel
theorem dX11_change_120 : decode cX11_change 120 = .ok (.iconst 3, 1) := by decide +kernel
theorem dX11_change_121 : decode cX11_change 121 = .ok (.goto 4, 3) := by decide +kernel
theorem dX11_change_124 : decode cX11_change 124 = .ok (.iconst 0, 1) := by decide +kernel
theorem dX11_change_125 : decode cX11_change 125 = .ok (.putfield 87, 3) := by decide +kernel
theorem dX11_change_128 : decode cX11_change 128 = .ok (.aload_n 0, 1) := by decide +kernel
theorem dX11_change_129 : decode cX11_change 129 = .ok (.getfield 87, 3) := by decide +kernel
theorem dX11_change_132 : decode cX11_change 132 = .ok (.ifCond .le 5, 3) := by decide +kernel
theorem dX11_change_135 : decode cX11_change 135 = .ok (.iconst 0, 1) := by decide +kernel
theorem dX11_change_136 : decode cX11_change 136 = .ok (.ireturn, 1) := by decide +kernel
theorem dX11_change_137 : decode cX11_change 137 = .ok (.aload_n 0, 1) := by decide +kernel
theorem dX11_change_138 : decode cX11_change 138 = .ok (.aload_n 0, 1) := by decide +kernel
theorem dX11_change_139 : decode cX11_change 139 = .ok (.getfield 66, 3) := by decide +kernel
theorem dX11_change_142 : decode cX11_change 142 = .ok (.iconst 0, 1) := by decide +kernel
theorem dX11_change_143 : decode cX11_change 143 = .ok (.aload_n 0, 1) := by decide +kernel
theorem dX11_change_144 : decode cX11_change 144 = .ok (.getfield 168, 3) := by decide +kernel
theorem dX11_change_147 : decode cX11_change 147 = .ok (.aload_n 0, 1) := by decide +kernel
theorem dX11_change_148 : decode cX11_change 148 = .ok (.getfield 66, 3) := by decide +kernel
theorem dX11_change_151 : decode cX11_change 151 = .ok (.iconst 0, 1) := by decide +kernel
theorem dX11_change_152 : decode cX11_change 152 = .ok (.aload_n 0, 1) := by decide +kernel
theorem dX11_change_153 : decode cX11_change 153 = .ok (.getfield 168, 3) := by decide +kernel
theorem dX11_change_156 : decode cX11_change 156 = .ok (.iload_n 1, 1) := by decide +kernel
theorem dX11_change_157 : decode cX11_change 157 = .ok (.invokestatic 122, 3) := by decide +kernel
theorem dX11_change_160 : decode cX11_change 160 = .ok (.invokestatic 125, 3) := by decide +kernel
theorem dX11_change_163 : decode cX11_change 163 = .ok (.putfield 168, 3) := by decide +kernel
theorem dX11_change_166 : decode cX11_change 166 = .ok (.aload_n 0, 1) := by decide +kernel
theorem dX11_change_167 : decode cX11_change 167 = .ok (.aload_n 0, 1) := by decide +kernel
theorem dX11_change_168 : decode cX11_change 168 = .ok (.getfield 66, 3) := by decide +kernel
theorem dX11_change_171 : decode cX11_change 171 = .ok (.iconst 0, 1) := by decide +kernel
theorem dX11_change_172 : decode cX11_change 172 = .ok (.aload_n 0, 1) := by decide +kernel
theorem dX11_change_173 : decode cX11_change 173 = .ok (.getfield 168, 3) := by decide +kernel
theorem dX11_change_176 : decode cX11_change 176 = .ok (.iload 4, 2) := by decide +kernel
theorem dX11_change_178 : decode cX11_change 178 = .ok (.invokestatic 118, 3) := by decide +kernel
theorem dX11_change_181 : decode cX11_change 181 = .ok (.putfield 168, 3) := by decide +kernel
theorem dX11_change_184 : decode cX11_change 184 = .ok (.iload 4, 2) := by decide +kernel
theorem dX11_change_186 : decode cX11_change 186 = .ok (.ireturn, 1) := by decide +kernel
theorem dX11_draftRow_0 : decode cX11_draftRow 0 = .ok (.aload_n 0, 1) := by decide +kernel
theorem dX11_draftRow_1 : decode cX11_draftRow 1 = .ok (.aload_n 0, 1) := by decide +kernel
theorem dX11_draftRow_2 : decode cX11_draftRow 2 = .ok (.getfield 161, 3) := by decide +kernel
theorem dX11_draftRow_5 : decode cX11_draftRow 5 = .ok (.ifCond .ne 7, 3) := by decide +kernel
theorem dX11_draftRow_8 : decode cX11_draftRow 8 = .ok (.iconst 1, 1) := by decide +kernel
theorem dX11_draftRow_9 : decode cX11_draftRow 9 = .ok (.goto 12, 3) := by decide +kernel
theorem dX11_draftRow_12 : decode cX11_draftRow 12 = .ok (.iload_n 1, 1) := by decide +kernel
theorem dX11_draftRow_13 : decode cX11_draftRow 13 = .ok (.ifCond .ge 7, 3) := by decide +kernel
theorem dX11_draftRow_16 : decode cX11_draftRow 16 = .ok (.iconst 2, 1) := by decide +kernel
theorem dX11_draftRow_17 : decode cX11_draftRow 17 = .ok (.goto 4, 3) := by decide +kernel
theorem dX11_draftRow_20 : decode cX11_draftRow 20 = .ok (.iconst 0, 1) := by decide +kernel
theorem dX11_draftRow_21 : decode cX11_draftRow 21 = .ok (.putfield 87, 3) := by decide +kernel
theorem dX11_draftRow_24 : decode cX11_draftRow 24 = .ok (.aload_n 0, 1) := by decide +kernel
theorem dX11_draftRow_25 : decode cX11_draftRow 25 = .ok (.getfield 87, 3) := by decide +kernel
theorem dX11_draftRow_28 : decode cX11_draftRow 28 = .ok (.ifCond .le 7, 3) := by decide +kernel
theorem dX11_draftRow_31 : decode cX11_draftRow 31 = .ok (.iconst 0, 1) := by decide +kernel
theorem dX11_draftRow_32 : decode cX11_draftRow 32 = .ok (.goto 21, 3) := by decide +kernel
theorem dX11_draftRow_35 : decode cX11_draftRow 35 = .ok (.iload_n 1, 1) := by decide +kernel
theorem dX11_draftRow_36 : decode cX11_draftRow 36 = .ok (.aload_n 0, 1) := by decide +kernel
theorem dX11_draftRow_37 : decode cX11_draftRow 37 = .ok (.getfield 168, 3) := by decide +kernel
theorem dX11_draftRow_40 : decode cX11_draftRow 40 = .ok (.if_icmp .ge 12, 3) := by decide +kernel
theorem dX11_draftRow_43 : decode cX11_draftRow 43 = .ok (.aload_n 0, 1) := by decide +kernel
theorem dX11_draftRow_44 : decode cX11_draftRow 44 = .ok (.getfield 66, 3) := by decide +kernel
theorem dX11_draftRow_47 : decode cX11_draftRow 47 = .ok (.iload_n 1, 1) := by decide +kernel
theorem dX11_draftRow_48 : decode cX11_draftRow 48 = .ok (.iaload, 1) := by decide +kernel
theorem dX11_draftRow_49 : decode cX11_draftRow 49 = .ok (.goto 4, 3) := by decide +kernel
theorem dX11_draftRow_52 : decode cX11_draftRow 52 = .ok (.iconst (-1), 1) := by decide +kernel
theorem dX11_draftRow_53 : decode cX11_draftRow 53 = .ok (.ireturn, 1) := by decide +kernel
theorem dX11_tells_0 : decode cX11_tells 0 = .ok (.aload_n 0, 1) := by decide +kernel
theorem dX11_tells_1 : decode cX11_tells 1 = .ok (.bipush 10, 2) := by decide +kernel
theorem dX11_tells_3 : decode cX11_tells 3 = .ok (.iload_n 1, 1) := by decide +kernel
theorem dX11_tells_4 : decode cX11_tells 4 = .ok (.imul, 1) := by decide +kernel
theorem dX11_tells_5 : decode cX11_tells 5 = .ok (.iload_n 2, 1) := by decide +kernel
theorem dX11_tells_6 : decode cX11_tells 6 = .ok (.iadd, 1) := by decide +kernel
theorem dX11_tells_7 : decode cX11_tells 7 = .ok (.putfield 171, 3) := by decide +kernel
theorem dX11_tells_10 : decode cX11_tells 10 = .ok (.aload_n 0, 1) := by decide +kernel
theorem dX11_tells_11 : decode cX11_tells 11 = .ok (.iload_n 3, 1) := by decide +kernel
theorem dX11_tells_12 : decode cX11_tells 12 = .ok (.putfield 174, 3) := by decide +kernel
theorem dX11_tells_15 : decode cX11_tells 15 = .ok (.aload_n 0, 1) := by decide +kernel
theorem dX11_tells_16 : decode cX11_tells 16 = .ok (.iload 4, 2) := by decide +kernel
theorem dX11_tells_18 : decode cX11_tells 18 = .ok (.putfield 177, 3) := by decide +kernel
theorem dX11_tells_21 : decode cX11_tells 21 = .ok (.return_, 1) := by decide +kernel
theorem dX11_areAgainst_0 : decode cX11_areAgainst 0 = .ok (.iload 4, 2) := by decide +kernel
theorem dX11_areAgainst_2 : decode cX11_areAgainst 2 = .ok (.iconst 1, 1) := by decide +kernel
theorem dX11_areAgainst_3 : decode cX11_areAgainst 3 = .ok (.if_icmp .ne 34, 3) := by decide +kernel
theorem dX11_areAgainst_6 : decode cX11_areAgainst 6 = .ok (.aload_n 0, 1) := by decide +kernel
theorem dX11_areAgainst_7 : decode cX11_areAgainst 7 = .ok (.iload_n 2, 1) := by decide +kernel
theorem dX11_areAgainst_8 : decode cX11_areAgainst 8 = .ok (.aload_n 0, 1) := by decide +kernel
theorem dX11_areAgainst_9 : decode cX11_areAgainst 9 = .ok (.getfield 48, 3) := by decide +kernel
theorem dX11_areAgainst_12 : decode cX11_areAgainst 12 = .ok (.iload_n 1, 1) := by decide +kernel
theorem dX11_areAgainst_13 : decode cX11_areAgainst 13 = .ok (.iaload, 1) := by decide +kernel
theorem dX11_areAgainst_14 : decode cX11_areAgainst 14 = .ok (.invokevirtual 100, 3) := by decide +kernel
theorem dX11_areAgainst_17 : decode cX11_areAgainst 17 = .ok (.aload_n 0, 1) := by decide +kernel
theorem dX11_areAgainst_18 : decode cX11_areAgainst 18 = .ok (.iload_n 3, 1) := by decide +kernel
theorem dX11_areAgainst_19 : decode cX11_areAgainst 19 = .ok (.aload_n 0, 1) := by decide +kernel
theorem dX11_areAgainst_20 : decode cX11_areAgainst 20 = .ok (.getfield 48, 3) := by decide +kernel
theorem dX11_areAgainst_23 : decode cX11_areAgainst 23 = .ok (.iload_n 1, 1) := by decide +kernel
theorem dX11_areAgainst_24 : decode cX11_areAgainst 24 = .ok (.iaload, 1) := by decide +kernel
theorem dX11_areAgainst_25 : decode cX11_areAgainst 25 = .ok (.invokevirtual 100, 3) := by decide +kernel
theorem dX11_areAgainst_28 : decode cX11_areAgainst 28 = .ok (.if_icmp .ne 7, 3) := by decide +kernel
theorem dX11_areAgainst_31 : decode cX11_areAgainst 31 = .ok (.iconst 1, 1) := by decide +kernel
theorem dX11_areAgainst_32 : decode cX11_areAgainst 32 = .ok (.goto 4, 3) := by decide +kernel
theorem dX11_areAgainst_35 : decode cX11_areAgainst 35 = .ok (.iconst 0, 1) := by decide +kernel
theorem dX11_areAgainst_36 : decode cX11_areAgainst 36 = .ok (.ireturn, 1) := by decide +kernel
theorem dX11_areAgainst_37 : decode cX11_areAgainst 37 = .ok (.aload_n 0, 1) := by decide +kernel
theorem dX11_areAgainst_38 : decode cX11_areAgainst 38 = .ok (.getfield 32, 3) := by decide +kernel
theorem dX11_areAgainst_41 : decode cX11_areAgainst 41 = .ok (.iload_n 1, 1) := by decide +kernel
theorem dX11_areAgainst_42 : decode cX11_areAgainst 42 = .ok (.iaload, 1) := by decide +kernel
theorem dX11_areAgainst_43 : decode cX11_areAgainst 43 = .ok (.istore 5, 2) := by decide +kernel
theorem dX11_areAgainst_45 : decode cX11_areAgainst 45 = .ok (.aload_n 0, 1) := by decide +kernel
theorem dX11_areAgainst_46 : decode cX11_areAgainst 46 = .ok (.iload_n 2, 1) := by decide +kernel
theorem dX11_areAgainst_47 : decode cX11_areAgainst 47 = .ok (.aload_n 0, 1) := by decide +kernel
theorem dX11_areAgainst_48 : decode cX11_areAgainst 48 = .ok (.getfield 48, 3) := by decide +kernel
theorem dX11_areAgainst_51 : decode cX11_areAgainst 51 = .ok (.iload 5, 2) := by decide +kernel
theorem dX11_areAgainst_53 : decode cX11_areAgainst 53 = .ok (.iaload, 1) := by decide +kernel
theorem dX11_areAgainst_54 : decode cX11_areAgainst 54 = .ok (.invokevirtual 100, 3) := by decide +kernel
theorem dX11_areAgainst_57 : decode cX11_areAgainst 57 = .ok (.aload_n 0, 1) := by decide +kernel
theorem dX11_areAgainst_58 : decode cX11_areAgainst 58 = .ok (.iload_n 3, 1) := by decide +kernel
theorem dX11_areAgainst_59 : decode cX11_areAgainst 59 = .ok (.aload_n 0, 1) := by decide +kernel
theorem dX11_areAgainst_60 : decode cX11_areAgainst 60 = .ok (.getfield 48, 3) := by decide +kernel
theorem dX11_areAgainst_63 : decode cX11_areAgainst 63 = .ok (.iload 5, 2) := by decide +kernel
theorem dX11_areAgainst_65 : decode cX11_areAgainst 65 = .ok (.iaload, 1) := by decide +kernel
theorem dX11_areAgainst_66 : decode cX11_areAgainst 66 = .ok (.invokevirtual 100, 3) := by decide +kernel
theorem dX11_areAgainst_69 : decode cX11_areAgainst 69 = .ok (.if_icmp .ne 34, 3) := by decide +kernel
theorem dX11_areAgainst_72 : decode cX11_areAgainst 72 = .ok (.aload_n 0, 1) := by decide +kernel
theorem dX11_areAgainst_73 : decode cX11_areAgainst 73 = .ok (.iload_n 2, 1) := by decide +kernel
theorem dX11_areAgainst_74 : decode cX11_areAgainst 74 = .ok (.aload_n 0, 1) := by decide +kernel
theorem dX11_areAgainst_75 : decode cX11_areAgainst 75 = .ok (.getfield 45, 3) := by decide +kernel
theorem dX11_areAgainst_78 : decode cX11_areAgainst 78 = .ok (.iload 5, 2) := by decide +kernel
theorem dX11_areAgainst_80 : decode cX11_areAgainst 80 = .ok (.iaload, 1) := by decide +kernel
theorem dX11_areAgainst_81 : decode cX11_areAgainst 81 = .ok (.invokevirtual 100, 3) := by decide +kernel
theorem dX11_areAgainst_84 : decode cX11_areAgainst 84 = .ok (.aload_n 0, 1) := by decide +kernel
theorem dX11_areAgainst_85 : decode cX11_areAgainst 85 = .ok (.iload_n 3, 1) := by decide +kernel
theorem dX11_areAgainst_86 : decode cX11_areAgainst 86 = .ok (.aload_n 0, 1) := by decide +kernel
theorem dX11_areAgainst_87 : decode cX11_areAgainst 87 = .ok (.getfield 45, 3) := by decide +kernel
theorem dX11_areAgainst_90 : decode cX11_areAgainst 90 = .ok (.iload 5, 2) := by decide +kernel
theorem dX11_areAgainst_92 : decode cX11_areAgainst 92 = .ok (.iaload, 1) := by decide +kernel
theorem dX11_areAgainst_93 : decode cX11_areAgainst 93 = .ok (.invokevirtual 100, 3) := by decide +kernel
theorem dX11_areAgainst_96 : decode cX11_areAgainst 96 = .ok (.if_icmp .eq 7, 3) := by decide +kernel
theorem dX11_areAgainst_99 : decode cX11_areAgainst 99 = .ok (.iconst 1, 1) := by decide +kernel
theorem dX11_areAgainst_100 : decode cX11_areAgainst 100 = .ok (.goto 4, 3) := by decide +kernel
theorem dX11_areAgainst_103 : decode cX11_areAgainst 103 = .ok (.iconst 0, 1) := by decide +kernel
theorem dX11_areAgainst_104 : decode cX11_areAgainst 104 = .ok (.ireturn, 1) := by decide +kernel
theorem dX11_looksForTwo_0 : decode cX11_looksForTwo 0 = .ok (.iconst 0, 1) := by decide +kernel
theorem dX11_looksForTwo_1 : decode cX11_looksForTwo 1 = .ok (.istore_n 3, 1) := by decide +kernel
theorem dX11_looksForTwo_2 : decode cX11_looksForTwo 2 = .ok (.iload_n 3, 1) := by decide +kernel
theorem dX11_looksForTwo_3 : decode cX11_looksForTwo 3 = .ok (.aload_n 0, 1) := by decide +kernel
theorem dX11_looksForTwo_4 : decode cX11_looksForTwo 4 = .ok (.getfield 60, 3) := by decide +kernel
theorem dX11_looksForTwo_7 : decode cX11_looksForTwo 7 = .ok (.iload_n 1, 1) := by decide +kernel
theorem dX11_looksForTwo_8 : decode cX11_looksForTwo 8 = .ok (.iaload, 1) := by decide +kernel
theorem dX11_looksForTwo_9 : decode cX11_looksForTwo 9 = .ok (.if_icmp .ge 95, 3) := by decide +kernel
theorem dX11_looksForTwo_12 : decode cX11_looksForTwo 12 = .ok (.aload_n 0, 1) := by decide +kernel
theorem dX11_looksForTwo_13 : decode cX11_looksForTwo 13 = .ok (.getfield 171, 3) := by decide +kernel
theorem dX11_looksForTwo_16 : decode cX11_looksForTwo 16 = .ok (.ifCond .ne 88, 3) := by decide +kernel
theorem dX11_looksForTwo_19 : decode cX11_looksForTwo 19 = .ok (.iload_n 3, 1) := by decide +kernel
theorem dX11_looksForTwo_20 : decode cX11_looksForTwo 20 = .ok (.iconst 1, 1) := by decide +kernel
theorem dX11_looksForTwo_21 : decode cX11_looksForTwo 21 = .ok (.iadd, 1) := by decide +kernel
theorem dX11_looksForTwo_22 : decode cX11_looksForTwo 22 = .ok (.istore 4, 2) := by decide +kernel
theorem dX11_looksForTwo_24 : decode cX11_looksForTwo 24 = .ok (.iload 4, 2) := by decide +kernel
theorem dX11_looksForTwo_26 : decode cX11_looksForTwo 26 = .ok (.aload_n 0, 1) := by decide +kernel
theorem dX11_looksForTwo_27 : decode cX11_looksForTwo 27 = .ok (.getfield 60, 3) := by decide +kernel
theorem dX11_looksForTwo_30 : decode cX11_looksForTwo 30 = .ok (.iload_n 1, 1) := by decide +kernel
theorem dX11_looksForTwo_31 : decode cX11_looksForTwo 31 = .ok (.iaload, 1) := by decide +kernel
theorem dX11_looksForTwo_32 : decode cX11_looksForTwo 32 = .ok (.if_icmp .ge 66, 3) := by decide +kernel
theorem dX11_looksForTwo_35 : decode cX11_looksForTwo 35 = .ok (.aload_n 0, 1) := by decide +kernel
theorem dX11_looksForTwo_36 : decode cX11_looksForTwo 36 = .ok (.getfield 171, 3) := by decide +kernel
theorem dX11_looksForTwo_39 : decode cX11_looksForTwo 39 = .ok (.ifCond .ne 59, 3) := by decide +kernel
theorem dX11_looksForTwo_42 : decode cX11_looksForTwo 42 = .ok (.aload_n 0, 1) := by decide +kernel
theorem dX11_looksForTwo_43 : decode cX11_looksForTwo 43 = .ok (.getfield 63, 3) := by decide +kernel
theorem dX11_looksForTwo_46 : decode cX11_looksForTwo 46 = .ok (.bipush 40, 2) := by decide +kernel
theorem dX11_looksForTwo_48 : decode cX11_looksForTwo 48 = .ok (.iload_n 1, 1) := by decide +kernel
theorem dX11_looksForTwo_49 : decode cX11_looksForTwo 49 = .ok (.imul, 1) := by decide +kernel
theorem dX11_looksForTwo_50 : decode cX11_looksForTwo 50 = .ok (.iload_n 3, 1) := by decide +kernel
theorem dX11_looksForTwo_51 : decode cX11_looksForTwo 51 = .ok (.iadd, 1) := by decide +kernel
theorem dX11_looksForTwo_52 : decode cX11_looksForTwo 52 = .ok (.iaload, 1) := by decide +kernel
theorem dX11_looksForTwo_53 : decode cX11_looksForTwo 53 = .ok (.istore 5, 2) := by decide +kernel
theorem dX11_looksForTwo_55 : decode cX11_looksForTwo 55 = .ok (.aload_n 0, 1) := by decide +kernel
theorem dX11_looksForTwo_56 : decode cX11_looksForTwo 56 = .ok (.getfield 63, 3) := by decide +kernel
theorem dX11_looksForTwo_59 : decode cX11_looksForTwo 59 = .ok (.bipush 40, 2) := by decide +kernel
theorem dX11_looksForTwo_61 : decode cX11_looksForTwo 61 = .ok (.iload_n 1, 1) := by decide +kernel
theorem dX11_looksForTwo_62 : decode cX11_looksForTwo 62 = .ok (.imul, 1) := by decide +kernel
theorem dX11_looksForTwo_63 : decode cX11_looksForTwo 63 = .ok (.iload 4, 2) := by decide +kernel
theorem dX11_looksForTwo_65 : decode cX11_looksForTwo 65 = .ok (.iadd, 1) := by decide +kernel
theorem dX11_looksForTwo_66 : decode cX11_looksForTwo 66 = .ok (.iaload, 1) := by decide +kernel
theorem dX11_looksForTwo_67 : decode cX11_looksForTwo 67 = .ok (.istore 6, 2) := by decide +kernel
theorem dX11_looksForTwo_69 : decode cX11_looksForTwo 69 = .ok (.aload_n 0, 1) := by decide +kernel
theorem dX11_looksForTwo_70 : decode cX11_looksForTwo 70 = .ok (.iload_n 1, 1) := by decide +kernel
theorem dX11_looksForTwo_71 : decode cX11_looksForTwo 71 = .ok (.iload 5, 2) := by decide +kernel
theorem dX11_looksForTwo_73 : decode cX11_looksForTwo 73 = .ok (.iload 6, 2) := by decide +kernel
theorem dX11_looksForTwo_75 : decode cX11_looksForTwo 75 = .ok (.iload_n 2, 1) := by decide +kernel
theorem dX11_looksForTwo_76 : decode cX11_looksForTwo 76 = .ok (.invokevirtual 180, 3) := by decide +kernel
theorem dX11_looksForTwo_79 : decode cX11_looksForTwo 79 = .ok (.ifCond .eq 13, 3) := by decide +kernel
theorem dX11_looksForTwo_82 : decode cX11_looksForTwo 82 = .ok (.aload_n 0, 1) := by decide +kernel
theorem dX11_looksForTwo_83 : decode cX11_looksForTwo 83 = .ok (.iload_n 1, 1) := by decide +kernel
theorem dX11_looksForTwo_84 : decode cX11_looksForTwo 84 = .ok (.iload_n 2, 1) := by decide +kernel
theorem dX11_looksForTwo_85 : decode cX11_looksForTwo 85 = .ok (.iload 5, 2) := by decide +kernel
theorem dX11_looksForTwo_87 : decode cX11_looksForTwo 87 = .ok (.iload 6, 2) := by decide +kernel
theorem dX11_looksForTwo_89 : decode cX11_looksForTwo 89 = .ok (.invokevirtual 184, 3) := by decide +kernel
theorem dX11_looksForTwo_92 : decode cX11_looksForTwo 92 = .ok (.iinc 4 1, 3) := by decide +kernel
theorem dX11_looksForTwo_95 : decode cX11_looksForTwo 95 = .ok (.goto (-71), 3) := by decide +kernel
theorem dX11_looksForTwo_98 : decode cX11_looksForTwo 98 = .ok (.iinc 3 1, 3) := by decide +kernel
theorem dX11_looksForTwo_101 : decode cX11_looksForTwo 101 = .ok (.goto (-99), 3) := by decide +kernel
theorem dX11_looksForTwo_104 : decode cX11_looksForTwo 104 = .ok (.return_, 1) := by decide +kernel
theorem dX11_looks_0 : decode cX11_looks 0 = .ok (.aload_n 0, 1) := by decide +kernel
theorem dX11_looks_1 : decode cX11_looks 1 = .ok (.iload_n 1, 1) := by decide +kernel
theorem dX11_looks_2 : decode cX11_looks 2 = .ok (.iconst 1, 1) := by decide +kernel
theorem dX11_looks_3 : decode cX11_looks 3 = .ok (.invokevirtual 188, 3) := by decide +kernel
theorem dX11_looks_6 : decode cX11_looks 6 = .ok (.iconst 0, 1) := by decide +kernel
theorem dX11_looks_7 : decode cX11_looks 7 = .ok (.istore_n 2, 1) := by decide +kernel
theorem dX11_looks_8 : decode cX11_looks 8 = .ok (.iload_n 2, 1) := by decide +kernel
theorem dX11_looks_9 : decode cX11_looks 9 = .ok (.aload_n 0, 1) := by decide +kernel
theorem dX11_looks_10 : decode cX11_looks 10 = .ok (.getfield 60, 3) := by decide +kernel
theorem dX11_looks_13 : decode cX11_looks 13 = .ok (.iload_n 1, 1) := by decide +kernel
theorem dX11_looks_14 : decode cX11_looks 14 = .ok (.iaload, 1) := by decide +kernel
theorem dX11_looks_15 : decode cX11_looks 15 = .ok (.if_icmp .ge 63, 3) := by decide +kernel
theorem dX11_looks_18 : decode cX11_looks 18 = .ok (.aload_n 0, 1) := by decide +kernel
theorem dX11_looks_19 : decode cX11_looks 19 = .ok (.getfield 171, 3) := by decide +kernel
theorem dX11_looks_22 : decode cX11_looks 22 = .ok (.ifCond .ne 56, 3) := by decide +kernel
theorem dX11_looks_25 : decode cX11_looks 25 = .ok (.aload_n 0, 1) := by decide +kernel
theorem dX11_looks_26 : decode cX11_looks 26 = .ok (.getfield 26, 3) := by decide +kernel
theorem dX11_looks_29 : decode cX11_looks 29 = .ok (.iload_n 1, 1) := by decide +kernel
theorem dX11_looks_30 : decode cX11_looks 30 = .ok (.iaload, 1) := by decide +kernel
theorem dX11_looks_31 : decode cX11_looks 31 = .ok (.iconst 1, 1) := by decide +kernel
theorem dX11_looks_32 : decode cX11_looks 32 = .ok (.if_icmp .ne 46, 3) := by decide +kernel
theorem dX11_looks_35 : decode cX11_looks 35 = .ok (.aload_n 0, 1) := by decide +kernel
theorem dX11_looks_36 : decode cX11_looks 36 = .ok (.iload_n 1, 1) := by decide +kernel
theorem dX11_looks_37 : decode cX11_looks 37 = .ok (.aload_n 0, 1) := by decide +kernel
theorem dX11_looks_38 : decode cX11_looks 38 = .ok (.getfield 63, 3) := by decide +kernel
theorem dX11_looks_41 : decode cX11_looks 41 = .ok (.bipush 40, 2) := by decide +kernel
theorem dX11_looks_43 : decode cX11_looks 43 = .ok (.iload_n 1, 1) := by decide +kernel
theorem dX11_looks_44 : decode cX11_looks 44 = .ok (.imul, 1) := by decide +kernel
theorem dX11_looks_45 : decode cX11_looks 45 = .ok (.iload_n 2, 1) := by decide +kernel
theorem dX11_looks_46 : decode cX11_looks 46 = .ok (.iadd, 1) := by decide +kernel
theorem dX11_looks_47 : decode cX11_looks 47 = .ok (.iaload, 1) := by decide +kernel
theorem dX11_looks_48 : decode cX11_looks 48 = .ok (.invokevirtual 149, 3) := by decide +kernel
theorem dX11_looks_51 : decode cX11_looks 51 = .ok (.ifCond .ne 21, 3) := by decide +kernel
theorem dX11_looks_54 : decode cX11_looks 54 = .ok (.aload_n 0, 1) := by decide +kernel
theorem dX11_looks_55 : decode cX11_looks 55 = .ok (.iload_n 1, 1) := by decide +kernel
theorem dX11_looks_56 : decode cX11_looks 56 = .ok (.iconst 2, 1) := by decide +kernel
theorem dX11_looks_57 : decode cX11_looks 57 = .ok (.aload_n 0, 1) := by decide +kernel
theorem dX11_looks_58 : decode cX11_looks 58 = .ok (.getfield 63, 3) := by decide +kernel
theorem dX11_looks_61 : decode cX11_looks 61 = .ok (.bipush 40, 2) := by decide +kernel
theorem dX11_looks_63 : decode cX11_looks 63 = .ok (.iload_n 1, 1) := by decide +kernel
theorem dX11_looks_64 : decode cX11_looks 64 = .ok (.imul, 1) := by decide +kernel
theorem dX11_looks_65 : decode cX11_looks 65 = .ok (.iload_n 2, 1) := by decide +kernel
theorem dX11_looks_66 : decode cX11_looks 66 = .ok (.iadd, 1) := by decide +kernel
theorem dX11_looks_67 : decode cX11_looks 67 = .ok (.iaload, 1) := by decide +kernel
theorem dX11_looks_68 : decode cX11_looks 68 = .ok (.iconst (-1), 1) := by decide +kernel
theorem dX11_looks_69 : decode cX11_looks 69 = .ok (.invokevirtual 184, 3) := by decide +kernel
theorem dX11_looks_72 : decode cX11_looks 72 = .ok (.iinc 2 1, 3) := by decide +kernel
theorem dX11_looks_75 : decode cX11_looks 75 = .ok (.goto (-67), 3) := by decide +kernel
theorem dX11_looks_78 : decode cX11_looks 78 = .ok (.aload_n 0, 1) := by decide +kernel
theorem dX11_looks_79 : decode cX11_looks 79 = .ok (.getfield 171, 3) := by decide +kernel
theorem dX11_looks_82 : decode cX11_looks 82 = .ok (.ifCond .ne 19, 3) := by decide +kernel
theorem dX11_looks_85 : decode cX11_looks 85 = .ok (.aload_n 0, 1) := by decide +kernel
theorem dX11_looks_86 : decode cX11_looks 86 = .ok (.getfield 26, 3) := by decide +kernel
theorem dX11_looks_89 : decode cX11_looks 89 = .ok (.iload_n 1, 1) := by decide +kernel
theorem dX11_looks_90 : decode cX11_looks 90 = .ok (.iaload, 1) := by decide +kernel
theorem dX11_looks_91 : decode cX11_looks 91 = .ok (.iconst 3, 1) := by decide +kernel
theorem dX11_looks_92 : decode cX11_looks 92 = .ok (.if_icmp .ne 9, 3) := by decide +kernel
theorem dX11_looks_95 : decode cX11_looks 95 = .ok (.aload_n 0, 1) := by decide +kernel
theorem dX11_looks_96 : decode cX11_looks 96 = .ok (.iload_n 1, 1) := by decide +kernel
theorem dX11_looks_97 : decode cX11_looks 97 = .ok (.iconst 3, 1) := by decide +kernel
theorem dX11_looks_98 : decode cX11_looks 98 = .ok (.invokevirtual 188, 3) := by decide +kernel
theorem dX11_looks_101 : decode cX11_looks 101 = .ok (.aload_n 0, 1) := by decide +kernel
theorem dX11_looks_102 : decode cX11_looks 102 = .ok (.getfield 171, 3) := by decide +kernel
theorem dX11_looks_105 : decode cX11_looks 105 = .ok (.ifCond .ne 31, 3) := by decide +kernel
theorem dX11_looks_108 : decode cX11_looks 108 = .ok (.aload_n 0, 1) := by decide +kernel
theorem dX11_looks_109 : decode cX11_looks 109 = .ok (.getfield 26, 3) := by decide +kernel
theorem dX11_looks_112 : decode cX11_looks 112 = .ok (.iload_n 1, 1) := by decide +kernel
theorem dX11_looks_113 : decode cX11_looks 113 = .ok (.iaload, 1) := by decide +kernel
theorem dX11_looks_114 : decode cX11_looks 114 = .ok (.ifCond .ne 22, 3) := by decide +kernel
theorem dX11_looks_117 : decode cX11_looks 117 = .ok (.aload_n 0, 1) := by decide +kernel
theorem dX11_looks_118 : decode cX11_looks 118 = .ok (.getfield 60, 3) := by decide +kernel
theorem dX11_looks_121 : decode cX11_looks 121 = .ok (.iload_n 1, 1) := by decide +kernel
theorem dX11_looks_122 : decode cX11_looks 122 = .ok (.iaload, 1) := by decide +kernel
theorem dX11_looks_123 : decode cX11_looks 123 = .ok (.bipush 12, 2) := by decide +kernel
theorem dX11_looks_125 : decode cX11_looks 125 = .ok (.if_icmp .le 11, 3) := by decide +kernel
theorem dX11_looks_128 : decode cX11_looks 128 = .ok (.aload_n 0, 1) := by decide +kernel
theorem dX11_looks_129 : decode cX11_looks 129 = .ok (.iload_n 1, 1) := by decide +kernel
theorem dX11_looks_130 : decode cX11_looks 130 = .ok (.iconst 4, 1) := by decide +kernel
theorem dX11_looks_131 : decode cX11_looks 131 = .ok (.iconst (-1), 1) := by decide +kernel
theorem dX11_looks_132 : decode cX11_looks 132 = .ok (.iconst (-1), 1) := by decide +kernel
theorem dX11_looks_133 : decode cX11_looks 133 = .ok (.invokevirtual 184, 3) := by decide +kernel
theorem dX11_looks_136 : decode cX11_looks 136 = .ok (.return_, 1) := by decide +kernel
theorem dX11_isFree_0 : decode cX11_isFree 0 = .ok (.aload_n 0, 1) := by decide +kernel
theorem dX11_isFree_1 : decode cX11_isFree 1 = .ok (.aload_n 0, 1) := by decide +kernel
theorem dX11_isFree_2 : decode cX11_isFree 2 = .ok (.getfield 63, 3) := by decide +kernel
theorem dX11_isFree_5 : decode cX11_isFree 5 = .ok (.bipush 40, 2) := by decide +kernel
theorem dX11_isFree_7 : decode cX11_isFree 7 = .ok (.iload_n 1, 1) := by decide +kernel
theorem dX11_isFree_8 : decode cX11_isFree 8 = .ok (.imul, 1) := by decide +kernel
theorem dX11_isFree_9 : decode cX11_isFree 9 = .ok (.aload_n 0, 1) := by decide +kernel
theorem dX11_isFree_10 : decode cX11_isFree 10 = .ok (.getfield 60, 3) := by decide +kernel
theorem dX11_isFree_13 : decode cX11_isFree 13 = .ok (.iload_n 1, 1) := by decide +kernel
theorem dX11_isFree_14 : decode cX11_isFree 14 = .ok (.iaload, 1) := by decide +kernel
theorem dX11_isFree_15 : decode cX11_isFree 15 = .ok (.aload_n 0, 1) := by decide +kernel
theorem dX11_isFree_16 : decode cX11_isFree 16 = .ok (.getfield 48, 3) := by decide +kernel
theorem dX11_isFree_19 : decode cX11_isFree 19 = .ok (.iload_n 1, 1) := by decide +kernel
theorem dX11_isFree_20 : decode cX11_isFree 20 = .ok (.iaload, 1) := by decide +kernel
theorem dX11_isFree_21 : decode cX11_isFree 21 = .ok (.aload_n 0, 1) := by decide +kernel
theorem dX11_isFree_22 : decode cX11_isFree 22 = .ok (.iload_n 2, 1) := by decide +kernel
theorem dX11_isFree_23 : decode cX11_isFree 23 = .ok (.aload_n 0, 1) := by decide +kernel
theorem dX11_isFree_24 : decode cX11_isFree 24 = .ok (.getfield 48, 3) := by decide +kernel
theorem dX11_isFree_27 : decode cX11_isFree 27 = .ok (.iload_n 1, 1) := by decide +kernel
theorem dX11_isFree_28 : decode cX11_isFree 28 = .ok (.iaload, 1) := by decide +kernel
theorem dX11_isFree_29 : decode cX11_isFree 29 = .ok (.invokevirtual 100, 3) := by decide +kernel
theorem dX11_isFree_32 : decode cX11_isFree 32 = .ok (.invokevirtual 114, 3) := by decide +kernel
theorem dX11_isFree_35 : decode cX11_isFree 35 = .ok (.iconst (-1), 1) := by decide +kernel
theorem dX11_isFree_36 : decode cX11_isFree 36 = .ok (.if_icmp .ne 7, 3) := by decide +kernel
theorem dX11_isFree_39 : decode cX11_isFree 39 = .ok (.iconst 1, 1) := by decide +kernel
theorem dX11_isFree_40 : decode cX11_isFree 40 = .ok (.goto 4, 3) := by decide +kernel
theorem dX11_isFree_43 : decode cX11_isFree 43 = .ok (.iconst 0, 1) := by decide +kernel
theorem dX11_isFree_44 : decode cX11_isFree 44 = .ok (.ireturn, 1) := by decide +kernel
theorem dX11_putsRow_0 : decode cX11_putsRow 0 = .ok (.aload_n 0, 1) := by decide +kernel
theorem dX11_putsRow_1 : decode cX11_putsRow 1 = .ok (.getfield 60, 3) := by decide +kernel
theorem dX11_putsRow_4 : decode cX11_putsRow 4 = .ok (.iload_n 1, 1) := by decide +kernel
theorem dX11_putsRow_5 : decode cX11_putsRow 5 = .ok (.aload_n 0, 1) := by decide +kernel
theorem dX11_putsRow_6 : decode cX11_putsRow 6 = .ok (.getfield 63, 3) := by decide +kernel
theorem dX11_putsRow_9 : decode cX11_putsRow 9 = .ok (.bipush 40, 2) := by decide +kernel
theorem dX11_putsRow_11 : decode cX11_putsRow 11 = .ok (.iload_n 1, 1) := by decide +kernel
theorem dX11_putsRow_12 : decode cX11_putsRow 12 = .ok (.imul, 1) := by decide +kernel
theorem dX11_putsRow_13 : decode cX11_putsRow 13 = .ok (.aload_n 0, 1) := by decide +kernel
theorem dX11_putsRow_14 : decode cX11_putsRow 14 = .ok (.getfield 60, 3) := by decide +kernel
theorem dX11_putsRow_17 : decode cX11_putsRow 17 = .ok (.iload_n 1, 1) := by decide +kernel
theorem dX11_putsRow_18 : decode cX11_putsRow 18 = .ok (.iaload, 1) := by decide +kernel
theorem dX11_putsRow_19 : decode cX11_putsRow 19 = .ok (.iload_n 2, 1) := by decide +kernel
theorem dX11_putsRow_20 : decode cX11_putsRow 20 = .ok (.invokestatic 118, 3) := by decide +kernel
theorem dX11_putsRow_23 : decode cX11_putsRow 23 = .ok (.iastore, 1) := by decide +kernel
theorem dX11_putsRow_24 : decode cX11_putsRow 24 = .ok (.return_, 1) := by decide +kernel
theorem dX11_putsTable_0 : decode cX11_putsTable 0 = .ok (.aload_n 0, 1) := by decide +kernel
theorem dX11_putsTable_1 : decode cX11_putsTable 1 = .ok (.getfield 29, 3) := by decide +kernel
theorem dX11_putsTable_4 : decode cX11_putsTable 4 = .ok (.iload_n 1, 1) := by decide +kernel
theorem dX11_putsTable_5 : decode cX11_putsTable 5 = .ok (.iaload, 1) := by decide +kernel
theorem dX11_putsTable_6 : decode cX11_putsTable 6 = .ok (.istore_n 2, 1) := by decide +kernel
theorem dX11_putsTable_7 : decode cX11_putsTable 7 = .ok (.aload_n 0, 1) := by decide +kernel
theorem dX11_putsTable_8 : decode cX11_putsTable 8 = .ok (.getfield 69, 3) := by decide +kernel
theorem dX11_putsTable_11 : decode cX11_putsTable 11 = .ok (.iload_n 2, 1) := by decide +kernel
theorem dX11_putsTable_12 : decode cX11_putsTable 12 = .ok (.aload_n 0, 1) := by decide +kernel
theorem dX11_putsTable_13 : decode cX11_putsTable 13 = .ok (.getfield 60, 3) := by decide +kernel
theorem dX11_putsTable_16 : decode cX11_putsTable 16 = .ok (.iload_n 1, 1) := by decide +kernel
theorem dX11_putsTable_17 : decode cX11_putsTable 17 = .ok (.iaload, 1) := by decide +kernel
theorem dX11_putsTable_18 : decode cX11_putsTable 18 = .ok (.iastore, 1) := by decide +kernel
theorem dX11_putsTable_19 : decode cX11_putsTable 19 = .ok (.iconst 0, 1) := by decide +kernel
theorem dX11_putsTable_20 : decode cX11_putsTable 20 = .ok (.istore_n 3, 1) := by decide +kernel
theorem dX11_putsTable_21 : decode cX11_putsTable 21 = .ok (.iload_n 3, 1) := by decide +kernel
theorem dX11_putsTable_22 : decode cX11_putsTable 22 = .ok (.aload_n 0, 1) := by decide +kernel
theorem dX11_putsTable_23 : decode cX11_putsTable 23 = .ok (.getfield 60, 3) := by decide +kernel
theorem dX11_putsTable_26 : decode cX11_putsTable 26 = .ok (.iload_n 1, 1) := by decide +kernel
theorem dX11_putsTable_27 : decode cX11_putsTable 27 = .ok (.iaload, 1) := by decide +kernel
theorem dX11_putsTable_28 : decode cX11_putsTable 28 = .ok (.if_icmp .ge 31, 3) := by decide +kernel
theorem dX11_putsTable_31 : decode cX11_putsTable 31 = .ok (.aload_n 0, 1) := by decide +kernel
theorem dX11_putsTable_32 : decode cX11_putsTable 32 = .ok (.getfield 72, 3) := by decide +kernel
theorem dX11_putsTable_35 : decode cX11_putsTable 35 = .ok (.bipush 12, 2) := by decide +kernel
theorem dX11_putsTable_37 : decode cX11_putsTable 37 = .ok (.iload_n 2, 1) := by decide +kernel
theorem dX11_putsTable_38 : decode cX11_putsTable 38 = .ok (.imul, 1) := by decide +kernel
theorem dX11_putsTable_39 : decode cX11_putsTable 39 = .ok (.iload_n 3, 1) := by decide +kernel
theorem dX11_putsTable_40 : decode cX11_putsTable 40 = .ok (.iadd, 1) := by decide +kernel
theorem dX11_putsTable_41 : decode cX11_putsTable 41 = .ok (.aload_n 0, 1) := by decide +kernel
theorem dX11_putsTable_42 : decode cX11_putsTable 42 = .ok (.getfield 63, 3) := by decide +kernel
theorem dX11_putsTable_45 : decode cX11_putsTable 45 = .ok (.bipush 40, 2) := by decide +kernel
theorem dX11_putsTable_47 : decode cX11_putsTable 47 = .ok (.iload_n 1, 1) := by decide +kernel
theorem dX11_putsTable_48 : decode cX11_putsTable 48 = .ok (.imul, 1) := by decide +kernel
theorem dX11_putsTable_49 : decode cX11_putsTable 49 = .ok (.iload_n 3, 1) := by decide +kernel
theorem dX11_putsTable_50 : decode cX11_putsTable 50 = .ok (.iadd, 1) := by decide +kernel
theorem dX11_putsTable_51 : decode cX11_putsTable 51 = .ok (.iaload, 1) := by decide +kernel
theorem dX11_putsTable_52 : decode cX11_putsTable 52 = .ok (.iastore, 1) := by decide +kernel
theorem dX11_putsTable_53 : decode cX11_putsTable 53 = .ok (.iinc 3 1, 3) := by decide +kernel
theorem dX11_putsTable_56 : decode cX11_putsTable 56 = .ok (.goto (-35), 3) := by decide +kernel
theorem dX11_putsTable_59 : decode cX11_putsTable 59 = .ok (.return_, 1) := by decide +kernel
theorem dX11_putsOne_0 : decode cX11_putsOne 0 = .ok (.aload_n 0, 1) := by decide +kernel
theorem dX11_putsOne_1 : decode cX11_putsOne 1 = .ok (.getfield 29, 3) := by decide +kernel
theorem dX11_putsOne_4 : decode cX11_putsOne 4 = .ok (.iload_n 1, 1) := by decide +kernel
theorem dX11_putsOne_5 : decode cX11_putsOne 5 = .ok (.iaload, 1) := by decide +kernel
theorem dX11_putsOne_6 : decode cX11_putsOne 6 = .ok (.istore_n 2, 1) := by decide +kernel
theorem dX11_putsOne_7 : decode cX11_putsOne 7 = .ok (.aload_n 0, 1) := by decide +kernel
theorem dX11_putsOne_8 : decode cX11_putsOne 8 = .ok (.getfield 60, 3) := by decide +kernel
theorem dX11_putsOne_11 : decode cX11_putsOne 11 = .ok (.iload_n 2, 1) := by decide +kernel
theorem dX11_putsOne_12 : decode cX11_putsOne 12 = .ok (.iconst 0, 1) := by decide +kernel
theorem dX11_putsOne_13 : decode cX11_putsOne 13 = .ok (.iastore, 1) := by decide +kernel
theorem dX11_putsOne_14 : decode cX11_putsOne 14 = .ok (.iconst 0, 1) := by decide +kernel
theorem dX11_putsOne_15 : decode cX11_putsOne 15 = .ok (.istore_n 3, 1) := by decide +kernel
theorem dX11_putsOne_16 : decode cX11_putsOne 16 = .ok (.iload_n 3, 1) := by decide +kernel
theorem dX11_putsOne_17 : decode cX11_putsOne 17 = .ok (.aload_n 0, 1) := by decide +kernel
theorem dX11_putsOne_18 : decode cX11_putsOne 18 = .ok (.getfield 60, 3) := by decide +kernel
theorem dX11_putsOne_21 : decode cX11_putsOne 21 = .ok (.iload_n 1, 1) := by decide +kernel
theorem dX11_putsOne_22 : decode cX11_putsOne 22 = .ok (.iaload, 1) := by decide +kernel
theorem dX11_putsOne_23 : decode cX11_putsOne 23 = .ok (.if_icmp .ge 121, 3) := by decide +kernel
theorem dX11_putsOne_26 : decode cX11_putsOne 26 = .ok (.aload_n 0, 1) := by decide +kernel
theorem dX11_putsOne_27 : decode cX11_putsOne 27 = .ok (.getfield 63, 3) := by decide +kernel
theorem dX11_putsOne_30 : decode cX11_putsOne 30 = .ok (.bipush 40, 2) := by decide +kernel
theorem dX11_putsOne_32 : decode cX11_putsOne 32 = .ok (.iload_n 1, 1) := by decide +kernel
theorem dX11_putsOne_33 : decode cX11_putsOne 33 = .ok (.imul, 1) := by decide +kernel
theorem dX11_putsOne_34 : decode cX11_putsOne 34 = .ok (.iload_n 3, 1) := by decide +kernel
theorem dX11_putsOne_35 : decode cX11_putsOne 35 = .ok (.iadd, 1) := by decide +kernel
theorem dX11_putsOne_36 : decode cX11_putsOne 36 = .ok (.iaload, 1) := by decide +kernel
theorem dX11_putsOne_37 : decode cX11_putsOne 37 = .ok (.istore 4, 2) := by decide +kernel
theorem dX11_putsOne_39 : decode cX11_putsOne 39 = .ok (.aload_n 0, 1) := by decide +kernel
theorem dX11_putsOne_40 : decode cX11_putsOne 40 = .ok (.getfield 26, 3) := by decide +kernel
theorem dX11_putsOne_43 : decode cX11_putsOne 43 = .ok (.iload_n 1, 1) := by decide +kernel
theorem dX11_putsOne_44 : decode cX11_putsOne 44 = .ok (.iaload, 1) := by decide +kernel
theorem dX11_putsOne_45 : decode cX11_putsOne 45 = .ok (.iconst 2, 1) := by decide +kernel
theorem dX11_putsOne_46 : decode cX11_putsOne 46 = .ok (.if_icmp .ne 85, 3) := by decide +kernel
theorem dX11_putsOne_49 : decode cX11_putsOne 49 = .ok (.aload_n 0, 1) := by decide +kernel
theorem dX11_putsOne_50 : decode cX11_putsOne 50 = .ok (.aload_n 0, 1) := by decide +kernel
theorem dX11_putsOne_51 : decode cX11_putsOne 51 = .ok (.getfield 57, 3) := by decide +kernel
theorem dX11_putsOne_54 : decode cX11_putsOne 54 = .ok (.bipush 40, 2) := by decide +kernel
theorem dX11_putsOne_56 : decode cX11_putsOne 56 = .ok (.iload_n 2, 1) := by decide +kernel
theorem dX11_putsOne_57 : decode cX11_putsOne 57 = .ok (.imul, 1) := by decide +kernel
theorem dX11_putsOne_58 : decode cX11_putsOne 58 = .ok (.aload_n 0, 1) := by decide +kernel
theorem dX11_putsOne_59 : decode cX11_putsOne 59 = .ok (.getfield 54, 3) := by decide +kernel
theorem dX11_putsOne_62 : decode cX11_putsOne 62 = .ok (.iload_n 2, 1) := by decide +kernel
theorem dX11_putsOne_63 : decode cX11_putsOne 63 = .ok (.iaload, 1) := by decide +kernel
theorem dX11_putsOne_64 : decode cX11_putsOne 64 = .ok (.aload_n 0, 1) := by decide +kernel
theorem dX11_putsOne_65 : decode cX11_putsOne 65 = .ok (.getfield 48, 3) := by decide +kernel
theorem dX11_putsOne_68 : decode cX11_putsOne 68 = .ok (.iload_n 1, 1) := by decide +kernel
theorem dX11_putsOne_69 : decode cX11_putsOne 69 = .ok (.iaload, 1) := by decide +kernel
theorem dX11_putsOne_70 : decode cX11_putsOne 70 = .ok (.aload_n 0, 1) := by decide +kernel
theorem dX11_putsOne_71 : decode cX11_putsOne 71 = .ok (.iload 4, 2) := by decide +kernel
theorem dX11_putsOne_73 : decode cX11_putsOne 73 = .ok (.aload_n 0, 1) := by decide +kernel
theorem dX11_putsOne_74 : decode cX11_putsOne 74 = .ok (.getfield 48, 3) := by decide +kernel
theorem dX11_putsOne_77 : decode cX11_putsOne 77 = .ok (.iload_n 1, 1) := by decide +kernel
theorem dX11_putsOne_78 : decode cX11_putsOne 78 = .ok (.iaload, 1) := by decide +kernel
theorem dX11_putsOne_79 : decode cX11_putsOne 79 = .ok (.invokevirtual 100, 3) := by decide +kernel
theorem dX11_putsOne_82 : decode cX11_putsOne 82 = .ok (.invokevirtual 114, 3) := by decide +kernel
theorem dX11_putsOne_85 : decode cX11_putsOne 85 = .ok (.istore 5, 2) := by decide +kernel
theorem dX11_putsOne_87 : decode cX11_putsOne 87 = .ok (.iload 4, 2) := by decide +kernel
theorem dX11_putsOne_89 : decode cX11_putsOne 89 = .ok (.iload 5, 2) := by decide +kernel
theorem dX11_putsOne_91 : decode cX11_putsOne 91 = .ok (.iconst (-1), 1) := by decide +kernel
theorem dX11_putsOne_92 : decode cX11_putsOne 92 = .ok (.if_icmp .ne 12, 3) := by decide +kernel
theorem dX11_putsOne_95 : decode cX11_putsOne 95 = .ok (.aload_n 0, 1) := by decide +kernel
theorem dX11_putsOne_96 : decode cX11_putsOne 96 = .ok (.getfield 38, 3) := by decide +kernel
theorem dX11_putsOne_99 : decode cX11_putsOne 99 = .ok (.iload_n 1, 1) := by decide +kernel
theorem dX11_putsOne_100 : decode cX11_putsOne 100 = .ok (.iaload, 1) := by decide +kernel
theorem dX11_putsOne_101 : decode cX11_putsOne 101 = .ok (.goto 15, 3) := by decide +kernel
theorem dX11_putsOne_104 : decode cX11_putsOne 104 = .ok (.aload_n 0, 1) := by decide +kernel
theorem dX11_putsOne_105 : decode cX11_putsOne 105 = .ok (.iload 5, 2) := by decide +kernel
theorem dX11_putsOne_107 : decode cX11_putsOne 107 = .ok (.aload_n 0, 1) := by decide +kernel
theorem dX11_putsOne_108 : decode cX11_putsOne 108 = .ok (.getfield 35, 3) := by decide +kernel
theorem dX11_putsOne_111 : decode cX11_putsOne 111 = .ok (.iload_n 1, 1) := by decide +kernel
theorem dX11_putsOne_112 : decode cX11_putsOne 112 = .ok (.iaload, 1) := by decide +kernel
theorem dX11_putsOne_113 : decode cX11_putsOne 113 = .ok (.invokevirtual 91, 3) := by decide +kernel
theorem dX11_putsOne_116 : decode cX11_putsOne 116 = .ok (.aload_n 0, 1) := by decide +kernel
theorem dX11_putsOne_117 : decode cX11_putsOne 117 = .ok (.getfield 8, 3) := by decide +kernel
theorem dX11_putsOne_120 : decode cX11_putsOne 120 = .ok (.aload_n 0, 1) := by decide +kernel
theorem dX11_putsOne_121 : decode cX11_putsOne 121 = .ok (.getfield 35, 3) := by decide +kernel
theorem dX11_putsOne_124 : decode cX11_putsOne 124 = .ok (.iload_n 1, 1) := by decide +kernel
theorem dX11_putsOne_125 : decode cX11_putsOne 125 = .ok (.iaload, 1) := by decide +kernel
theorem dX11_putsOne_126 : decode cX11_putsOne 126 = .ok (.iaload, 1) := by decide +kernel
theorem dX11_putsOne_127 : decode cX11_putsOne 127 = .ok (.imul, 1) := by decide +kernel
theorem dX11_putsOne_128 : decode cX11_putsOne 128 = .ok (.iadd, 1) := by decide +kernel
theorem dX11_putsOne_129 : decode cX11_putsOne 129 = .ok (.istore 4, 2) := by decide +kernel
theorem dX11_putsOne_131 : decode cX11_putsOne 131 = .ok (.aload_n 0, 1) := by decide +kernel
theorem dX11_putsOne_132 : decode cX11_putsOne 132 = .ok (.iload_n 2, 1) := by decide +kernel
theorem dX11_putsOne_133 : decode cX11_putsOne 133 = .ok (.iload 4, 2) := by decide +kernel
theorem dX11_putsOne_135 : decode cX11_putsOne 135 = .ok (.invokevirtual 191, 3) := by decide +kernel
theorem dX11_putsOne_138 : decode cX11_putsOne 138 = .ok (.iinc 3 1, 3) := by decide +kernel
theorem dX11_putsOne_141 : decode cX11_putsOne 141 = .ok (.goto (-125), 3) := by decide +kernel
theorem dX11_putsOne_144 : decode cX11_putsOne 144 = .ok (.iconst 0, 1) := by decide +kernel
theorem dX11_putsOne_145 : decode cX11_putsOne 145 = .ok (.istore_n 3, 1) := by decide +kernel
theorem dX11_putsOne_146 : decode cX11_putsOne 146 = .ok (.iload_n 3, 1) := by decide +kernel
theorem dX11_putsOne_147 : decode cX11_putsOne 147 = .ok (.aload_n 0, 1) := by decide +kernel
theorem dX11_putsOne_148 : decode cX11_putsOne 148 = .ok (.getfield 54, 3) := by decide +kernel
theorem dX11_putsOne_151 : decode cX11_putsOne 151 = .ok (.iload_n 2, 1) := by decide +kernel
theorem dX11_putsOne_152 : decode cX11_putsOne 152 = .ok (.iaload, 1) := by decide +kernel
theorem dX11_putsOne_153 : decode cX11_putsOne 153 = .ok (.if_icmp .ge 59, 3) := by decide +kernel
theorem dX11_putsOne_156 : decode cX11_putsOne 156 = .ok (.aload_n 0, 1) := by decide +kernel
theorem dX11_putsOne_157 : decode cX11_putsOne 157 = .ok (.getfield 26, 3) := by decide +kernel
theorem dX11_putsOne_160 : decode cX11_putsOne 160 = .ok (.iload_n 1, 1) := by decide +kernel
theorem dX11_putsOne_161 : decode cX11_putsOne 161 = .ok (.iaload, 1) := by decide +kernel
theorem dX11_putsOne_162 : decode cX11_putsOne 162 = .ok (.iconst 1, 1) := by decide +kernel
theorem dX11_putsOne_163 : decode cX11_putsOne 163 = .ok (.if_icmp .ne 49, 3) := by decide +kernel
theorem dX11_putsOne_166 : decode cX11_putsOne 166 = .ok (.aload_n 0, 1) := by decide +kernel
theorem dX11_putsOne_167 : decode cX11_putsOne 167 = .ok (.getfield 57, 3) := by decide +kernel
theorem dX11_putsOne_170 : decode cX11_putsOne 170 = .ok (.bipush 40, 2) := by decide +kernel
theorem dX11_putsOne_172 : decode cX11_putsOne 172 = .ok (.iload_n 2, 1) := by decide +kernel
theorem dX11_putsOne_173 : decode cX11_putsOne 173 = .ok (.imul, 1) := by decide +kernel
theorem dX11_putsOne_174 : decode cX11_putsOne 174 = .ok (.iload_n 3, 1) := by decide +kernel
theorem dX11_putsOne_175 : decode cX11_putsOne 175 = .ok (.iadd, 1) := by decide +kernel
theorem dX11_putsOne_176 : decode cX11_putsOne 176 = .ok (.iaload, 1) := by decide +kernel
theorem dX11_putsOne_177 : decode cX11_putsOne 177 = .ok (.istore 4, 2) := by decide +kernel
theorem dX11_putsOne_179 : decode cX11_putsOne 179 = .ok (.aload_n 0, 1) := by decide +kernel
theorem dX11_putsOne_180 : decode cX11_putsOne 180 = .ok (.iload_n 1, 1) := by decide +kernel
theorem dX11_putsOne_181 : decode cX11_putsOne 181 = .ok (.iload 4, 2) := by decide +kernel
theorem dX11_putsOne_183 : decode cX11_putsOne 183 = .ok (.invokevirtual 149, 3) := by decide +kernel
theorem dX11_putsOne_186 : decode cX11_putsOne 186 = .ok (.ifCond .ne 20, 3) := by decide +kernel
theorem dX11_putsOne_189 : decode cX11_putsOne 189 = .ok (.aload_n 0, 1) := by decide +kernel
theorem dX11_putsOne_190 : decode cX11_putsOne 190 = .ok (.iload_n 1, 1) := by decide +kernel
theorem dX11_putsOne_191 : decode cX11_putsOne 191 = .ok (.iload 4, 2) := by decide +kernel
theorem dX11_putsOne_193 : decode cX11_putsOne 193 = .ok (.invokevirtual 194, 3) := by decide +kernel
theorem dX11_putsOne_196 : decode cX11_putsOne 196 = .ok (.ifCond .eq 10, 3) := by decide +kernel
theorem dX11_putsOne_199 : decode cX11_putsOne 199 = .ok (.aload_n 0, 1) := by decide +kernel
theorem dX11_putsOne_200 : decode cX11_putsOne 200 = .ok (.iload_n 2, 1) := by decide +kernel
theorem dX11_putsOne_201 : decode cX11_putsOne 201 = .ok (.iload 4, 2) := by decide +kernel
theorem dX11_putsOne_203 : decode cX11_putsOne 203 = .ok (.invokevirtual 191, 3) := by decide +kernel
theorem dX11_putsOne_206 : decode cX11_putsOne 206 = .ok (.iinc 3 1, 3) := by decide +kernel
theorem dX11_putsOne_209 : decode cX11_putsOne 209 = .ok (.goto (-63), 3) := by decide +kernel
theorem dX11_putsOne_212 : decode cX11_putsOne 212 = .ok (.return_, 1) := by decide +kernel
theorem dX11_putsRight_0 : decode cX11_putsRight 0 = .ok (.aload_n 0, 1) := by decide +kernel
theorem dX11_putsRight_1 : decode cX11_putsRight 1 = .ok (.getfield 32, 3) := by decide +kernel
theorem dX11_putsRight_4 : decode cX11_putsRight 4 = .ok (.iload_n 1, 1) := by decide +kernel
theorem dX11_putsRight_5 : decode cX11_putsRight 5 = .ok (.iaload, 1) := by decide +kernel
theorem dX11_putsRight_6 : decode cX11_putsRight 6 = .ok (.istore_n 2, 1) := by decide +kernel
theorem dX11_putsRight_7 : decode cX11_putsRight 7 = .ok (.aload_n 0, 1) := by decide +kernel
theorem dX11_putsRight_8 : decode cX11_putsRight 8 = .ok (.getfield 60, 3) := by decide +kernel
theorem dX11_putsRight_11 : decode cX11_putsRight 11 = .ok (.iload_n 2, 1) := by decide +kernel
theorem dX11_putsRight_12 : decode cX11_putsRight 12 = .ok (.iconst 0, 1) := by decide +kernel
theorem dX11_putsRight_13 : decode cX11_putsRight 13 = .ok (.iastore, 1) := by decide +kernel
theorem dX11_putsRight_14 : decode cX11_putsRight 14 = .ok (.iconst 0, 1) := by decide +kernel
theorem dX11_putsRight_15 : decode cX11_putsRight 15 = .ok (.istore_n 3, 1) := by decide +kernel
theorem dX11_putsRight_16 : decode cX11_putsRight 16 = .ok (.iload_n 3, 1) := by decide +kernel
theorem dX11_putsRight_17 : decode cX11_putsRight 17 = .ok (.aload_n 0, 1) := by decide +kernel
theorem dX11_putsRight_18 : decode cX11_putsRight 18 = .ok (.getfield 60, 3) := by decide +kernel
theorem dX11_putsRight_21 : decode cX11_putsRight 21 = .ok (.iload_n 1, 1) := by decide +kernel
theorem dX11_putsRight_22 : decode cX11_putsRight 22 = .ok (.iaload, 1) := by decide +kernel
theorem dX11_putsRight_23 : decode cX11_putsRight 23 = .ok (.if_icmp .ge 35, 3) := by decide +kernel
theorem dX11_putsRight_26 : decode cX11_putsRight 26 = .ok (.aload_n 0, 1) := by decide +kernel
theorem dX11_putsRight_27 : decode cX11_putsRight 27 = .ok (.iload_n 2, 1) := by decide +kernel
theorem dX11_putsRight_28 : decode cX11_putsRight 28 = .ok (.aload_n 0, 1) := by decide +kernel
theorem dX11_putsRight_29 : decode cX11_putsRight 29 = .ok (.aload_n 0, 1) := by decide +kernel
theorem dX11_putsRight_30 : decode cX11_putsRight 30 = .ok (.getfield 63, 3) := by decide +kernel
theorem dX11_putsRight_33 : decode cX11_putsRight 33 = .ok (.bipush 40, 2) := by decide +kernel
theorem dX11_putsRight_35 : decode cX11_putsRight 35 = .ok (.iload_n 1, 1) := by decide +kernel
theorem dX11_putsRight_36 : decode cX11_putsRight 36 = .ok (.imul, 1) := by decide +kernel
theorem dX11_putsRight_37 : decode cX11_putsRight 37 = .ok (.iload_n 3, 1) := by decide +kernel
theorem dX11_putsRight_38 : decode cX11_putsRight 38 = .ok (.iadd, 1) := by decide +kernel
theorem dX11_putsRight_39 : decode cX11_putsRight 39 = .ok (.iaload, 1) := by decide +kernel
theorem dX11_putsRight_40 : decode cX11_putsRight 40 = .ok (.aload_n 0, 1) := by decide +kernel
theorem dX11_putsRight_41 : decode cX11_putsRight 41 = .ok (.getfield 45, 3) := by decide +kernel
theorem dX11_putsRight_44 : decode cX11_putsRight 44 = .ok (.iload_n 2, 1) := by decide +kernel
theorem dX11_putsRight_45 : decode cX11_putsRight 45 = .ok (.iaload, 1) := by decide +kernel
theorem dX11_putsRight_46 : decode cX11_putsRight 46 = .ok (.invokevirtual 100, 3) := by decide +kernel
theorem dX11_putsRight_49 : decode cX11_putsRight 49 = .ok (.invokevirtual 191, 3) := by decide +kernel
theorem dX11_putsRight_52 : decode cX11_putsRight 52 = .ok (.iinc 3 1, 3) := by decide +kernel
theorem dX11_putsRight_55 : decode cX11_putsRight 55 = .ok (.goto (-39), 3) := by decide +kernel
theorem dX11_putsRight_58 : decode cX11_putsRight 58 = .ok (.aload_n 0, 1) := by decide +kernel
theorem dX11_putsRight_59 : decode cX11_putsRight 59 = .ok (.getfield 60, 3) := by decide +kernel
theorem dX11_putsRight_62 : decode cX11_putsRight 62 = .ok (.iload_n 2, 1) := by decide +kernel
theorem dX11_putsRight_63 : decode cX11_putsRight 63 = .ok (.iaload, 1) := by decide +kernel
theorem dX11_putsRight_64 : decode cX11_putsRight 64 = .ok (.istore_n 3, 1) := by decide +kernel
theorem dX11_putsRight_65 : decode cX11_putsRight 65 = .ok (.iconst 0, 1) := by decide +kernel
theorem dX11_putsRight_66 : decode cX11_putsRight 66 = .ok (.istore 4, 2) := by decide +kernel
theorem dX11_putsRight_68 : decode cX11_putsRight 68 = .ok (.iconst 0, 1) := by decide +kernel
theorem dX11_putsRight_69 : decode cX11_putsRight 69 = .ok (.istore 5, 2) := by decide +kernel
theorem dX11_putsRight_71 : decode cX11_putsRight 71 = .ok (.iload 5, 2) := by decide +kernel
theorem dX11_putsRight_73 : decode cX11_putsRight 73 = .ok (.aload_n 0, 1) := by decide +kernel
theorem dX11_putsRight_74 : decode cX11_putsRight 74 = .ok (.getfield 54, 3) := by decide +kernel
theorem dX11_putsRight_77 : decode cX11_putsRight 77 = .ok (.iload_n 2, 1) := by decide +kernel
theorem dX11_putsRight_78 : decode cX11_putsRight 78 = .ok (.iaload, 1) := by decide +kernel
theorem dX11_putsRight_79 : decode cX11_putsRight 79 = .ok (.if_icmp .ge 70, 3) := by decide +kernel
theorem dX11_putsRight_82 : decode cX11_putsRight 82 = .ok (.aload_n 0, 1) := by decide +kernel
theorem dX11_putsRight_83 : decode cX11_putsRight 83 = .ok (.getfield 57, 3) := by decide +kernel
theorem dX11_putsRight_86 : decode cX11_putsRight 86 = .ok (.bipush 40, 2) := by decide +kernel
theorem dX11_putsRight_88 : decode cX11_putsRight 88 = .ok (.iload_n 2, 1) := by decide +kernel
theorem dX11_putsRight_89 : decode cX11_putsRight 89 = .ok (.imul, 1) := by decide +kernel
theorem dX11_putsRight_90 : decode cX11_putsRight 90 = .ok (.iload 5, 2) := by decide +kernel
theorem dX11_putsRight_92 : decode cX11_putsRight 92 = .ok (.iadd, 1) := by decide +kernel
theorem dX11_putsRight_93 : decode cX11_putsRight 93 = .ok (.iaload, 1) := by decide +kernel
theorem dX11_putsRight_94 : decode cX11_putsRight 94 = .ok (.istore 6, 2) := by decide +kernel
theorem dX11_putsRight_96 : decode cX11_putsRight 96 = .ok (.aload_n 0, 1) := by decide +kernel
theorem dX11_putsRight_97 : decode cX11_putsRight 97 = .ok (.aload_n 0, 1) := by decide +kernel
theorem dX11_putsRight_98 : decode cX11_putsRight 98 = .ok (.getfield 63, 3) := by decide +kernel
theorem dX11_putsRight_101 : decode cX11_putsRight 101 = .ok (.bipush 40, 2) := by decide +kernel
theorem dX11_putsRight_103 : decode cX11_putsRight 103 = .ok (.iload_n 2, 1) := by decide +kernel
theorem dX11_putsRight_104 : decode cX11_putsRight 104 = .ok (.imul, 1) := by decide +kernel
theorem dX11_putsRight_105 : decode cX11_putsRight 105 = .ok (.iload_n 3, 1) := by decide +kernel
theorem dX11_putsRight_106 : decode cX11_putsRight 106 = .ok (.aload_n 0, 1) := by decide +kernel
theorem dX11_putsRight_107 : decode cX11_putsRight 107 = .ok (.getfield 48, 3) := by decide +kernel
theorem dX11_putsRight_110 : decode cX11_putsRight 110 = .ok (.iload_n 2, 1) := by decide +kernel
theorem dX11_putsRight_111 : decode cX11_putsRight 111 = .ok (.iaload, 1) := by decide +kernel
theorem dX11_putsRight_112 : decode cX11_putsRight 112 = .ok (.aload_n 0, 1) := by decide +kernel
theorem dX11_putsRight_113 : decode cX11_putsRight 113 = .ok (.iload 6, 2) := by decide +kernel
theorem dX11_putsRight_115 : decode cX11_putsRight 115 = .ok (.aload_n 0, 1) := by decide +kernel
theorem dX11_putsRight_116 : decode cX11_putsRight 116 = .ok (.getfield 48, 3) := by decide +kernel
theorem dX11_putsRight_119 : decode cX11_putsRight 119 = .ok (.iload_n 2, 1) := by decide +kernel
theorem dX11_putsRight_120 : decode cX11_putsRight 120 = .ok (.iaload, 1) := by decide +kernel
theorem dX11_putsRight_121 : decode cX11_putsRight 121 = .ok (.invokevirtual 100, 3) := by decide +kernel
theorem dX11_putsRight_124 : decode cX11_putsRight 124 = .ok (.invokevirtual 114, 3) := by decide +kernel
theorem dX11_putsRight_127 : decode cX11_putsRight 127 = .ok (.iconst (-1), 1) := by decide +kernel
theorem dX11_putsRight_128 : decode cX11_putsRight 128 = .ok (.if_icmp .ne 15, 3) := by decide +kernel
theorem dX11_putsRight_131 : decode cX11_putsRight 131 = .ok (.aload_n 0, 1) := by decide +kernel
theorem dX11_putsRight_132 : decode cX11_putsRight 132 = .ok (.getfield 84, 3) := by decide +kernel
theorem dX11_putsRight_135 : decode cX11_putsRight 135 = .ok (.iload 4, 2) := by decide +kernel
theorem dX11_putsRight_137 : decode cX11_putsRight 137 = .ok (.iload 6, 2) := by decide +kernel
theorem dX11_putsRight_139 : decode cX11_putsRight 139 = .ok (.iastore, 1) := by decide +kernel
theorem dX11_putsRight_140 : decode cX11_putsRight 140 = .ok (.iinc 4 1, 3) := by decide +kernel
theorem dX11_putsRight_143 : decode cX11_putsRight 143 = .ok (.iinc 5 1, 3) := by decide +kernel
theorem dX11_putsRight_146 : decode cX11_putsRight 146 = .ok (.goto (-75), 3) := by decide +kernel
theorem dX11_putsRight_149 : decode cX11_putsRight 149 = .ok (.iconst 0, 1) := by decide +kernel
theorem dX11_putsRight_150 : decode cX11_putsRight 150 = .ok (.istore 5, 2) := by decide +kernel
theorem dX11_putsRight_152 : decode cX11_putsRight 152 = .ok (.iload 5, 2) := by decide +kernel
theorem dX11_putsRight_154 : decode cX11_putsRight 154 = .ok (.iload 4, 2) := by decide +kernel
theorem dX11_putsRight_156 : decode cX11_putsRight 156 = .ok (.if_icmp .ge 21, 3) := by decide +kernel
theorem dX11_putsRight_159 : decode cX11_putsRight 159 = .ok (.aload_n 0, 1) := by decide +kernel
theorem dX11_putsRight_160 : decode cX11_putsRight 160 = .ok (.iload_n 2, 1) := by decide +kernel
theorem dX11_putsRight_161 : decode cX11_putsRight 161 = .ok (.aload_n 0, 1) := by decide +kernel
theorem dX11_putsRight_162 : decode cX11_putsRight 162 = .ok (.getfield 84, 3) := by decide +kernel
theorem dX11_putsRight_165 : decode cX11_putsRight 165 = .ok (.iload 5, 2) := by decide +kernel
theorem dX11_putsRight_167 : decode cX11_putsRight 167 = .ok (.iaload, 1) := by decide +kernel
theorem dX11_putsRight_168 : decode cX11_putsRight 168 = .ok (.invokevirtual 191, 3) := by decide +kernel
theorem dX11_putsRight_171 : decode cX11_putsRight 171 = .ok (.iinc 5 1, 3) := by decide +kernel
theorem dX11_putsRight_174 : decode cX11_putsRight 174 = .ok (.goto (-22), 3) := by decide +kernel
theorem dX11_putsRight_177 : decode cX11_putsRight 177 = .ok (.return_, 1) := by decide +kernel
theorem dX11_putsLeft_0 : decode cX11_putsLeft 0 = .ok (.aload_n 0, 1) := by decide +kernel
theorem dX11_putsLeft_1 : decode cX11_putsLeft 1 = .ok (.getfield 29, 3) := by decide +kernel
theorem dX11_putsLeft_4 : decode cX11_putsLeft 4 = .ok (.iload_n 1, 1) := by decide +kernel
theorem dX11_putsLeft_5 : decode cX11_putsLeft 5 = .ok (.iaload, 1) := by decide +kernel
theorem dX11_putsLeft_6 : decode cX11_putsLeft 6 = .ok (.istore_n 2, 1) := by decide +kernel
theorem dX11_putsLeft_7 : decode cX11_putsLeft 7 = .ok (.aload_n 0, 1) := by decide +kernel
theorem dX11_putsLeft_8 : decode cX11_putsLeft 8 = .ok (.getfield 32, 3) := by decide +kernel
theorem dX11_putsLeft_11 : decode cX11_putsLeft 11 = .ok (.iload_n 1, 1) := by decide +kernel
theorem dX11_putsLeft_12 : decode cX11_putsLeft 12 = .ok (.iaload, 1) := by decide +kernel
theorem dX11_putsLeft_13 : decode cX11_putsLeft 13 = .ok (.istore_n 3, 1) := by decide +kernel
theorem dX11_putsLeft_14 : decode cX11_putsLeft 14 = .ok (.aload_n 0, 1) := by decide +kernel
theorem dX11_putsLeft_15 : decode cX11_putsLeft 15 = .ok (.getfield 60, 3) := by decide +kernel
theorem dX11_putsLeft_18 : decode cX11_putsLeft 18 = .ok (.iload_n 2, 1) := by decide +kernel
theorem dX11_putsLeft_19 : decode cX11_putsLeft 19 = .ok (.iconst 0, 1) := by decide +kernel
theorem dX11_putsLeft_20 : decode cX11_putsLeft 20 = .ok (.iastore, 1) := by decide +kernel
theorem dX11_putsLeft_21 : decode cX11_putsLeft 21 = .ok (.iconst 0, 1) := by decide +kernel
theorem dX11_putsLeft_22 : decode cX11_putsLeft 22 = .ok (.istore 4, 2) := by decide +kernel
theorem dX11_putsLeft_24 : decode cX11_putsLeft 24 = .ok (.iload 4, 2) := by decide +kernel
theorem dX11_putsLeft_26 : decode cX11_putsLeft 26 = .ok (.aload_n 0, 1) := by decide +kernel
theorem dX11_putsLeft_27 : decode cX11_putsLeft 27 = .ok (.getfield 60, 3) := by decide +kernel
theorem dX11_putsLeft_30 : decode cX11_putsLeft 30 = .ok (.iload_n 1, 1) := by decide +kernel
theorem dX11_putsLeft_31 : decode cX11_putsLeft 31 = .ok (.iaload, 1) := by decide +kernel
theorem dX11_putsLeft_32 : decode cX11_putsLeft 32 = .ok (.if_icmp .ge 36, 3) := by decide +kernel
theorem dX11_putsLeft_35 : decode cX11_putsLeft 35 = .ok (.aload_n 0, 1) := by decide +kernel
theorem dX11_putsLeft_36 : decode cX11_putsLeft 36 = .ok (.iload_n 2, 1) := by decide +kernel
theorem dX11_putsLeft_37 : decode cX11_putsLeft 37 = .ok (.aload_n 0, 1) := by decide +kernel
theorem dX11_putsLeft_38 : decode cX11_putsLeft 38 = .ok (.aload_n 0, 1) := by decide +kernel
theorem dX11_putsLeft_39 : decode cX11_putsLeft 39 = .ok (.getfield 63, 3) := by decide +kernel
theorem dX11_putsLeft_42 : decode cX11_putsLeft 42 = .ok (.bipush 40, 2) := by decide +kernel
theorem dX11_putsLeft_44 : decode cX11_putsLeft 44 = .ok (.iload_n 1, 1) := by decide +kernel
theorem dX11_putsLeft_45 : decode cX11_putsLeft 45 = .ok (.imul, 1) := by decide +kernel
theorem dX11_putsLeft_46 : decode cX11_putsLeft 46 = .ok (.iload 4, 2) := by decide +kernel
theorem dX11_putsLeft_48 : decode cX11_putsLeft 48 = .ok (.iadd, 1) := by decide +kernel
theorem dX11_putsLeft_49 : decode cX11_putsLeft 49 = .ok (.iaload, 1) := by decide +kernel
theorem dX11_putsLeft_50 : decode cX11_putsLeft 50 = .ok (.aload_n 0, 1) := by decide +kernel
theorem dX11_putsLeft_51 : decode cX11_putsLeft 51 = .ok (.getfield 45, 3) := by decide +kernel
theorem dX11_putsLeft_54 : decode cX11_putsLeft 54 = .ok (.iload_n 2, 1) := by decide +kernel
theorem dX11_putsLeft_55 : decode cX11_putsLeft 55 = .ok (.iaload, 1) := by decide +kernel
theorem dX11_putsLeft_56 : decode cX11_putsLeft 56 = .ok (.invokevirtual 100, 3) := by decide +kernel
theorem dX11_putsLeft_59 : decode cX11_putsLeft 59 = .ok (.invokevirtual 191, 3) := by decide +kernel
theorem dX11_putsLeft_62 : decode cX11_putsLeft 62 = .ok (.iinc 4 1, 3) := by decide +kernel
theorem dX11_putsLeft_65 : decode cX11_putsLeft 65 = .ok (.goto (-41), 3) := by decide +kernel
theorem dX11_putsLeft_68 : decode cX11_putsLeft 68 = .ok (.iconst 0, 1) := by decide +kernel
theorem dX11_putsLeft_69 : decode cX11_putsLeft 69 = .ok (.istore 4, 2) := by decide +kernel
theorem dX11_putsLeft_71 : decode cX11_putsLeft 71 = .ok (.iload 4, 2) := by decide +kernel
theorem dX11_putsLeft_73 : decode cX11_putsLeft 73 = .ok (.aload_n 0, 1) := by decide +kernel
theorem dX11_putsLeft_74 : decode cX11_putsLeft 74 = .ok (.getfield 54, 3) := by decide +kernel
theorem dX11_putsLeft_77 : decode cX11_putsLeft 77 = .ok (.iload_n 2, 1) := by decide +kernel
theorem dX11_putsLeft_78 : decode cX11_putsLeft 78 = .ok (.iaload, 1) := by decide +kernel
theorem dX11_putsLeft_79 : decode cX11_putsLeft 79 = .ok (.if_icmp .ge 90, 3) := by decide +kernel
theorem dX11_putsLeft_82 : decode cX11_putsLeft 82 = .ok (.aload_n 0, 1) := by decide +kernel
theorem dX11_putsLeft_83 : decode cX11_putsLeft 83 = .ok (.getfield 57, 3) := by decide +kernel
theorem dX11_putsLeft_86 : decode cX11_putsLeft 86 = .ok (.bipush 40, 2) := by decide +kernel
theorem dX11_putsLeft_88 : decode cX11_putsLeft 88 = .ok (.iload_n 2, 1) := by decide +kernel
theorem dX11_putsLeft_89 : decode cX11_putsLeft 89 = .ok (.imul, 1) := by decide +kernel
theorem dX11_putsLeft_90 : decode cX11_putsLeft 90 = .ok (.iload 4, 2) := by decide +kernel
theorem dX11_putsLeft_92 : decode cX11_putsLeft 92 = .ok (.iadd, 1) := by decide +kernel
theorem dX11_putsLeft_93 : decode cX11_putsLeft 93 = .ok (.iaload, 1) := by decide +kernel
theorem dX11_putsLeft_94 : decode cX11_putsLeft 94 = .ok (.istore 5, 2) := by decide +kernel
theorem dX11_putsLeft_96 : decode cX11_putsLeft 96 = .ok (.aload_n 0, 1) := by decide +kernel
theorem dX11_putsLeft_97 : decode cX11_putsLeft 97 = .ok (.aload_n 0, 1) := by decide +kernel
theorem dX11_putsLeft_98 : decode cX11_putsLeft 98 = .ok (.getfield 63, 3) := by decide +kernel
theorem dX11_putsLeft_101 : decode cX11_putsLeft 101 = .ok (.bipush 40, 2) := by decide +kernel
theorem dX11_putsLeft_103 : decode cX11_putsLeft 103 = .ok (.iload_n 3, 1) := by decide +kernel
theorem dX11_putsLeft_104 : decode cX11_putsLeft 104 = .ok (.imul, 1) := by decide +kernel
theorem dX11_putsLeft_105 : decode cX11_putsLeft 105 = .ok (.aload_n 0, 1) := by decide +kernel
theorem dX11_putsLeft_106 : decode cX11_putsLeft 106 = .ok (.getfield 60, 3) := by decide +kernel
theorem dX11_putsLeft_109 : decode cX11_putsLeft 109 = .ok (.iload_n 3, 1) := by decide +kernel
theorem dX11_putsLeft_110 : decode cX11_putsLeft 110 = .ok (.iaload, 1) := by decide +kernel
theorem dX11_putsLeft_111 : decode cX11_putsLeft 111 = .ok (.aload_n 0, 1) := by decide +kernel
theorem dX11_putsLeft_112 : decode cX11_putsLeft 112 = .ok (.iload_n 1, 1) := by decide +kernel
theorem dX11_putsLeft_113 : decode cX11_putsLeft 113 = .ok (.invokevirtual 141, 3) := by decide +kernel
theorem dX11_putsLeft_116 : decode cX11_putsLeft 116 = .ok (.aload_n 0, 1) := by decide +kernel
theorem dX11_putsLeft_117 : decode cX11_putsLeft 117 = .ok (.iload 5, 2) := by decide +kernel
theorem dX11_putsLeft_119 : decode cX11_putsLeft 119 = .ok (.aload_n 0, 1) := by decide +kernel
theorem dX11_putsLeft_120 : decode cX11_putsLeft 120 = .ok (.iload_n 1, 1) := by decide +kernel
theorem dX11_putsLeft_121 : decode cX11_putsLeft 121 = .ok (.invokevirtual 141, 3) := by decide +kernel
theorem dX11_putsLeft_124 : decode cX11_putsLeft 124 = .ok (.invokevirtual 100, 3) := by decide +kernel
theorem dX11_putsLeft_127 : decode cX11_putsLeft 127 = .ok (.invokevirtual 114, 3) := by decide +kernel
theorem dX11_putsLeft_130 : decode cX11_putsLeft 130 = .ok (.iconst (-1), 1) := by decide +kernel
theorem dX11_putsLeft_131 : decode cX11_putsLeft 131 = .ok (.if_icmp .eq 7, 3) := by decide +kernel
theorem dX11_putsLeft_134 : decode cX11_putsLeft 134 = .ok (.iconst 1, 1) := by decide +kernel
theorem dX11_putsLeft_135 : decode cX11_putsLeft 135 = .ok (.goto 4, 3) := by decide +kernel
theorem dX11_putsLeft_138 : decode cX11_putsLeft 138 = .ok (.iconst 0, 1) := by decide +kernel
theorem dX11_putsLeft_139 : decode cX11_putsLeft 139 = .ok (.istore 6, 2) := by decide +kernel
theorem dX11_putsLeft_141 : decode cX11_putsLeft 141 = .ok (.aload_n 0, 1) := by decide +kernel
theorem dX11_putsLeft_142 : decode cX11_putsLeft 142 = .ok (.iload_n 1, 1) := by decide +kernel
theorem dX11_putsLeft_143 : decode cX11_putsLeft 143 = .ok (.iload 5, 2) := by decide +kernel
theorem dX11_putsLeft_145 : decode cX11_putsLeft 145 = .ok (.invokevirtual 194, 3) := by decide +kernel
theorem dX11_putsLeft_148 : decode cX11_putsLeft 148 = .ok (.ifCond .eq 15, 3) := by decide +kernel
theorem dX11_putsLeft_151 : decode cX11_putsLeft 151 = .ok (.iload 6, 2) := by decide +kernel
theorem dX11_putsLeft_153 : decode cX11_putsLeft 153 = .ok (.ifCond .ne 10, 3) := by decide +kernel
theorem dX11_putsLeft_156 : decode cX11_putsLeft 156 = .ok (.aload_n 0, 1) := by decide +kernel
theorem dX11_putsLeft_157 : decode cX11_putsLeft 157 = .ok (.iload_n 2, 1) := by decide +kernel
theorem dX11_putsLeft_158 : decode cX11_putsLeft 158 = .ok (.iload 5, 2) := by decide +kernel
theorem dX11_putsLeft_160 : decode cX11_putsLeft 160 = .ok (.invokevirtual 191, 3) := by decide +kernel
theorem dX11_putsLeft_163 : decode cX11_putsLeft 163 = .ok (.iinc 4 1, 3) := by decide +kernel
theorem dX11_putsLeft_166 : decode cX11_putsLeft 166 = .ok (.goto (-95), 3) := by decide +kernel
theorem dX11_putsLeft_169 : decode cX11_putsLeft 169 = .ok (.return_, 1) := by decide +kernel
theorem dX11_comes_0 : decode cX11_comes 0 = .ok (.aload_n 0, 1) := by decide +kernel
theorem dX11_comes_1 : decode cX11_comes 1 = .ok (.getfield 75, 3) := by decide +kernel
theorem dX11_comes_4 : decode cX11_comes 4 = .ok (.aload_n 0, 1) := by decide +kernel
theorem dX11_comes_5 : decode cX11_comes 5 = .ok (.getfield 197, 3) := by decide +kernel
theorem dX11_comes_8 : decode cX11_comes 8 = .ok (.iload_n 1, 1) := by decide +kernel
theorem dX11_comes_9 : decode cX11_comes 9 = .ok (.iastore, 1) := by decide +kernel
theorem dX11_comes_10 : decode cX11_comes 10 = .ok (.aload_n 0, 1) := by decide +kernel
theorem dX11_comes_11 : decode cX11_comes 11 = .ok (.dup, 1) := by decide +kernel
theorem dX11_comes_12 : decode cX11_comes 12 = .ok (.getfield 197, 3) := by decide +kernel
theorem dX11_comes_15 : decode cX11_comes 15 = .ok (.iconst 1, 1) := by decide +kernel
theorem dX11_comes_16 : decode cX11_comes 16 = .ok (.iadd, 1) := by decide +kernel
theorem dX11_comes_17 : decode cX11_comes 17 = .ok (.putfield 197, 3) := by decide +kernel
theorem dX11_comes_20 : decode cX11_comes 20 = .ok (.return_, 1) := by decide +kernel
theorem dX11_goes_0 : decode cX11_goes 0 = .ok (.aload_n 0, 1) := by decide +kernel
theorem dX11_goes_1 : decode cX11_goes 1 = .ok (.invokevirtual 158, 3) := by decide +kernel
theorem dX11_goes_4 : decode cX11_goes 4 = .ok (.aload_n 0, 1) := by decide +kernel
theorem dX11_goes_5 : decode cX11_goes 5 = .ok (.iconst 0, 1) := by decide +kernel
theorem dX11_goes_6 : decode cX11_goes 6 = .ok (.putfield 171, 3) := by decide +kernel
theorem dX11_goes_9 : decode cX11_goes 9 = .ok (.aload_n 0, 1) := by decide +kernel
theorem dX11_goes_10 : decode cX11_goes 10 = .ok (.iconst (-1), 1) := by decide +kernel
theorem dX11_goes_11 : decode cX11_goes 11 = .ok (.putfield 174, 3) := by decide +kernel
theorem dX11_goes_14 : decode cX11_goes 14 = .ok (.aload_n 0, 1) := by decide +kernel
theorem dX11_goes_15 : decode cX11_goes 15 = .ok (.iconst (-1), 1) := by decide +kernel
theorem dX11_goes_16 : decode cX11_goes 16 = .ok (.putfield 177, 3) := by decide +kernel
theorem dX11_goes_19 : decode cX11_goes 19 = .ok (.iconst 0, 1) := by decide +kernel
theorem dX11_goes_20 : decode cX11_goes 20 = .ok (.istore_n 1, 1) := by decide +kernel
theorem dX11_goes_21 : decode cX11_goes 21 = .ok (.iload_n 1, 1) := by decide +kernel
theorem dX11_goes_22 : decode cX11_goes 22 = .ok (.aload_n 0, 1) := by decide +kernel
theorem dX11_goes_23 : decode cX11_goes 23 = .ok (.getfield 103, 3) := by decide +kernel
theorem dX11_goes_26 : decode cX11_goes 26 = .ok (.if_icmp .ge 61, 3) := by decide +kernel
theorem dX11_goes_29 : decode cX11_goes 29 = .ok (.aload_n 0, 1) := by decide +kernel
theorem dX11_goes_30 : decode cX11_goes 30 = .ok (.getfield 69, 3) := by decide +kernel
theorem dX11_goes_33 : decode cX11_goes 33 = .ok (.iload_n 1, 1) := by decide +kernel
theorem dX11_goes_34 : decode cX11_goes 34 = .ok (.aload_n 0, 1) := by decide +kernel
theorem dX11_goes_35 : decode cX11_goes 35 = .ok (.getfield 20, 3) := by decide +kernel
theorem dX11_goes_38 : decode cX11_goes 38 = .ok (.iload_n 1, 1) := by decide +kernel
theorem dX11_goes_39 : decode cX11_goes 39 = .ok (.iaload, 1) := by decide +kernel
theorem dX11_goes_40 : decode cX11_goes 40 = .ok (.iastore, 1) := by decide +kernel
theorem dX11_goes_41 : decode cX11_goes 41 = .ok (.iconst 0, 1) := by decide +kernel
theorem dX11_goes_42 : decode cX11_goes 42 = .ok (.istore_n 2, 1) := by decide +kernel
theorem dX11_goes_43 : decode cX11_goes 43 = .ok (.iload_n 2, 1) := by decide +kernel
theorem dX11_goes_44 : decode cX11_goes 44 = .ok (.aload_n 0, 1) := by decide +kernel
theorem dX11_goes_45 : decode cX11_goes 45 = .ok (.getfield 20, 3) := by decide +kernel
theorem dX11_goes_48 : decode cX11_goes 48 = .ok (.iload_n 1, 1) := by decide +kernel
theorem dX11_goes_49 : decode cX11_goes 49 = .ok (.iaload, 1) := by decide +kernel
theorem dX11_goes_50 : decode cX11_goes 50 = .ok (.if_icmp .ge 31, 3) := by decide +kernel
theorem dX11_goes_53 : decode cX11_goes 53 = .ok (.aload_n 0, 1) := by decide +kernel
theorem dX11_goes_54 : decode cX11_goes 54 = .ok (.getfield 72, 3) := by decide +kernel
theorem dX11_goes_57 : decode cX11_goes 57 = .ok (.bipush 12, 2) := by decide +kernel
theorem dX11_goes_59 : decode cX11_goes 59 = .ok (.iload_n 1, 1) := by decide +kernel
theorem dX11_goes_60 : decode cX11_goes 60 = .ok (.imul, 1) := by decide +kernel
theorem dX11_goes_61 : decode cX11_goes 61 = .ok (.iload_n 2, 1) := by decide +kernel
theorem dX11_goes_62 : decode cX11_goes 62 = .ok (.iadd, 1) := by decide +kernel
theorem dX11_goes_63 : decode cX11_goes 63 = .ok (.aload_n 0, 1) := by decide +kernel
theorem dX11_goes_64 : decode cX11_goes 64 = .ok (.getfield 23, 3) := by decide +kernel
theorem dX11_goes_67 : decode cX11_goes 67 = .ok (.bipush 12, 2) := by decide +kernel
theorem dX11_goes_69 : decode cX11_goes 69 = .ok (.iload_n 1, 1) := by decide +kernel
theorem dX11_goes_70 : decode cX11_goes 70 = .ok (.imul, 1) := by decide +kernel
theorem dX11_goes_71 : decode cX11_goes 71 = .ok (.iload_n 2, 1) := by decide +kernel
theorem dX11_goes_72 : decode cX11_goes 72 = .ok (.iadd, 1) := by decide +kernel
theorem dX11_goes_73 : decode cX11_goes 73 = .ok (.iaload, 1) := by decide +kernel
theorem dX11_goes_74 : decode cX11_goes 74 = .ok (.iastore, 1) := by decide +kernel
theorem dX11_goes_75 : decode cX11_goes 75 = .ok (.iinc 2 1, 3) := by decide +kernel
theorem dX11_goes_78 : decode cX11_goes 78 = .ok (.goto (-35), 3) := by decide +kernel
theorem dX11_goes_81 : decode cX11_goes 81 = .ok (.iinc 1 1, 3) := by decide +kernel
theorem dX11_goes_84 : decode cX11_goes 84 = .ok (.goto (-63), 3) := by decide +kernel
theorem dX11_goes_87 : decode cX11_goes 87 = .ok (.aload_n 0, 1) := by decide +kernel
theorem dX11_goes_88 : decode cX11_goes 88 = .ok (.getfield 60, 3) := by decide +kernel
theorem dX11_goes_91 : decode cX11_goes 91 = .ok (.aload_n 0, 1) := by decide +kernel
theorem dX11_goes_92 : decode cX11_goes 92 = .ok (.getfield 165, 3) := by decide +kernel
theorem dX11_goes_95 : decode cX11_goes 95 = .ok (.iconst 0, 1) := by decide +kernel
theorem dX11_goes_96 : decode cX11_goes 96 = .ok (.iastore, 1) := by decide +kernel
theorem dX11_goes_97 : decode cX11_goes 97 = .ok (.iconst 0, 1) := by decide +kernel
theorem dX11_goes_98 : decode cX11_goes 98 = .ok (.istore_n 1, 1) := by decide +kernel
theorem dX11_goes_99 : decode cX11_goes 99 = .ok (.iload_n 1, 1) := by decide +kernel
theorem dX11_goes_100 : decode cX11_goes 100 = .ok (.aload_n 0, 1) := by decide +kernel
theorem dX11_goes_101 : decode cX11_goes 101 = .ok (.getfield 168, 3) := by decide +kernel
theorem dX11_goes_104 : decode cX11_goes 104 = .ok (.if_icmp .ge 23, 3) := by decide +kernel
theorem dX11_goes_107 : decode cX11_goes 107 = .ok (.aload_n 0, 1) := by decide +kernel
theorem dX11_goes_108 : decode cX11_goes 108 = .ok (.aload_n 0, 1) := by decide +kernel
theorem dX11_goes_109 : decode cX11_goes 109 = .ok (.getfield 165, 3) := by decide +kernel
theorem dX11_goes_112 : decode cX11_goes 112 = .ok (.aload_n 0, 1) := by decide +kernel
theorem dX11_goes_113 : decode cX11_goes 113 = .ok (.getfield 66, 3) := by decide +kernel
theorem dX11_goes_116 : decode cX11_goes 116 = .ok (.iload_n 1, 1) := by decide +kernel
theorem dX11_goes_117 : decode cX11_goes 117 = .ok (.iaload, 1) := by decide +kernel
theorem dX11_goes_118 : decode cX11_goes 118 = .ok (.invokevirtual 191, 3) := by decide +kernel
theorem dX11_goes_121 : decode cX11_goes 121 = .ok (.iinc 1 1, 3) := by decide +kernel
theorem dX11_goes_124 : decode cX11_goes 124 = .ok (.goto (-25), 3) := by decide +kernel
theorem dX11_goes_127 : decode cX11_goes 127 = .ok (.aload_n 0, 1) := by decide +kernel
theorem dX11_goes_128 : decode cX11_goes 128 = .ok (.iconst 0, 1) := by decide +kernel
theorem dX11_goes_129 : decode cX11_goes 129 = .ok (.putfield 197, 3) := by decide +kernel
theorem dX11_goes_132 : decode cX11_goes 132 = .ok (.aload_n 0, 1) := by decide +kernel
theorem dX11_goes_133 : decode cX11_goes 133 = .ok (.aload_n 0, 1) := by decide +kernel
theorem dX11_goes_134 : decode cX11_goes 134 = .ok (.getfield 165, 3) := by decide +kernel
theorem dX11_goes_137 : decode cX11_goes 137 = .ok (.invokevirtual 200, 3) := by decide +kernel
theorem dX11_goes_140 : decode cX11_goes 140 = .ok (.aload_n 0, 1) := by decide +kernel
theorem dX11_goes_141 : decode cX11_goes 141 = .ok (.getfield 197, 3) := by decide +kernel
theorem dX11_goes_144 : decode cX11_goes 144 = .ok (.ifCond .le 50, 3) := by decide +kernel
theorem dX11_goes_147 : decode cX11_goes 147 = .ok (.aload_n 0, 1) := by decide +kernel
theorem dX11_goes_148 : decode cX11_goes 148 = .ok (.getfield 171, 3) := by decide +kernel
theorem dX11_goes_151 : decode cX11_goes 151 = .ok (.ifCond .ne 43, 3) := by decide +kernel
theorem dX11_goes_154 : decode cX11_goes 154 = .ok (.aload_n 0, 1) := by decide +kernel
theorem dX11_goes_155 : decode cX11_goes 155 = .ok (.dup, 1) := by decide +kernel
theorem dX11_goes_156 : decode cX11_goes 156 = .ok (.getfield 197, 3) := by decide +kernel
theorem dX11_goes_159 : decode cX11_goes 159 = .ok (.iconst 1, 1) := by decide +kernel
theorem dX11_goes_160 : decode cX11_goes 160 = .ok (.isub, 1) := by decide +kernel
theorem dX11_goes_161 : decode cX11_goes 161 = .ok (.putfield 197, 3) := by decide +kernel
theorem dX11_goes_164 : decode cX11_goes 164 = .ok (.aload_n 0, 1) := by decide +kernel
theorem dX11_goes_165 : decode cX11_goes 165 = .ok (.getfield 75, 3) := by decide +kernel
theorem dX11_goes_168 : decode cX11_goes 168 = .ok (.aload_n 0, 1) := by decide +kernel
theorem dX11_goes_169 : decode cX11_goes 169 = .ok (.getfield 197, 3) := by decide +kernel
theorem dX11_goes_172 : decode cX11_goes 172 = .ok (.iaload, 1) := by decide +kernel
theorem dX11_goes_173 : decode cX11_goes 173 = .ok (.istore_n 1, 1) := by decide +kernel
theorem dX11_goes_174 : decode cX11_goes 174 = .ok (.aload_n 0, 1) := by decide +kernel
theorem dX11_goes_175 : decode cX11_goes 175 = .ok (.iload_n 1, 1) := by decide +kernel
theorem dX11_goes_176 : decode cX11_goes 176 = .ok (.invokevirtual 204, 3) := by decide +kernel
theorem dX11_goes_179 : decode cX11_goes 179 = .ok (.aload_n 0, 1) := by decide +kernel
theorem dX11_goes_180 : decode cX11_goes 180 = .ok (.getfield 171, 3) := by decide +kernel
theorem dX11_goes_183 : decode cX11_goes 183 = .ok (.ifCond .ne 8, 3) := by decide +kernel
theorem dX11_goes_186 : decode cX11_goes 186 = .ok (.aload_n 0, 1) := by decide +kernel
theorem dX11_goes_187 : decode cX11_goes 187 = .ok (.iload_n 1, 1) := by decide +kernel
theorem dX11_goes_188 : decode cX11_goes 188 = .ok (.invokevirtual 207, 3) := by decide +kernel
theorem dX11_goes_191 : decode cX11_goes 191 = .ok (.goto (-51), 3) := by decide +kernel
theorem dX11_goes_194 : decode cX11_goes 194 = .ok (.return_, 1) := by decide +kernel
theorem dX11_goesBelow_0 : decode cX11_goesBelow 0 = .ok (.aload_n 0, 1) := by decide +kernel
theorem dX11_goesBelow_1 : decode cX11_goesBelow 1 = .ok (.getfield 26, 3) := by decide +kernel
theorem dX11_goesBelow_4 : decode cX11_goesBelow 4 = .ok (.iload_n 1, 1) := by decide +kernel
theorem dX11_goesBelow_5 : decode cX11_goesBelow 5 = .ok (.iaload, 1) := by decide +kernel
theorem dX11_goesBelow_6 : decode cX11_goesBelow 6 = .ok (.ifCond .ne 9, 3) := by decide +kernel
theorem dX11_goesBelow_9 : decode cX11_goesBelow 9 = .ok (.aload_n 0, 1) := by decide +kernel
theorem dX11_goesBelow_10 : decode cX11_goesBelow 10 = .ok (.iload_n 1, 1) := by decide +kernel
theorem dX11_goesBelow_11 : decode cX11_goesBelow 11 = .ok (.invokevirtual 210, 3) := by decide +kernel
theorem dX11_goesBelow_14 : decode cX11_goesBelow 14 = .ok (.return_, 1) := by decide +kernel
theorem dX11_goesBelow_15 : decode cX11_goesBelow 15 = .ok (.aload_n 0, 1) := by decide +kernel
theorem dX11_goesBelow_16 : decode cX11_goesBelow 16 = .ok (.getfield 26, 3) := by decide +kernel
theorem dX11_goesBelow_19 : decode cX11_goesBelow 19 = .ok (.iload_n 1, 1) := by decide +kernel
theorem dX11_goesBelow_20 : decode cX11_goesBelow 20 = .ok (.iaload, 1) := by decide +kernel
theorem dX11_goesBelow_21 : decode cX11_goesBelow 21 = .ok (.iconst 3, 1) := by decide +kernel
theorem dX11_goesBelow_22 : decode cX11_goesBelow 22 = .ok (.if_icmp .ne 34, 3) := by decide +kernel
theorem dX11_goesBelow_25 : decode cX11_goesBelow 25 = .ok (.aload_n 0, 1) := by decide +kernel
theorem dX11_goesBelow_26 : decode cX11_goesBelow 26 = .ok (.iload_n 1, 1) := by decide +kernel
theorem dX11_goesBelow_27 : decode cX11_goesBelow 27 = .ok (.invokevirtual 213, 3) := by decide +kernel
theorem dX11_goesBelow_30 : decode cX11_goesBelow 30 = .ok (.aload_n 0, 1) := by decide +kernel
theorem dX11_goesBelow_31 : decode cX11_goesBelow 31 = .ok (.iload_n 1, 1) := by decide +kernel
theorem dX11_goesBelow_32 : decode cX11_goesBelow 32 = .ok (.invokevirtual 216, 3) := by decide +kernel
theorem dX11_goesBelow_35 : decode cX11_goesBelow 35 = .ok (.aload_n 0, 1) := by decide +kernel
theorem dX11_goesBelow_36 : decode cX11_goesBelow 36 = .ok (.aload_n 0, 1) := by decide +kernel
theorem dX11_goesBelow_37 : decode cX11_goesBelow 37 = .ok (.getfield 29, 3) := by decide +kernel
theorem dX11_goesBelow_40 : decode cX11_goesBelow 40 = .ok (.iload_n 1, 1) := by decide +kernel
theorem dX11_goesBelow_41 : decode cX11_goesBelow 41 = .ok (.iaload, 1) := by decide +kernel
theorem dX11_goesBelow_42 : decode cX11_goesBelow 42 = .ok (.invokevirtual 200, 3) := by decide +kernel
theorem dX11_goesBelow_45 : decode cX11_goesBelow 45 = .ok (.aload_n 0, 1) := by decide +kernel
theorem dX11_goesBelow_46 : decode cX11_goesBelow 46 = .ok (.aload_n 0, 1) := by decide +kernel
theorem dX11_goesBelow_47 : decode cX11_goesBelow 47 = .ok (.getfield 32, 3) := by decide +kernel
theorem dX11_goesBelow_50 : decode cX11_goesBelow 50 = .ok (.iload_n 1, 1) := by decide +kernel
theorem dX11_goesBelow_51 : decode cX11_goesBelow 51 = .ok (.iaload, 1) := by decide +kernel
theorem dX11_goesBelow_52 : decode cX11_goesBelow 52 = .ok (.invokevirtual 200, 3) := by decide +kernel
theorem dX11_goesBelow_55 : decode cX11_goesBelow 55 = .ok (.return_, 1) := by decide +kernel
theorem dX11_goesBelow_56 : decode cX11_goesBelow 56 = .ok (.aload_n 0, 1) := by decide +kernel
theorem dX11_goesBelow_57 : decode cX11_goesBelow 57 = .ok (.iload_n 1, 1) := by decide +kernel
theorem dX11_goesBelow_58 : decode cX11_goesBelow 58 = .ok (.invokevirtual 219, 3) := by decide +kernel
theorem dX11_goesBelow_61 : decode cX11_goesBelow 61 = .ok (.aload_n 0, 1) := by decide +kernel
theorem dX11_goesBelow_62 : decode cX11_goesBelow 62 = .ok (.aload_n 0, 1) := by decide +kernel
theorem dX11_goesBelow_63 : decode cX11_goesBelow 63 = .ok (.getfield 29, 3) := by decide +kernel
theorem dX11_goesBelow_66 : decode cX11_goesBelow 66 = .ok (.iload_n 1, 1) := by decide +kernel
theorem dX11_goesBelow_67 : decode cX11_goesBelow 67 = .ok (.iaload, 1) := by decide +kernel
theorem dX11_goesBelow_68 : decode cX11_goesBelow 68 = .ok (.invokevirtual 200, 3) := by decide +kernel
theorem dX11_goesBelow_71 : decode cX11_goesBelow 71 = .ok (.return_, 1) := by decide +kernel
theorem dX11_asksDraft_0 : decode cX11_asksDraft 0 = .ok (.aload_n 0, 1) := by decide +kernel
theorem dX11_asksDraft_1 : decode cX11_asksDraft 1 = .ok (.aload_n 0, 1) := by decide +kernel
theorem dX11_asksDraft_2 : decode cX11_asksDraft 2 = .ok (.getfield 161, 3) := by decide +kernel
theorem dX11_asksDraft_5 : decode cX11_asksDraft 5 = .ok (.ifCond .eq 7, 3) := by decide +kernel
theorem dX11_asksDraft_8 : decode cX11_asksDraft 8 = .ok (.iconst 0, 1) := by decide +kernel
theorem dX11_asksDraft_9 : decode cX11_asksDraft 9 = .ok (.goto 4, 3) := by decide +kernel
theorem dX11_asksDraft_12 : decode cX11_asksDraft 12 = .ok (.iconst 1, 1) := by decide +kernel
theorem dX11_asksDraft_13 : decode cX11_asksDraft 13 = .ok (.putfield 87, 3) := by decide +kernel
theorem dX11_asksDraft_16 : decode cX11_asksDraft 16 = .ok (.aload_n 0, 1) := by decide +kernel
theorem dX11_asksDraft_17 : decode cX11_asksDraft 17 = .ok (.getfield 87, 3) := by decide +kernel
theorem dX11_asksDraft_20 : decode cX11_asksDraft 20 = .ok (.ifCond .ne 7, 3) := by decide +kernel
theorem dX11_asksDraft_23 : decode cX11_asksDraft 23 = .ok (.iconst 1, 1) := by decide +kernel
theorem dX11_asksDraft_24 : decode cX11_asksDraft 24 = .ok (.goto 4, 3) := by decide +kernel
theorem dX11_asksDraft_27 : decode cX11_asksDraft 27 = .ok (.iconst 0, 1) := by decide +kernel
theorem dX11_asksDraft_28 : decode cX11_asksDraft 28 = .ok (.ireturn, 1) := by decide +kernel
theorem dX11_conflict_0 : decode cX11_conflict 0 = .ok (.aload_n 0, 1) := by decide +kernel
theorem dX11_conflict_1 : decode cX11_conflict 1 = .ok (.invokevirtual 222, 3) := by decide +kernel
theorem dX11_conflict_4 : decode cX11_conflict 4 = .ok (.ifCond .ne 5, 3) := by decide +kernel
theorem dX11_conflict_7 : decode cX11_conflict 7 = .ok (.iconst 0, 1) := by decide +kernel
theorem dX11_conflict_8 : decode cX11_conflict 8 = .ok (.ireturn, 1) := by decide +kernel
theorem dX11_conflict_9 : decode cX11_conflict 9 = .ok (.aload_n 0, 1) := by decide +kernel
theorem dX11_conflict_10 : decode cX11_conflict 10 = .ok (.invokevirtual 226, 3) := by decide +kernel
theorem dX11_conflict_13 : decode cX11_conflict 13 = .ok (.aload_n 0, 1) := by decide +kernel
theorem dX11_conflict_14 : decode cX11_conflict 14 = .ok (.getfield 171, 3) := by decide +kernel
theorem dX11_conflict_17 : decode cX11_conflict 17 = .ok (.ireturn, 1) := by decide +kernel
theorem dX11_conflictRow_0 : decode cX11_conflictRow 0 = .ok (.aload_n 0, 1) := by decide +kernel
theorem dX11_conflictRow_1 : decode cX11_conflictRow 1 = .ok (.aload_n 0, 1) := by decide +kernel
theorem dX11_conflictRow_2 : decode cX11_conflictRow 2 = .ok (.getfield 161, 3) := by decide +kernel
theorem dX11_conflictRow_5 : decode cX11_conflictRow 5 = .ok (.ifCond .ne 7, 3) := by decide +kernel
theorem dX11_conflictRow_8 : decode cX11_conflictRow 8 = .ok (.iconst 1, 1) := by decide +kernel
theorem dX11_conflictRow_9 : decode cX11_conflictRow 9 = .ok (.goto 17, 3) := by decide +kernel
theorem dX11_conflictRow_12 : decode cX11_conflictRow 12 = .ok (.iload_n 1, 1) := by decide +kernel
theorem dX11_conflictRow_13 : decode cX11_conflictRow 13 = .ok (.iconst 0, 1) := by decide +kernel
theorem dX11_conflictRow_14 : decode cX11_conflictRow 14 = .ok (.iconst 1, 1) := by decide +kernel
theorem dX11_conflictRow_15 : decode cX11_conflictRow 15 = .ok (.invokestatic 96, 3) := by decide +kernel
theorem dX11_conflictRow_18 : decode cX11_conflictRow 18 = .ok (.ifCond .eq 7, 3) := by decide +kernel
theorem dX11_conflictRow_21 : decode cX11_conflictRow 21 = .ok (.iconst 0, 1) := by decide +kernel
theorem dX11_conflictRow_22 : decode cX11_conflictRow 22 = .ok (.goto 4, 3) := by decide +kernel
theorem dX11_conflictRow_25 : decode cX11_conflictRow 25 = .ok (.iconst 2, 1) := by decide +kernel
theorem dX11_conflictRow_26 : decode cX11_conflictRow 26 = .ok (.putfield 87, 3) := by decide +kernel
theorem dX11_conflictRow_29 : decode cX11_conflictRow 29 = .ok (.aload_n 0, 1) := by decide +kernel
theorem dX11_conflictRow_30 : decode cX11_conflictRow 30 = .ok (.getfield 87, 3) := by decide +kernel
theorem dX11_conflictRow_33 : decode cX11_conflictRow 33 = .ok (.ifCond .le 5, 3) := by decide +kernel
theorem dX11_conflictRow_36 : decode cX11_conflictRow 36 = .ok (.iconst 0, 1) := by decide +kernel
theorem dX11_conflictRow_37 : decode cX11_conflictRow 37 = .ok (.ireturn, 1) := by decide +kernel
theorem dX11_conflictRow_38 : decode cX11_conflictRow 38 = .ok (.aload_n 0, 1) := by decide +kernel
theorem dX11_conflictRow_39 : decode cX11_conflictRow 39 = .ok (.invokevirtual 226, 3) := by decide +kernel
theorem dX11_conflictRow_42 : decode cX11_conflictRow 42 = .ok (.iload_n 1, 1) := by decide +kernel
theorem dX11_conflictRow_43 : decode cX11_conflictRow 43 = .ok (.ifCond .ne 10, 3) := by decide +kernel
theorem dX11_conflictRow_46 : decode cX11_conflictRow 46 = .ok (.aload_n 0, 1) := by decide +kernel
theorem dX11_conflictRow_47 : decode cX11_conflictRow 47 = .ok (.getfield 174, 3) := by decide +kernel
theorem dX11_conflictRow_50 : decode cX11_conflictRow 50 = .ok (.goto 7, 3) := by decide +kernel
theorem dX11_conflictRow_53 : decode cX11_conflictRow 53 = .ok (.aload_n 0, 1) := by decide +kernel
theorem dX11_conflictRow_54 : decode cX11_conflictRow 54 = .ok (.getfield 177, 3) := by decide +kernel
theorem dX11_conflictRow_57 : decode cX11_conflictRow 57 = .ok (.ireturn, 1) := by decide +kernel
theorem dX11_manyChanges_0 : decode cX11_manyChanges 0 = .ok (.iconst 0, 1) := by decide +kernel
theorem dX11_manyChanges_1 : decode cX11_manyChanges 1 = .ok (.istore_n 1, 1) := by decide +kernel
theorem dX11_manyChanges_2 : decode cX11_manyChanges 2 = .ok (.iconst 0, 1) := by decide +kernel
theorem dX11_manyChanges_3 : decode cX11_manyChanges 3 = .ok (.istore_n 2, 1) := by decide +kernel
theorem dX11_manyChanges_4 : decode cX11_manyChanges 4 = .ok (.iload_n 2, 1) := by decide +kernel
theorem dX11_manyChanges_5 : decode cX11_manyChanges 5 = .ok (.aload_n 0, 1) := by decide +kernel
theorem dX11_manyChanges_6 : decode cX11_manyChanges 6 = .ok (.getfield 103, 3) := by decide +kernel
theorem dX11_manyChanges_9 : decode cX11_manyChanges 9 = .ok (.if_icmp .ge 125, 3) := by decide +kernel
theorem dX11_manyChanges_12 : decode cX11_manyChanges 12 = .ok (.iconst 0, 1) := by decide +kernel
theorem dX11_manyChanges_13 : decode cX11_manyChanges 13 = .ok (.istore_n 3, 1) := by decide +kernel
theorem dX11_manyChanges_14 : decode cX11_manyChanges 14 = .ok (.iload_n 3, 1) := by decide +kernel
theorem dX11_manyChanges_15 : decode cX11_manyChanges 15 = .ok (.aload_n 0, 1) := by decide +kernel
theorem dX11_manyChanges_16 : decode cX11_manyChanges 16 = .ok (.getfield 20, 3) := by decide +kernel
theorem dX11_manyChanges_19 : decode cX11_manyChanges 19 = .ok (.iload_n 2, 1) := by decide +kernel
theorem dX11_manyChanges_20 : decode cX11_manyChanges 20 = .ok (.iaload, 1) := by decide +kernel
theorem dX11_manyChanges_21 : decode cX11_manyChanges 21 = .ok (.if_icmp .ge 49, 3) := by decide +kernel
theorem dX11_manyChanges_24 : decode cX11_manyChanges 24 = .ok (.iload_n 1, 1) := by decide +kernel
theorem dX11_manyChanges_25 : decode cX11_manyChanges 25 = .ok (.aload_n 0, 1) := by decide +kernel
theorem dX11_manyChanges_26 : decode cX11_manyChanges 26 = .ok (.getfield 72, 3) := by decide +kernel
theorem dX11_manyChanges_29 : decode cX11_manyChanges 29 = .ok (.bipush 12, 2) := by decide +kernel
theorem dX11_manyChanges_31 : decode cX11_manyChanges 31 = .ok (.iload_n 2, 1) := by decide +kernel
theorem dX11_manyChanges_32 : decode cX11_manyChanges 32 = .ok (.imul, 1) := by decide +kernel
theorem dX11_manyChanges_33 : decode cX11_manyChanges 33 = .ok (.aload_n 0, 1) := by decide +kernel
theorem dX11_manyChanges_34 : decode cX11_manyChanges 34 = .ok (.getfield 69, 3) := by decide +kernel
theorem dX11_manyChanges_37 : decode cX11_manyChanges 37 = .ok (.iload_n 2, 1) := by decide +kernel
theorem dX11_manyChanges_38 : decode cX11_manyChanges 38 = .ok (.iaload, 1) := by decide +kernel
theorem dX11_manyChanges_39 : decode cX11_manyChanges 39 = .ok (.aload_n 0, 1) := by decide +kernel
theorem dX11_manyChanges_40 : decode cX11_manyChanges 40 = .ok (.getfield 23, 3) := by decide +kernel
theorem dX11_manyChanges_43 : decode cX11_manyChanges 43 = .ok (.bipush 12, 2) := by decide +kernel
theorem dX11_manyChanges_45 : decode cX11_manyChanges 45 = .ok (.iload_n 2, 1) := by decide +kernel
theorem dX11_manyChanges_46 : decode cX11_manyChanges 46 = .ok (.imul, 1) := by decide +kernel
theorem dX11_manyChanges_47 : decode cX11_manyChanges 47 = .ok (.iload_n 3, 1) := by decide +kernel
theorem dX11_manyChanges_48 : decode cX11_manyChanges 48 = .ok (.iadd, 1) := by decide +kernel
theorem dX11_manyChanges_49 : decode cX11_manyChanges 49 = .ok (.iaload, 1) := by decide +kernel
theorem dX11_manyChanges_50 : decode cX11_manyChanges 50 = .ok (.invokestatic 122, 3) := by decide +kernel
theorem dX11_manyChanges_53 : decode cX11_manyChanges 53 = .ok (.iconst (-1), 1) := by decide +kernel
theorem dX11_manyChanges_54 : decode cX11_manyChanges 54 = .ok (.if_icmp .ne 7, 3) := by decide +kernel
theorem dX11_manyChanges_57 : decode cX11_manyChanges 57 = .ok (.iconst 1, 1) := by decide +kernel
theorem dX11_manyChanges_58 : decode cX11_manyChanges 58 = .ok (.goto 4, 3) := by decide +kernel
theorem dX11_manyChanges_61 : decode cX11_manyChanges 61 = .ok (.iconst 0, 1) := by decide +kernel
theorem dX11_manyChanges_62 : decode cX11_manyChanges 62 = .ok (.iadd, 1) := by decide +kernel
theorem dX11_manyChanges_63 : decode cX11_manyChanges 63 = .ok (.istore_n 1, 1) := by decide +kernel
theorem dX11_manyChanges_64 : decode cX11_manyChanges 64 = .ok (.iinc 3 1, 3) := by decide +kernel
theorem dX11_manyChanges_67 : decode cX11_manyChanges 67 = .ok (.goto (-53), 3) := by decide +kernel
theorem dX11_manyChanges_70 : decode cX11_manyChanges 70 = .ok (.iconst 0, 1) := by decide +kernel
theorem dX11_manyChanges_71 : decode cX11_manyChanges 71 = .ok (.istore_n 3, 1) := by decide +kernel
theorem dX11_manyChanges_72 : decode cX11_manyChanges 72 = .ok (.iload_n 3, 1) := by decide +kernel
theorem dX11_manyChanges_73 : decode cX11_manyChanges 73 = .ok (.aload_n 0, 1) := by decide +kernel
theorem dX11_manyChanges_74 : decode cX11_manyChanges 74 = .ok (.getfield 69, 3) := by decide +kernel
theorem dX11_manyChanges_77 : decode cX11_manyChanges 77 = .ok (.iload_n 2, 1) := by decide +kernel
theorem dX11_manyChanges_78 : decode cX11_manyChanges 78 = .ok (.iaload, 1) := by decide +kernel
theorem dX11_manyChanges_79 : decode cX11_manyChanges 79 = .ok (.if_icmp .ge 49, 3) := by decide +kernel
theorem dX11_manyChanges_82 : decode cX11_manyChanges 82 = .ok (.iload_n 1, 1) := by decide +kernel
theorem dX11_manyChanges_83 : decode cX11_manyChanges 83 = .ok (.aload_n 0, 1) := by decide +kernel
theorem dX11_manyChanges_84 : decode cX11_manyChanges 84 = .ok (.getfield 23, 3) := by decide +kernel
theorem dX11_manyChanges_87 : decode cX11_manyChanges 87 = .ok (.bipush 12, 2) := by decide +kernel
theorem dX11_manyChanges_89 : decode cX11_manyChanges 89 = .ok (.iload_n 2, 1) := by decide +kernel
theorem dX11_manyChanges_90 : decode cX11_manyChanges 90 = .ok (.imul, 1) := by decide +kernel
theorem dX11_manyChanges_91 : decode cX11_manyChanges 91 = .ok (.aload_n 0, 1) := by decide +kernel
theorem dX11_manyChanges_92 : decode cX11_manyChanges 92 = .ok (.getfield 20, 3) := by decide +kernel
theorem dX11_manyChanges_95 : decode cX11_manyChanges 95 = .ok (.iload_n 2, 1) := by decide +kernel
theorem dX11_manyChanges_96 : decode cX11_manyChanges 96 = .ok (.iaload, 1) := by decide +kernel
theorem dX11_manyChanges_97 : decode cX11_manyChanges 97 = .ok (.aload_n 0, 1) := by decide +kernel
theorem dX11_manyChanges_98 : decode cX11_manyChanges 98 = .ok (.getfield 72, 3) := by decide +kernel
theorem dX11_manyChanges_101 : decode cX11_manyChanges 101 = .ok (.bipush 12, 2) := by decide +kernel
theorem dX11_manyChanges_103 : decode cX11_manyChanges 103 = .ok (.iload_n 2, 1) := by decide +kernel
theorem dX11_manyChanges_104 : decode cX11_manyChanges 104 = .ok (.imul, 1) := by decide +kernel
theorem dX11_manyChanges_105 : decode cX11_manyChanges 105 = .ok (.iload_n 3, 1) := by decide +kernel
theorem dX11_manyChanges_106 : decode cX11_manyChanges 106 = .ok (.iadd, 1) := by decide +kernel
theorem dX11_manyChanges_107 : decode cX11_manyChanges 107 = .ok (.iaload, 1) := by decide +kernel
theorem dX11_manyChanges_108 : decode cX11_manyChanges 108 = .ok (.invokestatic 122, 3) := by decide +kernel
theorem dX11_manyChanges_111 : decode cX11_manyChanges 111 = .ok (.iconst (-1), 1) := by decide +kernel
theorem dX11_manyChanges_112 : decode cX11_manyChanges 112 = .ok (.if_icmp .ne 7, 3) := by decide +kernel
theorem dX11_manyChanges_115 : decode cX11_manyChanges 115 = .ok (.iconst 1, 1) := by decide +kernel
theorem dX11_manyChanges_116 : decode cX11_manyChanges 116 = .ok (.goto 4, 3) := by decide +kernel
theorem dX11_manyChanges_119 : decode cX11_manyChanges 119 = .ok (.iconst 0, 1) := by decide +kernel
theorem dX11_manyChanges_120 : decode cX11_manyChanges 120 = .ok (.iadd, 1) := by decide +kernel
theorem dX11_manyChanges_121 : decode cX11_manyChanges 121 = .ok (.istore_n 1, 1) := by decide +kernel
theorem dX11_manyChanges_122 : decode cX11_manyChanges 122 = .ok (.iinc 3 1, 3) := by decide +kernel
theorem dX11_manyChanges_125 : decode cX11_manyChanges 125 = .ok (.goto (-53), 3) := by decide +kernel
theorem dX11_manyChanges_128 : decode cX11_manyChanges 128 = .ok (.iinc 2 1, 3) := by decide +kernel
theorem dX11_manyChanges_131 : decode cX11_manyChanges 131 = .ok (.goto (-127), 3) := by decide +kernel
theorem dX11_manyChanges_134 : decode cX11_manyChanges 134 = .ok (.iload_n 1, 1) := by decide +kernel
theorem dX11_manyChanges_135 : decode cX11_manyChanges 135 = .ok (.ireturn, 1) := by decide +kernel
theorem dX11_changes_0 : decode cX11_changes 0 = .ok (.aload_n 0, 1) := by decide +kernel
theorem dX11_changes_1 : decode cX11_changes 1 = .ok (.invokevirtual 222, 3) := by decide +kernel
theorem dX11_changes_4 : decode cX11_changes 4 = .ok (.ifCond .ne 5, 3) := by decide +kernel
theorem dX11_changes_7 : decode cX11_changes 7 = .ok (.iconst 0, 1) := by decide +kernel
theorem dX11_changes_8 : decode cX11_changes 8 = .ok (.ireturn, 1) := by decide +kernel
theorem dX11_changes_9 : decode cX11_changes 9 = .ok (.aload_n 0, 1) := by decide +kernel
theorem dX11_changes_10 : decode cX11_changes 10 = .ok (.invokevirtual 226, 3) := by decide +kernel
theorem dX11_changes_13 : decode cX11_changes 13 = .ok (.aload_n 0, 1) := by decide +kernel
theorem dX11_changes_14 : decode cX11_changes 14 = .ok (.getfield 171, 3) := by decide +kernel
theorem dX11_changes_17 : decode cX11_changes 17 = .ok (.ifCond .le 7, 3) := by decide +kernel
theorem dX11_changes_20 : decode cX11_changes 20 = .ok (.iconst (-1), 1) := by decide +kernel
theorem dX11_changes_21 : decode cX11_changes 21 = .ok (.goto 7, 3) := by decide +kernel
theorem dX11_changes_24 : decode cX11_changes 24 = .ok (.aload_n 0, 1) := by decide +kernel
theorem dX11_changes_25 : decode cX11_changes 25 = .ok (.invokevirtual 229, 3) := by decide +kernel
theorem dX11_changes_28 : decode cX11_changes 28 = .ok (.ireturn, 1) := by decide +kernel
theorem dX11_tableOf_0 : decode cX11_tableOf 0 = .ok (.aload_n 0, 1) := by decide +kernel
theorem dX11_tableOf_1 : decode cX11_tableOf 1 = .ok (.getfield 51, 3) := by decide +kernel
theorem dX11_tableOf_4 : decode cX11_tableOf 4 = .ok (.iload_n 1, 1) := by decide +kernel
theorem dX11_tableOf_5 : decode cX11_tableOf 5 = .ok (.iaload, 1) := by decide +kernel
theorem dX11_tableOf_6 : decode cX11_tableOf 6 = .ok (.iconst 1, 1) := by decide +kernel
theorem dX11_tableOf_7 : decode cX11_tableOf 7 = .ok (.if_icmp .ne 7, 3) := by decide +kernel
theorem dX11_tableOf_10 : decode cX11_tableOf 10 = .ok (.iconst 0, 1) := by decide +kernel
theorem dX11_tableOf_11 : decode cX11_tableOf 11 = .ok (.goto 32, 3) := by decide +kernel
theorem dX11_tableOf_14 : decode cX11_tableOf 14 = .ok (.aload_n 0, 1) := by decide +kernel
theorem dX11_tableOf_15 : decode cX11_tableOf 15 = .ok (.getfield 51, 3) := by decide +kernel
theorem dX11_tableOf_18 : decode cX11_tableOf 18 = .ok (.iload_n 1, 1) := by decide +kernel
theorem dX11_tableOf_19 : decode cX11_tableOf 19 = .ok (.iaload, 1) := by decide +kernel
theorem dX11_tableOf_20 : decode cX11_tableOf 20 = .ok (.iconst 2, 1) := by decide +kernel
theorem dX11_tableOf_21 : decode cX11_tableOf 21 = .ok (.if_icmp .ne 7, 3) := by decide +kernel
theorem dX11_tableOf_24 : decode cX11_tableOf 24 = .ok (.iconst 1, 1) := by decide +kernel
theorem dX11_tableOf_25 : decode cX11_tableOf 25 = .ok (.goto 18, 3) := by decide +kernel
theorem dX11_tableOf_28 : decode cX11_tableOf 28 = .ok (.aload_n 0, 1) := by decide +kernel
theorem dX11_tableOf_29 : decode cX11_tableOf 29 = .ok (.getfield 51, 3) := by decide +kernel
theorem dX11_tableOf_32 : decode cX11_tableOf 32 = .ok (.iload_n 1, 1) := by decide +kernel
theorem dX11_tableOf_33 : decode cX11_tableOf 33 = .ok (.iaload, 1) := by decide +kernel
theorem dX11_tableOf_34 : decode cX11_tableOf 34 = .ok (.iconst 4, 1) := by decide +kernel
theorem dX11_tableOf_35 : decode cX11_tableOf 35 = .ok (.if_icmp .ne 7, 3) := by decide +kernel
theorem dX11_tableOf_38 : decode cX11_tableOf 38 = .ok (.iconst 2, 1) := by decide +kernel
theorem dX11_tableOf_39 : decode cX11_tableOf 39 = .ok (.goto 4, 3) := by decide +kernel
theorem dX11_tableOf_42 : decode cX11_tableOf 42 = .ok (.iconst (-1), 1) := by decide +kernel
theorem dX11_tableOf_43 : decode cX11_tableOf 43 = .ok (.ireturn, 1) := by decide +kernel
theorem dX11_count_0 : decode cX11_count 0 = .ok (.iconst 0, 1) := by decide +kernel
theorem dX11_count_1 : decode cX11_count 1 = .ok (.istore_n 1, 1) := by decide +kernel
theorem dX11_count_2 : decode cX11_count 2 = .ok (.iload_n 0, 1) := by decide +kernel
theorem dX11_count_3 : decode cX11_count 3 = .ok (.istore_n 2, 1) := by decide +kernel
theorem dX11_count_4 : decode cX11_count 4 = .ok (.iload_n 2, 1) := by decide +kernel
theorem dX11_count_5 : decode cX11_count 5 = .ok (.ifCond .le 16, 3) := by decide +kernel
theorem dX11_count_8 : decode cX11_count 8 = .ok (.iload_n 1, 1) := by decide +kernel
theorem dX11_count_9 : decode cX11_count 9 = .ok (.iload_n 2, 1) := by decide +kernel
theorem dX11_count_10 : decode cX11_count 10 = .ok (.iconst 2, 1) := by decide +kernel
theorem dX11_count_11 : decode cX11_count 11 = .ok (.irem, 1) := by decide +kernel
theorem dX11_count_12 : decode cX11_count 12 = .ok (.iadd, 1) := by decide +kernel
theorem dX11_count_13 : decode cX11_count 13 = .ok (.istore_n 1, 1) := by decide +kernel
theorem dX11_count_14 : decode cX11_count 14 = .ok (.iload_n 2, 1) := by decide +kernel
theorem dX11_count_15 : decode cX11_count 15 = .ok (.iconst 2, 1) := by decide +kernel
theorem dX11_count_16 : decode cX11_count 16 = .ok (.idiv, 1) := by decide +kernel
theorem dX11_count_17 : decode cX11_count 17 = .ok (.istore_n 2, 1) := by decide +kernel
theorem dX11_count_18 : decode cX11_count 18 = .ok (.goto (-14), 3) := by decide +kernel
theorem dX11_count_21 : decode cX11_count 21 = .ok (.iload_n 1, 1) := by decide +kernel
theorem dX11_count_22 : decode cX11_count 22 = .ok (.ireturn, 1) := by decide +kernel
theorem dX11_canTry_0 : decode cX11_canTry 0 = .ok (.aload_n 0, 1) := by decide +kernel
theorem dX11_canTry_1 : decode cX11_canTry 1 = .ok (.aload_n 0, 1) := by decide +kernel
theorem dX11_canTry_2 : decode cX11_canTry 2 = .ok (.getfield 165, 3) := by decide +kernel
theorem dX11_canTry_5 : decode cX11_canTry 5 = .ok (.invokevirtual 233, 3) := by decide +kernel
theorem dX11_canTry_8 : decode cX11_canTry 8 = .ok (.istore_n 1, 1) := by decide +kernel
theorem dX11_canTry_9 : decode cX11_canTry 9 = .ok (.iload_n 1, 1) := by decide +kernel
theorem dX11_canTry_10 : decode cX11_canTry 10 = .ok (.iconst (-1), 1) := by decide +kernel
theorem dX11_canTry_11 : decode cX11_canTry 11 = .ok (.if_icmp .eq 20, 3) := by decide +kernel
theorem dX11_canTry_14 : decode cX11_canTry 14 = .ok (.aload_n 0, 1) := by decide +kernel
theorem dX11_canTry_15 : decode cX11_canTry 15 = .ok (.getfield 14, 3) := by decide +kernel
theorem dX11_canTry_18 : decode cX11_canTry 18 = .ok (.iload_n 1, 1) := by decide +kernel
theorem dX11_canTry_19 : decode cX11_canTry 19 = .ok (.iaload, 1) := by decide +kernel
theorem dX11_canTry_20 : decode cX11_canTry 20 = .ok (.invokestatic 236, 3) := by decide +kernel
theorem dX11_canTry_23 : decode cX11_canTry 23 = .ok (.iconst 2, 1) := by decide +kernel
theorem dX11_canTry_24 : decode cX11_canTry 24 = .ok (.if_icmp .gt 7, 3) := by decide +kernel
theorem dX11_canTry_27 : decode cX11_canTry 27 = .ok (.iconst 1, 1) := by decide +kernel
theorem dX11_canTry_28 : decode cX11_canTry 28 = .ok (.goto 4, 3) := by decide +kernel
theorem dX11_canTry_31 : decode cX11_canTry 31 = .ok (.iconst 0, 1) := by decide +kernel
theorem dX11_canTry_32 : decode cX11_canTry 32 = .ok (.istore_n 2, 1) := by decide +kernel
theorem dX11_canTry_33 : decode cX11_canTry 33 = .ok (.iconst 0, 1) := by decide +kernel
theorem dX11_canTry_34 : decode cX11_canTry 34 = .ok (.istore_n 3, 1) := by decide +kernel
theorem dX11_canTry_35 : decode cX11_canTry 35 = .ok (.iload_n 2, 1) := by decide +kernel
theorem dX11_canTry_36 : decode cX11_canTry 36 = .ok (.ifCond .eq 66, 3) := by decide +kernel
theorem dX11_canTry_39 : decode cX11_canTry 39 = .ok (.iload_n 3, 1) := by decide +kernel
theorem dX11_canTry_40 : decode cX11_canTry 40 = .ok (.aload_n 0, 1) := by decide +kernel
theorem dX11_canTry_41 : decode cX11_canTry 41 = .ok (.getfield 20, 3) := by decide +kernel
theorem dX11_canTry_44 : decode cX11_canTry 44 = .ok (.iload_n 1, 1) := by decide +kernel
theorem dX11_canTry_45 : decode cX11_canTry 45 = .ok (.iaload, 1) := by decide +kernel
theorem dX11_canTry_46 : decode cX11_canTry 46 = .ok (.if_icmp .ge 56, 3) := by decide +kernel
theorem dX11_canTry_49 : decode cX11_canTry 49 = .ok (.iconst 0, 1) := by decide +kernel
theorem dX11_canTry_50 : decode cX11_canTry 50 = .ok (.istore 4, 2) := by decide +kernel
theorem dX11_canTry_52 : decode cX11_canTry 52 = .ok (.iload 4, 2) := by decide +kernel
theorem dX11_canTry_54 : decode cX11_canTry 54 = .ok (.bipush 6, 2) := by decide +kernel
theorem dX11_canTry_56 : decode cX11_canTry 56 = .ok (.if_icmp .ge 40, 3) := by decide +kernel
theorem dX11_canTry_59 : decode cX11_canTry 59 = .ok (.iload_n 2, 1) := by decide +kernel
theorem dX11_canTry_60 : decode cX11_canTry 60 = .ok (.ifCond .eq 28, 3) := by decide +kernel
theorem dX11_canTry_63 : decode cX11_canTry 63 = .ok (.aload_n 0, 1) := by decide +kernel
theorem dX11_canTry_64 : decode cX11_canTry 64 = .ok (.aload_n 0, 1) := by decide +kernel
theorem dX11_canTry_65 : decode cX11_canTry 65 = .ok (.getfield 23, 3) := by decide +kernel
theorem dX11_canTry_68 : decode cX11_canTry 68 = .ok (.bipush 12, 2) := by decide +kernel
theorem dX11_canTry_70 : decode cX11_canTry 70 = .ok (.iload_n 1, 1) := by decide +kernel
theorem dX11_canTry_71 : decode cX11_canTry 71 = .ok (.imul, 1) := by decide +kernel
theorem dX11_canTry_72 : decode cX11_canTry 72 = .ok (.iload_n 3, 1) := by decide +kernel
theorem dX11_canTry_73 : decode cX11_canTry 73 = .ok (.iadd, 1) := by decide +kernel
theorem dX11_canTry_74 : decode cX11_canTry 74 = .ok (.iaload, 1) := by decide +kernel
theorem dX11_canTry_75 : decode cX11_canTry 75 = .ok (.iload 4, 2) := by decide +kernel
theorem dX11_canTry_77 : decode cX11_canTry 77 = .ok (.invokevirtual 91, 3) := by decide +kernel
theorem dX11_canTry_80 : decode cX11_canTry 80 = .ok (.iconst 2, 1) := by decide +kernel
theorem dX11_canTry_81 : decode cX11_canTry 81 = .ok (.if_icmp .gt 7, 3) := by decide +kernel
theorem dX11_canTry_84 : decode cX11_canTry 84 = .ok (.iconst 1, 1) := by decide +kernel
theorem dX11_canTry_85 : decode cX11_canTry 85 = .ok (.goto 4, 3) := by decide +kernel
theorem dX11_canTry_88 : decode cX11_canTry 88 = .ok (.iconst 0, 1) := by decide +kernel
theorem dX11_canTry_89 : decode cX11_canTry 89 = .ok (.istore_n 2, 1) := by decide +kernel
theorem dX11_canTry_90 : decode cX11_canTry 90 = .ok (.iinc 4 1, 3) := by decide +kernel
theorem dX11_canTry_93 : decode cX11_canTry 93 = .ok (.goto (-41), 3) := by decide +kernel
theorem dX11_canTry_96 : decode cX11_canTry 96 = .ok (.iinc 3 1, 3) := by decide +kernel
theorem dX11_canTry_99 : decode cX11_canTry 99 = .ok (.goto (-64), 3) := by decide +kernel
theorem dX11_canTry_102 : decode cX11_canTry 102 = .ok (.iload_n 2, 1) := by decide +kernel
theorem dX11_canTry_103 : decode cX11_canTry 103 = .ok (.ireturn, 1) := by decide +kernel
theorem dX11_rowBy_0 : decode cX11_rowBy 0 = .ok (.iload_n 2, 1) := by decide +kernel
theorem dX11_rowBy_1 : decode cX11_rowBy 1 = .ok (.istore_n 3, 1) := by decide +kernel
theorem dX11_rowBy_2 : decode cX11_rowBy 2 = .ok (.iconst 0, 1) := by decide +kernel
theorem dX11_rowBy_3 : decode cX11_rowBy 3 = .ok (.istore 4, 2) := by decide +kernel
theorem dX11_rowBy_5 : decode cX11_rowBy 5 = .ok (.iconst 0, 1) := by decide +kernel
theorem dX11_rowBy_6 : decode cX11_rowBy 6 = .ok (.istore 5, 2) := by decide +kernel
theorem dX11_rowBy_8 : decode cX11_rowBy 8 = .ok (.iload 5, 2) := by decide +kernel
theorem dX11_rowBy_10 : decode cX11_rowBy 10 = .ok (.bipush 6, 2) := by decide +kernel
theorem dX11_rowBy_12 : decode cX11_rowBy 12 = .ok (.if_icmp .ge 39, 3) := by decide +kernel
theorem dX11_rowBy_15 : decode cX11_rowBy 15 = .ok (.iload_n 1, 1) := by decide +kernel
theorem dX11_rowBy_16 : decode cX11_rowBy 16 = .ok (.iload 5, 2) := by decide +kernel
theorem dX11_rowBy_18 : decode cX11_rowBy 18 = .ok (.ishr, 1) := by decide +kernel
theorem dX11_rowBy_19 : decode cX11_rowBy 19 = .ok (.iconst 1, 1) := by decide +kernel
theorem dX11_rowBy_20 : decode cX11_rowBy 20 = .ok (.iand, 1) := by decide +kernel
theorem dX11_rowBy_21 : decode cX11_rowBy 21 = .ok (.iconst 1, 1) := by decide +kernel
theorem dX11_rowBy_22 : decode cX11_rowBy 22 = .ok (.if_icmp .ne 23, 3) := by decide +kernel
theorem dX11_rowBy_25 : decode cX11_rowBy 25 = .ok (.iload 4, 2) := by decide +kernel
theorem dX11_rowBy_27 : decode cX11_rowBy 27 = .ok (.iload_n 3, 1) := by decide +kernel
theorem dX11_rowBy_28 : decode cX11_rowBy 28 = .ok (.iconst 3, 1) := by decide +kernel
theorem dX11_rowBy_29 : decode cX11_rowBy 29 = .ok (.irem, 1) := by decide +kernel
theorem dX11_rowBy_30 : decode cX11_rowBy 30 = .ok (.aload_n 0, 1) := by decide +kernel
theorem dX11_rowBy_31 : decode cX11_rowBy 31 = .ok (.getfield 8, 3) := by decide +kernel
theorem dX11_rowBy_34 : decode cX11_rowBy 34 = .ok (.iload 5, 2) := by decide +kernel
theorem dX11_rowBy_36 : decode cX11_rowBy 36 = .ok (.iaload, 1) := by decide +kernel
theorem dX11_rowBy_37 : decode cX11_rowBy 37 = .ok (.imul, 1) := by decide +kernel
theorem dX11_rowBy_38 : decode cX11_rowBy 38 = .ok (.iadd, 1) := by decide +kernel
theorem dX11_rowBy_39 : decode cX11_rowBy 39 = .ok (.istore 4, 2) := by decide +kernel
theorem dX11_rowBy_41 : decode cX11_rowBy 41 = .ok (.iload_n 3, 1) := by decide +kernel
theorem dX11_rowBy_42 : decode cX11_rowBy 42 = .ok (.iconst 3, 1) := by decide +kernel
theorem dX11_rowBy_43 : decode cX11_rowBy 43 = .ok (.idiv, 1) := by decide +kernel
theorem dX11_rowBy_44 : decode cX11_rowBy 44 = .ok (.istore_n 3, 1) := by decide +kernel
theorem dX11_rowBy_45 : decode cX11_rowBy 45 = .ok (.iinc 5 1, 3) := by decide +kernel
theorem dX11_rowBy_48 : decode cX11_rowBy 48 = .ok (.goto (-40), 3) := by decide +kernel
theorem dX11_rowBy_51 : decode cX11_rowBy 51 = .ok (.iload_n 3, 1) := by decide +kernel
theorem dX11_rowBy_52 : decode cX11_rowBy 52 = .ok (.ifCond .le 7, 3) := by decide +kernel
theorem dX11_rowBy_55 : decode cX11_rowBy 55 = .ok (.iconst (-1), 1) := by decide +kernel
theorem dX11_rowBy_56 : decode cX11_rowBy 56 = .ok (.goto 5, 3) := by decide +kernel
theorem dX11_rowBy_59 : decode cX11_rowBy 59 = .ok (.iload 4, 2) := by decide +kernel
theorem dX11_rowBy_61 : decode cX11_rowBy 61 = .ok (.ireturn, 1) := by decide +kernel
theorem dX11_laysTable_0 : decode cX11_laysTable 0 = .ok (.aload_n 0, 1) := by decide +kernel
theorem dX11_laysTable_1 : decode cX11_laysTable 1 = .ok (.getfield 20, 3) := by decide +kernel
theorem dX11_laysTable_4 : decode cX11_laysTable 4 = .ok (.iload_n 1, 1) := by decide +kernel
theorem dX11_laysTable_5 : decode cX11_laysTable 5 = .ok (.iconst 0, 1) := by decide +kernel
theorem dX11_laysTable_6 : decode cX11_laysTable 6 = .ok (.iastore, 1) := by decide +kernel
theorem dX11_laysTable_7 : decode cX11_laysTable 7 = .ok (.iconst 1, 1) := by decide +kernel
theorem dX11_laysTable_8 : decode cX11_laysTable 8 = .ok (.istore_n 3, 1) := by decide +kernel
theorem dX11_laysTable_9 : decode cX11_laysTable 9 = .ok (.iconst 0, 1) := by decide +kernel
theorem dX11_laysTable_10 : decode cX11_laysTable 10 = .ok (.istore 4, 2) := by decide +kernel
theorem dX11_laysTable_12 : decode cX11_laysTable 12 = .ok (.iload 4, 2) := by decide +kernel
theorem dX11_laysTable_14 : decode cX11_laysTable 14 = .ok (.bipush 9, 2) := by decide +kernel
theorem dX11_laysTable_16 : decode cX11_laysTable 16 = .ok (.if_icmp .ge 127, 3) := by decide +kernel
theorem dX11_laysTable_19 : decode cX11_laysTable 19 = .ok (.aload_n 0, 1) := by decide +kernel
theorem dX11_laysTable_20 : decode cX11_laysTable 20 = .ok (.aload_n 0, 1) := by decide +kernel
theorem dX11_laysTable_21 : decode cX11_laysTable 21 = .ok (.getfield 14, 3) := by decide +kernel
theorem dX11_laysTable_24 : decode cX11_laysTable 24 = .ok (.iload_n 1, 1) := by decide +kernel
theorem dX11_laysTable_25 : decode cX11_laysTable 25 = .ok (.iaload, 1) := by decide +kernel
theorem dX11_laysTable_26 : decode cX11_laysTable 26 = .ok (.iload 4, 2) := by decide +kernel
theorem dX11_laysTable_28 : decode cX11_laysTable 28 = .ok (.invokevirtual 239, 3) := by decide +kernel
theorem dX11_laysTable_31 : decode cX11_laysTable 31 = .ok (.istore 5, 2) := by decide +kernel
theorem dX11_laysTable_33 : decode cX11_laysTable 33 = .ok (.iload_n 2, 1) := by decide +kernel
theorem dX11_laysTable_34 : decode cX11_laysTable 34 = .ok (.iload 4, 2) := by decide +kernel
theorem dX11_laysTable_36 : decode cX11_laysTable 36 = .ok (.ishr, 1) := by decide +kernel
theorem dX11_laysTable_37 : decode cX11_laysTable 37 = .ok (.iconst 1, 1) := by decide +kernel
theorem dX11_laysTable_38 : decode cX11_laysTable 38 = .ok (.iand, 1) := by decide +kernel
theorem dX11_laysTable_39 : decode cX11_laysTable 39 = .ok (.iconst 1, 1) := by decide +kernel
theorem dX11_laysTable_40 : decode cX11_laysTable 40 = .ok (.if_icmp .ne 97, 3) := by decide +kernel
theorem dX11_laysTable_43 : decode cX11_laysTable 43 = .ok (.iload_n 3, 1) := by decide +kernel
theorem dX11_laysTable_44 : decode cX11_laysTable 44 = .ok (.ifCond .eq 53, 3) := by decide +kernel
theorem dX11_laysTable_47 : decode cX11_laysTable 47 = .ok (.iload 5, 2) := by decide +kernel
theorem dX11_laysTable_49 : decode cX11_laysTable 49 = .ok (.iconst (-1), 1) := by decide +kernel
theorem dX11_laysTable_50 : decode cX11_laysTable 50 = .ok (.if_icmp .eq 47, 3) := by decide +kernel
theorem dX11_laysTable_53 : decode cX11_laysTable 53 = .ok (.aload_n 0, 1) := by decide +kernel
theorem dX11_laysTable_54 : decode cX11_laysTable 54 = .ok (.aload_n 0, 1) := by decide +kernel
theorem dX11_laysTable_55 : decode cX11_laysTable 55 = .ok (.getfield 23, 3) := by decide +kernel
theorem dX11_laysTable_58 : decode cX11_laysTable 58 = .ok (.bipush 12, 2) := by decide +kernel
theorem dX11_laysTable_60 : decode cX11_laysTable 60 = .ok (.iload_n 1, 1) := by decide +kernel
theorem dX11_laysTable_61 : decode cX11_laysTable 61 = .ok (.imul, 1) := by decide +kernel
theorem dX11_laysTable_62 : decode cX11_laysTable 62 = .ok (.aload_n 0, 1) := by decide +kernel
theorem dX11_laysTable_63 : decode cX11_laysTable 63 = .ok (.getfield 20, 3) := by decide +kernel
theorem dX11_laysTable_66 : decode cX11_laysTable 66 = .ok (.iload_n 1, 1) := by decide +kernel
theorem dX11_laysTable_67 : decode cX11_laysTable 67 = .ok (.iaload, 1) := by decide +kernel
theorem dX11_laysTable_68 : decode cX11_laysTable 68 = .ok (.aload_n 0, 1) := by decide +kernel
theorem dX11_laysTable_69 : decode cX11_laysTable 69 = .ok (.getfield 17, 3) := by decide +kernel
theorem dX11_laysTable_72 : decode cX11_laysTable 72 = .ok (.iload_n 1, 1) := by decide +kernel
theorem dX11_laysTable_73 : decode cX11_laysTable 73 = .ok (.iaload, 1) := by decide +kernel
theorem dX11_laysTable_74 : decode cX11_laysTable 74 = .ok (.aload_n 0, 1) := by decide +kernel
theorem dX11_laysTable_75 : decode cX11_laysTable 75 = .ok (.iload 5, 2) := by decide +kernel
theorem dX11_laysTable_77 : decode cX11_laysTable 77 = .ok (.aload_n 0, 1) := by decide +kernel
theorem dX11_laysTable_78 : decode cX11_laysTable 78 = .ok (.getfield 17, 3) := by decide +kernel
theorem dX11_laysTable_81 : decode cX11_laysTable 81 = .ok (.iload_n 1, 1) := by decide +kernel
theorem dX11_laysTable_82 : decode cX11_laysTable 82 = .ok (.iaload, 1) := by decide +kernel
theorem dX11_laysTable_83 : decode cX11_laysTable 83 = .ok (.invokevirtual 100, 3) := by decide +kernel
theorem dX11_laysTable_86 : decode cX11_laysTable 86 = .ok (.invokevirtual 114, 3) := by decide +kernel
theorem dX11_laysTable_89 : decode cX11_laysTable 89 = .ok (.iconst (-1), 1) := by decide +kernel
theorem dX11_laysTable_90 : decode cX11_laysTable 90 = .ok (.if_icmp .ne 7, 3) := by decide +kernel
theorem dX11_laysTable_93 : decode cX11_laysTable 93 = .ok (.iconst 1, 1) := by decide +kernel
theorem dX11_laysTable_94 : decode cX11_laysTable 94 = .ok (.goto 4, 3) := by decide +kernel
theorem dX11_laysTable_97 : decode cX11_laysTable 97 = .ok (.iconst 0, 1) := by decide +kernel
theorem dX11_laysTable_98 : decode cX11_laysTable 98 = .ok (.istore_n 3, 1) := by decide +kernel
theorem dX11_laysTable_99 : decode cX11_laysTable 99 = .ok (.aload_n 0, 1) := by decide +kernel
theorem dX11_laysTable_100 : decode cX11_laysTable 100 = .ok (.getfield 20, 3) := by decide +kernel
theorem dX11_laysTable_103 : decode cX11_laysTable 103 = .ok (.iload_n 1, 1) := by decide +kernel
theorem dX11_laysTable_104 : decode cX11_laysTable 104 = .ok (.iload_n 3, 1) := by decide +kernel
theorem dX11_laysTable_105 : decode cX11_laysTable 105 = .ok (.ifCond .eq 25, 3) := by decide +kernel
theorem dX11_laysTable_108 : decode cX11_laysTable 108 = .ok (.aload_n 0, 1) := by decide +kernel
theorem dX11_laysTable_109 : decode cX11_laysTable 109 = .ok (.getfield 23, 3) := by decide +kernel
theorem dX11_laysTable_112 : decode cX11_laysTable 112 = .ok (.bipush 12, 2) := by decide +kernel
theorem dX11_laysTable_114 : decode cX11_laysTable 114 = .ok (.iload_n 1, 1) := by decide +kernel
theorem dX11_laysTable_115 : decode cX11_laysTable 115 = .ok (.imul, 1) := by decide +kernel
theorem dX11_laysTable_116 : decode cX11_laysTable 116 = .ok (.aload_n 0, 1) := by decide +kernel
theorem dX11_laysTable_117 : decode cX11_laysTable 117 = .ok (.getfield 20, 3) := by decide +kernel
theorem dX11_laysTable_120 : decode cX11_laysTable 120 = .ok (.iload_n 1, 1) := by decide +kernel
theorem dX11_laysTable_121 : decode cX11_laysTable 121 = .ok (.iaload, 1) := by decide +kernel
theorem dX11_laysTable_122 : decode cX11_laysTable 122 = .ok (.iload 5, 2) := by decide +kernel
theorem dX11_laysTable_124 : decode cX11_laysTable 124 = .ok (.invokestatic 118, 3) := by decide +kernel
theorem dX11_laysTable_127 : decode cX11_laysTable 127 = .ok (.goto 9, 3) := by decide +kernel
theorem dX11_laysTable_130 : decode cX11_laysTable 130 = .ok (.aload_n 0, 1) := by decide +kernel
theorem dX11_laysTable_131 : decode cX11_laysTable 131 = .ok (.getfield 20, 3) := by decide +kernel
theorem dX11_laysTable_134 : decode cX11_laysTable 134 = .ok (.iload_n 1, 1) := by decide +kernel
theorem dX11_laysTable_135 : decode cX11_laysTable 135 = .ok (.iaload, 1) := by decide +kernel
theorem dX11_laysTable_136 : decode cX11_laysTable 136 = .ok (.iastore, 1) := by decide +kernel
theorem dX11_laysTable_137 : decode cX11_laysTable 137 = .ok (.iinc 4 1, 3) := by decide +kernel
theorem dX11_laysTable_140 : decode cX11_laysTable 140 = .ok (.goto (-128), 3) := by decide +kernel
theorem dX11_laysTable_143 : decode cX11_laysTable 143 = .ok (.iload_n 3, 1) := by decide +kernel
theorem dX11_laysTable_144 : decode cX11_laysTable 144 = .ok (.ireturn, 1) := by decide +kernel
theorem dX11_isDraft_0 : decode cX11_isDraft 0 = .ok (.aload_n 0, 1) := by decide +kernel
theorem dX11_isDraft_1 : decode cX11_isDraft 1 = .ok (.invokevirtual 158, 3) := by decide +kernel
theorem dX11_isDraft_4 : decode cX11_isDraft 4 = .ok (.aload_n 0, 1) := by decide +kernel
theorem dX11_isDraft_5 : decode cX11_isDraft 5 = .ok (.getfield 54, 3) := by decide +kernel
theorem dX11_isDraft_8 : decode cX11_isDraft 8 = .ok (.aload_n 0, 1) := by decide +kernel
theorem dX11_isDraft_9 : decode cX11_isDraft 9 = .ok (.getfield 165, 3) := by decide +kernel
theorem dX11_isDraft_12 : decode cX11_isDraft 12 = .ok (.iaload, 1) := by decide +kernel
theorem dX11_isDraft_13 : decode cX11_isDraft 13 = .ok (.aload_n 0, 1) := by decide +kernel
theorem dX11_isDraft_14 : decode cX11_isDraft 14 = .ok (.getfield 168, 3) := by decide +kernel
theorem dX11_isDraft_17 : decode cX11_isDraft 17 = .ok (.if_icmp .ne 7, 3) := by decide +kernel
theorem dX11_isDraft_20 : decode cX11_isDraft 20 = .ok (.iconst 1, 1) := by decide +kernel
theorem dX11_isDraft_21 : decode cX11_isDraft 21 = .ok (.goto 4, 3) := by decide +kernel
theorem dX11_isDraft_24 : decode cX11_isDraft 24 = .ok (.iconst 0, 1) := by decide +kernel
theorem dX11_isDraft_25 : decode cX11_isDraft 25 = .ok (.istore_n 1, 1) := by decide +kernel
theorem dX11_isDraft_26 : decode cX11_isDraft 26 = .ok (.iconst 0, 1) := by decide +kernel
theorem dX11_isDraft_27 : decode cX11_isDraft 27 = .ok (.istore_n 2, 1) := by decide +kernel
theorem dX11_isDraft_28 : decode cX11_isDraft 28 = .ok (.iload_n 2, 1) := by decide +kernel
theorem dX11_isDraft_29 : decode cX11_isDraft 29 = .ok (.aload_n 0, 1) := by decide +kernel
theorem dX11_isDraft_30 : decode cX11_isDraft 30 = .ok (.getfield 168, 3) := by decide +kernel
theorem dX11_isDraft_33 : decode cX11_isDraft 33 = .ok (.if_icmp .ge 42, 3) := by decide +kernel
theorem dX11_isDraft_36 : decode cX11_isDraft 36 = .ok (.iload_n 1, 1) := by decide +kernel
theorem dX11_isDraft_37 : decode cX11_isDraft 37 = .ok (.ifCond .eq 38, 3) := by decide +kernel
theorem dX11_isDraft_40 : decode cX11_isDraft 40 = .ok (.aload_n 0, 1) := by decide +kernel
theorem dX11_isDraft_41 : decode cX11_isDraft 41 = .ok (.getfield 57, 3) := by decide +kernel
theorem dX11_isDraft_44 : decode cX11_isDraft 44 = .ok (.bipush 40, 2) := by decide +kernel
theorem dX11_isDraft_46 : decode cX11_isDraft 46 = .ok (.aload_n 0, 1) := by decide +kernel
theorem dX11_isDraft_47 : decode cX11_isDraft 47 = .ok (.getfield 165, 3) := by decide +kernel
theorem dX11_isDraft_50 : decode cX11_isDraft 50 = .ok (.imul, 1) := by decide +kernel
theorem dX11_isDraft_51 : decode cX11_isDraft 51 = .ok (.iload_n 2, 1) := by decide +kernel
theorem dX11_isDraft_52 : decode cX11_isDraft 52 = .ok (.iadd, 1) := by decide +kernel
theorem dX11_isDraft_53 : decode cX11_isDraft 53 = .ok (.iaload, 1) := by decide +kernel
theorem dX11_isDraft_54 : decode cX11_isDraft 54 = .ok (.aload_n 0, 1) := by decide +kernel
theorem dX11_isDraft_55 : decode cX11_isDraft 55 = .ok (.getfield 66, 3) := by decide +kernel
theorem dX11_isDraft_58 : decode cX11_isDraft 58 = .ok (.iload_n 2, 1) := by decide +kernel
theorem dX11_isDraft_59 : decode cX11_isDraft 59 = .ok (.iaload, 1) := by decide +kernel
theorem dX11_isDraft_60 : decode cX11_isDraft 60 = .ok (.if_icmp .ne 7, 3) := by decide +kernel
theorem dX11_isDraft_63 : decode cX11_isDraft 63 = .ok (.iconst 1, 1) := by decide +kernel
theorem dX11_isDraft_64 : decode cX11_isDraft 64 = .ok (.goto 4, 3) := by decide +kernel
theorem dX11_isDraft_67 : decode cX11_isDraft 67 = .ok (.iconst 0, 1) := by decide +kernel
theorem dX11_isDraft_68 : decode cX11_isDraft 68 = .ok (.istore_n 1, 1) := by decide +kernel
theorem dX11_isDraft_69 : decode cX11_isDraft 69 = .ok (.iinc 2 1, 3) := by decide +kernel
theorem dX11_isDraft_72 : decode cX11_isDraft 72 = .ok (.goto (-44), 3) := by decide +kernel
theorem dX11_isDraft_75 : decode cX11_isDraft 75 = .ok (.iload_n 1, 1) := by decide +kernel
theorem dX11_isDraft_76 : decode cX11_isDraft 76 = .ok (.ireturn, 1) := by decide +kernel
theorem dX11_differs_0 : decode cX11_differs 0 = .ok (.iconst 0, 1) := by decide +kernel
theorem dX11_differs_1 : decode cX11_differs 1 = .ok (.istore_n 3, 1) := by decide +kernel
theorem dX11_differs_2 : decode cX11_differs 2 = .ok (.iconst 0, 1) := by decide +kernel
theorem dX11_differs_3 : decode cX11_differs 3 = .ok (.istore 4, 2) := by decide +kernel
theorem dX11_differs_5 : decode cX11_differs 5 = .ok (.iload 4, 2) := by decide +kernel
theorem dX11_differs_7 : decode cX11_differs 7 = .ok (.iload_n 2, 1) := by decide +kernel
theorem dX11_differs_8 : decode cX11_differs 8 = .ok (.if_icmp .ge 45, 3) := by decide +kernel
theorem dX11_differs_11 : decode cX11_differs 11 = .ok (.iload_n 3, 1) := by decide +kernel
theorem dX11_differs_12 : decode cX11_differs 12 = .ok (.aload_n 0, 1) := by decide +kernel
theorem dX11_differs_13 : decode cX11_differs 13 = .ok (.getfield 23, 3) := by decide +kernel
theorem dX11_differs_16 : decode cX11_differs 16 = .ok (.bipush 12, 2) := by decide +kernel
theorem dX11_differs_18 : decode cX11_differs 18 = .ok (.iload_n 1, 1) := by decide +kernel
theorem dX11_differs_19 : decode cX11_differs 19 = .ok (.imul, 1) := by decide +kernel
theorem dX11_differs_20 : decode cX11_differs 20 = .ok (.aload_n 0, 1) := by decide +kernel
theorem dX11_differs_21 : decode cX11_differs 21 = .ok (.getfield 20, 3) := by decide +kernel
theorem dX11_differs_24 : decode cX11_differs 24 = .ok (.iload_n 1, 1) := by decide +kernel
theorem dX11_differs_25 : decode cX11_differs 25 = .ok (.iaload, 1) := by decide +kernel
theorem dX11_differs_26 : decode cX11_differs 26 = .ok (.aload_n 0, 1) := by decide +kernel
theorem dX11_differs_27 : decode cX11_differs 27 = .ok (.getfield 84, 3) := by decide +kernel
theorem dX11_differs_30 : decode cX11_differs 30 = .ok (.iload 4, 2) := by decide +kernel
theorem dX11_differs_32 : decode cX11_differs 32 = .ok (.iaload, 1) := by decide +kernel
theorem dX11_differs_33 : decode cX11_differs 33 = .ok (.invokestatic 122, 3) := by decide +kernel
theorem dX11_differs_36 : decode cX11_differs 36 = .ok (.iconst (-1), 1) := by decide +kernel
theorem dX11_differs_37 : decode cX11_differs 37 = .ok (.if_icmp .ne 7, 3) := by decide +kernel
theorem dX11_differs_40 : decode cX11_differs 40 = .ok (.iconst 1, 1) := by decide +kernel
theorem dX11_differs_41 : decode cX11_differs 41 = .ok (.goto 4, 3) := by decide +kernel
theorem dX11_differs_44 : decode cX11_differs 44 = .ok (.iconst 0, 1) := by decide +kernel
theorem dX11_differs_45 : decode cX11_differs 45 = .ok (.iadd, 1) := by decide +kernel
theorem dX11_differs_46 : decode cX11_differs 46 = .ok (.istore_n 3, 1) := by decide +kernel
theorem dX11_differs_47 : decode cX11_differs 47 = .ok (.iinc 4 1, 3) := by decide +kernel
theorem dX11_differs_50 : decode cX11_differs 50 = .ok (.goto (-45), 3) := by decide +kernel
theorem dX11_differs_53 : decode cX11_differs 53 = .ok (.iconst 0, 1) := by decide +kernel
theorem dX11_differs_54 : decode cX11_differs 54 = .ok (.istore 4, 2) := by decide +kernel
theorem dX11_differs_56 : decode cX11_differs 56 = .ok (.iload 4, 2) := by decide +kernel
theorem dX11_differs_58 : decode cX11_differs 58 = .ok (.aload_n 0, 1) := by decide +kernel
theorem dX11_differs_59 : decode cX11_differs 59 = .ok (.getfield 20, 3) := by decide +kernel
theorem dX11_differs_62 : decode cX11_differs 62 = .ok (.iload_n 1, 1) := by decide +kernel
theorem dX11_differs_63 : decode cX11_differs 63 = .ok (.iaload, 1) := by decide +kernel
theorem dX11_differs_64 : decode cX11_differs 64 = .ok (.if_icmp .ge 42, 3) := by decide +kernel
theorem dX11_differs_67 : decode cX11_differs 67 = .ok (.iload_n 3, 1) := by decide +kernel
theorem dX11_differs_68 : decode cX11_differs 68 = .ok (.aload_n 0, 1) := by decide +kernel
theorem dX11_differs_69 : decode cX11_differs 69 = .ok (.getfield 84, 3) := by decide +kernel
theorem dX11_differs_72 : decode cX11_differs 72 = .ok (.iconst 0, 1) := by decide +kernel
theorem dX11_differs_73 : decode cX11_differs 73 = .ok (.iload_n 2, 1) := by decide +kernel
theorem dX11_differs_74 : decode cX11_differs 74 = .ok (.aload_n 0, 1) := by decide +kernel
theorem dX11_differs_75 : decode cX11_differs 75 = .ok (.getfield 23, 3) := by decide +kernel
theorem dX11_differs_78 : decode cX11_differs 78 = .ok (.bipush 12, 2) := by decide +kernel
theorem dX11_differs_80 : decode cX11_differs 80 = .ok (.iload_n 1, 1) := by decide +kernel
theorem dX11_differs_81 : decode cX11_differs 81 = .ok (.imul, 1) := by decide +kernel
theorem dX11_differs_82 : decode cX11_differs 82 = .ok (.iload 4, 2) := by decide +kernel
theorem dX11_differs_84 : decode cX11_differs 84 = .ok (.iadd, 1) := by decide +kernel
theorem dX11_differs_85 : decode cX11_differs 85 = .ok (.iaload, 1) := by decide +kernel
theorem dX11_differs_86 : decode cX11_differs 86 = .ok (.invokestatic 122, 3) := by decide +kernel
theorem dX11_differs_89 : decode cX11_differs 89 = .ok (.iconst (-1), 1) := by decide +kernel
theorem dX11_differs_90 : decode cX11_differs 90 = .ok (.if_icmp .ne 7, 3) := by decide +kernel
theorem dX11_differs_93 : decode cX11_differs 93 = .ok (.iconst 1, 1) := by decide +kernel
theorem dX11_differs_94 : decode cX11_differs 94 = .ok (.goto 4, 3) := by decide +kernel
theorem dX11_differs_97 : decode cX11_differs 97 = .ok (.iconst 0, 1) := by decide +kernel
theorem dX11_differs_98 : decode cX11_differs 98 = .ok (.iadd, 1) := by decide +kernel
theorem dX11_differs_99 : decode cX11_differs 99 = .ok (.istore_n 3, 1) := by decide +kernel
theorem dX11_differs_100 : decode cX11_differs 100 = .ok (.iinc 4 1, 3) := by decide +kernel
theorem dX11_differs_103 : decode cX11_differs 103 = .ok (.goto (-47), 3) := by decide +kernel
theorem dX11_differs_106 : decode cX11_differs 106 = .ok (.iload_n 3, 1) := by decide +kernel
theorem dX11_differs_107 : decode cX11_differs 107 = .ok (.ireturn, 1) := by decide +kernel
theorem dX11_fewest_0 : decode cX11_fewest 0 = .ok (.aload_n 0, 1) := by decide +kernel
theorem dX11_fewest_1 : decode cX11_fewest 1 = .ok (.aload_n 0, 1) := by decide +kernel
theorem dX11_fewest_2 : decode cX11_fewest 2 = .ok (.getfield 161, 3) := by decide +kernel
theorem dX11_fewest_5 : decode cX11_fewest 5 = .ok (.ifCond .eq 10, 3) := by decide +kernel
theorem dX11_fewest_8 : decode cX11_fewest 8 = .ok (.aload_n 0, 1) := by decide +kernel
theorem dX11_fewest_9 : decode cX11_fewest 9 = .ok (.invokevirtual 242, 3) := by decide +kernel
theorem dX11_fewest_12 : decode cX11_fewest 12 = .ok (.ifCond .ne 7, 3) := by decide +kernel
theorem dX11_fewest_15 : decode cX11_fewest 15 = .ok (.iconst 1, 1) := by decide +kernel
theorem dX11_fewest_16 : decode cX11_fewest 16 = .ok (.goto 4, 3) := by decide +kernel
theorem dX11_fewest_19 : decode cX11_fewest 19 = .ok (.iconst 0, 1) := by decide +kernel
theorem dX11_fewest_20 : decode cX11_fewest 20 = .ok (.putfield 87, 3) := by decide +kernel
theorem dX11_fewest_23 : decode cX11_fewest 23 = .ok (.aload_n 0, 1) := by decide +kernel
theorem dX11_fewest_24 : decode cX11_fewest 24 = .ok (.getfield 87, 3) := by decide +kernel
theorem dX11_fewest_27 : decode cX11_fewest 27 = .ok (.ifCond .le 5, 3) := by decide +kernel
theorem dX11_fewest_30 : decode cX11_fewest 30 = .ok (.iconst 0, 1) := by decide +kernel
theorem dX11_fewest_31 : decode cX11_fewest 31 = .ok (.ireturn, 1) := by decide +kernel
theorem dX11_fewest_32 : decode cX11_fewest 32 = .ok (.aload_n 0, 1) := by decide +kernel
theorem dX11_fewest_33 : decode cX11_fewest 33 = .ok (.aload_n 0, 1) := by decide +kernel
theorem dX11_fewest_34 : decode cX11_fewest 34 = .ok (.getfield 165, 3) := by decide +kernel
theorem dX11_fewest_37 : decode cX11_fewest 37 = .ok (.invokevirtual 233, 3) := by decide +kernel
theorem dX11_fewest_40 : decode cX11_fewest 40 = .ok (.istore_n 1, 1) := by decide +kernel
theorem dX11_fewest_41 : decode cX11_fewest 41 = .ok (.aload_n 0, 1) := by decide +kernel
theorem dX11_fewest_42 : decode cX11_fewest 42 = .ok (.getfield 20, 3) := by decide +kernel
theorem dX11_fewest_45 : decode cX11_fewest 45 = .ok (.iload_n 1, 1) := by decide +kernel
theorem dX11_fewest_46 : decode cX11_fewest 46 = .ok (.iaload, 1) := by decide +kernel
theorem dX11_fewest_47 : decode cX11_fewest 47 = .ok (.istore_n 2, 1) := by decide +kernel
theorem dX11_fewest_48 : decode cX11_fewest 48 = .ok (.iconst 0, 1) := by decide +kernel
theorem dX11_fewest_49 : decode cX11_fewest 49 = .ok (.istore_n 3, 1) := by decide +kernel
theorem dX11_fewest_50 : decode cX11_fewest 50 = .ok (.iload_n 3, 1) := by decide +kernel
theorem dX11_fewest_51 : decode cX11_fewest 51 = .ok (.iload_n 2, 1) := by decide +kernel
theorem dX11_fewest_52 : decode cX11_fewest 52 = .ok (.if_icmp .ge 26, 3) := by decide +kernel
theorem dX11_fewest_55 : decode cX11_fewest 55 = .ok (.aload_n 0, 1) := by decide +kernel
theorem dX11_fewest_56 : decode cX11_fewest 56 = .ok (.getfield 84, 3) := by decide +kernel
theorem dX11_fewest_59 : decode cX11_fewest 59 = .ok (.iload_n 3, 1) := by decide +kernel
theorem dX11_fewest_60 : decode cX11_fewest 60 = .ok (.aload_n 0, 1) := by decide +kernel
theorem dX11_fewest_61 : decode cX11_fewest 61 = .ok (.getfield 23, 3) := by decide +kernel
theorem dX11_fewest_64 : decode cX11_fewest 64 = .ok (.bipush 12, 2) := by decide +kernel
theorem dX11_fewest_66 : decode cX11_fewest 66 = .ok (.iload_n 1, 1) := by decide +kernel
theorem dX11_fewest_67 : decode cX11_fewest 67 = .ok (.imul, 1) := by decide +kernel
theorem dX11_fewest_68 : decode cX11_fewest 68 = .ok (.iload_n 3, 1) := by decide +kernel
theorem dX11_fewest_69 : decode cX11_fewest 69 = .ok (.iadd, 1) := by decide +kernel
theorem dX11_fewest_70 : decode cX11_fewest 70 = .ok (.iaload, 1) := by decide +kernel
theorem dX11_fewest_71 : decode cX11_fewest 71 = .ok (.iastore, 1) := by decide +kernel
theorem dX11_fewest_72 : decode cX11_fewest 72 = .ok (.iinc 3 1, 3) := by decide +kernel
theorem dX11_fewest_75 : decode cX11_fewest 75 = .ok (.goto (-25), 3) := by decide +kernel
theorem dX11_fewest_78 : decode cX11_fewest 78 = .ok (.iconst (-1), 1) := by decide +kernel
theorem dX11_fewest_79 : decode cX11_fewest 79 = .ok (.istore_n 3, 1) := by decide +kernel
theorem dX11_fewest_80 : decode cX11_fewest 80 = .ok (.iconst 0, 1) := by decide +kernel
theorem dX11_fewest_81 : decode cX11_fewest 81 = .ok (.istore 4, 2) := by decide +kernel
theorem dX11_fewest_83 : decode cX11_fewest 83 = .ok (.iload 4, 2) := by decide +kernel
theorem dX11_fewest_85 : decode cX11_fewest 85 = .ok (.sipush 512, 3) := by decide +kernel
theorem dX11_fewest_88 : decode cX11_fewest 88 = .ok (.if_icmp .ge 52, 3) := by decide +kernel
theorem dX11_fewest_91 : decode cX11_fewest 91 = .ok (.aload_n 0, 1) := by decide +kernel
theorem dX11_fewest_92 : decode cX11_fewest 92 = .ok (.iload_n 1, 1) := by decide +kernel
theorem dX11_fewest_93 : decode cX11_fewest 93 = .ok (.iload 4, 2) := by decide +kernel
theorem dX11_fewest_95 : decode cX11_fewest 95 = .ok (.invokevirtual 245, 3) := by decide +kernel
theorem dX11_fewest_98 : decode cX11_fewest 98 = .ok (.ifCond .eq 36, 3) := by decide +kernel
theorem dX11_fewest_101 : decode cX11_fewest 101 = .ok (.aload_n 0, 1) := by decide +kernel
theorem dX11_fewest_102 : decode cX11_fewest 102 = .ok (.invokevirtual 248, 3) := by decide +kernel
theorem dX11_fewest_105 : decode cX11_fewest 105 = .ok (.ifCond .eq 29, 3) := by decide +kernel
theorem dX11_fewest_108 : decode cX11_fewest 108 = .ok (.aload_n 0, 1) := by decide +kernel
theorem dX11_fewest_109 : decode cX11_fewest 109 = .ok (.iload_n 1, 1) := by decide +kernel
theorem dX11_fewest_110 : decode cX11_fewest 110 = .ok (.iload_n 2, 1) := by decide +kernel
theorem dX11_fewest_111 : decode cX11_fewest 111 = .ok (.invokevirtual 251, 3) := by decide +kernel
theorem dX11_fewest_114 : decode cX11_fewest 114 = .ok (.istore 5, 2) := by decide +kernel
theorem dX11_fewest_116 : decode cX11_fewest 116 = .ok (.iload_n 3, 1) := by decide +kernel
theorem dX11_fewest_117 : decode cX11_fewest 117 = .ok (.iconst (-1), 1) := by decide +kernel
theorem dX11_fewest_118 : decode cX11_fewest 118 = .ok (.if_icmp .eq 9, 3) := by decide +kernel
theorem dX11_fewest_121 : decode cX11_fewest 121 = .ok (.iload 5, 2) := by decide +kernel
theorem dX11_fewest_123 : decode cX11_fewest 123 = .ok (.iload_n 3, 1) := by decide +kernel
theorem dX11_fewest_124 : decode cX11_fewest 124 = .ok (.if_icmp .ge 8, 3) := by decide +kernel
theorem dX11_fewest_127 : decode cX11_fewest 127 = .ok (.iload 5, 2) := by decide +kernel
theorem dX11_fewest_129 : decode cX11_fewest 129 = .ok (.goto 4, 3) := by decide +kernel
theorem dX11_fewest_132 : decode cX11_fewest 132 = .ok (.iload_n 3, 1) := by decide +kernel
theorem dX11_fewest_133 : decode cX11_fewest 133 = .ok (.istore_n 3, 1) := by decide +kernel
theorem dX11_fewest_134 : decode cX11_fewest 134 = .ok (.iinc 4 1, 3) := by decide +kernel
theorem dX11_fewest_137 : decode cX11_fewest 137 = .ok (.goto (-54), 3) := by decide +kernel
theorem dX11_fewest_140 : decode cX11_fewest 140 = .ok (.aload_n 0, 1) := by decide +kernel
theorem dX11_fewest_141 : decode cX11_fewest 141 = .ok (.getfield 20, 3) := by decide +kernel
theorem dX11_fewest_144 : decode cX11_fewest 144 = .ok (.iload_n 1, 1) := by decide +kernel
theorem dX11_fewest_145 : decode cX11_fewest 145 = .ok (.iload_n 2, 1) := by decide +kernel
theorem dX11_fewest_146 : decode cX11_fewest 146 = .ok (.iastore, 1) := by decide +kernel
theorem dX11_fewest_147 : decode cX11_fewest 147 = .ok (.iconst 0, 1) := by decide +kernel
theorem dX11_fewest_148 : decode cX11_fewest 148 = .ok (.istore 4, 2) := by decide +kernel
theorem dX11_fewest_150 : decode cX11_fewest 150 = .ok (.iload 4, 2) := by decide +kernel
theorem dX11_fewest_152 : decode cX11_fewest 152 = .ok (.iload_n 2, 1) := by decide +kernel
theorem dX11_fewest_153 : decode cX11_fewest 153 = .ok (.if_icmp .ge 28, 3) := by decide +kernel
theorem dX11_fewest_156 : decode cX11_fewest 156 = .ok (.aload_n 0, 1) := by decide +kernel
theorem dX11_fewest_157 : decode cX11_fewest 157 = .ok (.getfield 23, 3) := by decide +kernel
theorem dX11_fewest_160 : decode cX11_fewest 160 = .ok (.bipush 12, 2) := by decide +kernel
theorem dX11_fewest_162 : decode cX11_fewest 162 = .ok (.iload_n 1, 1) := by decide +kernel
theorem dX11_fewest_163 : decode cX11_fewest 163 = .ok (.imul, 1) := by decide +kernel
theorem dX11_fewest_164 : decode cX11_fewest 164 = .ok (.iload 4, 2) := by decide +kernel
theorem dX11_fewest_166 : decode cX11_fewest 166 = .ok (.iadd, 1) := by decide +kernel
theorem dX11_fewest_167 : decode cX11_fewest 167 = .ok (.aload_n 0, 1) := by decide +kernel
theorem dX11_fewest_168 : decode cX11_fewest 168 = .ok (.getfield 84, 3) := by decide +kernel
theorem dX11_fewest_171 : decode cX11_fewest 171 = .ok (.iload 4, 2) := by decide +kernel
theorem dX11_fewest_173 : decode cX11_fewest 173 = .ok (.iaload, 1) := by decide +kernel
theorem dX11_fewest_174 : decode cX11_fewest 174 = .ok (.iastore, 1) := by decide +kernel
theorem dX11_fewest_175 : decode cX11_fewest 175 = .ok (.iinc 4 1, 3) := by decide +kernel
theorem dX11_fewest_178 : decode cX11_fewest 178 = .ok (.goto (-28), 3) := by decide +kernel
theorem dX11_fewest_181 : decode cX11_fewest 181 = .ok (.iload_n 3, 1) := by decide +kernel
theorem dX11_fewest_182 : decode cX11_fewest 182 = .ok (.ireturn, 1) := by decide +kernel
theorem dX11_keeps_0 : decode cX11_keeps 0 = .ok (.aload_n 0, 1) := by decide +kernel
theorem dX11_keeps_1 : decode cX11_keeps 1 = .ok (.getfield 254, 3) := by decide +kernel
theorem dX11_keeps_4 : decode cX11_keeps 4 = .ok (.iconst 5, 1) := by decide +kernel
theorem dX11_keeps_5 : decode cX11_keeps 5 = .ok (.if_icmp .ne 71, 3) := by decide +kernel
theorem dX11_keeps_8 : decode cX11_keeps 8 = .ok (.iconst 0, 1) := by decide +kernel
theorem dX11_keeps_9 : decode cX11_keeps 9 = .ok (.istore_n 1, 1) := by decide +kernel
theorem dX11_keeps_10 : decode cX11_keeps 10 = .ok (.iload_n 1, 1) := by decide +kernel
theorem dX11_keeps_11 : decode cX11_keeps 11 = .ok (.bipush 12, 2) := by decide +kernel
theorem dX11_keeps_13 : decode cX11_keeps 13 = .ok (.if_icmp .ge 23, 3) := by decide +kernel
theorem dX11_keeps_16 : decode cX11_keeps 16 = .ok (.aload_n 0, 1) := by decide +kernel
theorem dX11_keeps_17 : decode cX11_keeps 17 = .ok (.getfield 78, 3) := by decide +kernel
theorem dX11_keeps_20 : decode cX11_keeps 20 = .ok (.iload_n 1, 1) := by decide +kernel
theorem dX11_keeps_21 : decode cX11_keeps 21 = .ok (.aload_n 0, 1) := by decide +kernel
theorem dX11_keeps_22 : decode cX11_keeps 22 = .ok (.getfield 78, 3) := by decide +kernel
theorem dX11_keeps_25 : decode cX11_keeps 25 = .ok (.iload_n 1, 1) := by decide +kernel
theorem dX11_keeps_26 : decode cX11_keeps 26 = .ok (.iconst 3, 1) := by decide +kernel
theorem dX11_keeps_27 : decode cX11_keeps 27 = .ok (.iadd, 1) := by decide +kernel
theorem dX11_keeps_28 : decode cX11_keeps 28 = .ok (.iaload, 1) := by decide +kernel
theorem dX11_keeps_29 : decode cX11_keeps 29 = .ok (.iastore, 1) := by decide +kernel
theorem dX11_keeps_30 : decode cX11_keeps 30 = .ok (.iinc 1 1, 3) := by decide +kernel
theorem dX11_keeps_33 : decode cX11_keeps 33 = .ok (.goto (-23), 3) := by decide +kernel
theorem dX11_keeps_36 : decode cX11_keeps 36 = .ok (.iconst 0, 1) := by decide +kernel
theorem dX11_keeps_37 : decode cX11_keeps 37 = .ok (.istore_n 1, 1) := by decide +kernel
theorem dX11_keeps_38 : decode cX11_keeps 38 = .ok (.iload_n 1, 1) := by decide +kernel
theorem dX11_keeps_39 : decode cX11_keeps 39 = .ok (.sipush 144, 3) := by decide +kernel
theorem dX11_keeps_42 : decode cX11_keeps 42 = .ok (.if_icmp .ge 24, 3) := by decide +kernel
theorem dX11_keeps_45 : decode cX11_keeps 45 = .ok (.aload_n 0, 1) := by decide +kernel
theorem dX11_keeps_46 : decode cX11_keeps 46 = .ok (.getfield 81, 3) := by decide +kernel
theorem dX11_keeps_49 : decode cX11_keeps 49 = .ok (.iload_n 1, 1) := by decide +kernel
theorem dX11_keeps_50 : decode cX11_keeps 50 = .ok (.aload_n 0, 1) := by decide +kernel
theorem dX11_keeps_51 : decode cX11_keeps 51 = .ok (.getfield 81, 3) := by decide +kernel
theorem dX11_keeps_54 : decode cX11_keeps 54 = .ok (.iload_n 1, 1) := by decide +kernel
theorem dX11_keeps_55 : decode cX11_keeps 55 = .ok (.bipush 36, 2) := by decide +kernel
theorem dX11_keeps_57 : decode cX11_keeps 57 = .ok (.iadd, 1) := by decide +kernel
theorem dX11_keeps_58 : decode cX11_keeps 58 = .ok (.iaload, 1) := by decide +kernel
theorem dX11_keeps_59 : decode cX11_keeps 59 = .ok (.iastore, 1) := by decide +kernel
theorem dX11_keeps_60 : decode cX11_keeps 60 = .ok (.iinc 1 1, 3) := by decide +kernel
theorem dX11_keeps_63 : decode cX11_keeps 63 = .ok (.goto (-25), 3) := by decide +kernel
theorem dX11_keeps_66 : decode cX11_keeps 66 = .ok (.aload_n 0, 1) := by decide +kernel
theorem dX11_keeps_67 : decode cX11_keeps 67 = .ok (.dup, 1) := by decide +kernel
theorem dX11_keeps_68 : decode cX11_keeps 68 = .ok (.getfield 254, 3) := by decide +kernel
theorem dX11_keeps_71 : decode cX11_keeps 71 = .ok (.iconst 1, 1) := by decide +kernel
theorem dX11_keeps_72 : decode cX11_keeps 72 = .ok (.isub, 1) := by decide +kernel
theorem dX11_keeps_73 : decode cX11_keeps 73 = .ok (.putfield 254, 3) := by decide +kernel
theorem dX11_keeps_76 : decode cX11_keeps 76 = .ok (.iconst 0, 1) := by decide +kernel
theorem dX11_keeps_77 : decode cX11_keeps 77 = .ok (.istore_n 1, 1) := by decide +kernel
theorem dX11_keeps_78 : decode cX11_keeps 78 = .ok (.iload_n 1, 1) := by decide +kernel
theorem dX11_keeps_79 : decode cX11_keeps 79 = .ok (.iconst 3, 1) := by decide +kernel
theorem dX11_keeps_80 : decode cX11_keeps 80 = .ok (.if_icmp .ge 40, 3) := by decide +kernel
theorem dX11_keeps_83 : decode cX11_keeps 83 = .ok (.aload_n 0, 1) := by decide +kernel
theorem dX11_keeps_84 : decode cX11_keeps 84 = .ok (.getfield 78, 3) := by decide +kernel
theorem dX11_keeps_87 : decode cX11_keeps 87 = .ok (.iconst 3, 1) := by decide +kernel
theorem dX11_keeps_88 : decode cX11_keeps 88 = .ok (.aload_n 0, 1) := by decide +kernel
theorem dX11_keeps_89 : decode cX11_keeps 89 = .ok (.getfield 254, 3) := by decide +kernel
theorem dX11_keeps_92 : decode cX11_keeps 92 = .ok (.imul, 1) := by decide +kernel
theorem dX11_keeps_93 : decode cX11_keeps 93 = .ok (.iload_n 1, 1) := by decide +kernel
theorem dX11_keeps_94 : decode cX11_keeps 94 = .ok (.iadd, 1) := by decide +kernel
theorem dX11_keeps_95 : decode cX11_keeps 95 = .ok (.iload_n 1, 1) := by decide +kernel
theorem dX11_keeps_96 : decode cX11_keeps 96 = .ok (.aload_n 0, 1) := by decide +kernel
theorem dX11_keeps_97 : decode cX11_keeps 97 = .ok (.getfield 103, 3) := by decide +kernel
theorem dX11_keeps_100 : decode cX11_keeps 100 = .ok (.if_icmp .ge 12, 3) := by decide +kernel
theorem dX11_keeps_103 : decode cX11_keeps 103 = .ok (.aload_n 0, 1) := by decide +kernel
theorem dX11_keeps_104 : decode cX11_keeps 104 = .ok (.getfield 20, 3) := by decide +kernel
theorem dX11_keeps_107 : decode cX11_keeps 107 = .ok (.iload_n 1, 1) := by decide +kernel
theorem dX11_keeps_108 : decode cX11_keeps 108 = .ok (.iaload, 1) := by decide +kernel
theorem dX11_keeps_109 : decode cX11_keeps 109 = .ok (.goto 4, 3) := by decide +kernel
theorem dX11_keeps_112 : decode cX11_keeps 112 = .ok (.iconst 0, 1) := by decide +kernel
theorem dX11_keeps_113 : decode cX11_keeps 113 = .ok (.iastore, 1) := by decide +kernel
theorem dX11_keeps_114 : decode cX11_keeps 114 = .ok (.iinc 1 1, 3) := by decide +kernel
theorem dX11_keeps_117 : decode cX11_keeps 117 = .ok (.goto (-39), 3) := by decide +kernel
theorem dX11_keeps_120 : decode cX11_keeps 120 = .ok (.iconst 0, 1) := by decide +kernel
theorem dX11_keeps_121 : decode cX11_keeps 121 = .ok (.istore_n 1, 1) := by decide +kernel
theorem dX11_keeps_122 : decode cX11_keeps 122 = .ok (.iload_n 1, 1) := by decide +kernel
theorem dX11_keeps_123 : decode cX11_keeps 123 = .ok (.bipush 36, 2) := by decide +kernel
theorem dX11_keeps_125 : decode cX11_keeps 125 = .ok (.if_icmp .ge 29, 3) := by decide +kernel
theorem dX11_keeps_128 : decode cX11_keeps 128 = .ok (.aload_n 0, 1) := by decide +kernel
theorem dX11_keeps_129 : decode cX11_keeps 129 = .ok (.getfield 81, 3) := by decide +kernel
theorem dX11_keeps_132 : decode cX11_keeps 132 = .ok (.bipush 36, 2) := by decide +kernel
theorem dX11_keeps_134 : decode cX11_keeps 134 = .ok (.aload_n 0, 1) := by decide +kernel
theorem dX11_keeps_135 : decode cX11_keeps 135 = .ok (.getfield 254, 3) := by decide +kernel
theorem dX11_keeps_138 : decode cX11_keeps 138 = .ok (.imul, 1) := by decide +kernel
theorem dX11_keeps_139 : decode cX11_keeps 139 = .ok (.iload_n 1, 1) := by decide +kernel
theorem dX11_keeps_140 : decode cX11_keeps 140 = .ok (.iadd, 1) := by decide +kernel
theorem dX11_keeps_141 : decode cX11_keeps 141 = .ok (.aload_n 0, 1) := by decide +kernel
theorem dX11_keeps_142 : decode cX11_keeps 142 = .ok (.getfield 23, 3) := by decide +kernel
theorem dX11_keeps_145 : decode cX11_keeps 145 = .ok (.iload_n 1, 1) := by decide +kernel
theorem dX11_keeps_146 : decode cX11_keeps 146 = .ok (.iaload, 1) := by decide +kernel
theorem dX11_keeps_147 : decode cX11_keeps 147 = .ok (.iastore, 1) := by decide +kernel
theorem dX11_keeps_148 : decode cX11_keeps 148 = .ok (.iinc 1 1, 3) := by decide +kernel
theorem dX11_keeps_151 : decode cX11_keeps 151 = .ok (.goto (-29), 3) := by decide +kernel
theorem dX11_keeps_154 : decode cX11_keeps 154 = .ok (.aload_n 0, 1) := by decide +kernel
theorem dX11_keeps_155 : decode cX11_keeps 155 = .ok (.dup, 1) := by decide +kernel
theorem dX11_keeps_156 : decode cX11_keeps 156 = .ok (.getfield 254, 3) := by decide +kernel
theorem dX11_keeps_159 : decode cX11_keeps 159 = .ok (.iconst 1, 1) := by decide +kernel
theorem dX11_keeps_160 : decode cX11_keeps 160 = .ok (.iadd, 1) := by decide +kernel
theorem dX11_keeps_161 : decode cX11_keeps 161 = .ok (.putfield 254, 3) := by decide +kernel
theorem dX11_keeps_164 : decode cX11_keeps 164 = .ok (.return_, 1) := by decide +kernel
theorem dX11_putBack_0 : decode cX11_putBack 0 = .ok (.aload_n 0, 1) := by decide +kernel
theorem dX11_putBack_1 : decode cX11_putBack 1 = .ok (.aload_n 0, 1) := by decide +kernel
theorem dX11_putBack_2 : decode cX11_putBack 2 = .ok (.getfield 161, 3) := by decide +kernel
theorem dX11_putBack_5 : decode cX11_putBack 5 = .ok (.ifCond .eq 7, 3) := by decide +kernel
theorem dX11_putBack_8 : decode cX11_putBack 8 = .ok (.iconst 0, 1) := by decide +kernel
theorem dX11_putBack_9 : decode cX11_putBack 9 = .ok (.goto 4, 3) := by decide +kernel
theorem dX11_putBack_12 : decode cX11_putBack 12 = .ok (.iconst 1, 1) := by decide +kernel
theorem dX11_putBack_13 : decode cX11_putBack 13 = .ok (.putfield 87, 3) := by decide +kernel
theorem dX11_putBack_16 : decode cX11_putBack 16 = .ok (.aload_n 0, 1) := by decide +kernel
theorem dX11_putBack_17 : decode cX11_putBack 17 = .ok (.getfield 87, 3) := by decide +kernel
theorem dX11_putBack_20 : decode cX11_putBack 20 = .ok (.ifCond .ne 23, 3) := by decide +kernel
theorem dX11_putBack_23 : decode cX11_putBack 23 = .ok (.aload_n 0, 1) := by decide +kernel
theorem dX11_putBack_24 : decode cX11_putBack 24 = .ok (.invokevirtual 226, 3) := by decide +kernel
theorem dX11_putBack_27 : decode cX11_putBack 27 = .ok (.aload_n 0, 1) := by decide +kernel
theorem dX11_putBack_28 : decode cX11_putBack 28 = .ok (.aload_n 0, 1) := by decide +kernel
theorem dX11_putBack_29 : decode cX11_putBack 29 = .ok (.getfield 171, 3) := by decide +kernel
theorem dX11_putBack_32 : decode cX11_putBack 32 = .ok (.ifCond .le 7, 3) := by decide +kernel
theorem dX11_putBack_35 : decode cX11_putBack 35 = .ok (.iconst 1, 1) := by decide +kernel
theorem dX11_putBack_36 : decode cX11_putBack 36 = .ok (.goto 4, 3) := by decide +kernel
theorem dX11_putBack_39 : decode cX11_putBack 39 = .ok (.iconst 0, 1) := by decide +kernel
theorem dX11_putBack_40 : decode cX11_putBack 40 = .ok (.putfield 87, 3) := by decide +kernel
theorem dX11_putBack_43 : decode cX11_putBack 43 = .ok (.aload_n 0, 1) := by decide +kernel
theorem dX11_putBack_44 : decode cX11_putBack 44 = .ok (.getfield 87, 3) := by decide +kernel
theorem dX11_putBack_47 : decode cX11_putBack 47 = .ok (.ifCond .le 5, 3) := by decide +kernel
theorem dX11_putBack_50 : decode cX11_putBack 50 = .ok (.iconst 0, 1) := by decide +kernel
theorem dX11_putBack_51 : decode cX11_putBack 51 = .ok (.ireturn, 1) := by decide +kernel
theorem dX11_putBack_52 : decode cX11_putBack 52 = .ok (.aload_n 0, 1) := by decide +kernel
theorem dX11_putBack_53 : decode cX11_putBack 53 = .ok (.invokevirtual 229, 3) := by decide +kernel
theorem dX11_putBack_56 : decode cX11_putBack 56 = .ok (.istore_n 1, 1) := by decide +kernel
theorem dX11_putBack_57 : decode cX11_putBack 57 = .ok (.aload_n 0, 1) := by decide +kernel
theorem dX11_putBack_58 : decode cX11_putBack 58 = .ok (.invokevirtual 257, 3) := by decide +kernel
theorem dX11_putBack_61 : decode cX11_putBack 61 = .ok (.iconst 0, 1) := by decide +kernel
theorem dX11_putBack_62 : decode cX11_putBack 62 = .ok (.istore_n 2, 1) := by decide +kernel
theorem dX11_putBack_63 : decode cX11_putBack 63 = .ok (.iload_n 2, 1) := by decide +kernel
theorem dX11_putBack_64 : decode cX11_putBack 64 = .ok (.aload_n 0, 1) := by decide +kernel
theorem dX11_putBack_65 : decode cX11_putBack 65 = .ok (.getfield 103, 3) := by decide +kernel
theorem dX11_putBack_68 : decode cX11_putBack 68 = .ok (.if_icmp .ge 61, 3) := by decide +kernel
theorem dX11_putBack_71 : decode cX11_putBack 71 = .ok (.aload_n 0, 1) := by decide +kernel
theorem dX11_putBack_72 : decode cX11_putBack 72 = .ok (.getfield 20, 3) := by decide +kernel
theorem dX11_putBack_75 : decode cX11_putBack 75 = .ok (.iload_n 2, 1) := by decide +kernel
theorem dX11_putBack_76 : decode cX11_putBack 76 = .ok (.aload_n 0, 1) := by decide +kernel
theorem dX11_putBack_77 : decode cX11_putBack 77 = .ok (.getfield 69, 3) := by decide +kernel
theorem dX11_putBack_80 : decode cX11_putBack 80 = .ok (.iload_n 2, 1) := by decide +kernel
theorem dX11_putBack_81 : decode cX11_putBack 81 = .ok (.iaload, 1) := by decide +kernel
theorem dX11_putBack_82 : decode cX11_putBack 82 = .ok (.iastore, 1) := by decide +kernel
theorem dX11_putBack_83 : decode cX11_putBack 83 = .ok (.iconst 0, 1) := by decide +kernel
theorem dX11_putBack_84 : decode cX11_putBack 84 = .ok (.istore_n 3, 1) := by decide +kernel
theorem dX11_putBack_85 : decode cX11_putBack 85 = .ok (.iload_n 3, 1) := by decide +kernel
theorem dX11_putBack_86 : decode cX11_putBack 86 = .ok (.aload_n 0, 1) := by decide +kernel
theorem dX11_putBack_87 : decode cX11_putBack 87 = .ok (.getfield 20, 3) := by decide +kernel
theorem dX11_putBack_90 : decode cX11_putBack 90 = .ok (.iload_n 2, 1) := by decide +kernel
theorem dX11_putBack_91 : decode cX11_putBack 91 = .ok (.iaload, 1) := by decide +kernel
theorem dX11_putBack_92 : decode cX11_putBack 92 = .ok (.if_icmp .ge 31, 3) := by decide +kernel
theorem dX11_putBack_95 : decode cX11_putBack 95 = .ok (.aload_n 0, 1) := by decide +kernel
theorem dX11_putBack_96 : decode cX11_putBack 96 = .ok (.getfield 23, 3) := by decide +kernel
theorem dX11_putBack_99 : decode cX11_putBack 99 = .ok (.bipush 12, 2) := by decide +kernel
theorem dX11_putBack_101 : decode cX11_putBack 101 = .ok (.iload_n 2, 1) := by decide +kernel
theorem dX11_putBack_102 : decode cX11_putBack 102 = .ok (.imul, 1) := by decide +kernel
theorem dX11_putBack_103 : decode cX11_putBack 103 = .ok (.iload_n 3, 1) := by decide +kernel
theorem dX11_putBack_104 : decode cX11_putBack 104 = .ok (.iadd, 1) := by decide +kernel
theorem dX11_putBack_105 : decode cX11_putBack 105 = .ok (.aload_n 0, 1) := by decide +kernel
theorem dX11_putBack_106 : decode cX11_putBack 106 = .ok (.getfield 72, 3) := by decide +kernel
theorem dX11_putBack_109 : decode cX11_putBack 109 = .ok (.bipush 12, 2) := by decide +kernel
theorem dX11_putBack_111 : decode cX11_putBack 111 = .ok (.iload_n 2, 1) := by decide +kernel
theorem dX11_putBack_112 : decode cX11_putBack 112 = .ok (.imul, 1) := by decide +kernel
theorem dX11_putBack_113 : decode cX11_putBack 113 = .ok (.iload_n 3, 1) := by decide +kernel
theorem dX11_putBack_114 : decode cX11_putBack 114 = .ok (.iadd, 1) := by decide +kernel
theorem dX11_putBack_115 : decode cX11_putBack 115 = .ok (.iaload, 1) := by decide +kernel
theorem dX11_putBack_116 : decode cX11_putBack 116 = .ok (.iastore, 1) := by decide +kernel
theorem dX11_putBack_117 : decode cX11_putBack 117 = .ok (.iinc 3 1, 3) := by decide +kernel
theorem dX11_putBack_120 : decode cX11_putBack 120 = .ok (.goto (-35), 3) := by decide +kernel
theorem dX11_putBack_123 : decode cX11_putBack 123 = .ok (.iinc 2 1, 3) := by decide +kernel
theorem dX11_putBack_126 : decode cX11_putBack 126 = .ok (.goto (-63), 3) := by decide +kernel
theorem dX11_putBack_129 : decode cX11_putBack 129 = .ok (.aload_n 0, 1) := by decide +kernel
theorem dX11_putBack_130 : decode cX11_putBack 130 = .ok (.iconst 0, 1) := by decide +kernel
theorem dX11_putBack_131 : decode cX11_putBack 131 = .ok (.putfield 161, 3) := by decide +kernel
theorem dX11_putBack_134 : decode cX11_putBack 134 = .ok (.iload_n 1, 1) := by decide +kernel
theorem dX11_putBack_135 : decode cX11_putBack 135 = .ok (.ireturn, 1) := by decide +kernel
theorem dX11_undo_0 : decode cX11_undo 0 = .ok (.aload_n 0, 1) := by decide +kernel
theorem dX11_undo_1 : decode cX11_undo 1 = .ok (.aload_n 0, 1) := by decide +kernel
theorem dX11_undo_2 : decode cX11_undo 2 = .ok (.getfield 254, 3) := by decide +kernel
theorem dX11_undo_5 : decode cX11_undo 5 = .ok (.ifCond .ne 7, 3) := by decide +kernel
theorem dX11_undo_8 : decode cX11_undo 8 = .ok (.iconst 1, 1) := by decide +kernel
theorem dX11_undo_9 : decode cX11_undo 9 = .ok (.goto 4, 3) := by decide +kernel
theorem dX11_undo_12 : decode cX11_undo 12 = .ok (.iconst 0, 1) := by decide +kernel
theorem dX11_undo_13 : decode cX11_undo 13 = .ok (.putfield 87, 3) := by decide +kernel
theorem dX11_undo_16 : decode cX11_undo 16 = .ok (.aload_n 0, 1) := by decide +kernel
theorem dX11_undo_17 : decode cX11_undo 17 = .ok (.getfield 87, 3) := by decide +kernel
theorem dX11_undo_20 : decode cX11_undo 20 = .ok (.ifCond .le 5, 3) := by decide +kernel
theorem dX11_undo_23 : decode cX11_undo 23 = .ok (.iconst 0, 1) := by decide +kernel
theorem dX11_undo_24 : decode cX11_undo 24 = .ok (.ireturn, 1) := by decide +kernel
theorem dX11_undo_25 : decode cX11_undo 25 = .ok (.aload_n 0, 1) := by decide +kernel
theorem dX11_undo_26 : decode cX11_undo 26 = .ok (.dup, 1) := by decide +kernel
theorem dX11_undo_27 : decode cX11_undo 27 = .ok (.getfield 254, 3) := by decide +kernel
theorem dX11_undo_30 : decode cX11_undo 30 = .ok (.iconst 1, 1) := by decide +kernel
theorem dX11_undo_31 : decode cX11_undo 31 = .ok (.isub, 1) := by decide +kernel
theorem dX11_undo_32 : decode cX11_undo 32 = .ok (.putfield 254, 3) := by decide +kernel
theorem dX11_undo_35 : decode cX11_undo 35 = .ok (.iconst 0, 1) := by decide +kernel
theorem dX11_undo_36 : decode cX11_undo 36 = .ok (.istore_n 1, 1) := by decide +kernel
theorem dX11_undo_37 : decode cX11_undo 37 = .ok (.iload_n 1, 1) := by decide +kernel
theorem dX11_undo_38 : decode cX11_undo 38 = .ok (.aload_n 0, 1) := by decide +kernel
theorem dX11_undo_39 : decode cX11_undo 39 = .ok (.getfield 103, 3) := by decide +kernel
theorem dX11_undo_42 : decode cX11_undo 42 = .ok (.if_icmp .ge 28, 3) := by decide +kernel
theorem dX11_undo_45 : decode cX11_undo 45 = .ok (.aload_n 0, 1) := by decide +kernel
theorem dX11_undo_46 : decode cX11_undo 46 = .ok (.getfield 20, 3) := by decide +kernel
theorem dX11_undo_49 : decode cX11_undo 49 = .ok (.iload_n 1, 1) := by decide +kernel
theorem dX11_undo_50 : decode cX11_undo 50 = .ok (.aload_n 0, 1) := by decide +kernel
theorem dX11_undo_51 : decode cX11_undo 51 = .ok (.getfield 78, 3) := by decide +kernel
theorem dX11_undo_54 : decode cX11_undo 54 = .ok (.iconst 3, 1) := by decide +kernel
theorem dX11_undo_55 : decode cX11_undo 55 = .ok (.aload_n 0, 1) := by decide +kernel
theorem dX11_undo_56 : decode cX11_undo 56 = .ok (.getfield 254, 3) := by decide +kernel
theorem dX11_undo_59 : decode cX11_undo 59 = .ok (.imul, 1) := by decide +kernel
theorem dX11_undo_60 : decode cX11_undo 60 = .ok (.iload_n 1, 1) := by decide +kernel
theorem dX11_undo_61 : decode cX11_undo 61 = .ok (.iadd, 1) := by decide +kernel
theorem dX11_undo_62 : decode cX11_undo 62 = .ok (.iaload, 1) := by decide +kernel
theorem dX11_undo_63 : decode cX11_undo 63 = .ok (.iastore, 1) := by decide +kernel
theorem dX11_undo_64 : decode cX11_undo 64 = .ok (.iinc 1 1, 3) := by decide +kernel
theorem dX11_undo_67 : decode cX11_undo 67 = .ok (.goto (-30), 3) := by decide +kernel
theorem dX11_undo_70 : decode cX11_undo 70 = .ok (.iconst 0, 1) := by decide +kernel
theorem dX11_undo_71 : decode cX11_undo 71 = .ok (.istore_n 1, 1) := by decide +kernel
theorem dX11_undo_72 : decode cX11_undo 72 = .ok (.iload_n 1, 1) := by decide +kernel
theorem dX11_undo_73 : decode cX11_undo 73 = .ok (.bipush 36, 2) := by decide +kernel
theorem dX11_undo_75 : decode cX11_undo 75 = .ok (.if_icmp .ge 29, 3) := by decide +kernel
theorem dX11_undo_78 : decode cX11_undo 78 = .ok (.aload_n 0, 1) := by decide +kernel
theorem dX11_undo_79 : decode cX11_undo 79 = .ok (.getfield 23, 3) := by decide +kernel
theorem dX11_undo_82 : decode cX11_undo 82 = .ok (.iload_n 1, 1) := by decide +kernel
theorem dX11_undo_83 : decode cX11_undo 83 = .ok (.aload_n 0, 1) := by decide +kernel
theorem dX11_undo_84 : decode cX11_undo 84 = .ok (.getfield 81, 3) := by decide +kernel
theorem dX11_undo_87 : decode cX11_undo 87 = .ok (.bipush 36, 2) := by decide +kernel
theorem dX11_undo_89 : decode cX11_undo 89 = .ok (.aload_n 0, 1) := by decide +kernel
theorem dX11_undo_90 : decode cX11_undo 90 = .ok (.getfield 254, 3) := by decide +kernel
theorem dX11_undo_93 : decode cX11_undo 93 = .ok (.imul, 1) := by decide +kernel
theorem dX11_undo_94 : decode cX11_undo 94 = .ok (.iload_n 1, 1) := by decide +kernel
theorem dX11_undo_95 : decode cX11_undo 95 = .ok (.iadd, 1) := by decide +kernel
theorem dX11_undo_96 : decode cX11_undo 96 = .ok (.iaload, 1) := by decide +kernel
theorem dX11_undo_97 : decode cX11_undo 97 = .ok (.iastore, 1) := by decide +kernel
theorem dX11_undo_98 : decode cX11_undo 98 = .ok (.iinc 1 1, 3) := by decide +kernel
theorem dX11_undo_101 : decode cX11_undo 101 = .ok (.goto (-29), 3) := by decide +kernel
theorem dX11_undo_104 : decode cX11_undo 104 = .ok (.aload_n 0, 1) := by decide +kernel
theorem dX11_undo_105 : decode cX11_undo 105 = .ok (.getfield 254, 3) := by decide +kernel
theorem dX11_undo_108 : decode cX11_undo 108 = .ok (.ireturn, 1) := by decide +kernel
end
section
/-! ===== the pure texts' words: what a method's bytecode does, as a function that may fail ===== -/
abbrev St : Type := (Nat → Int32) × (Nat → Nat → Int32)
def w1 (S : St) (k : Nat) (v : Int32) : St := (upd S.1 k v, S.2)
def w2 (S : St) (k i : Nat) (v : Int32) : St := (S.1, fun j => if j = k then upd (S.2 k) i v else S.2 j)
def rd {β : Type} (i : Int32) (n : Nat) (k : Nat → Option β) : Option β := if i < 0 ∨ n ≤ i.toNatClampNeg then none else k i.toNatClampNeg
def dv {β : Type} (d : Int32) (k : Option β) : Option β := if d = 0 then none else k
def gd {β : Type} (c : Prop) [Decidable c] (k : Option β) : Option β := if c then k else none
def cb {α β : Type} (x : Option α) (k : α → Option β) : Option β := x.bind k
def cb2 {α σ β : Type} (x : Option (α × σ)) (k : α → σ → Option β) : Option β := x.bind fun q => k q.1 q.2
def lt {α β : Type} (x : α) (k : α → Option β) : Option β := k x
def jn {K β : Type} (k : K) (b : K → Option β) : Option β := b k
def lp {K : Type} (bot : K) (F : K → K) : Nat → K
  | 0 => bot
  | n + 1 => F (lp bot F n)
def FU : Nat := 1000
theorem cb_e {α β : Type} {x : Option α} {k : α → Option β} {r : β} (h : cb x k = some r) : ∃ z, x = some z ∧ k z = some r := by
  cases x with
  | none => cases h
  | some z => exact ⟨z, rfl, h⟩
theorem cb2_e {α σ β : Type} {x : Option (α × σ)} {k : α → σ → Option β} {r : β} (h : cb2 x k = some r) : ∃ z S, x = some (z, S) ∧ k z S = some r := by
  cases x with
  | none => cases h
  | some z => exact ⟨z.1, z.2, rfl, h⟩
theorem rd_e {β : Type} {i : Int32} {n : Nat} {k : Nat → Option β} {r : β} (h : rd i n k = some r) : vp_in i n ∧ ∃ j, i.toNatClampNeg = j ∧ k j = some r := by
  unfold rd at h
  split at h
  · cases h
  · rename_i q
    exact ⟨q, _, rfl, h⟩
theorem dv_e {β : Type} {d : Int32} {k : Option β} {r : β} (h : dv d k = some r) : ¬ d = 0 ∧ k = some r := by
  unfold dv at h
  split at h
  · cases h
  · rename_i q
    exact ⟨q, h⟩
theorem gd_e {β : Type} {c : Prop} {dc : Decidable c} {k : Option β} {r : β} (h : gd c k = some r) : c ∧ k = some r := by
  unfold gd at h
  split at h
  · rename_i q
    exact ⟨q, h⟩
  · cases h
theorem lt_e {α β : Type} {x : α} {k : α → Option β} {r : β} (h : lt x k = some r) : ∃ z, z = x ∧ k z = some r := ⟨x, rfl, h⟩
theorem it_t {β : Type} {c : Prop} {dc : Decidable c} {a b : Option β} {r : β} (hc : c) (h : (if c then a else b) = some r) : a = some r := (if_pos hc).symm.trans h
theorem it_f {β : Type} {c : Prop} {dc : Decidable c} {a b : Option β} {r : β} (hc : ¬ c) (h : (if c then a else b) = some r) : b = some r := (if_neg hc).symm.trans h
/-! ===== worlds as lists of codes: cell of code c lies at address ad c ===== -/
abbrev wl {α : Type} (L : List α) (ad : α → Nat) (ce : α → va_E) : va_W := L.map (fun c => (ad c, ce c))
def HP {α : Type} (D : va_G) (A : Nat → Prop) (L : List α) (ad : α → Nat) (ce : α → va_E) (H : Heap) : Prop := va_P D vwCl (wl L ad ce) H ∧ va_D A (wl L ad ce)
theorem wl_at {α : Type} {L : List α} {ad : α → Nat} {ce : α → va_E} {k : Nat} {c : α} (h : L[k]? = some c) : (wl L ad ce)[k]? = some (ad c, ce c) := by
  rw [List.getElem?_map, h]; rfl
theorem wl_get {α : Type} {L : List α} {ad : α → Nat} {ce : α → va_E} {c : α} (h : c ∈ L) : ∃ k : Nat, L[k]? = some c ∧ (wl L ad ce)[k]? = some (ad c, ce c) := by
  obtain ⟨k, hk⟩ := List.getElem?_of_mem h
  exact ⟨k, hk, wl_at hk⟩
theorem wl_set {α : Type} [DecidableEq α] {A : Nat → Prop} {L : List α} {ad : α → Nat} {ce : α → va_E} {c : α} {k : Nat} {e : va_E} (hD : va_D A (wl L ad ce)) (hk : L[k]? = some c) : (wl L ad ce).set k (ad c, e) = wl L ad (fun d => if d = c then e else ce d) := by
  apply List.ext_getElem?
  intro j
  by_cases hj : j = k
  · subst hj
    have hl : j < L.length := (List.getElem?_eq_some_iff.mp hk).1
    rw [List.getElem?_set_self (by rw [List.length_map]; exact hl), wl_at hk, if_pos rfl]
  · rw [List.getElem?_set_ne (Ne.symm hj), List.getElem?_map, List.getElem?_map]
    cases hd : L[j]? with
    | none => rfl
    | some d =>
      have hdc : d ≠ c := by
        intro q
        subst q
        exact hj (hD.1 j k _ _ (wl_at hd) (wl_at hk) rfl)
      simp [hdc]
theorem wl_cong {α : Type} {L : List α} {ad : α → Nat} {ce ce' : α → va_E} (h : ∀ c, c ∈ L → ce c = ce' c) : wl L ad ce = wl L ad ce' := List.map_congr_left (fun c hc => by rw [h c hc])
theorem HP.cong {α : Type} {D : va_G} {A : Nat → Prop} {L : List α} {ad : α → Nat} {ce ce' : α → va_E} {H : Heap} (h : HP D A L ad ce H) (he : ∀ c, c ∈ L → ce c = ce' c) : HP D A L ad ce' H := by
  unfold HP at h ⊢
  rw [← wl_cong he]
  exact h
/-! ===== contracts: from the picture X to the picture X', answering rv ===== -/
def RM (h mc ms : Nat) : Room := { frames := h, cells := mc, slots := ms, locals := 40 * h }
abbrev tysA (cA : Nat → ClassId) : List (ClassId × FieldType) := [(cA 0, .int), (cA 1, .boolean), (cA 2, .long), (cA 3, .object "Lensbench$Table"), (cA 4, .object "Lensbench$View"), (cA 5, .object "Lensbench$Rows")]
def CtP (D : va_G) (cA : Nat → ClassId) (av : List Value) (X : Heap → Prop) : Array Value → State → Prop := fun v U => v = av.toArray ∧ X U.heap ∧ va_K D vwCl (tysA cA) U
def CtQ (A : Nat → Prop) (rv : Option Value) (X' : Heap → Prop) : Array Value → State → Outcome → State → Prop := fun _ st oc t => (oc = .returned rv ∧ X' t.heap) ∧ va_F A st t
def Ct (l : Launch) (D : va_G) (cA : Nat → ClassId) (A : Nat → Prop) (y : MethodName) (cc : ByteArray) (maxL : Nat) (ret : Option FieldType) (h mc ms : Nat) (av : List Value) (X : Heap → Prop) (rv : Option Value) (X' : Heap → Prop) : Prop :=
  Met l y (Cond.code y cc maxL ret :: ALL) (RM h mc ms) (CtP D cA av X) (CtQ A rv X') mc ms A
theorem CtP_blind {D : va_G} {cA : Nat → ClassId} {av : List Value} {X : Heap → Prop} : FrameBlind (CtP D cA av X) := fun a U g mk q => by
  obtain ⟨q0, qX, qK⟩ := q
  exact ⟨q0, qX, va_K.moved (u := U) (U := U.calling g mk a) (Vm.Alike.refl U.vm) qK⟩
theorem Ct_of {l : Launch} {D : va_G} {cA : Nat → ClassId} {A : Nat → Prop} {y : MethodName} {cc : ByteArray} {maxL : Nat} {ret : Option FieldType} {h mc ms : Nat} {av : List Value} {X : Heap → Prop} {rv : Option Value} {X' : Heap → Prop}
    (hy : plainName y.cls = true) (hn : (lg_sl av).length ≤ maxL)
    (body : ∀ (p : Program) (e : Env) (s : State) (m : MethodId) (args : Array Value) (below : List Frame) (meth : Method) (c : Code) (ls : Array Slot), CallFix p m c cc maxL s args (Cond.code y cc maxL ret :: ALL) y.cls → meth.sig.returnType = ret → meth.locks = false → meth.name = y.name → X s.heap → va_K D vwCl (tysA cA) s → lv_has ls maxL (lv_args 0 av) →
      W p l e (RM h mc ms) s m args below meth c s.heap [] 0 0 (MQ below (CtQ A rv X') args s mc ms A) (F0 m 0 ls [])) : Ct l D cA A y cc maxL ret h mc ms av X rv X' := by
  refine Met.ofW (cc := cc) (maxL := maxL) (ret := ret) hy rfl ?_
  intro p e s m args below meth c s₁ B hml hv
  obtain ⟨rfl, hX, hK⟩ := hv
  have hts := atoms_spec (ws := Cond.code y cc maxL ret :: ALL) B.pre
  have hown : s.vm.findClass y.cls = some m.cls := findClass_of_methodNamed B.named
  have hl := lv_entry av (n := maxL) hn
  rw [lg_entry_eq]
  exact body p e s m _ below meth c _ ⟨B.exec, B.bytes, hml, hown, hts⟩ B.returns B.notSynchronized (name_of_methodNamed B.named B.method).1 hX hK hl
section CTR
variable {p : Program} {l : Launch} {e : Env} {R : Room} {s : State} {m : MethodId} {args : Array Value} {below : List Frame} {meth : Method} {c : Code} {H : Heap} {locs : List Loc} {cells slots : Nat} {Q : State → Prop}
variable {cc : ByteArray} {pc : Nat} {ls : Array Slot} {D : va_G} {cA : Nat → ClassId} {A : Nat → Prop} {X' : Heap → Prop}
theorem Ct_ri {v : Int32} (hx : p.tables.exec = Jvm.exec) (hb : c.code = cc) (hr : meth.sig.returnType = some .int) (hlocks : meth.locks = false) (hX : X' H) (hS : va_S A s.heap H locs) (hdg : decode cc pc = .ok (.ireturn, 1)) :
    W p l e R s m args below meth c H locs cells slots (MQ below (CtQ A (some (.int v)) X') args s cells slots A) (F0 m pc ls [.int v]) :=
  W.iret hx hb hr (fun t ht _ => ⟨⟨rfl, by rw [ht]; exact hX⟩, hS.F ht⟩) hS.2.2 hdg hlocks
theorem Ct_rz {v : Int32} (hx : p.tables.exec = Jvm.exec) (hb : c.code = cc) (hr : meth.sig.returnType = some .boolean) (hlocks : meth.locks = false) (hv : narrow .boolean (.int v) = .int v) (hX : X' H) (hS : va_S A s.heap H locs) (hdg : decode cc pc = .ok (.ireturn, 1)) :
    W p l e R s m args below meth c H locs cells slots (MQ below (CtQ A (some (.int v)) X') args s cells slots A) (F0 m pc ls [.int v]) :=
  W.zret hx hb hr hv (fun t ht _ => ⟨⟨rfl, by rw [ht]; exact hX⟩, hS.F ht⟩) hS.2.2 hdg hlocks
theorem Ct_rv (hx : p.tables.exec = Jvm.exec) (hb : c.code = cc) (hr : meth.sig.returnType = none) (hlocks : meth.locks = false) (hX : X' H) (hS : va_S A s.heap H locs) (hdg : decode cc pc = .ok (.return_, 1)) :
    W p l e R s m args below meth c H locs cells slots (MQ below (CtQ A none X') args s cells slots A) (F0 m pc ls []) :=
  W.vret hx hb hr (fun t ht _ => ⟨⟨rfl, by rw [ht]; exact hX⟩, hS.F ht⟩) hS.2.2 hdg hlocks
theorem Ct_ra {o : Option Nat} {C : String} (hx : p.tables.exec = Jvm.exec) (hb : c.code = cc) (hr : meth.sig.returnType = some (.object C)) (hlocks : meth.locks = false) (hX : X' H) (hS : va_S A s.heap H locs) (hdg : decode cc pc = .ok (.areturn, 1)) :
    W p l e R s m args below meth c H locs cells slots (MQ below (CtQ A (some (va_rf o)) X') args s cells slots A) (F0 m pc ls [va_rf o]) :=
  W.aret hx hb hr (Or.inl ⟨C, rfl⟩) (by cases o with | none => exact Or.inl rfl | some a => exact Or.inr ⟨a, rfl⟩) (fun t ht _ => ⟨⟨rfl, by rw [ht]; exact hX⟩, hS.F ht⟩) hS.2.2 hdg hlocks
theorem nz0 : narrow .boolean (.int 0) = .int 0 := by decide +kernel
theorem nz1 : narrow .boolean (.int 1) = .int 1 := by decide +kernel
theorem nz01 {v : Int32} (h : v = 0 ∨ v = 1) : narrow .boolean (.int v) = .int v := by
  rcases h with rfl | rfl
  · exact nz0
  · exact nz1
/-- behind a call -/
theorem Ct_go {mc ms : Nat} {rest st0 : List Value} {rv : Option Value} {a : Array Value} {A1 A0 : Nat → Prop} {H0 : Heap} (hr : va_Run p l e R s m args below meth c H locs cells slots mc ms (F0 m pc ls st0) rest (CtQ A1 rv X' a) A1) (hS : va_S A0 H0 H locs) (hA : ∀ q, A1 q → A0 q)
    (kk : ∀ (H1 : Heap) (locs1 : List Loc), X' H1 → H.size ≤ H1.size → (∀ q : Nat, q < H.size → ¬ A1 q → H1[q]? = H[q]?) → va_S A0 H0 H1 locs1 → W p l e R s m args below meth c H1 locs1 (cells + mc) (slots + ms) Q (F0 m (pc + 3) ls (rv.toList ++ rest))) : W p l e R s m args below meth c H locs cells slots Q (F0 m pc ls st0) := by
  intro T hT Y
  obtain ⟨v, st₀, t, T', L, h0, Y', hL, e1, e2, ⟨⟨hv, hb⟩, hz, hk⟩, st⟩ := hr T hT Y
  cases hv
  rw [h0] at hz hk
  obtain ⟨t2, a1, b1⟩ := kk T'.heap (locs ++ L) (by rw [e1]; exact hb) (by rw [e1]; exact hz) (fun q h1 h2 => by rw [e1]; exact hk q h1 h2)
    ⟨Nat.le_trans hS.1 (by rw [e1]; exact hz), fun q h1 h2 => by rw [e1, hk q (Nat.lt_of_lt_of_le h1 hS.1) (fun z => h2 (hA q z))]; exact hS.2.1 q h1 h2, fun q hq => by
      rcases List.mem_append.mp hq with h | h
      · exact hS.2.2 q h
      · exact hA _ (hL q h)⟩ T' rfl Y'
  exact ⟨t2, st t2 a1, b1⟩
end CTR
/-! ===== calls ===== -/
theorem ALL_pay {s : State} {args : Array Value} {w0 w1 : Cond} (ht : ∀ w ∈ w0 :: ALL, w.before args s = true) (h1 : w1 ∈ ALL) : ∀ w ∈ w1 :: ALL, ∀ (a' : Array Value) (U : State), s.WarmedH U.vm → w.before a' U = true :=
  pay_in (big := w0 :: ALL) ht (fun w hw => by
    have hA : w ∈ ALL := (List.mem_cons.mp hw).elim (fun q => by rw [q]; exact h1) id
    exact ⟨List.mem_cons_of_mem _ hA, good_of_word (ALL_good w hA)⟩)
theorem tA {s : State} {args : Array Value} {w0 w : Cond} (ht : ∀ w ∈ w0 :: ALL, w.before args s = true) (h : w ∈ ALL) : w.before args s = true := ht w (List.mem_cons_of_mem _ h)
theorem tU {C : String} {T : u_T} {N : Nat} {w0 : Cond} (h : ∀ w ∈ u_ws C T N, w ∈ ALL) : ∀ w ∈ u_ws C T N, w ∈ w0 :: ALL := fun w hw => List.mem_cons_of_mem _ (h w hw)
section CTC
variable {p : Program} {l : Launch} {e : Env} {h0 mc0 ms0 : Nat} {s : State} {m : MethodId} {args : Array Value} {below : List Frame} {meth : Method} {c : Code} {H : Heap} {locs : List Loc} {cells slots : Nat} {Q : State → Prop}
variable {cc bytes : ByteArray} {pc nL maxL index n h mc ms : Nat} {ls : Array Slot} {D : va_G} {cA : Nat → ClassId} {A A0 : Nat → Prop} {X X' : Heap → Prop} {H0 : Heap} {own C : String} {w0 : Cond} {y : MethodName} {ret : Option FieldType} {rv : Option Value} {As rest : List Value} {b : Addr}
/-- what a call asks of words and room -/
theorem mkB (hC : CallFix p m c cc nL s args (w0 :: ALL) own) (hcode : Cond.code y bytes maxL ret ∈ ALL) (hini : Cond.initialized y.cls ∈ ALL) (hlink : Cond.methodLink own index y ∈ ALL)
    (hd : y.cls ≠ "java/lang/invoke/MethodHandle" ∧ y.cls ≠ "java/lang/invoke/VarHandle" ∧ (parseMethodDescriptor y.desc).map (fun d => d.parameters.length) = some n) (hR : h + 1 ≤ h0 ∧ maxL ≤ 21) :
    CallB (RM h0 mc0 ms0) s args own index y bytes maxL ret (Cond.code y bytes maxL ret :: ALL) (RM h mc ms) mc ms n := by
  refine ⟨rfl, rfl, hR.1, ?_, ALL_pay hC.2.2.2.2 hcode, List.mem_cons_self, tA hC.2.2.2.2 hcode, tA hC.2.2.2.2 hini, ⟨hd.1, hd.2.1⟩, fun sig q => ?_, tA hC.2.2.2.2 hlink⟩
  · show 8 + (maxL + 11) + 40 * h ≤ 40 * h0
    omega
  · have h2 := hd.2.2
    rw [q] at h2
    exact (Option.some.inj h2).symm
theorem Ct_V (hC : CallFix p m c cc nL s args (w0 :: ALL) own) (hM : Ct l D cA A y bytes maxL ret h mc ms (.ref b :: As) X rv X') (hcode : Cond.code y bytes maxL ret ∈ ALL) (hini : Cond.initialized y.cls ∈ ALL) (hlink : Cond.methodLink own index y ∈ ALL) (hinst : Cond.instanceMethod y ∈ ALL) (hsel : Cond.selects C y y ∈ ALL)
    (hd : y.cls ≠ "java/lang/invoke/MethodHandle" ∧ y.cls ≠ "java/lang/invoke/VarHandle" ∧ (parseMethodDescriptor y.desc).map (fun d => d.parameters.length) = some n) (hR : h + 1 ≤ h0 ∧ maxL ≤ 21)
    (hrec : ∃ cellB : Cell, H[b]? = some cellB ∧ cellB.vm.isStatics = false ∧ s.vm.findClass C = some cellB.cls) (hX : X H) (hK : va_K D vwCl (tysA cA) s) (hn : As.length = n) (hl : ls.size = nL) (hrest : (rest.map fun v => v.category).sum ≤ 8) (hdg : decode cc pc = .ok (.invokevirtual index, 3)) (hf : cells + mc ≤ mc0 ∧ slots + ms ≤ ms0) (hS : va_S A0 H0 H locs) (hA : ∀ q, A q → A0 q)
    (kk : ∀ (H1 : Heap) (locs1 : List Loc), X' H1 → H.size ≤ H1.size → (∀ q : Nat, q < H.size → ¬ A q → H1[q]? = H[q]?) → va_S A0 H0 H1 locs1 → W p l e (RM h0 mc0 ms0) s m args below meth c H1 locs1 (cells + mc) (slots + ms) Q (F0 m (pc + 3) ls (rv.toList ++ rest))) :
    W p l e (RM h0 mc0 ms0) s m args below meth c H locs cells slots Q (F0 m pc ls (As.reverse ++ .ref b :: rest)) :=
  Ct_go (va_runV hC hM ⟨mkB hC hcode hini hlink hd hR, tA hC.2.2.2.2 hinst, tA hC.2.2.2.2 hsel⟩ ⟨CtP_blind, hrec, fun U hU hW => ⟨rfl, by rw [hU]; exact hX, va_K.moved hW.alike hK⟩⟩ rfl hn hl rfl (lv_room hrest) hdg hf) hS hA kk
theorem Ct_S (hC : CallFix p m c cc nL s args (w0 :: ALL) own) (hM : Ct l D cA A y bytes maxL ret h mc ms As X rv X') (hcode : Cond.code y bytes maxL ret ∈ ALL) (hini : Cond.initialized y.cls ∈ ALL) (hlink : Cond.methodLink own index y ∈ ALL) (hstat : Cond.static y ∈ ALL)
    (hd : y.cls ≠ "java/lang/invoke/MethodHandle" ∧ y.cls ≠ "java/lang/invoke/VarHandle" ∧ (parseMethodDescriptor y.desc).map (fun d => d.parameters.length) = some n) (hR : h + 1 ≤ h0 ∧ maxL ≤ 21)
    (hX : X H) (hK : va_K D vwCl (tysA cA) s) (hn : As.length = n) (hl : ls.size = nL) (hrest : (rest.map fun v => v.category).sum ≤ 8) (hdg : decode cc pc = .ok (.invokestatic index, 3)) (hf : cells + mc ≤ mc0 ∧ slots + ms ≤ ms0) (hS : va_S A0 H0 H locs) (hA : ∀ q, A q → A0 q)
    (kk : ∀ (H1 : Heap) (locs1 : List Loc), X' H1 → H.size ≤ H1.size → (∀ q : Nat, q < H.size → ¬ A q → H1[q]? = H[q]?) → va_S A0 H0 H1 locs1 → W p l e (RM h0 mc0 ms0) s m args below meth c H1 locs1 (cells + mc) (slots + ms) Q (F0 m (pc + 3) ls (rv.toList ++ rest))) :
    W p l e (RM h0 mc0 ms0) s m args below meth c H locs cells slots Q (F0 m pc ls (As.reverse ++ rest)) :=
  Ct_go (va_runS hC hM ⟨mkB hC hcode hini hlink hd hR, tA hC.2.2.2.2 hstat⟩ ⟨CtP_blind, fun U hU hW => ⟨rfl, by rw [hU]; exact hX, va_K.moved hW.alike hK⟩⟩ rfl hn hl rfl (lv_room hrest) hdg hf) hS hA kk
end CTC
end
section
theorem lt_at {α β : Type} {x z : α} {k : α → Option β} {r : β} (e : z = x) (h : lt x k = some r) : k z = some r := by rw [e]; exact h
theorem jn0_e {β : Type} {k : Option β} {b : Option β → Option β} {r : β} (h : jn k b = some r) : ∃ k2 : Option β, k2 = k ∧ b k2 = some r := ⟨k, rfl, h⟩
theorem jn1_e {A0 β : Type} {k : A0 → Option β} {b : (A0 → Option β) → Option β} {r : β} (h : jn k b = some r) : ∃ k2 : A0 → Option β, (∀ (a0 : A0), k2 a0 = k a0) ∧ b k2 = some r := ⟨k, fun _ => rfl, h⟩
theorem lp1_e {A0 β : Type} {F : (A0 → Option β) → A0 → Option β} {r : β} {a0 : A0} {N : Nat} (h : lp (fun _ => none) F N a0 = some r) : ∃ g : Nat → A0 → Option β, (∀ (a0 : A0), g 0 a0 = none) ∧ (∀ (n : Nat) (a0 : A0), g (n + 1) a0 = F (g n) a0) ∧ g N a0 = some r := ⟨lp (fun _ => none) F, fun _ => rfl, fun _ _ => rfl, h⟩
theorem jn2_e {A0 A1 β : Type} {k : A0 → A1 → Option β} {b : (A0 → A1 → Option β) → Option β} {r : β} (h : jn k b = some r) : ∃ k2 : A0 → A1 → Option β, (∀ (a0 : A0) (a1 : A1), k2 a0 a1 = k a0 a1) ∧ b k2 = some r := ⟨k, fun _ _ => rfl, h⟩
theorem lp2_e {A0 A1 β : Type} {F : (A0 → A1 → Option β) → A0 → A1 → Option β} {r : β} {a0 : A0} {a1 : A1} {N : Nat} (h : lp (fun _ _ => none) F N a0 a1 = some r) : ∃ g : Nat → A0 → A1 → Option β, (∀ (a0 : A0) (a1 : A1), g 0 a0 a1 = none) ∧ (∀ (n : Nat) (a0 : A0) (a1 : A1), g (n + 1) a0 a1 = F (g n) a0 a1) ∧ g N a0 a1 = some r := ⟨lp (fun _ _ => none) F, fun _ _ => rfl, fun _ _ _ => rfl, h⟩
theorem jn3_e {A0 A1 A2 β : Type} {k : A0 → A1 → A2 → Option β} {b : (A0 → A1 → A2 → Option β) → Option β} {r : β} (h : jn k b = some r) : ∃ k2 : A0 → A1 → A2 → Option β, (∀ (a0 : A0) (a1 : A1) (a2 : A2), k2 a0 a1 a2 = k a0 a1 a2) ∧ b k2 = some r := ⟨k, fun _ _ _ => rfl, h⟩
theorem lp3_e {A0 A1 A2 β : Type} {F : (A0 → A1 → A2 → Option β) → A0 → A1 → A2 → Option β} {r : β} {a0 : A0} {a1 : A1} {a2 : A2} {N : Nat} (h : lp (fun _ _ _ => none) F N a0 a1 a2 = some r) : ∃ g : Nat → A0 → A1 → A2 → Option β, (∀ (a0 : A0) (a1 : A1) (a2 : A2), g 0 a0 a1 a2 = none) ∧ (∀ (n : Nat) (a0 : A0) (a1 : A1) (a2 : A2), g (n + 1) a0 a1 a2 = F (g n) a0 a1 a2) ∧ g N a0 a1 a2 = some r := ⟨lp (fun _ _ _ => none) F, fun _ _ _ => rfl, fun _ _ _ _ => rfl, h⟩
theorem jn4_e {A0 A1 A2 A3 β : Type} {k : A0 → A1 → A2 → A3 → Option β} {b : (A0 → A1 → A2 → A3 → Option β) → Option β} {r : β} (h : jn k b = some r) : ∃ k2 : A0 → A1 → A2 → A3 → Option β, (∀ (a0 : A0) (a1 : A1) (a2 : A2) (a3 : A3), k2 a0 a1 a2 a3 = k a0 a1 a2 a3) ∧ b k2 = some r := ⟨k, fun _ _ _ _ => rfl, h⟩
theorem lp4_e {A0 A1 A2 A3 β : Type} {F : (A0 → A1 → A2 → A3 → Option β) → A0 → A1 → A2 → A3 → Option β} {r : β} {a0 : A0} {a1 : A1} {a2 : A2} {a3 : A3} {N : Nat} (h : lp (fun _ _ _ _ => none) F N a0 a1 a2 a3 = some r) : ∃ g : Nat → A0 → A1 → A2 → A3 → Option β, (∀ (a0 : A0) (a1 : A1) (a2 : A2) (a3 : A3), g 0 a0 a1 a2 a3 = none) ∧ (∀ (n : Nat) (a0 : A0) (a1 : A1) (a2 : A2) (a3 : A3), g (n + 1) a0 a1 a2 a3 = F (g n) a0 a1 a2 a3) ∧ g N a0 a1 a2 a3 = some r := ⟨lp (fun _ _ _ _ => none) F, fun _ _ _ _ => rfl, fun _ _ _ _ _ => rfl, h⟩
theorem jn5_e {A0 A1 A2 A3 A4 β : Type} {k : A0 → A1 → A2 → A3 → A4 → Option β} {b : (A0 → A1 → A2 → A3 → A4 → Option β) → Option β} {r : β} (h : jn k b = some r) : ∃ k2 : A0 → A1 → A2 → A3 → A4 → Option β, (∀ (a0 : A0) (a1 : A1) (a2 : A2) (a3 : A3) (a4 : A4), k2 a0 a1 a2 a3 a4 = k a0 a1 a2 a3 a4) ∧ b k2 = some r := ⟨k, fun _ _ _ _ _ => rfl, h⟩
theorem lp5_e {A0 A1 A2 A3 A4 β : Type} {F : (A0 → A1 → A2 → A3 → A4 → Option β) → A0 → A1 → A2 → A3 → A4 → Option β} {r : β} {a0 : A0} {a1 : A1} {a2 : A2} {a3 : A3} {a4 : A4} {N : Nat} (h : lp (fun _ _ _ _ _ => none) F N a0 a1 a2 a3 a4 = some r) : ∃ g : Nat → A0 → A1 → A2 → A3 → A4 → Option β, (∀ (a0 : A0) (a1 : A1) (a2 : A2) (a3 : A3) (a4 : A4), g 0 a0 a1 a2 a3 a4 = none) ∧ (∀ (n : Nat) (a0 : A0) (a1 : A1) (a2 : A2) (a3 : A3) (a4 : A4), g (n + 1) a0 a1 a2 a3 a4 = F (g n) a0 a1 a2 a3 a4) ∧ g N a0 a1 a2 a3 a4 = some r := ⟨lp (fun _ _ _ _ _ => none) F, fun _ _ _ _ _ => rfl, fun _ _ _ _ _ _ => rfl, h⟩
theorem jn6_e {A0 A1 A2 A3 A4 A5 β : Type} {k : A0 → A1 → A2 → A3 → A4 → A5 → Option β} {b : (A0 → A1 → A2 → A3 → A4 → A5 → Option β) → Option β} {r : β} (h : jn k b = some r) : ∃ k2 : A0 → A1 → A2 → A3 → A4 → A5 → Option β, (∀ (a0 : A0) (a1 : A1) (a2 : A2) (a3 : A3) (a4 : A4) (a5 : A5), k2 a0 a1 a2 a3 a4 a5 = k a0 a1 a2 a3 a4 a5) ∧ b k2 = some r := ⟨k, fun _ _ _ _ _ _ => rfl, h⟩
theorem lp6_e {A0 A1 A2 A3 A4 A5 β : Type} {F : (A0 → A1 → A2 → A3 → A4 → A5 → Option β) → A0 → A1 → A2 → A3 → A4 → A5 → Option β} {r : β} {a0 : A0} {a1 : A1} {a2 : A2} {a3 : A3} {a4 : A4} {a5 : A5} {N : Nat} (h : lp (fun _ _ _ _ _ _ => none) F N a0 a1 a2 a3 a4 a5 = some r) : ∃ g : Nat → A0 → A1 → A2 → A3 → A4 → A5 → Option β, (∀ (a0 : A0) (a1 : A1) (a2 : A2) (a3 : A3) (a4 : A4) (a5 : A5), g 0 a0 a1 a2 a3 a4 a5 = none) ∧ (∀ (n : Nat) (a0 : A0) (a1 : A1) (a2 : A2) (a3 : A3) (a4 : A4) (a5 : A5), g (n + 1) a0 a1 a2 a3 a4 a5 = F (g n) a0 a1 a2 a3 a4 a5) ∧ g N a0 a1 a2 a3 a4 a5 = some r := ⟨lp (fun _ _ _ _ _ _ => none) F, fun _ _ _ _ _ _ => rfl, fun _ _ _ _ _ _ _ => rfl, h⟩
theorem jn7_e {A0 A1 A2 A3 A4 A5 A6 β : Type} {k : A0 → A1 → A2 → A3 → A4 → A5 → A6 → Option β} {b : (A0 → A1 → A2 → A3 → A4 → A5 → A6 → Option β) → Option β} {r : β} (h : jn k b = some r) : ∃ k2 : A0 → A1 → A2 → A3 → A4 → A5 → A6 → Option β, (∀ (a0 : A0) (a1 : A1) (a2 : A2) (a3 : A3) (a4 : A4) (a5 : A5) (a6 : A6), k2 a0 a1 a2 a3 a4 a5 a6 = k a0 a1 a2 a3 a4 a5 a6) ∧ b k2 = some r := ⟨k, fun _ _ _ _ _ _ _ => rfl, h⟩
theorem lp7_e {A0 A1 A2 A3 A4 A5 A6 β : Type} {F : (A0 → A1 → A2 → A3 → A4 → A5 → A6 → Option β) → A0 → A1 → A2 → A3 → A4 → A5 → A6 → Option β} {r : β} {a0 : A0} {a1 : A1} {a2 : A2} {a3 : A3} {a4 : A4} {a5 : A5} {a6 : A6} {N : Nat} (h : lp (fun _ _ _ _ _ _ _ => none) F N a0 a1 a2 a3 a4 a5 a6 = some r) : ∃ g : Nat → A0 → A1 → A2 → A3 → A4 → A5 → A6 → Option β, (∀ (a0 : A0) (a1 : A1) (a2 : A2) (a3 : A3) (a4 : A4) (a5 : A5) (a6 : A6), g 0 a0 a1 a2 a3 a4 a5 a6 = none) ∧ (∀ (n : Nat) (a0 : A0) (a1 : A1) (a2 : A2) (a3 : A3) (a4 : A4) (a5 : A5) (a6 : A6), g (n + 1) a0 a1 a2 a3 a4 a5 a6 = F (g n) a0 a1 a2 a3 a4 a5 a6) ∧ g N a0 a1 a2 a3 a4 a5 a6 = some r := ⟨lp (fun _ _ _ _ _ _ _ => none) F, fun _ _ _ _ _ _ _ => rfl, fun _ _ _ _ _ _ _ _ => rfl, h⟩
theorem jn8_e {A0 A1 A2 A3 A4 A5 A6 A7 β : Type} {k : A0 → A1 → A2 → A3 → A4 → A5 → A6 → A7 → Option β} {b : (A0 → A1 → A2 → A3 → A4 → A5 → A6 → A7 → Option β) → Option β} {r : β} (h : jn k b = some r) : ∃ k2 : A0 → A1 → A2 → A3 → A4 → A5 → A6 → A7 → Option β, (∀ (a0 : A0) (a1 : A1) (a2 : A2) (a3 : A3) (a4 : A4) (a5 : A5) (a6 : A6) (a7 : A7), k2 a0 a1 a2 a3 a4 a5 a6 a7 = k a0 a1 a2 a3 a4 a5 a6 a7) ∧ b k2 = some r := ⟨k, fun _ _ _ _ _ _ _ _ => rfl, h⟩
theorem lp8_e {A0 A1 A2 A3 A4 A5 A6 A7 β : Type} {F : (A0 → A1 → A2 → A3 → A4 → A5 → A6 → A7 → Option β) → A0 → A1 → A2 → A3 → A4 → A5 → A6 → A7 → Option β} {r : β} {a0 : A0} {a1 : A1} {a2 : A2} {a3 : A3} {a4 : A4} {a5 : A5} {a6 : A6} {a7 : A7} {N : Nat} (h : lp (fun _ _ _ _ _ _ _ _ => none) F N a0 a1 a2 a3 a4 a5 a6 a7 = some r) : ∃ g : Nat → A0 → A1 → A2 → A3 → A4 → A5 → A6 → A7 → Option β, (∀ (a0 : A0) (a1 : A1) (a2 : A2) (a3 : A3) (a4 : A4) (a5 : A5) (a6 : A6) (a7 : A7), g 0 a0 a1 a2 a3 a4 a5 a6 a7 = none) ∧ (∀ (n : Nat) (a0 : A0) (a1 : A1) (a2 : A2) (a3 : A3) (a4 : A4) (a5 : A5) (a6 : A6) (a7 : A7), g (n + 1) a0 a1 a2 a3 a4 a5 a6 a7 = F (g n) a0 a1 a2 a3 a4 a5 a6 a7) ∧ g N a0 a1 a2 a3 a4 a5 a6 a7 = some r := ⟨lp (fun _ _ _ _ _ _ _ _ => none) F, fun _ _ _ _ _ _ _ _ => rfl, fun _ _ _ _ _ _ _ _ _ => rfl, h⟩
theorem jn9_e {A0 A1 A2 A3 A4 A5 A6 A7 A8 β : Type} {k : A0 → A1 → A2 → A3 → A4 → A5 → A6 → A7 → A8 → Option β} {b : (A0 → A1 → A2 → A3 → A4 → A5 → A6 → A7 → A8 → Option β) → Option β} {r : β} (h : jn k b = some r) : ∃ k2 : A0 → A1 → A2 → A3 → A4 → A5 → A6 → A7 → A8 → Option β, (∀ (a0 : A0) (a1 : A1) (a2 : A2) (a3 : A3) (a4 : A4) (a5 : A5) (a6 : A6) (a7 : A7) (a8 : A8), k2 a0 a1 a2 a3 a4 a5 a6 a7 a8 = k a0 a1 a2 a3 a4 a5 a6 a7 a8) ∧ b k2 = some r := ⟨k, fun _ _ _ _ _ _ _ _ _ => rfl, h⟩
theorem lp9_e {A0 A1 A2 A3 A4 A5 A6 A7 A8 β : Type} {F : (A0 → A1 → A2 → A3 → A4 → A5 → A6 → A7 → A8 → Option β) → A0 → A1 → A2 → A3 → A4 → A5 → A6 → A7 → A8 → Option β} {r : β} {a0 : A0} {a1 : A1} {a2 : A2} {a3 : A3} {a4 : A4} {a5 : A5} {a6 : A6} {a7 : A7} {a8 : A8} {N : Nat} (h : lp (fun _ _ _ _ _ _ _ _ _ => none) F N a0 a1 a2 a3 a4 a5 a6 a7 a8 = some r) : ∃ g : Nat → A0 → A1 → A2 → A3 → A4 → A5 → A6 → A7 → A8 → Option β, (∀ (a0 : A0) (a1 : A1) (a2 : A2) (a3 : A3) (a4 : A4) (a5 : A5) (a6 : A6) (a7 : A7) (a8 : A8), g 0 a0 a1 a2 a3 a4 a5 a6 a7 a8 = none) ∧ (∀ (n : Nat) (a0 : A0) (a1 : A1) (a2 : A2) (a3 : A3) (a4 : A4) (a5 : A5) (a6 : A6) (a7 : A7) (a8 : A8), g (n + 1) a0 a1 a2 a3 a4 a5 a6 a7 a8 = F (g n) a0 a1 a2 a3 a4 a5 a6 a7 a8) ∧ g N a0 a1 a2 a3 a4 a5 a6 a7 a8 = some r := ⟨lp (fun _ _ _ _ _ _ _ _ _ => none) F, fun _ _ _ _ _ _ _ _ _ => rfl, fun _ _ _ _ _ _ _ _ _ _ => rfl, h⟩
theorem jn10_e {A0 A1 A2 A3 A4 A5 A6 A7 A8 A9 β : Type} {k : A0 → A1 → A2 → A3 → A4 → A5 → A6 → A7 → A8 → A9 → Option β} {b : (A0 → A1 → A2 → A3 → A4 → A5 → A6 → A7 → A8 → A9 → Option β) → Option β} {r : β} (h : jn k b = some r) : ∃ k2 : A0 → A1 → A2 → A3 → A4 → A5 → A6 → A7 → A8 → A9 → Option β, (∀ (a0 : A0) (a1 : A1) (a2 : A2) (a3 : A3) (a4 : A4) (a5 : A5) (a6 : A6) (a7 : A7) (a8 : A8) (a9 : A9), k2 a0 a1 a2 a3 a4 a5 a6 a7 a8 a9 = k a0 a1 a2 a3 a4 a5 a6 a7 a8 a9) ∧ b k2 = some r := ⟨k, fun _ _ _ _ _ _ _ _ _ _ => rfl, h⟩
theorem lp10_e {A0 A1 A2 A3 A4 A5 A6 A7 A8 A9 β : Type} {F : (A0 → A1 → A2 → A3 → A4 → A5 → A6 → A7 → A8 → A9 → Option β) → A0 → A1 → A2 → A3 → A4 → A5 → A6 → A7 → A8 → A9 → Option β} {r : β} {a0 : A0} {a1 : A1} {a2 : A2} {a3 : A3} {a4 : A4} {a5 : A5} {a6 : A6} {a7 : A7} {a8 : A8} {a9 : A9} {N : Nat} (h : lp (fun _ _ _ _ _ _ _ _ _ _ => none) F N a0 a1 a2 a3 a4 a5 a6 a7 a8 a9 = some r) : ∃ g : Nat → A0 → A1 → A2 → A3 → A4 → A5 → A6 → A7 → A8 → A9 → Option β, (∀ (a0 : A0) (a1 : A1) (a2 : A2) (a3 : A3) (a4 : A4) (a5 : A5) (a6 : A6) (a7 : A7) (a8 : A8) (a9 : A9), g 0 a0 a1 a2 a3 a4 a5 a6 a7 a8 a9 = none) ∧ (∀ (n : Nat) (a0 : A0) (a1 : A1) (a2 : A2) (a3 : A3) (a4 : A4) (a5 : A5) (a6 : A6) (a7 : A7) (a8 : A8) (a9 : A9), g (n + 1) a0 a1 a2 a3 a4 a5 a6 a7 a8 a9 = F (g n) a0 a1 a2 a3 a4 a5 a6 a7 a8 a9) ∧ g N a0 a1 a2 a3 a4 a5 a6 a7 a8 a9 = some r := ⟨lp (fun _ _ _ _ _ _ _ _ _ _ => none) F, fun _ _ _ _ _ _ _ _ _ _ => rfl, fun _ _ _ _ _ _ _ _ _ _ _ => rfl, h⟩
/-! ===== the reference: one object at code 0, the array of field k at code k ===== -/
def mlen (k : Nat) : Nat := if k = 1 then 6 else if k = 3 then 3 else if k = 4 then 3 else if k = 5 then 3 else if k = 6 then 36 else if k = 8 then 10 else if k = 9 then 10 else if k = 10 then 10 else if k = 11 then 10 else if k = 12 then 10 else if k = 13 then 10 else if k = 14 then 10 else if k = 15 then 10 else if k = 16 then 10 else if k = 17 then 10 else if k = 18 then 400 else if k = 19 then 10 else if k = 20 then 400 else if k = 24 then 20 else if k = 28 then 3 else if k = 29 then 36 else if k = 31 then 10 else if k = 33 then 15 else if k = 34 then 180 else if k = 35 then 12 else 0
def La : List Nat := [1, 3, 4, 5, 6, 8, 9, 10, 11, 12, 14, 15, 16, 17, 18, 19, 20, 24, 28, 29, 31, 33, 34, 35]
def Lm : List Nat := [0, 1, 3, 4, 5, 6, 8, 9, 10, 11, 12, 13, 14, 15, 16, 17, 18, 19, 20, 24, 28, 29, 31, 33, 34, 35]
abbrev mfs (ad : Nat → Nat) (S : St) : List Value := [.int (S.1 0), .ref (ad 1), .int (S.1 2), .ref (ad 3), .ref (ad 4), .ref (ad 5), .ref (ad 6), .int (S.1 7), .ref (ad 8), .ref (ad 9), .ref (ad 10), .ref (ad 11), .ref (ad 12), .ref (ad 13), .ref (ad 14), .ref (ad 15), .ref (ad 16), .ref (ad 17), .ref (ad 18), .ref (ad 19), .ref (ad 20), .int (S.1 21), .int (S.1 22), .int (S.1 23), .ref (ad 24), .int (S.1 25), .int (S.1 26), .int (S.1 27), .ref (ad 28), .ref (ad 29), .int (S.1 30), .ref (ad 31), .int (S.1 32), .ref (ad 33), .ref (ad 34), .ref (ad 35)]
def mce (cA : Nat → ClassId) (ad : Nat → Nat) (S : St) : Nat → va_E := fun c => if c = 0 then .inr (9, mfs ad S) else .inl (if c = 13 then cA 1 else cA 0, mlen c, .inl (S.2 c))
def MX (D : va_G) (cA : Nat → ClassId) (A : Nat → Prop) (ad : Nat → Nat) (S : St) (H : Heap) : Prop := HP D A Lm ad (mce cA ad S) H
theorem La_Lm {a : Nat} (h : a ∈ La) : a ∈ Lm ∧ a ≠ 0 ∧ a ≠ 13 := by
  have q : ∀ a ∈ La, a ∈ Lm ∧ a ≠ 0 ∧ a ≠ 13 := by decide +kernel
  exact q a h
theorem inX11 : ∀ w ∈ u_ws RX11 TX11 36, w ∈ ALL := fun w hw => List.mem_filter.mpr ⟨(by decide +kernel : ∀ w ∈ u_ws RX11 TX11 36, w ∈ lw_tbl) w hw, (by decide +kernel : ∀ w ∈ u_ws RX11 TX11 36, goodWord w = true) w hw⟩
theorem mce_a {cA : Nat → ClassId} {ad : Nat → Nat} {S : St} {a : Nat} (h : a ∈ La) : mce cA ad S a = .inl (cA 0, mlen a, .inl (S.2 a)) := by
  obtain ⟨-, h0, h1⟩ := La_Lm h
  unfold mce
  rw [if_neg h0, if_neg h1]
theorem mX_w1 {cA : Nat → ClassId} {ad : Nat → Nat} {S : St} (k : Nat) (v : Int32) (hs : (mfs ad S).set k (.int v) = mfs ad (w1 S k v)) : ∀ c, c ∈ Lm → (fun d => if d = 0 then (.inr (9, (mfs ad S).set k (.int v)) : va_E) else mce cA ad S d) c = mce cA ad (w1 S k v) c := by
  intro c _
  by_cases h : c = 0
  · simp only [h, if_true, hs, mce]
  · simp only [h, if_false, mce, w1]
theorem mX_w2 {cA : Nat → ClassId} {ad : Nat → Nat} {S : St} {a : Nat} (ha : a ≠ 0) (j : Nat) (x : Int32) : ∀ c, c ∈ Lm → (fun d => if d = a then (.inl (if a = 13 then cA 1 else cA 0, mlen a, .inl (upd (S.2 a) j x)) : va_E) else mce cA ad S d) c = mce cA ad (w2 S a j x) c := by
  intro c _
  by_cases h : c = a
  · subst h
    simp only [if_true, mce, w2, if_neg ha]
  · simp only [h, if_false, mce, w2]
section MRW
variable {p : Program} {l : Launch} {e : Env} {R : Room} {s : State} {m : MethodId} {args : Array Value} {below : List Frame} {meth : Method} {c : Code} {H : Heap} {locs : List Loc} {cells slots : Nat} {Q : State → Prop}
variable {cc : ByteArray} {pc nL index : Nat} {ls : Array Slot} {rest : List Value} {D : va_G} {cA : Nat → ClassId} {A : Nat → Prop} {ad : Nat → Nat} {S : St} {w0 : Cond} {H0 : Heap}
theorem mget {v : Value} (hx : p.tables.exec = Jvm.exec) (hb : c.code = cc) (hC : CallFix p m c cc nL s args (w0 :: ALL) RX11) (hK : va_K D vwCl (tysA cA) s) (hX : MX D cA A ad S H) (k : Nat) (hk : k < 36) (hlink : Cond.fieldLink RX11 index "LensbenchModel" (TX11 k).2.1 (TX11 k).2.2.1 ∈ ALL) (hv : (mfs ad S)[k]? = some v) (hdg : decode cc pc = .ok (.getfield index, 3))
    (kk : W p l e R s m args below meth c H locs cells slots Q (F0 m (pc + 3) ls (v :: rest))) : W p l e R s m args below meth c H locs cells slots Q (F0 m pc ls (.ref (ad 0) :: rest)) :=
  va_get (D := D) (ci := 9) (C := RX11) (T := TX11) (N := 36) (fs := mfs ad S) hx hb hC.2.2.2.2 (tU inX11) hC.2.2.2.1 hK hX.1 0 rfl rfl k hk (tA hC.2.2.2.2 hlink) (fun x q => by
    have q1 : (TX11 k).1 = "LensbenchModel" := (by decide +kernel : ∀ k, k < 36 → (TX11 k).1 = "LensbenchModel") k hk
    rw [q1] at q; exact q) hv hdg kk
theorem mald {a : Nat} (hx : p.tables.exec = Jvm.exec) (hb : c.code = cc) (hC : CallFix p m c cc nL s args (w0 :: ALL) RX11) (hK : va_K D vwCl (tysA cA) s) (hX : MX D cA A ad S H) (ha : a ∈ La) {i : Int32} {j : Nat} (hin : vp_in i (mlen a)) (hj : i.toNatClampNeg = j) (hdg : decode cc pc = .ok (.iaload, 1))
    (kk : W p l e R s m args below meth c H locs cells slots Q (F0 m (pc + 1) ls (.int (S.2 a j) :: rest))) : W p l e R s m args below meth c H locs cells slots Q (F0 m pc ls (.int i :: .ref (ad a) :: rest)) := by
  obtain ⟨k, -, h2⟩ := wl_get (ad := ad) (ce := mce cA ad S) (La_Lm ha).1
  rw [mce_a ha] at h2
  subst hj
  exact va_iald (tys := tysA cA) hx hb hK hX.1 k 0 h2 rfl hin hdg kk
theorem mast {a : Nat} (hx : p.tables.exec = Jvm.exec) (hb : c.code = cc) (hC : CallFix p m c cc nL s args (w0 :: ALL) RX11) (hK : va_K D vwCl (tysA cA) s) (hX : MX D cA A ad S H) (hS : va_S A H0 H locs) (ha : a ∈ La) {i x : Int32} {j : Nat} (hin : vp_in i (mlen a)) (hj : i.toNatClampNeg = j) (hdg : decode cc pc = .ok (.iastore, 1))
    (kk : ∀ (H1 : Heap) (locs1 : List Loc), MX D cA A ad (w2 S a j x) H1 → va_S A H0 H1 locs1 → W p l e R s m args below meth c H1 locs1 cells slots Q (F0 m (pc + 1) ls rest)) : W p l e R s m args below meth c H locs cells slots Q (F0 m pc ls (.int x :: .int i :: .ref (ad a) :: rest)) := by
  obtain ⟨k, h1, h2⟩ := wl_get (ad := ad) (ce := mce cA ad S) (La_Lm ha).1
  rw [mce_a ha] at h2
  subst hj
  refine va_iast (tys := tysA cA) hx hb hK hX.1 hX.2 hS k 0 h2 rfl hin hdg (fun H1 locs1 hP hD hS1 => kk H1 locs1 ?_ hS1)
  rw [wl_set hX.2 h1] at hP hD
  have q := mX_w2 (cA := cA) (ad := ad) (S := S) (La_Lm ha).2.1 i.toNatClampNeg x
  rw [if_neg (La_Lm ha).2.2] at q
  exact HP.cong ⟨hP, hD⟩ q
theorem mzald (hx : p.tables.exec = Jvm.exec) (hb : c.code = cc) (hC : CallFix p m c cc nL s args (w0 :: ALL) RX11) (hK : va_K D vwCl (tysA cA) s) (hX : MX D cA A ad S H) {i : Int32} {j : Nat} (hin : vp_in i 10) (hj : i.toNatClampNeg = j) (hdg : decode cc pc = .ok (.baload, 1))
    (kk : W p l e R s m args below meth c H locs cells slots Q (F0 m (pc + 1) ls (.int (S.2 13 j) :: rest))) : W p l e R s m args below meth c H locs cells slots Q (F0 m pc ls (.int i :: .ref (ad 13) :: rest)) := by
  obtain ⟨k, -, h2⟩ := wl_get (L := Lm) (ad := ad) (ce := mce cA ad S) (c := 13) (by decide)
  subst hj
  exact va_zald (tys := tysA cA) (n := 10) hx hb hK hX.1 k 1 h2 rfl hin hdg kk
theorem mzast (hx : p.tables.exec = Jvm.exec) (hb : c.code = cc) (hC : CallFix p m c cc nL s args (w0 :: ALL) RX11) (hK : va_K D vwCl (tysA cA) s) (hX : MX D cA A ad S H) (hS : va_S A H0 H locs) {i x : Int32} {j : Nat} (hz : x = 0 ∨ x = 1) (hin : vp_in i 10) (hj : i.toNatClampNeg = j) (hdg : decode cc pc = .ok (.bastore, 1))
    (kk : ∀ (H1 : Heap) (locs1 : List Loc), MX D cA A ad (w2 S 13 j x) H1 → va_S A H0 H1 locs1 → W p l e R s m args below meth c H1 locs1 cells slots Q (F0 m (pc + 1) ls rest)) : W p l e R s m args below meth c H locs cells slots Q (F0 m pc ls (.int x :: .int i :: .ref (ad 13) :: rest)) := by
  obtain ⟨k, h1, h2⟩ := wl_get (L := Lm) (ad := ad) (ce := mce cA ad S) (c := 13) (by decide)
  subst hj
  refine va_zast (tys := tysA cA) (n := 10) hx hb hK hX.1 hX.2 hS k 1 h2 rfl hin hdg (fun H1 locs1 hP hD hS1 => kk H1 locs1 ?_ hS1)
  have hx1 : vp_nar .boolean x = x := by rcases hz with rfl | rfl <;> decide +kernel
  rw [hx1, wl_set hX.2 h1] at hP hD
  exact HP.cong ⟨hP, hD⟩ (mX_w2 (cA := cA) (ad := ad) (S := S) (a := 13) (by decide) i.toNatClampNeg x)
theorem mput_0 (hx : p.tables.exec = Jvm.exec) (hb : c.code = cc) (hC : CallFix p m c cc nL s args (w0 :: ALL) RX11) (hK : va_K D vwCl (tysA cA) s) (hX : MX D cA A ad S H) (hS : va_S A H0 H locs) {x : Int32} (hlink : Cond.fieldLink RX11 index "LensbenchModel" "thrown" "I" ∈ ALL) (hdg : decode cc pc = .ok (.putfield index, 3))
    (kk : ∀ (H1 : Heap) (locs1 : List Loc), MX D cA A ad (w1 S 0 x) H1 → va_S A H0 H1 locs1 → W p l e R s m args below meth c H1 locs1 cells slots Q (F0 m (pc + 3) ls rest)) : W p l e R s m args below meth c H locs cells slots Q (F0 m pc ls (.int x :: .ref (ad 0) :: rest)) := by
  refine va_put (D := D) (ci := 9) (C := RX11) (T := TX11) (N := 36) (fs := mfs ad S) (ty := .int) hx hb hC.2.2.2.2 (tU inX11) tyX11 tyX11_ok nmX11 hC.2.2.2.1 hK hX.1 hX.2 hS 0 rfl rfl 0 (by decide) (tA hC.2.2.2.2 hlink) (fun _ q => q) rfl (by decide +kernel) rfl rfl (Nat.le_of_ble_eq_true rfl) hdg (fun H1 locs1 hP hD hS1 => kk H1 locs1 ?_ hS1)
  rw [wl_set (c := 0) hX.2 rfl] at hP hD
  exact HP.cong ⟨hP, hD⟩ (mX_w1 0 x rfl)
theorem mput_2 (hx : p.tables.exec = Jvm.exec) (hb : c.code = cc) (hC : CallFix p m c cc nL s args (w0 :: ALL) RX11) (hK : va_K D vwCl (tysA cA) s) (hX : MX D cA A ad S H) (hS : va_S A H0 H locs) {x : Int32} (hlink : Cond.fieldLink RX11 index "LensbenchModel" "tables" "I" ∈ ALL) (hdg : decode cc pc = .ok (.putfield index, 3))
    (kk : ∀ (H1 : Heap) (locs1 : List Loc), MX D cA A ad (w1 S 2 x) H1 → va_S A H0 H1 locs1 → W p l e R s m args below meth c H1 locs1 cells slots Q (F0 m (pc + 3) ls rest)) : W p l e R s m args below meth c H locs cells slots Q (F0 m pc ls (.int x :: .ref (ad 0) :: rest)) := by
  refine va_put (D := D) (ci := 9) (C := RX11) (T := TX11) (N := 36) (fs := mfs ad S) (ty := .int) hx hb hC.2.2.2.2 (tU inX11) tyX11 tyX11_ok nmX11 hC.2.2.2.1 hK hX.1 hX.2 hS 0 rfl rfl 2 (by decide) (tA hC.2.2.2.2 hlink) (fun _ q => q) rfl (by decide +kernel) rfl rfl (Nat.le_of_ble_eq_true rfl) hdg (fun H1 locs1 hP hD hS1 => kk H1 locs1 ?_ hS1)
  rw [wl_set (c := 0) hX.2 rfl] at hP hD
  exact HP.cong ⟨hP, hD⟩ (mX_w1 2 x rfl)
theorem mput_7 (hx : p.tables.exec = Jvm.exec) (hb : c.code = cc) (hC : CallFix p m c cc nL s args (w0 :: ALL) RX11) (hK : va_K D vwCl (tysA cA) s) (hX : MX D cA A ad S H) (hS : va_S A H0 H locs) {x : Int32} (hlink : Cond.fieldLink RX11 index "LensbenchModel" "views" "I" ∈ ALL) (hdg : decode cc pc = .ok (.putfield index, 3))
    (kk : ∀ (H1 : Heap) (locs1 : List Loc), MX D cA A ad (w1 S 7 x) H1 → va_S A H0 H1 locs1 → W p l e R s m args below meth c H1 locs1 cells slots Q (F0 m (pc + 3) ls rest)) : W p l e R s m args below meth c H locs cells slots Q (F0 m pc ls (.int x :: .ref (ad 0) :: rest)) := by
  refine va_put (D := D) (ci := 9) (C := RX11) (T := TX11) (N := 36) (fs := mfs ad S) (ty := .int) hx hb hC.2.2.2.2 (tU inX11) tyX11 tyX11_ok nmX11 hC.2.2.2.1 hK hX.1 hX.2 hS 0 rfl rfl 7 (by decide) (tA hC.2.2.2.2 hlink) (fun _ q => q) rfl (by decide +kernel) rfl rfl (Nat.le_of_ble_eq_true rfl) hdg (fun H1 locs1 hP hD hS1 => kk H1 locs1 ?_ hS1)
  rw [wl_set (c := 0) hX.2 rfl] at hP hD
  exact HP.cong ⟨hP, hD⟩ (mX_w1 7 x rfl)
theorem mput_21 (hx : p.tables.exec = Jvm.exec) (hb : c.code = cc) (hC : CallFix p m c cc nL s args (w0 :: ALL) RX11) (hK : va_K D vwCl (tysA cA) s) (hX : MX D cA A ad S H) (hS : va_S A H0 H locs) {x : Int32} (hz : x = 0 ∨ x = 1) (hlink : Cond.fieldLink RX11 index "LensbenchModel" "isOpen" "Z" ∈ ALL) (hdg : decode cc pc = .ok (.putfield index, 3))
    (kk : ∀ (H1 : Heap) (locs1 : List Loc), MX D cA A ad (w1 S 21 x) H1 → va_S A H0 H1 locs1 → W p l e R s m args below meth c H1 locs1 cells slots Q (F0 m (pc + 3) ls rest)) : W p l e R s m args below meth c H locs cells slots Q (F0 m pc ls (.int x :: .ref (ad 0) :: rest)) := by
  refine va_put (D := D) (ci := 9) (C := RX11) (T := TX11) (N := 36) (fs := mfs ad S) (ty := .boolean) hx hb hC.2.2.2.2 (tU inX11) tyX11 tyX11_ok nmX11 hC.2.2.2.1 hK hX.1 hX.2 hS 0 rfl rfl 21 (by decide) (tA hC.2.2.2.2 hlink) (fun _ q => q) rfl (by decide +kernel) (nz01 hz) (by rcases hz with rfl | rfl <;> decide) (Nat.le_of_ble_eq_true rfl) hdg (fun H1 locs1 hP hD hS1 => kk H1 locs1 ?_ hS1)
  rw [wl_set (c := 0) hX.2 rfl] at hP hD
  exact HP.cong ⟨hP, hD⟩ (mX_w1 21 x rfl)
theorem mput_22 (hx : p.tables.exec = Jvm.exec) (hb : c.code = cc) (hC : CallFix p m c cc nL s args (w0 :: ALL) RX11) (hK : va_K D vwCl (tysA cA) s) (hX : MX D cA A ad S H) (hS : va_S A H0 H locs) {x : Int32} (hlink : Cond.fieldLink RX11 index "LensbenchModel" "view" "I" ∈ ALL) (hdg : decode cc pc = .ok (.putfield index, 3))
    (kk : ∀ (H1 : Heap) (locs1 : List Loc), MX D cA A ad (w1 S 22 x) H1 → va_S A H0 H1 locs1 → W p l e R s m args below meth c H1 locs1 cells slots Q (F0 m (pc + 3) ls rest)) : W p l e R s m args below meth c H locs cells slots Q (F0 m pc ls (.int x :: .ref (ad 0) :: rest)) := by
  refine va_put (D := D) (ci := 9) (C := RX11) (T := TX11) (N := 36) (fs := mfs ad S) (ty := .int) hx hb hC.2.2.2.2 (tU inX11) tyX11 tyX11_ok nmX11 hC.2.2.2.1 hK hX.1 hX.2 hS 0 rfl rfl 22 (by decide) (tA hC.2.2.2.2 hlink) (fun _ q => q) rfl (by decide +kernel) rfl rfl (Nat.le_of_ble_eq_true rfl) hdg (fun H1 locs1 hP hD hS1 => kk H1 locs1 ?_ hS1)
  rw [wl_set (c := 0) hX.2 rfl] at hP hD
  exact HP.cong ⟨hP, hD⟩ (mX_w1 22 x rfl)
theorem mput_23 (hx : p.tables.exec = Jvm.exec) (hb : c.code = cc) (hC : CallFix p m c cc nL s args (w0 :: ALL) RX11) (hK : va_K D vwCl (tysA cA) s) (hX : MX D cA A ad S H) (hS : va_S A H0 H locs) {x : Int32} (hlink : Cond.fieldLink RX11 index "LensbenchModel" "drafted" "I" ∈ ALL) (hdg : decode cc pc = .ok (.putfield index, 3))
    (kk : ∀ (H1 : Heap) (locs1 : List Loc), MX D cA A ad (w1 S 23 x) H1 → va_S A H0 H1 locs1 → W p l e R s m args below meth c H1 locs1 cells slots Q (F0 m (pc + 3) ls rest)) : W p l e R s m args below meth c H locs cells slots Q (F0 m pc ls (.int x :: .ref (ad 0) :: rest)) := by
  refine va_put (D := D) (ci := 9) (C := RX11) (T := TX11) (N := 36) (fs := mfs ad S) (ty := .int) hx hb hC.2.2.2.2 (tU inX11) tyX11 tyX11_ok nmX11 hC.2.2.2.1 hK hX.1 hX.2 hS 0 rfl rfl 23 (by decide) (tA hC.2.2.2.2 hlink) (fun _ q => q) rfl (by decide +kernel) rfl rfl (Nat.le_of_ble_eq_true rfl) hdg (fun H1 locs1 hP hD hS1 => kk H1 locs1 ?_ hS1)
  rw [wl_set (c := 0) hX.2 rfl] at hP hD
  exact HP.cong ⟨hP, hD⟩ (mX_w1 23 x rfl)
theorem mput_25 (hx : p.tables.exec = Jvm.exec) (hb : c.code = cc) (hC : CallFix p m c cc nL s args (w0 :: ALL) RX11) (hK : va_K D vwCl (tysA cA) s) (hX : MX D cA A ad S H) (hS : va_S A H0 H locs) {x : Int32} (hlink : Cond.fieldLink RX11 index "LensbenchModel" "conflict" "I" ∈ ALL) (hdg : decode cc pc = .ok (.putfield index, 3))
    (kk : ∀ (H1 : Heap) (locs1 : List Loc), MX D cA A ad (w1 S 25 x) H1 → va_S A H0 H1 locs1 → W p l e R s m args below meth c H1 locs1 cells slots Q (F0 m (pc + 3) ls rest)) : W p l e R s m args below meth c H locs cells slots Q (F0 m pc ls (.int x :: .ref (ad 0) :: rest)) := by
  refine va_put (D := D) (ci := 9) (C := RX11) (T := TX11) (N := 36) (fs := mfs ad S) (ty := .int) hx hb hC.2.2.2.2 (tU inX11) tyX11 tyX11_ok nmX11 hC.2.2.2.1 hK hX.1 hX.2 hS 0 rfl rfl 25 (by decide) (tA hC.2.2.2.2 hlink) (fun _ q => q) rfl (by decide +kernel) rfl rfl (Nat.le_of_ble_eq_true rfl) hdg (fun H1 locs1 hP hD hS1 => kk H1 locs1 ?_ hS1)
  rw [wl_set (c := 0) hX.2 rfl] at hP hD
  exact HP.cong ⟨hP, hD⟩ (mX_w1 25 x rfl)
theorem mput_26 (hx : p.tables.exec = Jvm.exec) (hb : c.code = cc) (hC : CallFix p m c cc nL s args (w0 :: ALL) RX11) (hK : va_K D vwCl (tysA cA) s) (hX : MX D cA A ad S H) (hS : va_S A H0 H locs) {x : Int32} (hlink : Cond.fieldLink RX11 index "LensbenchModel" "first" "I" ∈ ALL) (hdg : decode cc pc = .ok (.putfield index, 3))
    (kk : ∀ (H1 : Heap) (locs1 : List Loc), MX D cA A ad (w1 S 26 x) H1 → va_S A H0 H1 locs1 → W p l e R s m args below meth c H1 locs1 cells slots Q (F0 m (pc + 3) ls rest)) : W p l e R s m args below meth c H locs cells slots Q (F0 m pc ls (.int x :: .ref (ad 0) :: rest)) := by
  refine va_put (D := D) (ci := 9) (C := RX11) (T := TX11) (N := 36) (fs := mfs ad S) (ty := .int) hx hb hC.2.2.2.2 (tU inX11) tyX11 tyX11_ok nmX11 hC.2.2.2.1 hK hX.1 hX.2 hS 0 rfl rfl 26 (by decide) (tA hC.2.2.2.2 hlink) (fun _ q => q) rfl (by decide +kernel) rfl rfl (Nat.le_of_ble_eq_true rfl) hdg (fun H1 locs1 hP hD hS1 => kk H1 locs1 ?_ hS1)
  rw [wl_set (c := 0) hX.2 rfl] at hP hD
  exact HP.cong ⟨hP, hD⟩ (mX_w1 26 x rfl)
theorem mput_27 (hx : p.tables.exec = Jvm.exec) (hb : c.code = cc) (hC : CallFix p m c cc nL s args (w0 :: ALL) RX11) (hK : va_K D vwCl (tysA cA) s) (hX : MX D cA A ad S H) (hS : va_S A H0 H locs) {x : Int32} (hlink : Cond.fieldLink RX11 index "LensbenchModel" "second" "I" ∈ ALL) (hdg : decode cc pc = .ok (.putfield index, 3))
    (kk : ∀ (H1 : Heap) (locs1 : List Loc), MX D cA A ad (w1 S 27 x) H1 → va_S A H0 H1 locs1 → W p l e R s m args below meth c H1 locs1 cells slots Q (F0 m (pc + 3) ls rest)) : W p l e R s m args below meth c H locs cells slots Q (F0 m pc ls (.int x :: .ref (ad 0) :: rest)) := by
  refine va_put (D := D) (ci := 9) (C := RX11) (T := TX11) (N := 36) (fs := mfs ad S) (ty := .int) hx hb hC.2.2.2.2 (tU inX11) tyX11 tyX11_ok nmX11 hC.2.2.2.1 hK hX.1 hX.2 hS 0 rfl rfl 27 (by decide) (tA hC.2.2.2.2 hlink) (fun _ q => q) rfl (by decide +kernel) rfl rfl (Nat.le_of_ble_eq_true rfl) hdg (fun H1 locs1 hP hD hS1 => kk H1 locs1 ?_ hS1)
  rw [wl_set (c := 0) hX.2 rfl] at hP hD
  exact HP.cong ⟨hP, hD⟩ (mX_w1 27 x rfl)
theorem mput_30 (hx : p.tables.exec = Jvm.exec) (hb : c.code = cc) (hC : CallFix p m c cc nL s args (w0 :: ALL) RX11) (hK : va_K D vwCl (tysA cA) s) (hX : MX D cA A ad S H) (hS : va_S A H0 H locs) {x : Int32} (hlink : Cond.fieldLink RX11 index "LensbenchModel" "waiting" "I" ∈ ALL) (hdg : decode cc pc = .ok (.putfield index, 3))
    (kk : ∀ (H1 : Heap) (locs1 : List Loc), MX D cA A ad (w1 S 30 x) H1 → va_S A H0 H1 locs1 → W p l e R s m args below meth c H1 locs1 cells slots Q (F0 m (pc + 3) ls rest)) : W p l e R s m args below meth c H locs cells slots Q (F0 m pc ls (.int x :: .ref (ad 0) :: rest)) := by
  refine va_put (D := D) (ci := 9) (C := RX11) (T := TX11) (N := 36) (fs := mfs ad S) (ty := .int) hx hb hC.2.2.2.2 (tU inX11) tyX11 tyX11_ok nmX11 hC.2.2.2.1 hK hX.1 hX.2 hS 0 rfl rfl 30 (by decide) (tA hC.2.2.2.2 hlink) (fun _ q => q) rfl (by decide +kernel) rfl rfl (Nat.le_of_ble_eq_true rfl) hdg (fun H1 locs1 hP hD hS1 => kk H1 locs1 ?_ hS1)
  rw [wl_set (c := 0) hX.2 rfl] at hP hD
  exact HP.cong ⟨hP, hD⟩ (mX_w1 30 x rfl)
theorem mput_32 (hx : p.tables.exec = Jvm.exec) (hb : c.code = cc) (hC : CallFix p m c cc nL s args (w0 :: ALL) RX11) (hK : va_K D vwCl (tysA cA) s) (hX : MX D cA A ad S H) (hS : va_S A H0 H locs) {x : Int32} (hlink : Cond.fieldLink RX11 index "LensbenchModel" "undos" "I" ∈ ALL) (hdg : decode cc pc = .ok (.putfield index, 3))
    (kk : ∀ (H1 : Heap) (locs1 : List Loc), MX D cA A ad (w1 S 32 x) H1 → va_S A H0 H1 locs1 → W p l e R s m args below meth c H1 locs1 cells slots Q (F0 m (pc + 3) ls rest)) : W p l e R s m args below meth c H locs cells slots Q (F0 m pc ls (.int x :: .ref (ad 0) :: rest)) := by
  refine va_put (D := D) (ci := 9) (C := RX11) (T := TX11) (N := 36) (fs := mfs ad S) (ty := .int) hx hb hC.2.2.2.2 (tU inX11) tyX11 tyX11_ok nmX11 hC.2.2.2.1 hK hX.1 hX.2 hS 0 rfl rfl 32 (by decide) (tA hC.2.2.2.2 hlink) (fun _ q => q) rfl (by decide +kernel) rfl rfl (Nat.le_of_ble_eq_true rfl) hdg (fun H1 locs1 hP hD hS1 => kk H1 locs1 ?_ hS1)
  rw [wl_set (c := 0) hX.2 rfl] at hP hD
  exact HP.cong ⟨hP, hD⟩ (mX_w1 32 x rfl)
theorem mrec (hK : va_K D vwCl (tysA cA) s) (hX : MX D cA A ad S H) : ∃ cellB : Cell, H[ad 0]? = some cellB ∧ cellB.vm.isStatics = false ∧ s.vm.findClass RX11 = some cellB.cls := va_recv (q0 := 0) (ci := 9) hK hX.1 rfl rfl
end MRW
def VWv (C : String) (y : MethodName) (bytes : ByteArray) (maxL : Nat) (ret : Option FieldType) (n : Nat) : Prop := Cond.code y bytes maxL ret ∈ ALL ∧ Cond.initialized C ∈ ALL ∧ Cond.instanceMethod y ∈ ALL ∧ Cond.selects C y y ∈ ALL ∧ (y.cls = C ∧ y.cls ≠ "java/lang/invoke/MethodHandle" ∧ y.cls ≠ "java/lang/invoke/VarHandle" ∧ (parseMethodDescriptor y.desc).map (fun d => d.parameters.length) = some n) ∧ maxL ≤ 21
def VWs (y : MethodName) (bytes : ByteArray) (maxL : Nat) (ret : Option FieldType) (n : Nat) : Prop := Cond.code y bytes maxL ret ∈ ALL ∧ Cond.initialized y.cls ∈ ALL ∧ Cond.static y ∈ ALL ∧ (y.cls ≠ "java/lang/invoke/MethodHandle" ∧ y.cls ≠ "java/lang/invoke/VarHandle" ∧ (parseMethodDescriptor y.desc).map (fun d => d.parameters.length) = some n) ∧ maxL ≤ 21
section MCL
variable {p : Program} {l : Launch} {e : Env} {h0 mc0 ms0 : Nat} {s : State} {m : MethodId} {args : Array Value} {below : List Frame} {meth : Method} {c : Code} {H : Heap} {locs : List Loc} {cells slots : Nat} {Q : State → Prop}
variable {cc bytes : ByteArray} {pc nL maxL index n h : Nat} {ls : Array Slot} {D : va_G} {cA : Nat → ClassId} {A : Nat → Prop} {ad : Nat → Nat} {S S' : St} {H0 : Heap} {own : String} {w0 : Cond} {y : MethodName} {ret : Option FieldType} {As rest : List Value}
theorem mVi {z : Int32} (hC : CallFix p m c cc nL s args (w0 :: ALL) RX11) (hM : Ct l D cA A y bytes maxL ret h 0 0 (.ref (ad 0) :: As) (MX D cA A ad S) (some (.int z)) (MX D cA A ad S')) (q : VWv RX11 y bytes maxL ret n) (hlink : Cond.methodLink RX11 index y ∈ ALL) (hR : h + 1 ≤ h0) (hX : MX D cA A ad S H) (hK : va_K D vwCl (tysA cA) s) (hn : As.length = n) (hl : ls.size = nL) (hrest : (rest.map fun v => v.category).sum ≤ 8) (hdg : decode cc pc = .ok (.invokevirtual index, 3)) (hS : va_S A H0 H locs)
    (kk : ∀ (H1 : Heap) (locs1 : List Loc), MX D cA A ad S' H1 → va_S A H0 H1 locs1 → W p l e (RM h0 0 0) s m args below meth c H1 locs1 0 0 Q (F0 m (pc + 3) ls (.int z :: rest))) : W p l e (RM h0 0 0) s m args below meth c H locs 0 0 Q (F0 m pc ls (As.reverse ++ .ref (ad 0) :: rest)) :=
  Ct_V (C := RX11) hC hM q.1 (q.2.2.2.2.1.1 ▸ q.2.1) hlink q.2.2.1 q.2.2.2.1 q.2.2.2.2.1.2 ⟨hR, q.2.2.2.2.2⟩ (mrec hK hX) hX hK hn hl hrest hdg ⟨Nat.le_refl 0, Nat.le_refl 0⟩ hS (fun _ h => h) (fun H1 locs1 hX1 _ _ hS1 => kk H1 locs1 hX1 hS1)
theorem mSi {z : Int32} (hC : CallFix p m c cc nL s args (w0 :: ALL) RX11) (hM : Ct l D cA A y bytes maxL ret h 0 0 As (MX D cA A ad S) (some (.int z)) (MX D cA A ad S')) (q : VWs y bytes maxL ret n) (hlink : Cond.methodLink RX11 index y ∈ ALL) (hR : h + 1 ≤ h0) (hX : MX D cA A ad S H) (hK : va_K D vwCl (tysA cA) s) (hn : As.length = n) (hl : ls.size = nL) (hrest : (rest.map fun v => v.category).sum ≤ 8) (hdg : decode cc pc = .ok (.invokestatic index, 3)) (hS : va_S A H0 H locs)
    (kk : ∀ (H1 : Heap) (locs1 : List Loc), MX D cA A ad S' H1 → va_S A H0 H1 locs1 → W p l e (RM h0 0 0) s m args below meth c H1 locs1 0 0 Q (F0 m (pc + 3) ls (.int z :: rest))) : W p l e (RM h0 0 0) s m args below meth c H locs 0 0 Q (F0 m pc ls (As.reverse ++ rest)) :=
  Ct_S hC hM q.1 q.2.1 hlink q.2.2.1 q.2.2.2.1 ⟨hR, q.2.2.2.2⟩ hX hK hn hl hrest hdg ⟨Nat.le_refl 0, Nat.le_refl 0⟩ hS (fun _ h => h) (fun H1 locs1 hX1 _ _ hS1 => kk H1 locs1 hX1 hS1)
theorem mVv (hC : CallFix p m c cc nL s args (w0 :: ALL) RX11) (hM : Ct l D cA A y bytes maxL ret h 0 0 (.ref (ad 0) :: As) (MX D cA A ad S) none (MX D cA A ad S')) (q : VWv RX11 y bytes maxL ret n) (hlink : Cond.methodLink RX11 index y ∈ ALL) (hR : h + 1 ≤ h0) (hX : MX D cA A ad S H) (hK : va_K D vwCl (tysA cA) s) (hn : As.length = n) (hl : ls.size = nL) (hrest : (rest.map fun v => v.category).sum ≤ 8) (hdg : decode cc pc = .ok (.invokevirtual index, 3)) (hS : va_S A H0 H locs)
    (kk : ∀ (H1 : Heap) (locs1 : List Loc), MX D cA A ad S' H1 → va_S A H0 H1 locs1 → W p l e (RM h0 0 0) s m args below meth c H1 locs1 0 0 Q (F0 m (pc + 3) ls (rest))) : W p l e (RM h0 0 0) s m args below meth c H locs 0 0 Q (F0 m pc ls (As.reverse ++ .ref (ad 0) :: rest)) :=
  Ct_V (C := RX11) hC hM q.1 (q.2.2.2.2.1.1 ▸ q.2.1) hlink q.2.2.1 q.2.2.2.1 q.2.2.2.2.1.2 ⟨hR, q.2.2.2.2.2⟩ (mrec hK hX) hX hK hn hl hrest hdg ⟨Nat.le_refl 0, Nat.le_refl 0⟩ hS (fun _ h => h) (fun H1 locs1 hX1 _ _ hS1 => kk H1 locs1 hX1 hS1)
theorem mSv (hC : CallFix p m c cc nL s args (w0 :: ALL) RX11) (hM : Ct l D cA A y bytes maxL ret h 0 0 As (MX D cA A ad S) none (MX D cA A ad S')) (q : VWs y bytes maxL ret n) (hlink : Cond.methodLink RX11 index y ∈ ALL) (hR : h + 1 ≤ h0) (hX : MX D cA A ad S H) (hK : va_K D vwCl (tysA cA) s) (hn : As.length = n) (hl : ls.size = nL) (hrest : (rest.map fun v => v.category).sum ≤ 8) (hdg : decode cc pc = .ok (.invokestatic index, 3)) (hS : va_S A H0 H locs)
    (kk : ∀ (H1 : Heap) (locs1 : List Loc), MX D cA A ad S' H1 → va_S A H0 H1 locs1 → W p l e (RM h0 0 0) s m args below meth c H1 locs1 0 0 Q (F0 m (pc + 3) ls (rest))) : W p l e (RM h0 0 0) s m args below meth c H locs 0 0 Q (F0 m pc ls (As.reverse ++ rest)) :=
  Ct_S hC hM q.1 q.2.1 hlink q.2.2.1 q.2.2.2.1 ⟨hR, q.2.2.2.2⟩ hX hK hn hl hrest hdg ⟨Nat.le_refl 0, Nat.le_refl 0⟩ hS (fun _ h => h) (fun H1 locs1 hX1 _ _ hS1 => kk H1 locs1 hX1 hS1)
end MCL
end
section
/-! ===== the class: codes of its cells. (0,i): the Rows i; (1,i): its numbers; (2,t): Table t; (3,t): its past; (4,v): View v; (5,0): the Lensbench; (5,1) tables, (5,2) views, (5,3) found, (5,4) trials, (5,5) tried, (5,6) rivals.
Rows: 0 draft; 1+7t rows of table t, 2+7t wanted, 3+7t+j past j; 22+2v shown of view v, 23+2v wanted.
S.1 i: count of the Rows i (i < 42); 42 tableCount, 43 viewCount, 44 draftView (-1: null), 45 undoCount, 46 told, 47 first, 48 second, 49 count, 50 held, 51 seen, 52 unwanted, 55 views that lie in the row of views, 56 tables likewise. S.2 i: numbers of the Rows i; 42 tried, 43 rivals.
G v j: of view v 0 number, 1 columns, 2 key, 3 tables, 4 left, 5 right (-1: null), 6 the class, 7 column, 8 value, 9 isSame, 10 common, 11 table; G (20+t) 0, 1: columns, key of table t ===== -/
abbrev Gt : Type := Nat → Nat → Int32
abbrev Cd : Type := Nat × Nat
def vl (G : Gt) (v : Nat) : Nat := (G v 4).toNatClampNeg
def vr (G : Gt) (v : Nat) : Nat := (G v 5).toNatClampNeg
def vt (G : Gt) (v : Nat) : Nat := (G v 11).toNatClampNeg
def oid (x : Int32) : Option Nat := if x < 0 then none else some x.toNatClampNeg
def rO (ad : Cd → Nat) (k : Nat) : Option Nat → Value
  | none => .null
  | some u => .ref (ad (k, u))
def dcap (i : Nat) : Nat := if i = 0 then 20 else if i < 22 then 12 else if i % 2 = 0 then 12 else 32
def vfs (ad : Cd → Nat) (G : Gt) (v : Nat) : List Value := [.int (G v 0), .int (G v 1), .int (G v 2), .int (G v 3), rO ad 4 (oid (G v 4)), rO ad 4 (oid (G v 5)), .ref (ad (0, 22 + 2 * v)), .ref (ad (0, 23 + 2 * v))]
def xfs (ad : Cd → Nat) (G : Gt) (v : Nat) : List Value :=
  if G v 6 = 1 then [.ref (ad (4, vl G v)), .int (G v 7), .int (G v 8)] else if G v 6 = 2 then [.ref (ad (4, vl G v)), .ref (ad (4, vr G v)), .int (G v 10)] else if G v 6 = 4 then [.ref (ad (4, vl G v)), .int (G v 7), .int (G v 8), .int (G v 9)] else [.ref (ad (2, vt G v))]
def dce (cA : Nat → ClassId) (ad : Cd → Nat) (G : Gt) (S : St) : Cd → va_E
  | (0, i) => .inr (3, [.ref (ad (1, i)), .int (S.1 i)])
  | (1, i) => .inl (cA 0, dcap i, .inl (S.2 i))
  | (2, t) => .inr (5, [.int (G (20 + t) 0), .int (G (20 + t) 1), .ref (ad (0, 1 + 7 * t)), .ref (ad (0, 2 + 7 * t)), .ref (ad (3, t))])
  | (3, t) => .inl (cA 5, 5, .inr (.inr (.inr (.inr (fun j => some (ad (0, 3 + 7 * t + j)))))))
  | (4, v) => .inr ((G v 6).toNatClampNeg, vfs ad G v ++ xfs ad G v)
  | (5, 0) => .inr (8, [.ref (ad (5, 1)), .int (S.1 42), .ref (ad (5, 2)), .int (S.1 43), .ref (ad (0, 0)), rO ad 4 (oid (S.1 44)), .ref (ad (5, 3)), .ref (ad (5, 4)), .int (S.1 45)])
  | (5, 1) => .inl (cA 3, 3, .inr (.inr (.inr (.inr (fun j => if j < (S.1 56).toNatClampNeg then some (ad (2, j)) else none)))))
  | (5, 2) => .inl (cA 4, 10, .inr (.inr (.inr (.inr (fun j => if j < (S.1 55).toNatClampNeg then some (ad (4, j)) else none)))))
  | (5, 3) => .inr (0, [.int (S.1 46), .int (S.1 47), .int (S.1 48)])
  | (5, 4) => .inr (7, [.ref (ad (5, 5)), .ref (ad (5, 6)), .int (S.1 49), .int (S.1 50), .int (S.1 51), .int (S.1 52)])
  | (5, 5) => .inl (cA 0, 9, .inl (S.2 42))
  | (5, 6) => .inl (cA 0, 9, .inl (S.2 43))
  | _ => .inr (3, [])
/-- a view's kind and what it is made of -/
def WV (G : Gt) (nt v : Nat) : Prop :=
  (G v 6 = 1 ∧ (∃ u, u < v ∧ G v 4 = nI u) ∧ G v 5 = -1) ∨ (G v 6 = 2 ∧ (∃ u, u < v ∧ G v 4 = nI u) ∧ ∃ u, u < v ∧ G v 5 = nI u) ∨
  (G v 6 = 4 ∧ (∃ u, u < v ∧ G v 4 = nI u) ∧ G v 5 = -1) ∨ (G v 6 = 6 ∧ G v 4 = -1 ∧ G v 5 = -1 ∧ ∃ t, t < nt ∧ G v 11 = nI t)
def WF (L : List Cd) (G : Gt) (nt nv : Nat) : Prop :=
  (nt ≤ 3 ∧ nv ≤ 10) ∧ (∀ j, j < 7 → (5, j) ∈ L) ∧ ((0, 0) ∈ L ∧ (1, 0) ∈ L) ∧ (∀ t, t < nt → (2, t) ∈ L ∧ (3, t) ∈ L ∧ ∀ j, j < 7 → (0, 1 + 7 * t + j) ∈ L ∧ (1, 1 + 7 * t + j) ∈ L) ∧
  (∀ v, v < nv → (4, v) ∈ L ∧ ∀ j, j < 2 → (0, 22 + 2 * v + j) ∈ L ∧ (1, 22 + 2 * v + j) ∈ L) ∧ (∀ i, ((0, i) ∈ L ∨ (1, i) ∈ L) → i < 42) ∧ ∀ v, v < nv → WV G nt v
def okR (L : List Cd) (i : Nat) : Prop := (0, i) ∈ L ∧ (1, i) ∈ L ∧ i < 42
theorem WF.F {L : List Cd} {G : Gt} {nt nv : Nat} (h : WF L G nt nv) (j : Nat) (hj : j < 7) : (5, j) ∈ L := h.2.1 j hj
theorem WF.r0 {L : List Cd} {G : Gt} {nt nv : Nat} (h : WF L G nt nv) : okR L 0 := ⟨h.2.2.1.1, h.2.2.1.2, by omega⟩
theorem WF.T {L : List Cd} {G : Gt} {nt nv t : Nat} (h : WF L G nt nv) (ht : t < nt) : (2, t) ∈ L := (h.2.2.2.1 t ht).1
theorem WF.P {L : List Cd} {G : Gt} {nt nv t : Nat} (h : WF L G nt nv) (ht : t < nt) : (3, t) ∈ L := (h.2.2.2.1 t ht).2.1
theorem WF.rt {L : List Cd} {G : Gt} {nt nv t : Nat} (h : WF L G nt nv) (ht : t < nt) (j : Nat) (hj : j < 7) : okR L (1 + 7 * t + j) := ⟨((h.2.2.2.1 t ht).2.2 j hj).1, ((h.2.2.2.1 t ht).2.2 j hj).2, by have := h.1.1; omega⟩
theorem WF.r1 {L : List Cd} {G : Gt} {nt nv t : Nat} (h : WF L G nt nv) (ht : t < nt) : okR L (1 + 7 * t) := h.rt ht 0 (by omega)
theorem WF.r2 {L : List Cd} {G : Gt} {nt nv t : Nat} (h : WF L G nt nv) (ht : t < nt) : okR L (2 + 7 * t) := by
  have q := h.rt ht 1 (by omega)
  rwa [show 1 + 7 * t + 1 = 2 + 7 * t by omega] at q
theorem WF.r3 {L : List Cd} {G : Gt} {nt nv t j : Nat} (h : WF L G nt nv) (ht : t < nt) (hj : j < 5) : okR L (3 + 7 * t + j) := by
  have q := h.rt ht (2 + j) (by omega)
  rwa [show 1 + 7 * t + (2 + j) = 3 + 7 * t + j by omega] at q
theorem WF.V {L : List Cd} {G : Gt} {nt nv v : Nat} (h : WF L G nt nv) (hv : v < nv) : (4, v) ∈ L := (h.2.2.2.2.1 v hv).1
theorem WF.rs {L : List Cd} {G : Gt} {nt nv v : Nat} (h : WF L G nt nv) (hv : v < nv) : okR L (22 + 2 * v) := ⟨((h.2.2.2.2.1 v hv).2 0 (by omega)).1, ((h.2.2.2.2.1 v hv).2 0 (by omega)).2, by have := h.1.2; omega⟩
theorem WF.rw {L : List Cd} {G : Gt} {nt nv v : Nat} (h : WF L G nt nv) (hv : v < nv) : okR L (23 + 2 * v) := by
  have q : okR L (22 + 2 * v + 1) := ⟨((h.2.2.2.2.1 v hv).2 1 (by omega)).1, ((h.2.2.2.2.1 v hv).2 1 (by omega)).2, by have := h.1.2; omega⟩
  rwa [show 22 + 2 * v + 1 = 23 + 2 * v by omega] at q
theorem WF.R {L : List Cd} {G : Gt} {nt nv i : Nat} (h : WF L G nt nv) (hi : (0, i) ∈ L) : i < 42 := h.2.2.2.2.2.1 i (Or.inl hi)
theorem WF.A {L : List Cd} {G : Gt} {nt nv i : Nat} (h : WF L G nt nv) (hi : (1, i) ∈ L) : i < 42 := h.2.2.2.2.2.1 i (Or.inr hi)
theorem WF.K {L : List Cd} {G : Gt} {nt nv v : Nat} (h : WF L G nt nv) (hv : v < nv) : G v 6 = 1 ∨ G v 6 = 2 ∨ G v 6 = 4 ∨ G v 6 = 6 := by
  rcases h.2.2.2.2.2.2 v hv with q | q | q | q
  · exact Or.inl q.1
  · exact Or.inr (Or.inl q.1)
  · exact Or.inr (Or.inr (Or.inl q.1))
  · exact Or.inr (Or.inr (Or.inr q.1))
theorem WF.L' {L : List Cd} {G : Gt} {nt nv v : Nat} (h : WF L G nt nv) (hv : v < nv) (hk : G v 6 ≠ 6) : G v 4 = nI (vl G v) ∧ vl G v < v := by
  have q : ∃ u, u < v ∧ G v 4 = nI u := by
    rcases h.2.2.2.2.2.2 v hv with q | q | q | q
    · exact q.2.1
    · exact q.2.1
    · exact q.2.1
    · exact absurd q.1 hk
  obtain ⟨u, h1, h2⟩ := q
  have : vl G v = u := by unfold vl; rw [h2, nI_clamp (by have := h.1.2; omega)]
  rw [this]
  exact ⟨h2, h1⟩
theorem WF.l {L : List Cd} {G : Gt} {nt nv v : Nat} (h : WF L G nt nv) (hv : v < nv) (hk : G v 6 ≠ 6) : vl G v < nv := Nat.lt_trans (h.L' hv hk).2 hv
theorem WF.R' {L : List Cd} {G : Gt} {nt nv v : Nat} (h : WF L G nt nv) (hv : v < nv) (hk : G v 6 = 2) : G v 5 = nI (vr G v) ∧ vr G v < v := by
  have q : ∃ u, u < v ∧ G v 5 = nI u := by
    rcases h.2.2.2.2.2.2 v hv with q | q | q | q
    · exact absurd (q.1.symm.trans hk) (by decide)
    · exact q.2.2
    · exact absurd (q.1.symm.trans hk) (by decide)
    · exact absurd (q.1.symm.trans hk) (by decide)
  obtain ⟨u, h1, h2⟩ := q
  have : vr G v = u := by unfold vr; rw [h2, nI_clamp (by have := h.1.2; omega)]
  rw [this]
  exact ⟨h2, h1⟩
theorem WF.r {L : List Cd} {G : Gt} {nt nv v : Nat} (h : WF L G nt nv) (hv : v < nv) (hk : G v 6 = 2) : vr G v < nv := Nat.lt_trans (h.R' hv hk).2 hv
theorem WF.T' {L : List Cd} {G : Gt} {nt nv v : Nat} (h : WF L G nt nv) (hv : v < nv) (hk : G v 6 = 6) : G v 11 = nI (vt G v) ∧ vt G v < nt := by
  have q : ∃ u, u < nt ∧ G v 11 = nI u := by
    rcases h.2.2.2.2.2.2 v hv with q | q | q | q
    · exact absurd (q.1.symm.trans hk) (by decide)
    · exact absurd (q.1.symm.trans hk) (by decide)
    · exact absurd (q.1.symm.trans hk) (by decide)
    · exact q.2.2.2
  obtain ⟨u, h1, h2⟩ := q
  have : vt G v = u := by unfold vt; rw [h2, nI_clamp (by have := h.1.1; omega)]
  rw [this]
  exact ⟨h2, h1⟩
theorem ne6_1 {x : Int32} (h : x = 1) : x ≠ 6 := by rw [h]; decide
theorem ne6_2 {x : Int32} (h : x = 2) : x ≠ 6 := by rw [h]; decide
theorem ne6_4 {x : Int32} (h : x = 4) : x ≠ 6 := by rw [h]; decide
def DX (D : va_G) (cA : Nat → ClassId) (A : Nat → Prop) (ad : Cd → Nat) (L : List Cd) (G : Gt) (S : St) (H : Heap) : Prop := HP D A L ad (dce cA ad G S) H
def oc {β : Type} (o : Option Nat) (a : Option β) (b : Nat → Option β) : Option β := match o with
  | none => a
  | some u => b u
theorem oc_e {β : Type} {o : Option Nat} {a : Option β} {b : Nat → Option β} {r : β} (h : oc o a b = some r) : (o = none ∧ a = some r) ∨ ∃ u, o = some u ∧ b u = some r := by
  cases o with
  | none => exact Or.inl ⟨rfl, h⟩
  | some u => exact Or.inr ⟨u, rfl, h⟩
/-- by a view's class: DropView, JoinView, SelectView, TableView -/
def vd {β : Type} (k : Int32) (a b c d : Option β) : Option β := if k = 1 then a else if k = 2 then b else if k = 4 then c else d
theorem vd_1 {β : Type} {k : Int32} {a b c d : Option β} {r : β} (hk : k = 1) (h : vd k a b c d = some r) : a = some r := by subst hk; exact h
theorem vd_2 {β : Type} {k : Int32} {a b c d : Option β} {r : β} (hk : k = 2) (h : vd k a b c d = some r) : b = some r := by subst hk; exact h
theorem vd_4 {β : Type} {k : Int32} {a b c d : Option β} {r : β} (hk : k = 4) (h : vd k a b c d = some r) : c = some r := by subst hk; exact h
theorem vd_6 {β : Type} {k : Int32} {a b c d : Option β} {r : β} (hk : k = 6) (h : vd k a b c d = some r) : d = some r := by subst hk; exact h
/-! what a write leaves of the other cells -/
theorem w1_ne {S : St} {n k : Nat} {x : Int32} (h : k ≠ n) : (w1 S n x).1 k = S.1 k := by unfold w1 upd; exact if_neg h
theorem w1_eq {S : St} {n : Nat} {x : Int32} : (w1 S n x).1 n = x := by unfold w1 upd; exact if_pos rfl
theorem w1_2 {S : St} {n : Nat} {x : Int32} : (w1 S n x).2 = S.2 := rfl
theorem w2_1 {S : St} {n j : Nat} {x : Int32} : (w2 S n j x).1 = S.1 := rfl
theorem w2_ne {S : St} {n k j : Nat} {x : Int32} (h : k ≠ n) : (w2 S n j x).2 k = S.2 k := by unfold w2; exact if_neg h
theorem w2_eq {S : St} {n j : Nat} {x : Int32} : (w2 S n j x).2 n = upd (S.2 n) j x := by unfold w2; exact if_pos rfl
/-- the owner of a number of S.1 -/
def own1 (n : Nat) : Cd := if n < 42 then (0, n) else if n < 46 then (5, 0) else if n < 49 then (5, 3) else if n < 53 then (5, 4) else if n = 55 then (5, 2) else (5, 1)
def own2 (n : Nat) : Cd := if n < 42 then (1, n) else if n = 42 then (5, 5) else (5, 6)
theorem dce_w1 {cA : Nat → ClassId} {ad : Cd → Nat} {L : List Cd} {G : Gt} {S : St} {nt nv n : Nat} {x : Int32} (hG : WF L G nt nv) : ∀ c, c ∈ L → c ≠ own1 n → dce cA ad G S c = dce cA ad G (w1 S n x) c := by
  intro c hc hne
  unfold dce
  split
  · rename_i i
    have hi := hG.R hc
    rw [w1_ne (fun q => hne (by subst q; unfold own1; rw [if_pos hi]))]
  · rfl
  · rfl
  · rfl
  · rfl
  all_goals first | rfl | (
    have key : ∀ k, own1 k ≠ own1 n → (w1 S n x).1 k = S.1 k := fun k hk => w1_ne (fun q => hk (by rw [q]))
    first
      | rw [key 42 hne, key 43 hne, key 44 hne, key 45 hne]
      | rw [key 56 hne]
      | rw [key 55 hne]
      | rw [key 46 hne, key 47 hne, key 48 hne]
      | rw [key 49 hne, key 50 hne, key 51 hne, key 52 hne])
theorem dce_w2 {cA : Nat → ClassId} {ad : Cd → Nat} {L : List Cd} {G : Gt} {S : St} {nt nv n j : Nat} {x : Int32} (hG : WF L G nt nv) : ∀ c, c ∈ L → c ≠ own2 n → dce cA ad G S c = dce cA ad G (w2 S n j x) c := by
  intro c hc hne
  unfold dce
  split
  · rfl
  · rename_i i
    have hi := hG.A hc
    rw [w2_ne (fun q => hne (by subst q; unfold own2; rw [if_pos hi]))]
  all_goals first | rfl | (
    have key : ∀ k, own2 k ≠ own2 n → (w2 S n j x).2 k = S.2 k := fun k hk => w2_ne (fun q => hk (by rw [q]))
    first
      | rw [key 42 hne]
      | rw [key 43 hne])
/-! the views' cells by their class -/
theorem dce_V1 {cA : Nat → ClassId} {ad : Cd → Nat} {G : Gt} {S : St} {v : Nat} (h : G v 6 = 1) : dce cA ad G S (4, v) = .inr (1, vfs ad G v ++ [.ref (ad (4, vl G v)), .int (G v 7), .int (G v 8)]) := by
  show (.inr ((G v 6).toNatClampNeg, vfs ad G v ++ xfs ad G v) : va_E) = _
  unfold xfs
  rw [h, if_pos rfl]; rfl
theorem dce_V2 {cA : Nat → ClassId} {ad : Cd → Nat} {G : Gt} {S : St} {v : Nat} (h : G v 6 = 2) : dce cA ad G S (4, v) = .inr (2, vfs ad G v ++ [.ref (ad (4, vl G v)), .ref (ad (4, vr G v)), .int (G v 10)]) := by
  show (.inr ((G v 6).toNatClampNeg, vfs ad G v ++ xfs ad G v) : va_E) = _
  unfold xfs
  rw [h, if_neg (by decide), if_pos rfl]; rfl
theorem dce_V4 {cA : Nat → ClassId} {ad : Cd → Nat} {G : Gt} {S : St} {v : Nat} (h : G v 6 = 4) : dce cA ad G S (4, v) = .inr (4, vfs ad G v ++ [.ref (ad (4, vl G v)), .int (G v 7), .int (G v 8), .int (G v 9)]) := by
  show (.inr ((G v 6).toNatClampNeg, vfs ad G v ++ xfs ad G v) : va_E) = _
  unfold xfs
  rw [h, if_neg (by decide), if_neg (by decide), if_pos rfl]; rfl
theorem dce_V6 {cA : Nat → ClassId} {ad : Cd → Nat} {G : Gt} {S : St} {v : Nat} (h : G v 6 = 6) : dce cA ad G S (4, v) = .inr (6, vfs ad G v ++ [.ref (ad (2, vt G v))]) := by
  show (.inr ((G v 6).toNatClampNeg, vfs ad G v ++ xfs ad G v) : va_E) = _
  unfold xfs
  rw [h, if_neg (by decide), if_neg (by decide), if_neg (by decide)]; rfl
theorem inC {C : String} {T : u_T} {N : Nat} (h1 : ∀ w ∈ u_ws C T N, w ∈ lw_tbl) (h2 : ∀ w ∈ u_ws C T N, goodWord w = true) : ∀ w ∈ u_ws C T N, w ∈ ALL := fun w hw => List.mem_filter.mpr ⟨h1 w hw, h2 w hw⟩
theorem inX0 : ∀ w ∈ u_ws RX0 TX0 3, w ∈ ALL := inC (by decide +kernel) (by decide +kernel)
theorem inX2 : ∀ w ∈ u_ws RX2 TX2 11, w ∈ ALL := inC (by decide +kernel) (by decide +kernel)
theorem inX3 : ∀ w ∈ u_ws RX3 TX3 11, w ∈ ALL := inC (by decide +kernel) (by decide +kernel)
theorem inX4 : ∀ w ∈ u_ws RX4 TX4 2, w ∈ ALL := inC (by decide +kernel) (by decide +kernel)
theorem inX5 : ∀ w ∈ u_ws RX5 TX5 12, w ∈ ALL := inC (by decide +kernel) (by decide +kernel)
theorem inX6 : ∀ w ∈ u_ws RX6 TX6 5, w ∈ ALL := inC (by decide +kernel) (by decide +kernel)
theorem inX7 : ∀ w ∈ u_ws RX7 TX7 9, w ∈ ALL := inC (by decide +kernel) (by decide +kernel)
theorem inX8 : ∀ w ∈ u_ws RX8 TX8 6, w ∈ ALL := inC (by decide +kernel) (by decide +kernel)
theorem inX10 : ∀ w ∈ u_ws RX10 TX10 9, w ∈ ALL := inC (by decide +kernel) (by decide +kernel)
section DRW
variable {p : Program} {l : Launch} {e : Env} {R : Room} {s : State} {m : MethodId} {args : Array Value} {below : List Frame} {meth : Method} {c : Code} {H : Heap} {locs : List Loc} {cells slots : Nat} {Q : State → Prop}
variable {cc : ByteArray} {pc nL index : Nat} {ls : Array Slot} {rest : List Value} {D : va_G} {cA : Nat → ClassId} {A : Nat → Prop} {ad : Cd → Nat} {L : List Cd} {G : Gt} {S : St} {w0 : Cond} {H0 : Heap} {own ref : String} {nt nv : Nat}
theorem dsame {args : Array Value} {s : State} {w0 : Cond} {ref O f d : String} (ht : ∀ w ∈ w0 :: ALL, w.before args s = true) (h : O = ref ∨ Cond.sameField ref O f d ∈ ALL) : ∀ x, s.fieldFound? O f d = some x → s.fieldFound? ref f d = some x := by
  intro x q
  rcases h with h | h
  · rw [← h]; exact q
  · exact u_same (tA ht h) x q
theorem dget {cd : Cd} {ci : Nat} {fs : List Value} {C : String} {T : u_T} {N : Nat} {v : Value} (hx : p.tables.exec = Jvm.exec) (hb : c.code = cc) (hC : CallFix p m c cc nL s args (w0 :: ALL) own) (hK : va_K D vwCl (tysA cA) s) (hX : DX D cA A ad L G S H) (hc : cd ∈ L) (he : dce cA ad G S cd = .inr (ci, fs)) (hcl : vwCl[ci]? = some (C, T, N)) (hin : ∀ w ∈ u_ws C T N, w ∈ ALL) (k : Nat) (hk : k < N) (hlink : Cond.fieldLink own index ref (T k).2.1 (T k).2.2.1 ∈ ALL) (hsame : (T k).1 = ref ∨ Cond.sameField ref (T k).1 (T k).2.1 (T k).2.2.1 ∈ ALL) (hv : fs[k]? = some v) (hdg : decode cc pc = .ok (.getfield index, 3))
    (kk : W p l e R s m args below meth c H locs cells slots Q (F0 m (pc + 3) ls (v :: rest))) : W p l e R s m args below meth c H locs cells slots Q (F0 m pc ls (.ref (ad cd) :: rest)) := by
  obtain ⟨k0, -, h2⟩ := wl_get (ad := ad) (ce := dce cA ad G S) hc
  rw [he] at h2
  exact va_get (D := D) hx hb hC.2.2.2.2 (tU hin) hC.2.2.2.1 hK hX.1 k0 h2 hcl k hk (tA hC.2.2.2.2 hlink) (dsame hC.2.2.2.2 hsame) hv hdg kk
theorem dput {cd : Cd} {ci : Nat} {fs : List Value} {C : String} {T : u_T} {N : Nat} {v : Value} {ty : FieldType} {S' : St} (hx : p.tables.exec = Jvm.exec) (hb : c.code = cc) (hC : CallFix p m c cc nL s args (w0 :: ALL) own) (hK : va_K D vwCl (tysA cA) s) (hX : DX D cA A ad L G S H) (hS : va_S A H0 H locs) (hc : cd ∈ L) (he : dce cA ad G S cd = .inr (ci, fs)) (hcl : vwCl[ci]? = some (C, T, N)) (hin : ∀ w ∈ u_ws C T N, w ∈ ALL) (ty0 : Nat → FieldType) (hty : ∀ k, k < N → parseFieldDescriptor (T k).2.2.1 = some (ty0 k)) (hnm : ∀ a, a < N → ∀ b, b < N → a ≠ b → (T a).2.1 ≠ (T b).2.1) (k : Nat) (hk : k < N) (hlink : Cond.fieldLink own index ref (T k).2.1 (T k).2.2.1 ∈ ALL) (href : (T k).1 = ref) (hfin : (T k).2.2.2 = false) (hd : parseFieldDescriptor (T k).2.2.1 = some ty) (hn : narrow ty v = v) (hfit : fits ty v = true) (hl : k < fs.length)
    (hset : ∀ c, c ∈ L → (fun d => if d = cd then (.inr (ci, fs.set k v) : va_E) else dce cA ad G S d) c = dce cA ad G S' c) (hdg : decode cc pc = .ok (.putfield index, 3))
    (kk : ∀ (H1 : Heap) (locs1 : List Loc), DX D cA A ad L G S' H1 → va_S A H0 H1 locs1 → W p l e R s m args below meth c H1 locs1 cells slots Q (F0 m (pc + 3) ls rest)) : W p l e R s m args below meth c H locs cells slots Q (F0 m pc ls (v :: .ref (ad cd) :: rest)) := by
  obtain ⟨k0, h1, h2⟩ := wl_get (ad := ad) (ce := dce cA ad G S) hc
  rw [he] at h2
  refine va_put (D := D) hx hb hC.2.2.2.2 (tU hin) ty0 hty hnm hC.2.2.2.1 hK hX.1 hX.2 hS k0 h2 hcl k hk (tA hC.2.2.2.2 hlink) (fun x q => by rw [← href]; exact q) hfin hd hn hfit hl hdg (fun H1 locs1 hP hD hS1 => kk H1 locs1 ?_ hS1)
  rw [wl_set hX.2 h1] at hP hD
  exact HP.cong ⟨hP, hD⟩ hset
theorem dald {cd : Cd} {n : Nat} {f : Nat → Int32} (hx : p.tables.exec = Jvm.exec) (hb : c.code = cc) (hK : va_K D vwCl (tysA cA) s) (hX : DX D cA A ad L G S H) (hc : cd ∈ L) (he : dce cA ad G S cd = .inl (cA 0, n, .inl f)) {i : Int32} {j : Nat} (hin : vp_in i n) (hj : i.toNatClampNeg = j) (hdg : decode cc pc = .ok (.iaload, 1))
    (kk : W p l e R s m args below meth c H locs cells slots Q (F0 m (pc + 1) ls (.int (f j) :: rest))) : W p l e R s m args below meth c H locs cells slots Q (F0 m pc ls (.int i :: .ref (ad cd) :: rest)) := by
  obtain ⟨k0, -, h2⟩ := wl_get (ad := ad) (ce := dce cA ad G S) hc
  rw [he] at h2
  subst hj
  exact va_iald (tys := tysA cA) hx hb hK hX.1 k0 0 h2 rfl hin hdg kk
theorem dast {cd : Cd} {n : Nat} {f : Nat → Int32} {S' : St} (hx : p.tables.exec = Jvm.exec) (hb : c.code = cc) (hK : va_K D vwCl (tysA cA) s) (hX : DX D cA A ad L G S H) (hS : va_S A H0 H locs) (hc : cd ∈ L) (he : dce cA ad G S cd = .inl (cA 0, n, .inl f)) {i x : Int32} {j : Nat} (hset : ∀ c, c ∈ L → (fun d => if d = cd then (.inl (cA 0, n, .inl (upd f j x)) : va_E) else dce cA ad G S d) c = dce cA ad G S' c) (hin : vp_in i n) (hj : i.toNatClampNeg = j) (hdg : decode cc pc = .ok (.iastore, 1))
    (kk : ∀ (H1 : Heap) (locs1 : List Loc), DX D cA A ad L G S' H1 → va_S A H0 H1 locs1 → W p l e R s m args below meth c H1 locs1 cells slots Q (F0 m (pc + 1) ls rest)) : W p l e R s m args below meth c H locs cells slots Q (F0 m pc ls (.int x :: .int i :: .ref (ad cd) :: rest)) := by
  obtain ⟨k0, h1, h2⟩ := wl_get (ad := ad) (ce := dce cA ad G S) hc
  rw [he] at h2
  subst hj
  refine va_iast (tys := tysA cA) hx hb hK hX.1 hX.2 hS k0 0 h2 rfl hin hdg (fun H1 locs1 hP hD hS1 => kk H1 locs1 ?_ hS1)
  rw [wl_set hX.2 h1] at hP hD
  exact HP.cong ⟨hP, hD⟩ hset
theorem dlen {cd : Cd} {ca : ClassId} {x : vp_A} {ty : FieldType} {v : Int32} (hx : p.tables.exec = Jvm.exec) (hb : c.code = cc) (hK : va_K D vwCl (tysA cA) s) (hX : DX D cA A ad L G S H) (hc : cd ∈ L) (he : dce cA ad G S cd = .inl (ca, x)) (t0 : Nat) (ht : (tysA cA)[t0]? = some (ca, ty)) (hv : Int32.ofNat x.1 = v) (hdg : decode cc pc = .ok (.arraylength, 1))
    (kk : W p l e R s m args below meth c H locs cells slots Q (F0 m (pc + 1) ls (.int v :: rest))) : W p l e R s m args below meth c H locs cells slots Q (F0 m pc ls (.ref (ad cd) :: rest)) := by
  obtain ⟨k0, -, h2⟩ := wl_get (ad := ad) (ce := dce cA ad G S) hc
  rw [he] at h2
  exact va_alen (tys := tysA cA) hx hb hK hX.1 k0 t0 h2 ht hv hdg kk
theorem daald {cd : Cd} {ca : ClassId} {n : Nat} {C : String} {f : Nat → Option Nat} {v : Value} (hx : p.tables.exec = Jvm.exec) (hb : c.code = cc) (hK : va_K D vwCl (tysA cA) s) (hX : DX D cA A ad L G S H) (hc : cd ∈ L) (he : dce cA ad G S cd = .inl (ca, n, .inr (.inr (.inr (.inr f))))) (t0 : Nat) (ht : (tysA cA)[t0]? = some (ca, .object C)) {i : Int32} {j : Nat} (hin : vp_in i n) (hj : i.toNatClampNeg = j) (hv : va_rf (f j) = v) (hdg : decode cc pc = .ok (.aaload, 1))
    (kk : W p l e R s m args below meth c H locs cells slots Q (F0 m (pc + 1) ls (v :: rest))) : W p l e R s m args below meth c H locs cells slots Q (F0 m pc ls (.int i :: .ref (ad cd) :: rest)) := by
  obtain ⟨k0, -, h2⟩ := wl_get (ad := ad) (ce := dce cA ad G S) hc
  rw [he] at h2
  subst hj
  subst hv
  exact va_aldq (tys := tysA cA) hx hb hK hX.1 k0 t0 h2 ht hin hdg kk
theorem rO_at {ad : Cd → Nat} {k n j : Nat} : va_rf (if j < n then some (ad (k, j)) else none) = rO ad k (if j < n then some j else none) := by split <;> rfl
theorem dsetR {i : Nat} {x : Int32} (hG : WF L G nt nv) (hi : i < 42) : ∀ c, c ∈ L → (fun d => if d = (0, i) then (.inr (3, [Value.ref (ad (1, i)), .int x]) : va_E) else dce cA ad G S d) c = dce cA ad G (w1 S i x) c := by
  intro c hc
  have ho : own1 i = (0, i) := by unfold own1; rw [if_pos hi]
  by_cases h : c = (0, i)
  · subst h
    simp only [if_true, dce, w1_eq]
  · simp only [h, if_false]
    exact dce_w1 hG c hc (by rw [ho]; exact h)
theorem dsetA {i j : Nat} {x : Int32} (hG : WF L G nt nv) (hi : i < 42) : ∀ c, c ∈ L → (fun d => if d = (1, i) then (.inl (cA 0, dcap i, .inl (upd (S.2 i) j x)) : va_E) else dce cA ad G S d) c = dce cA ad G (w2 S i j x) c := by
  intro c hc
  have ho : own2 i = (1, i) := by unfold own2; rw [if_pos hi]
  by_cases h : c = (1, i)
  · subst h
    simp only [if_true, dce, w2_eq]
  · simp only [h, if_false]
    exact dce_w2 hG c hc (by rw [ho]; exact h)
theorem dset42 {x : Int32} (hG : WF L G nt nv) : ∀ c, c ∈ L → (fun d => if d = (5, 0) then (.inr (8, ([.ref (ad (5, 1)), .int (S.1 42), .ref (ad (5, 2)), .int (S.1 43), .ref (ad (0, 0)), rO ad 4 (oid (S.1 44)), .ref (ad (5, 3)), .ref (ad (5, 4)), .int (S.1 45)] : List Value).set 1 (.int x)) : va_E) else dce cA ad G S d) c = dce cA ad G (w1 S 42 x) c := by
  intro c hc
  by_cases h : c = (5, 0)
  · subst h
    simp only [if_true, dce]
    rfl
  · simp only [h, if_false]
    exact dce_w1 hG c hc h
theorem dset43 {x : Int32} (hG : WF L G nt nv) : ∀ c, c ∈ L → (fun d => if d = (5, 0) then (.inr (8, ([.ref (ad (5, 1)), .int (S.1 42), .ref (ad (5, 2)), .int (S.1 43), .ref (ad (0, 0)), rO ad 4 (oid (S.1 44)), .ref (ad (5, 3)), .ref (ad (5, 4)), .int (S.1 45)] : List Value).set 3 (.int x)) : va_E) else dce cA ad G S d) c = dce cA ad G (w1 S 43 x) c := by
  intro c hc
  by_cases h : c = (5, 0)
  · subst h
    simp only [if_true, dce]
    rfl
  · simp only [h, if_false]
    exact dce_w1 hG c hc h
theorem dset45 {x : Int32} (hG : WF L G nt nv) : ∀ c, c ∈ L → (fun d => if d = (5, 0) then (.inr (8, ([.ref (ad (5, 1)), .int (S.1 42), .ref (ad (5, 2)), .int (S.1 43), .ref (ad (0, 0)), rO ad 4 (oid (S.1 44)), .ref (ad (5, 3)), .ref (ad (5, 4)), .int (S.1 45)] : List Value).set 8 (.int x)) : va_E) else dce cA ad G S d) c = dce cA ad G (w1 S 45 x) c := by
  intro c hc
  by_cases h : c = (5, 0)
  · subst h
    simp only [if_true, dce]
    rfl
  · simp only [h, if_false]
    exact dce_w1 hG c hc h
theorem dset46 {x : Int32} (hG : WF L G nt nv) : ∀ c, c ∈ L → (fun d => if d = (5, 3) then (.inr (0, ([.int (S.1 46), .int (S.1 47), .int (S.1 48)] : List Value).set 0 (.int x)) : va_E) else dce cA ad G S d) c = dce cA ad G (w1 S 46 x) c := by
  intro c hc
  by_cases h : c = (5, 3)
  · subst h
    simp only [if_true, dce]
    rfl
  · simp only [h, if_false]
    exact dce_w1 hG c hc h
theorem dset47 {x : Int32} (hG : WF L G nt nv) : ∀ c, c ∈ L → (fun d => if d = (5, 3) then (.inr (0, ([.int (S.1 46), .int (S.1 47), .int (S.1 48)] : List Value).set 1 (.int x)) : va_E) else dce cA ad G S d) c = dce cA ad G (w1 S 47 x) c := by
  intro c hc
  by_cases h : c = (5, 3)
  · subst h
    simp only [if_true, dce]
    rfl
  · simp only [h, if_false]
    exact dce_w1 hG c hc h
theorem dset48 {x : Int32} (hG : WF L G nt nv) : ∀ c, c ∈ L → (fun d => if d = (5, 3) then (.inr (0, ([.int (S.1 46), .int (S.1 47), .int (S.1 48)] : List Value).set 2 (.int x)) : va_E) else dce cA ad G S d) c = dce cA ad G (w1 S 48 x) c := by
  intro c hc
  by_cases h : c = (5, 3)
  · subst h
    simp only [if_true, dce]
    rfl
  · simp only [h, if_false]
    exact dce_w1 hG c hc h
theorem dset49 {x : Int32} (hG : WF L G nt nv) : ∀ c, c ∈ L → (fun d => if d = (5, 4) then (.inr (7, ([.ref (ad (5, 5)), .ref (ad (5, 6)), .int (S.1 49), .int (S.1 50), .int (S.1 51), .int (S.1 52)] : List Value).set 2 (.int x)) : va_E) else dce cA ad G S d) c = dce cA ad G (w1 S 49 x) c := by
  intro c hc
  by_cases h : c = (5, 4)
  · subst h
    simp only [if_true, dce]
    rfl
  · simp only [h, if_false]
    exact dce_w1 hG c hc h
theorem dset50 {x : Int32} (hG : WF L G nt nv) : ∀ c, c ∈ L → (fun d => if d = (5, 4) then (.inr (7, ([.ref (ad (5, 5)), .ref (ad (5, 6)), .int (S.1 49), .int (S.1 50), .int (S.1 51), .int (S.1 52)] : List Value).set 3 (.int x)) : va_E) else dce cA ad G S d) c = dce cA ad G (w1 S 50 x) c := by
  intro c hc
  by_cases h : c = (5, 4)
  · subst h
    simp only [if_true, dce]
    rfl
  · simp only [h, if_false]
    exact dce_w1 hG c hc h
theorem dset51 {x : Int32} (hG : WF L G nt nv) : ∀ c, c ∈ L → (fun d => if d = (5, 4) then (.inr (7, ([.ref (ad (5, 5)), .ref (ad (5, 6)), .int (S.1 49), .int (S.1 50), .int (S.1 51), .int (S.1 52)] : List Value).set 4 (.int x)) : va_E) else dce cA ad G S d) c = dce cA ad G (w1 S 51 x) c := by
  intro c hc
  by_cases h : c = (5, 4)
  · subst h
    simp only [if_true, dce]
    rfl
  · simp only [h, if_false]
    exact dce_w1 hG c hc h
theorem dset52 {x : Int32} (hG : WF L G nt nv) : ∀ c, c ∈ L → (fun d => if d = (5, 4) then (.inr (7, ([.ref (ad (5, 5)), .ref (ad (5, 6)), .int (S.1 49), .int (S.1 50), .int (S.1 51), .int (S.1 52)] : List Value).set 5 (.int x)) : va_E) else dce cA ad G S d) c = dce cA ad G (w1 S 52 x) c := by
  intro c hc
  by_cases h : c = (5, 4)
  · subst h
    simp only [if_true, dce]
    rfl
  · simp only [h, if_false]
    exact dce_w1 hG c hc h
theorem dsetB42 {j : Nat} {x : Int32} (hG : WF L G nt nv) : ∀ c, c ∈ L → (fun d => if d = (5, 5) then (.inl (cA 0, 9, .inl (upd (S.2 42) j x)) : va_E) else dce cA ad G S d) c = dce cA ad G (w2 S 42 j x) c := by
  intro c hc
  by_cases h : c = (5, 5)
  · subst h
    simp only [if_true, dce, w2_eq]
  · simp only [h, if_false]
    exact dce_w2 hG c hc h
theorem dsetB43 {j : Nat} {x : Int32} (hG : WF L G nt nv) : ∀ c, c ∈ L → (fun d => if d = (5, 6) then (.inl (cA 0, 9, .inl (upd (S.2 43) j x)) : va_E) else dce cA ad G S d) c = dce cA ad G (w2 S 43 j x) c := by
  intro c hc
  by_cases h : c = (5, 6)
  · subst h
    simp only [if_true, dce, w2_eq]
  · simp only [h, if_false]
    exact dce_w2 hG c hc h
theorem dset44 {o : Option Nat} {x : Int32} (hG : WF L G nt nv) (ho : oid x = o) : ∀ c, c ∈ L → (fun d => if d = (5, 0) then (.inr (8, ([.ref (ad (5, 1)), .int (S.1 42), .ref (ad (5, 2)), .int (S.1 43), .ref (ad (0, 0)), rO ad 4 (oid (S.1 44)), .ref (ad (5, 3)), .ref (ad (5, 4)), .int (S.1 45)] : List Value).set 5 (rO ad 4 o)) : va_E) else dce cA ad G S d) c = dce cA ad G (w1 S 44 x) c := by
  intro c hc
  by_cases h : c = (5, 0)
  · subst h
    simp only [if_true, dce]
    subst ho
    rfl
  · simp only [h, if_false]
    exact dce_w1 hG c hc h
/-- a field of View, of a view of any class -/
theorem dgetV {v k : Nat} {x : Value} (hx : p.tables.exec = Jvm.exec) (hb : c.code = cc) (hC : CallFix p m c cc nL s args (w0 :: ALL) own) (hK : va_K D vwCl (tysA cA) s) (hX : DX D cA A ad L G S H) (hG : WF L G nt nv) (hv : v < nv) (hk : k < 8) (hlink : Cond.fieldLink own index ref (TX2 k).2.1 (TX2 k).2.2.1 ∈ ALL) (hsame : "Lensbench$View" = ref ∨ Cond.sameField ref "Lensbench$View" (TX2 k).2.1 (TX2 k).2.2.1 ∈ ALL) (hfv : (vfs ad G v)[k]? = some x) (hdg : decode cc pc = .ok (.getfield index, 3))
    (kk : W p l e R s m args below meth c H locs cells slots Q (F0 m (pc + 3) ls (x :: rest))) : W p l e R s m args below meth c H locs cells slots Q (F0 m pc ls (.ref (ad (4, v)) :: rest)) := by
  have e2 : ∀ k, k < 8 → (TX2 k).1 = "Lensbench$View" := by decide +kernel
  have e3 : ∀ k, k < 8 → TX3 k = TX2 k := by decide +kernel
  have e5 : ∀ k, k < 8 → TX5 k = TX2 k := by decide +kernel
  have e7 : ∀ k, k < 8 → TX7 k = TX2 k := by decide +kernel
  have ha : ∀ ys : List Value, (vfs ad G v ++ ys)[k]? = some x := fun ys => by rw [List.getElem?_append_left (by show k < 8; exact hk)]; exact hfv
  rcases hG.K hv with q | q | q | q
  · exact dget (ci := 1) (C := RX2) (T := TX2) (N := 11) hx hb hC hK hX (hG.V hv) (dce_V1 q) rfl inX2 k (by omega) hlink (by rw [e2 k hk]; exact hsame) (ha _) hdg kk
  · exact dget (ci := 2) (C := RX3) (T := TX3) (N := 11) hx hb hC hK hX (hG.V hv) (dce_V2 q) rfl inX3 k (by omega) (by rw [e3 k hk]; exact hlink) (by rw [e3 k hk, e2 k hk]; exact hsame) (ha _) hdg kk
  · exact dget (ci := 4) (C := RX5) (T := TX5) (N := 12) hx hb hC hK hX (hG.V hv) (dce_V4 q) rfl inX5 k (by omega) (by rw [e5 k hk]; exact hlink) (by rw [e5 k hk, e2 k hk]; exact hsame) (ha _) hdg kk
  · exact dget (ci := 6) (C := RX7) (T := TX7) (N := 9) hx hb hC hK hX (hG.V hv) (dce_V6 q) rfl inX7 k (by omega) (by rw [e7 k hk]; exact hlink) (by rw [e7 k hk, e2 k hk]; exact hsame) (ha _) hdg kk
theorem drec {cd : Cd} {ci : Nat} {fs : List Value} {q : vw_C} (hK : va_K D vwCl (tysA cA) s) (hX : DX D cA A ad L G S H) (hc : cd ∈ L) (he : dce cA ad G S cd = .inr (ci, fs)) (hcl : vwCl[ci]? = some q) : ∃ cellB : Cell, H[ad cd]? = some cellB ∧ cellB.vm.isStatics = false ∧ s.vm.findClass q.1 = some cellB.cls := by
  obtain ⟨k0, -, h2⟩ := wl_get (ad := ad) (ce := dce cA ad G S) hc
  rw [he] at h2
  exact va_recv (q0 := k0) (ci := ci) hK hX.1 hcl h2
end DRW
end
