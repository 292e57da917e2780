section
-- ===== PART A: goes FIRST, ahead of the names: the tables' words, and 'selects' of the private methods out of them =====
/-- a private method of a class that the tables say can be made, by its rows of tables_1 -/
def lw_okq (q : MethodName × Nat) : Prop := (q.1.cls ≠ "java/lang/invoke/MethodHandle" ∧ q.1.cls ≠ "java/lang/invoke/VarHandle") ∧ Cond.instantiable q.1.cls q.2 ∈ tables_1 ∧ Cond.privateMethod q.1 ∈ tables_1 ∧ Cond.instanceMethod q.1 ∈ tables_1
theorem lw_p0 : lw_okq (⟨"FlowConstants", "settle", "()V"⟩, 12) := ⟨⟨by decide +kernel, by decide +kernel⟩, List.mem_of_getElem? (i := 14) (by decide +kernel), List.mem_of_getElem? (i := 475) (by decide +kernel), List.mem_of_getElem? (i := 476) (by decide +kernel)⟩
theorem lw_p1 : lw_okq (⟨"FlowConstantsModel", "startsReading", "()V"⟩, 49) := ⟨⟨by decide +kernel, by decide +kernel⟩, List.mem_of_getElem? (i := 672) (by decide +kernel), List.mem_of_getElem? (i := 842) (by decide +kernel), List.mem_of_getElem? (i := 843) (by decide +kernel)⟩
theorem lw_p2 : lw_okq (⟨"FlowConstantsModel", "here", "()I"⟩, 49) := ⟨⟨by decide +kernel, by decide +kernel⟩, List.mem_of_getElem? (i := 672) (by decide +kernel), List.mem_of_getElem? (i := 846) (by decide +kernel), List.mem_of_getElem? (i := 847) (by decide +kernel)⟩
theorem lw_p3 : lw_okq (⟨"FlowConstantsModel", "readsItem", "()V"⟩, 49) := ⟨⟨by decide +kernel, by decide +kernel⟩, List.mem_of_getElem? (i := 672) (by decide +kernel), List.mem_of_getElem? (i := 850) (by decide +kernel), List.mem_of_getElem? (i := 851) (by decide +kernel)⟩
theorem lw_p4 : lw_okq (⟨"FlowConstantsModel", "mayBegin", "(I)Z"⟩, 49) := ⟨⟨by decide +kernel, by decide +kernel⟩, List.mem_of_getElem? (i := 672) (by decide +kernel), List.mem_of_getElem? (i := 854) (by decide +kernel), List.mem_of_getElem? (i := 855) (by decide +kernel)⟩
theorem lw_p5 : lw_okq (⟨"FlowConstantsModel", "onlyJoins", "()Z"⟩, 49) := ⟨⟨by decide +kernel, by decide +kernel⟩, List.mem_of_getElem? (i := 672) (by decide +kernel), List.mem_of_getElem? (i := 858) (by decide +kernel), List.mem_of_getElem? (i := 859) (by decide +kernel)⟩
theorem lw_p6 : lw_okq (⟨"FlowConstantsModel", "closes", "()V"⟩, 49) := ⟨⟨by decide +kernel, by decide +kernel⟩, List.mem_of_getElem? (i := 672) (by decide +kernel), List.mem_of_getElem? (i := 862) (by decide +kernel), List.mem_of_getElem? (i := 863) (by decide +kernel)⟩
theorem lw_p7 : lw_okq (⟨"FlowConstantsModel", "startsName", "(I)V"⟩, 49) := ⟨⟨by decide +kernel, by decide +kernel⟩, List.mem_of_getElem? (i := 672) (by decide +kernel), List.mem_of_getElem? (i := 866) (by decide +kernel), List.mem_of_getElem? (i := 867) (by decide +kernel)⟩
theorem lw_p8 : lw_okq (⟨"FlowConstantsModel", "numeral", "(I)I"⟩, 49) := ⟨⟨by decide +kernel, by decide +kernel⟩, List.mem_of_getElem? (i := 672) (by decide +kernel), List.mem_of_getElem? (i := 870) (by decide +kernel), List.mem_of_getElem? (i := 871) (by decide +kernel)⟩
theorem lw_p9 : lw_okq (⟨"FlowConstantsModel", "readsOperation", "()V"⟩, 49) := ⟨⟨by decide +kernel, by decide +kernel⟩, List.mem_of_getElem? (i := 672) (by decide +kernel), List.mem_of_getElem? (i := 874) (by decide +kernel), List.mem_of_getElem? (i := 875) (by decide +kernel)⟩
theorem lw_p10 : lw_okq (⟨"FlowConstantsModel", "readsJoin", "()V"⟩, 49) := ⟨⟨by decide +kernel, by decide +kernel⟩, List.mem_of_getElem? (i := 672) (by decide +kernel), List.mem_of_getElem? (i := 881) (by decide +kernel), List.mem_of_getElem? (i := 882) (by decide +kernel)⟩
theorem lw_p11 : lw_okq (⟨"FlowConstantsModel", "readsEnd", "(I)V"⟩, 49) := ⟨⟨by decide +kernel, by decide +kernel⟩, List.mem_of_getElem? (i := 672) (by decide +kernel), List.mem_of_getElem? (i := 885) (by decide +kernel), List.mem_of_getElem? (i := 886) (by decide +kernel)⟩
theorem lw_p12 : lw_okq (⟨"FlowConstantsModel", "isStrict", "()Z"⟩, 49) := ⟨⟨by decide +kernel, by decide +kernel⟩, List.mem_of_getElem? (i := 672) (by decide +kernel), List.mem_of_getElem? (i := 889) (by decide +kernel), List.mem_of_getElem? (i := 890) (by decide +kernel)⟩
theorem lw_p13 : lw_okq (⟨"FlowConstantsModel", "laysBefore", "()V"⟩, 49) := ⟨⟨by decide +kernel, by decide +kernel⟩, List.mem_of_getElem? (i := 672) (by decide +kernel), List.mem_of_getElem? (i := 893) (by decide +kernel), List.mem_of_getElem? (i := 894) (by decide +kernel)⟩
theorem lw_p14 : lw_okq (⟨"FlowConstantsModel", "goesTo", "(II)Z"⟩, 49) := ⟨⟨by decide +kernel, by decide +kernel⟩, List.mem_of_getElem? (i := 672) (by decide +kernel), List.mem_of_getElem? (i := 897) (by decide +kernel), List.mem_of_getElem? (i := 898) (by decide +kernel)⟩
theorem lw_p15 : lw_okq (⟨"FlowConstantsModel", "isBefore", "(III)Z"⟩, 49) := ⟨⟨by decide +kernel, by decide +kernel⟩, List.mem_of_getElem? (i := 672) (by decide +kernel), List.mem_of_getElem? (i := 901) (by decide +kernel), List.mem_of_getElem? (i := 902) (by decide +kernel)⟩
def lw_privs_1 : List (MethodName × Nat) := [(⟨"FlowConstants", "settle", "()V"⟩, 12), (⟨"FlowConstantsModel", "startsReading", "()V"⟩, 49), (⟨"FlowConstantsModel", "here", "()I"⟩, 49), (⟨"FlowConstantsModel", "readsItem", "()V"⟩, 49), (⟨"FlowConstantsModel", "mayBegin", "(I)Z"⟩, 49), (⟨"FlowConstantsModel", "onlyJoins", "()Z"⟩, 49), (⟨"FlowConstantsModel", "closes", "()V"⟩, 49), (⟨"FlowConstantsModel", "startsName", "(I)V"⟩, 49), (⟨"FlowConstantsModel", "numeral", "(I)I"⟩, 49), (⟨"FlowConstantsModel", "readsOperation", "()V"⟩, 49), (⟨"FlowConstantsModel", "readsJoin", "()V"⟩, 49), (⟨"FlowConstantsModel", "readsEnd", "(I)V"⟩, 49), (⟨"FlowConstantsModel", "isStrict", "()Z"⟩, 49), (⟨"FlowConstantsModel", "laysBefore", "()V"⟩, 49), (⟨"FlowConstantsModel", "goesTo", "(II)Z"⟩, 49), (⟨"FlowConstantsModel", "isBefore", "(III)Z"⟩, 49)]
theorem lw_r1 : ∀ q ∈ lw_privs_1, lw_okq q := List.forall_mem_cons.mpr ⟨lw_p0, List.forall_mem_cons.mpr ⟨lw_p1, List.forall_mem_cons.mpr ⟨lw_p2, List.forall_mem_cons.mpr ⟨lw_p3, List.forall_mem_cons.mpr ⟨lw_p4, List.forall_mem_cons.mpr ⟨lw_p5, List.forall_mem_cons.mpr ⟨lw_p6, List.forall_mem_cons.mpr ⟨lw_p7, List.forall_mem_cons.mpr ⟨lw_p8, List.forall_mem_cons.mpr ⟨lw_p9, List.forall_mem_cons.mpr ⟨lw_p10, List.forall_mem_cons.mpr ⟨lw_p11, List.forall_mem_cons.mpr ⟨lw_p12, List.forall_mem_cons.mpr ⟨lw_p13, List.forall_mem_cons.mpr ⟨lw_p14, List.forall_mem_cons.mpr ⟨lw_p15, fun _ h => absurd h List.not_mem_nil⟩⟩⟩⟩⟩⟩⟩⟩⟩⟩⟩⟩⟩⟩⟩⟩
theorem lw_p16 : lw_okq (⟨"FlowConstantsModel", "isJoined", "(I)Z"⟩, 49) := ⟨⟨by decide +kernel, by decide +kernel⟩, List.mem_of_getElem? (i := 672) (by decide +kernel), List.mem_of_getElem? (i := 908) (by decide +kernel), List.mem_of_getElem? (i := 909) (by decide +kernel)⟩
theorem lw_p17 : lw_okq (⟨"FlowConstantsModel", "isName", "(I)Z"⟩, 49) := ⟨⟨by decide +kernel, by decide +kernel⟩, List.mem_of_getElem? (i := 672) (by decide +kernel), List.mem_of_getElem? (i := 919) (by decide +kernel), List.mem_of_getElem? (i := 920) (by decide +kernel)⟩
theorem lw_p18 : lw_okq (⟨"FlowConstantsModel", "finds", "(Z)V"⟩, 49) := ⟨⟨by decide +kernel, by decide +kernel⟩, List.mem_of_getElem? (i := 672) (by decide +kernel), List.mem_of_getElem? (i := 923) (by decide +kernel), List.mem_of_getElem? (i := 924) (by decide +kernel)⟩
theorem lw_p19 : lw_okq (⟨"FlowConstantsModel", "climbs", "(IZ)V"⟩, 49) := ⟨⟨by decide +kernel, by decide +kernel⟩, List.mem_of_getElem? (i := 672) (by decide +kernel), List.mem_of_getElem? (i := 927) (by decide +kernel), List.mem_of_getElem? (i := 928) (by decide +kernel)⟩
theorem lw_p20 : lw_okq (⟨"FlowConstantsModel", "climbsOperation", "(I)V"⟩, 49) := ⟨⟨by decide +kernel, by decide +kernel⟩, List.mem_of_getElem? (i := 672) (by decide +kernel), List.mem_of_getElem? (i := 931) (by decide +kernel), List.mem_of_getElem? (i := 932) (by decide +kernel)⟩
theorem lw_p21 : lw_okq (⟨"FlowConstantsModel", "doneBy", "(III)I"⟩, 49) := ⟨⟨by decide +kernel, by decide +kernel⟩, List.mem_of_getElem? (i := 672) (by decide +kernel), List.mem_of_getElem? (i := 935) (by decide +kernel), List.mem_of_getElem? (i := 936) (by decide +kernel)⟩
theorem lw_p22 : lw_okq (⟨"FlowConstantsModel", "climbsJoin", "(IZ)V"⟩, 49) := ⟨⟨by decide +kernel, by decide +kernel⟩, List.mem_of_getElem? (i := 672) (by decide +kernel), List.mem_of_getElem? (i := 939) (by decide +kernel), List.mem_of_getElem? (i := 940) (by decide +kernel)⟩
theorem lw_p23 : lw_okq (⟨"FlowConstantsModel", "isWay", "(IIZ)Z"⟩, 49) := ⟨⟨by decide +kernel, by decide +kernel⟩, List.mem_of_getElem? (i := 672) (by decide +kernel), List.mem_of_getElem? (i := 943) (by decide +kernel), List.mem_of_getElem? (i := 944) (by decide +kernel)⟩
theorem lw_p24 : lw_okq (⟨"FlowConstantsModel", "isEdge", "(IIZ)Z"⟩, 49) := ⟨⟨by decide +kernel, by decide +kernel⟩, List.mem_of_getElem? (i := 672) (by decide +kernel), List.mem_of_getElem? (i := 947) (by decide +kernel), List.mem_of_getElem? (i := 948) (by decide +kernel)⟩
theorem lw_p25 : lw_okq (⟨"FlowConstantsModel", "tells", "(II)I"⟩, 49) := ⟨⟨by decide +kernel, by decide +kernel⟩, List.mem_of_getElem? (i := 672) (by decide +kernel), List.mem_of_getElem? (i := 955) (by decide +kernel), List.mem_of_getElem? (i := 956) (by decide +kernel)⟩
theorem lw_p26 : lw_okq (⟨"FlowConstantsModel", "isBlock", "(I)Z"⟩, 49) := ⟨⟨by decide +kernel, by decide +kernel⟩, List.mem_of_getElem? (i := 672) (by decide +kernel), List.mem_of_getElem? (i := 963) (by decide +kernel), List.mem_of_getElem? (i := 964) (by decide +kernel)⟩
theorem lw_p27 : lw_okq (⟨"FlowConstantsModel", "isMade", "(II)Z"⟩, 49) := ⟨⟨by decide +kernel, by decide +kernel⟩, List.mem_of_getElem? (i := 672) (by decide +kernel), List.mem_of_getElem? (i := 971) (by decide +kernel), List.mem_of_getElem? (i := 972) (by decide +kernel)⟩
theorem lw_p28 : lw_okq (⟨"FlowConstantsModel", "notes", "()V"⟩, 49) := ⟨⟨by decide +kernel, by decide +kernel⟩, List.mem_of_getElem? (i := 672) (by decide +kernel), List.mem_of_getElem? (i := 975) (by decide +kernel), List.mem_of_getElem? (i := 976) (by decide +kernel)⟩
theorem lw_p29 : lw_okq (⟨"FlowConstantsModel", "those", "(I)I"⟩, 49) := ⟨⟨by decide +kernel, by decide +kernel⟩, List.mem_of_getElem? (i := 672) (by decide +kernel), List.mem_of_getElem? (i := 979) (by decide +kernel), List.mem_of_getElem? (i := 980) (by decide +kernel)⟩
theorem lw_p30 : lw_okq (⟨"FlowConstantsModel", "liveBlocks", "()I"⟩, 49) := ⟨⟨by decide +kernel, by decide +kernel⟩, List.mem_of_getElem? (i := 672) (by decide +kernel), List.mem_of_getElem? (i := 999) (by decide +kernel), List.mem_of_getElem? (i := 1000) (by decide +kernel)⟩
theorem lw_p31 : lw_okq (⟨"FlowConstantsModel", "runs", "()I"⟩, 49) := ⟨⟨by decide +kernel, by decide +kernel⟩, List.mem_of_getElem? (i := 672) (by decide +kernel), List.mem_of_getElem? (i := 1011) (by decide +kernel), List.mem_of_getElem? (i := 1012) (by decide +kernel)⟩
def lw_privs_2 : List (MethodName × Nat) := [(⟨"FlowConstantsModel", "isJoined", "(I)Z"⟩, 49), (⟨"FlowConstantsModel", "isName", "(I)Z"⟩, 49), (⟨"FlowConstantsModel", "finds", "(Z)V"⟩, 49), (⟨"FlowConstantsModel", "climbs", "(IZ)V"⟩, 49), (⟨"FlowConstantsModel", "climbsOperation", "(I)V"⟩, 49), (⟨"FlowConstantsModel", "doneBy", "(III)I"⟩, 49), (⟨"FlowConstantsModel", "climbsJoin", "(IZ)V"⟩, 49), (⟨"FlowConstantsModel", "isWay", "(IIZ)Z"⟩, 49), (⟨"FlowConstantsModel", "isEdge", "(IIZ)Z"⟩, 49), (⟨"FlowConstantsModel", "tells", "(II)I"⟩, 49), (⟨"FlowConstantsModel", "isBlock", "(I)Z"⟩, 49), (⟨"FlowConstantsModel", "isMade", "(II)Z"⟩, 49), (⟨"FlowConstantsModel", "notes", "()V"⟩, 49), (⟨"FlowConstantsModel", "those", "(I)I"⟩, 49), (⟨"FlowConstantsModel", "liveBlocks", "()I"⟩, 49), (⟨"FlowConstantsModel", "runs", "()I"⟩, 49)]
theorem lw_r2 : ∀ q ∈ lw_privs_2, lw_okq q := List.forall_mem_cons.mpr ⟨lw_p16, List.forall_mem_cons.mpr ⟨lw_p17, List.forall_mem_cons.mpr ⟨lw_p18, List.forall_mem_cons.mpr ⟨lw_p19, List.forall_mem_cons.mpr ⟨lw_p20, List.forall_mem_cons.mpr ⟨lw_p21, List.forall_mem_cons.mpr ⟨lw_p22, List.forall_mem_cons.mpr ⟨lw_p23, List.forall_mem_cons.mpr ⟨lw_p24, List.forall_mem_cons.mpr ⟨lw_p25, List.forall_mem_cons.mpr ⟨lw_p26, List.forall_mem_cons.mpr ⟨lw_p27, List.forall_mem_cons.mpr ⟨lw_p28, List.forall_mem_cons.mpr ⟨lw_p29, List.forall_mem_cons.mpr ⟨lw_p30, List.forall_mem_cons.mpr ⟨lw_p31, fun _ h => absurd h List.not_mem_nil⟩⟩⟩⟩⟩⟩⟩⟩⟩⟩⟩⟩⟩⟩⟩⟩
theorem lw_p32 : lw_okq (⟨"FlowConstantsModel", "takes", "(II)V"⟩, 49) := ⟨⟨by decide +kernel, by decide +kernel⟩, List.mem_of_getElem? (i := 672) (by decide +kernel), List.mem_of_getElem? (i := 1015) (by decide +kernel), List.mem_of_getElem? (i := 1016) (by decide +kernel)⟩
theorem lw_p33 : lw_okq (⟨"FlowConstantsModel", "makes", "(I)I"⟩, 49) := ⟨⟨by decide +kernel, by decide +kernel⟩, List.mem_of_getElem? (i := 672) (by decide +kernel), List.mem_of_getElem? (i := 1019) (by decide +kernel), List.mem_of_getElem? (i := 1020) (by decide +kernel)⟩
theorem lw_p34 : lw_okq (⟨"FlowConstantsModel", "edges", "(Z)I"⟩, 49) := ⟨⟨by decide +kernel, by decide +kernel⟩, List.mem_of_getElem? (i := 672) (by decide +kernel), List.mem_of_getElem? (i := 1035) (by decide +kernel), List.mem_of_getElem? (i := 1036) (by decide +kernel)⟩
theorem lw_p35 : lw_okq (⟨"FlowConstantsModel", "folds", "()I"⟩, 49) := ⟨⟨by decide +kernel, by decide +kernel⟩, List.mem_of_getElem? (i := 672) (by decide +kernel), List.mem_of_getElem? (i := 1039) (by decide +kernel), List.mem_of_getElem? (i := 1040) (by decide +kernel)⟩
theorem lw_p36 : lw_okq (⟨"FlowConstantsModel", "foldedEnds", "()I"⟩, 49) := ⟨⟨by decide +kernel, by decide +kernel⟩, List.mem_of_getElem? (i := 672) (by decide +kernel), List.mem_of_getElem? (i := 1043) (by decide +kernel), List.mem_of_getElem? (i := 1044) (by decide +kernel)⟩
theorem lw_p37 : lw_okq (⟨"FlowConstantsModel", "stays", "()I"⟩, 49) := ⟨⟨by decide +kernel, by decide +kernel⟩, List.mem_of_getElem? (i := 672) (by decide +kernel), List.mem_of_getElem? (i := 1047) (by decide +kernel), List.mem_of_getElem? (i := 1048) (by decide +kernel)⟩
theorem lw_p38 : lw_okq (⟨"FlowConstantsModel", "gain", "()I"⟩, 49) := ⟨⟨by decide +kernel, by decide +kernel⟩, List.mem_of_getElem? (i := 672) (by decide +kernel), List.mem_of_getElem? (i := 1051) (by decide +kernel), List.mem_of_getElem? (i := 1052) (by decide +kernel)⟩
def lw_privs_3 : List (MethodName × Nat) := [(⟨"FlowConstantsModel", "takes", "(II)V"⟩, 49), (⟨"FlowConstantsModel", "makes", "(I)I"⟩, 49), (⟨"FlowConstantsModel", "edges", "(Z)I"⟩, 49), (⟨"FlowConstantsModel", "folds", "()I"⟩, 49), (⟨"FlowConstantsModel", "foldedEnds", "()I"⟩, 49), (⟨"FlowConstantsModel", "stays", "()I"⟩, 49), (⟨"FlowConstantsModel", "gain", "()I"⟩, 49)]
theorem lw_r3 : ∀ q ∈ lw_privs_3, lw_okq q := List.forall_mem_cons.mpr ⟨lw_p32, List.forall_mem_cons.mpr ⟨lw_p33, List.forall_mem_cons.mpr ⟨lw_p34, List.forall_mem_cons.mpr ⟨lw_p35, List.forall_mem_cons.mpr ⟨lw_p36, List.forall_mem_cons.mpr ⟨lw_p37, List.forall_mem_cons.mpr ⟨lw_p38, fun _ h => absurd h List.not_mem_nil⟩⟩⟩⟩⟩⟩⟩
def lw_privs : List (MethodName × Nat) := lw_privs_1 ++ (lw_privs_2 ++ (lw_privs_3))
def lw_tbl : List Cond := k2_sels lw_privs ++ tables_1
theorem lw_privs_ok : ∀ q ∈ lw_privs, lw_okq q := by
  show ∀ q ∈ lw_privs_1 ++ (lw_privs_2 ++ (lw_privs_3)), lw_okq q
  exact List.forall_mem_append.mpr ⟨lw_r1, List.forall_mem_append.mpr ⟨lw_r2, lw_r3⟩⟩
-- the table of every word that holds at any later time, and each method's words: its own code, then the table
def lw_gt : List Cond := lw_tbl.filter goodWord
theorem lw_gt_of {w : Cond} (h : w ∈ lw_tbl) (g : goodWord w = true) : w ∈ lw_gt := List.mem_filter.mpr ⟨h, g⟩
def wc (y : MethodName) (b : ByteArray) (n : Nat) (r : Option FieldType) : List Cond := .code y b n r :: lw_gt
theorem lw_goodIn : GoodIn lw_gt lw_gt := fun w h => ⟨h, good_of_word (List.mem_filter.mp h).2⟩
theorem wc_good {y : MethodName} {b : ByteArray} {n : Nat} {r : Option FieldType} (h : Cond.code y b n r ∈ lw_gt) : GoodIn lw_gt (wc y b n r) := fun w hw => (List.mem_cons.mp hw).elim (fun e => e ▸ lw_goodIn _ h) (fun h => lw_goodIn w h)
theorem gdV {own C : String} {idx : Nat} {y : MethodName} {b : ByteArray} {n : Nat} {r : Option FieldType} (h1 : Cond.methodLink own idx y ∈ lw_gt) (h2 : Cond.instanceMethod y ∈ lw_gt) (h3 : Cond.selects C y y ∈ lw_gt) (h4 : Cond.initialized C ∈ lw_gt) (h5 : Cond.code y b n r ∈ lw_gt) : GoodIn lw_gt (wsV own idx C y (wc y b n r)) := by
  intro w hw
  rcases List.mem_append.mp hw with hw | hw
  · rcases List.mem_cons.mp hw with rfl | hw
    · exact lw_goodIn _ h1
    · rcases List.mem_cons.mp hw with rfl | hw
      · exact lw_goodIn _ h2
      · rcases List.mem_cons.mp hw with rfl | hw
        · exact lw_goodIn _ h3
        · rcases List.mem_cons.mp hw with rfl | hw
          · exact lw_goodIn _ h4
          · exact absurd hw List.not_mem_nil
  · exact wc_good h5 w hw
theorem gdS {own : String} {idx : Nat} {y : MethodName} {b : ByteArray} {n : Nat} {r : Option FieldType} (h1 : Cond.methodLink own idx y ∈ lw_gt) (h2 : Cond.static y ∈ lw_gt) (h4 : Cond.initialized y.cls ∈ lw_gt) (h5 : Cond.code y b n r ∈ lw_gt) : GoodIn lw_gt (va_wsS own idx y (wc y b n r)) := by
  intro w hw
  rcases List.mem_append.mp hw with hw | hw
  · rcases List.mem_cons.mp hw with rfl | hw
    · exact lw_goodIn _ h1
    · rcases List.mem_cons.mp hw with rfl | hw
      · exact lw_goodIn _ h2
      · rcases List.mem_cons.mp hw with rfl | hw
        · exact lw_goodIn _ h4
        · exact absurd hw List.not_mem_nil
  · exact wc_good h5 w hw
end
section
/-! ===== BEGIN printed: names, fields, word lists, decode rows ===== -/
def RX0 : String := "FlowConstants$Flow"
def TX0 : u_T := fun k => match k with
  | 0 => ("FlowConstants$Flow", "state", "[I", true)
  | 1 => ("FlowConstants$Flow", "value", "[I", true)
  | 2 => ("FlowConstants$Flow", "live", "[I", true)
  | _ => ("FlowConstants$Flow", "open", "[I", true)
def tyX0 : Nat → FieldType := fun k => match k with
  | 0 => .array .int
  | 1 => .array .int
  | 2 => .array .int
  | _ => .array .int
abbrev wsX00 : List Cond := u_ws RX0 TX0 4
theorem nmX0 : ∀ a, a < 4 → ∀ b, b < 4 → a ≠ b → (TX0 a).2.1 ≠ (TX0 b).2.1 := by decide +kernel
theorem tyX0_ok : ∀ k, k < 4 → parseFieldDescriptor (TX0 k).2.2.1 = some (tyX0 k) := by decide +kernel
abbrev cX0_init : ByteArray := prog_2_method_1_code
def yX0_init : MethodName := ⟨RX0, "<init>", "()V"⟩
abbrev cX0_climb : ByteArray := prog_2_method_2_code
def yX0_climb : MethodName := ⟨RX0, "climb", "(LFlowConstants$Shape;LFlowConstants$Now;ZI)V"⟩
abbrev cX0_liftNames : ByteArray := prog_2_method_3_code
def yX0_liftNames : MethodName := ⟨RX0, "liftNames", "(LFlowConstants$Shape;LFlowConstants$Now;II)Z"⟩
abbrev cX0_liftOperation : ByteArray := prog_2_method_4_code
def yX0_liftOperation : MethodName := ⟨RX0, "liftOperation", "(LFlowConstants$Shape;I)Z"⟩
abbrev cX0_liftJoin : ByteArray := prog_2_method_5_code
def yX0_liftJoin : MethodName := ⟨RX0, "liftJoin", "(LFlowConstants$Shape;LFlowConstants$Now;I)Z"⟩
abbrev cX0_lift : ByteArray := prog_2_method_6_code
def yX0_lift : MethodName := ⟨RX0, "lift", "(III)Z"⟩
abbrev cX0_openEdges : ByteArray := prog_2_method_7_code
def yX0_openEdges : MethodName := ⟨RX0, "openEdges", "(LFlowConstants$Shape;LFlowConstants$Now;IZ)Z"⟩
abbrev cX0_goes : ByteArray := prog_2_method_8_code
def yX0_goes : MethodName := ⟨RX0, "goes", "(LFlowConstants$Shape;II)Z"⟩
abbrev cX0_isOpen : ByteArray := prog_2_method_9_code
def yX0_isOpen : MethodName := ⟨RX0, "isOpen", "(LFlowConstants$Now;II)Z"⟩
abbrev cX0_namesThatAre : ByteArray := prog_2_method_10_code
def yX0_namesThatAre : MethodName := ⟨RX0, "namesThatAre", "(ILFlowConstants$Shape;)I"⟩
abbrev cX0_liveBlocks : ByteArray := prog_2_method_11_code
def yX0_liveBlocks : MethodName := ⟨RX0, "liveBlocks", "(LFlowConstants$Shape;)I"⟩
abbrev cX0_liveEdges : ByteArray := prog_2_method_12_code
def yX0_liveEdges : MethodName := ⟨RX0, "liveEdges", "()I"⟩
abbrev cX0_foldedNames : ByteArray := prog_2_method_13_code
def yX0_foldedNames : MethodName := ⟨RX0, "foldedNames", "(LFlowConstants$Shape;)I"⟩
abbrev cX0_foldedEnds : ByteArray := prog_2_method_14_code
def yX0_foldedEnds : MethodName := ⟨RX0, "foldedEnds", "(LFlowConstants$Shape;)I"⟩
abbrev cX0_stayingNames : ByteArray := prog_2_method_15_code
def yX0_stayingNames : MethodName := ⟨RX0, "stayingNames", "(LFlowConstants$Shape;)I"⟩
abbrev cX0_gainOver : ByteArray := prog_2_method_16_code
def yX0_gainOver : MethodName := ⟨RX0, "gainOver", "(LFlowConstants$Flow;LFlowConstants$Shape;)I"⟩
def RX1 : String := "FlowConstants$History"
def TX1 : u_T := fun k => match k with
  | 0 => ("FlowConstants$History", "size", "I", false)
  | 1 => ("FlowConstants$History", "deed", "[I", true)
  | 2 => ("FlowConstants$History", "place", "[I", true)
  | 3 => ("FlowConstants$History", "wasKnown", "[I", true)
  | _ => ("FlowConstants$History", "was", "[I", true)
def tyX1 : Nat → FieldType := fun k => match k with
  | 0 => .int
  | 1 => .array .int
  | 2 => .array .int
  | 3 => .array .int
  | _ => .array .int
abbrev wsX10 : List Cond := u_ws RX1 TX1 5
theorem nmX1 : ∀ a, a < 5 → ∀ b, b < 5 → a ≠ b → (TX1 a).2.1 ≠ (TX1 b).2.1 := by decide +kernel
theorem tyX1_ok : ∀ k, k < 5 → parseFieldDescriptor (TX1 k).2.2.1 = some (tyX1 k) := by decide +kernel
abbrev cX1_init : ByteArray := prog_3_method_1_code
def yX1_init : MethodName := ⟨RX1, "<init>", "()V"⟩
abbrev cX1_note : ByteArray := prog_3_method_2_code
def yX1_note : MethodName := ⟨RX1, "note", "(IILFlowConstants$Now;)V"⟩
abbrev cX1_dropOldest : ByteArray := prog_3_method_3_code
def yX1_dropOldest : MethodName := ⟨RX1, "dropOldest", "()V"⟩
abbrev cX1_takeBack : ByteArray := prog_3_method_4_code
def yX1_takeBack : MethodName := ⟨RX1, "takeBack", "(LFlowConstants$Now;)V"⟩
def RX2 : String := "FlowConstants$Now"
def TX2 : u_T := fun k => match k with
  | 0 => ("FlowConstants$Now", "known", "[I", true)
  | 1 => ("FlowConstants$Now", "knownAs", "[I", true)
  | 2 => ("FlowConstants$Now", "given", "[I", true)
  | 3 => ("FlowConstants$Now", "number", "[I", true)
  | _ => ("FlowConstants$Now", "way", "[I", true)
def tyX2 : Nat → FieldType := fun k => match k with
  | 0 => .array .int
  | 1 => .array .int
  | 2 => .array .int
  | 3 => .array .int
  | _ => .array .int
abbrev wsX20 : List Cond := u_ws RX2 TX2 5
theorem nmX2 : ∀ a, a < 5 → ∀ b, b < 5 → a ≠ b → (TX2 a).2.1 ≠ (TX2 b).2.1 := by decide +kernel
theorem tyX2_ok : ∀ k, k < 5 → parseFieldDescriptor (TX2 k).2.2.1 = some (tyX2 k) := by decide +kernel
abbrev cX2_init : ByteArray := prog_4_method_1_code
def yX2_init : MethodName := ⟨RX2, "<init>", "()V"⟩
abbrev cX2_becomesAsTold : ByteArray := prog_4_method_2_code
def yX2_becomesAsTold : MethodName := ⟨RX2, "becomesAsTold", "(LFlowConstants$Shape;)V"⟩
abbrev cX2_copy : ByteArray := prog_4_method_3_code
def yX2_copy : MethodName := ⟨RX2, "copy", "(LFlowConstants$Now;)V"⟩
abbrev cX2_turn : ByteArray := prog_4_method_4_code
def yX2_turn : MethodName := ⟨RX2, "turn", "(I)V"⟩
abbrev cX2_inputOf : ByteArray := prog_4_method_5_code
def yX2_inputOf : MethodName := ⟨RX2, "inputOf", "(I)I"⟩
def RX3 : String := "FlowConstants$Reader"
def TX3 : u_T := fun k => match k with
  | _ => ("", "", "", false)
def tyX3 : Nat → FieldType := fun k => match k with
  | _ => .int
abbrev wsX30 : List Cond := u_ws RX3 TX3 0
theorem nmX3 : ∀ a, a < 0 → ∀ b, b < 0 → a ≠ b → (TX3 a).2.1 ≠ (TX3 b).2.1 := by decide +kernel
theorem tyX3_ok : ∀ k, k < 0 → parseFieldDescriptor (TX3 k).2.2.1 = some (tyX3 k) := by decide +kernel
abbrev cX3_faultOf : ByteArray := prog_5_method_2_code
def yX3_faultOf : MethodName := ⟨RX3, "faultOf", "(LFlowConstants$Text;LFlowConstants$Shape;)I"⟩
abbrev cX3_readItem : ByteArray := prog_5_method_3_code
def yX3_readItem : MethodName := ⟨RX3, "readItem", "(LFlowConstants$Text;LFlowConstants$Shape;)V"⟩
abbrev cX3_readNumber : ByteArray := prog_5_method_4_code
def yX3_readNumber : MethodName := ⟨RX3, "readNumber", "(LFlowConstants$Text;LFlowConstants$Shape;)V"⟩
abbrev cX3_readOperation : ByteArray := prog_5_method_5_code
def yX3_readOperation : MethodName := ⟨RX3, "readOperation", "(LFlowConstants$Text;LFlowConstants$Shape;)V"⟩
abbrev cX3_readArms : ByteArray := prog_5_method_6_code
def yX3_readArms : MethodName := ⟨RX3, "readArms", "(LFlowConstants$Text;LFlowConstants$Shape;)V"⟩
abbrev cX3_readGoing : ByteArray := prog_5_method_7_code
def yX3_readGoing : MethodName := ⟨RX3, "readGoing", "(LFlowConstants$Text;LFlowConstants$Shape;)V"⟩
abbrev cX3_readChoice : ByteArray := prog_5_method_8_code
def yX3_readChoice : MethodName := ⟨RX3, "readChoice", "(LFlowConstants$Text;LFlowConstants$Shape;)V"⟩
abbrev cX3_readReturn : ByteArray := prog_5_method_9_code
def yX3_readReturn : MethodName := ⟨RX3, "readReturn", "(LFlowConstants$Text;LFlowConstants$Shape;)V"⟩
def RX4 : String := "FlowConstants$Shape"
def TX4 : u_T := fun k => match k with
  | 0 => ("FlowConstants$Shape", "blocks", "I", false)
  | 1 => ("FlowConstants$Shape", "names", "I", false)
  | 2 => ("FlowConstants$Shape", "home", "[I", true)
  | 3 => ("FlowConstants$Shape", "make", "[I", true)
  | 4 => ("FlowConstants$Shape", "number", "[I", true)
  | 5 => ("FlowConstants$Shape", "sign", "[I", true)
  | 6 => ("FlowConstants$Shape", "left", "[I", true)
  | 7 => ("FlowConstants$Shape", "right", "[I", true)
  | 8 => ("FlowConstants$Shape", "arms", "[I", true)
  | 9 => ("FlowConstants$Shape", "armBlock", "[I", true)
  | 10 => ("FlowConstants$Shape", "armName", "[I", true)
  | 11 => ("FlowConstants$Shape", "start", "[I", true)
  | 12 => ("FlowConstants$Shape", "size", "[I", true)
  | 13 => ("FlowConstants$Shape", "end", "[I", true)
  | 14 => ("FlowConstants$Shape", "endName", "[I", true)
  | 15 => ("FlowConstants$Shape", "way", "[I", true)
  | _ => ("FlowConstants$Shape", "dominators", "[I", true)
def tyX4 : Nat → FieldType := fun k => match k with
  | 0 => .int
  | 1 => .int
  | 2 => .array .int
  | 3 => .array .int
  | 4 => .array .int
  | 5 => .array .int
  | 6 => .array .int
  | 7 => .array .int
  | 8 => .array .int
  | 9 => .array .int
  | 10 => .array .int
  | 11 => .array .int
  | 12 => .array .int
  | 13 => .array .int
  | 14 => .array .int
  | 15 => .array .int
  | _ => .array .int
abbrev wsX40 : List Cond := u_ws RX4 TX4 17
theorem nmX4 : ∀ a, a < 17 → ∀ b, b < 17 → a ≠ b → (TX4 a).2.1 ≠ (TX4 b).2.1 := by decide +kernel
theorem tyX4_ok : ∀ k, k < 17 → parseFieldDescriptor (TX4 k).2.2.1 = some (tyX4 k) := by decide +kernel
abbrev cX4_init : ByteArray := prog_6_method_1_code
def yX4_init : MethodName := ⟨RX4, "<init>", "()V"⟩
abbrev cX4_hasName : ByteArray := prog_6_method_2_code
def yX4_hasName : MethodName := ⟨RX4, "hasName", "(I)Z"⟩
abbrev cX4_hasBlock : ByteArray := prog_6_method_3_code
def yX4_hasBlock : MethodName := ⟨RX4, "hasBlock", "(I)Z"⟩
abbrev cX4_isMade : ByteArray := prog_6_method_4_code
def yX4_isMade : MethodName := ⟨RX4, "isMade", "(II)Z"⟩
abbrev cX4_edges : ByteArray := prog_6_method_5_code
def yX4_edges : MethodName := ⟨RX4, "edges", "()I"⟩
abbrev cX4_empty : ByteArray := prog_6_method_6_code
def yX4_empty : MethodName := ⟨RX4, "empty", "()V"⟩
abbrev cX4_admits : ByteArray := prog_6_method_7_code
def yX4_admits : MethodName := ⟨RX4, "admits", "(I)Z"⟩
abbrev cX4_admitsJoin : ByteArray := prog_6_method_8_code
def yX4_admitsJoin : MethodName := ⟨RX4, "admitsJoin", "()Z"⟩
abbrev cX4_beginBlock : ByteArray := prog_6_method_9_code
def yX4_beginBlock : MethodName := ⟨RX4, "beginBlock", "()V"⟩
abbrev cX4_addName : ByteArray := prog_6_method_10_code
def yX4_addName : MethodName := ⟨RX4, "addName", "(I)I"⟩
abbrev cX4_addArm : ByteArray := prog_6_method_11_code
def yX4_addArm : MethodName := ⟨RX4, "addArm", "(III)V"⟩
abbrev cX4_endBlock : ByteArray := prog_6_method_12_code
def yX4_endBlock : MethodName := ⟨RX4, "endBlock", "(I)I"⟩
abbrev cX4_armFrom : ByteArray := prog_6_method_13_code
def yX4_armFrom : MethodName := ⟨RX4, "armFrom", "(II)I"⟩
abbrev cX4_hasArm : ByteArray := prog_6_method_14_code
def yX4_hasArm : MethodName := ⟨RX4, "hasArm", "(II)Z"⟩
abbrev cX4_isWhole : ByteArray := prog_6_method_15_code
def yX4_isWhole : MethodName := ⟨RX4, "isWhole", "()Z"⟩
abbrev cX4_isStrict : ByteArray := prog_6_method_16_code
def yX4_isStrict : MethodName := ⟨RX4, "isStrict", "()Z"⟩
abbrev cX4_endsTellOfWhatIsThere : ByteArray := prog_6_method_17_code
def yX4_endsTellOfWhatIsThere : MethodName := ⟨RX4, "endsTellOfWhatIsThere", "()Z"⟩
abbrev cX4_namesTellOfWhatIsThere : ByteArray := prog_6_method_18_code
def yX4_namesTellOfWhatIsThere : MethodName := ⟨RX4, "namesTellOfWhatIsThere", "()Z"⟩
abbrev cX4_findDominators : ByteArray := prog_6_method_19_code
def yX4_findDominators : MethodName := ⟨RX4, "findDominators", "()V"⟩
abbrev cX4_reachedWithout : ByteArray := prog_6_method_20_code
def yX4_reachedWithout : MethodName := ⟨RX4, "reachedWithout", "(I)I"⟩
abbrev cX4_dominates : ByteArray := prog_6_method_21_code
def yX4_dominates : MethodName := ⟨RX4, "dominates", "(II)Z"⟩
abbrev cX4_isIn : ByteArray := prog_6_method_22_code
def yX4_isIn : MethodName := ⟨RX4, "isIn", "(II)Z"⟩
abbrev cX4_isAhead : ByteArray := prog_6_method_23_code
def yX4_isAhead : MethodName := ⟨RX4, "isAhead", "(II)Z"⟩
abbrev cX4_armsFit : ByteArray := prog_6_method_24_code
def yX4_armsFit : MethodName := ⟨RX4, "armsFit", "(I)Z"⟩
abbrev cX4_comingTo : ByteArray := prog_6_method_25_code
def yX4_comingTo : MethodName := ⟨RX4, "comingTo", "(I)I"⟩
def RX5 : String := "FlowConstants$Sums"
def TX5 : u_T := fun k => match k with
  | _ => ("", "", "", false)
def tyX5 : Nat → FieldType := fun k => match k with
  | _ => .int
abbrev wsX50 : List Cond := u_ws RX5 TX5 0
theorem nmX5 : ∀ a, a < 0 → ∀ b, b < 0 → a ≠ b → (TX5 a).2.1 ≠ (TX5 b).2.1 := by decide +kernel
theorem tyX5_ok : ∀ k, k < 0 → parseFieldDescriptor (TX5 k).2.2.1 = some (tyX5 k) := by decide +kernel
abbrev cX5_isSign : ByteArray := prog_7_method_2_code
def yX5_isSign : MethodName := ⟨RX5, "isSign", "(I)Z"⟩
abbrev cX5_traps : ByteArray := prog_7_method_3_code
def yX5_traps : MethodName := ⟨RX5, "traps", "(II)Z"⟩
abbrev cX5_result : ByteArray := prog_7_method_4_code
def yX5_result : MethodName := ⟨RX5, "result", "(III)I"⟩
abbrev cX5_side : ByteArray := prog_7_method_5_code
def yX5_side : MethodName := ⟨RX5, "side", "(I)I"⟩
def RX6 : String := "FlowConstants$Text"
def TX6 : u_T := fun k => match k with
  | 0 => ("FlowConstants$Text", "bytes", "[I", true)
  | 1 => ("FlowConstants$Text", "length", "I", false)
  | 2 => ("FlowConstants$Text", "kind", "I", false)
  | 3 => ("FlowConstants$Text", "place", "I", false)
  | 4 => ("FlowConstants$Text", "behind", "I", false)
  | 5 => ("FlowConstants$Text", "meaning", "I", false)
  | _ => ("FlowConstants$Text", "stuck", "Z", false)
def tyX6 : Nat → FieldType := fun k => match k with
  | 0 => .array .int
  | 1 => .int
  | 2 => .int
  | 3 => .int
  | 4 => .int
  | 5 => .int
  | _ => .boolean
abbrev wsX60 : List Cond := u_ws RX6 TX6 7
theorem nmX6 : ∀ a, a < 7 → ∀ b, b < 7 → a ≠ b → (TX6 a).2.1 ≠ (TX6 b).2.1 := by decide +kernel
theorem tyX6_ok : ∀ k, k < 7 → parseFieldDescriptor (TX6 k).2.2.1 = some (tyX6 k) := by decide +kernel
abbrev cX6_init : ByteArray := prog_8_method_1_code
def yX6_init : MethodName := ⟨RX6, "<init>", "()V"⟩
abbrev cX6_rewind : ByteArray := prog_8_method_2_code
def yX6_rewind : MethodName := ⟨RX6, "rewind", "()V"⟩
abbrev cX6_step : ByteArray := prog_8_method_3_code
def yX6_step : MethodName := ⟨RX6, "step", "()V"⟩
abbrev cX6_readLetters : ByteArray := prog_8_method_4_code
def yX6_readLetters : MethodName := ⟨RX6, "readLetters", "(I)V"⟩
abbrev cX6_readNumeral : ByteArray := prog_8_method_5_code
def yX6_readNumeral : MethodName := ⟨RX6, "readNumeral", "(I)V"⟩
abbrev cX6_hasMore : ByteArray := prog_8_method_6_code
def yX6_hasMore : MethodName := ⟨RX6, "hasMore", "()Z"⟩
abbrev cX6_take : ByteArray := prog_8_method_7_code
def yX6_take : MethodName := ⟨RX6, "take", "(I)I"⟩
abbrev cX6_takeNumeralBelow : ByteArray := prog_8_method_8_code
def yX6_takeNumeralBelow : MethodName := ⟨RX6, "takeNumeralBelow", "(I)I"⟩
def RX7 : String := "FlowConstants$Walk"
def TX7 : u_T := fun k => match k with
  | 0 => ("FlowConstants$Walk", "outcome", "I", false)
  | 1 => ("FlowConstants$Walk", "answer", "I", false)
  | 2 => ("FlowConstants$Walk", "value", "[I", true)
  | 3 => ("FlowConstants$Walk", "brought", "[I", true)
  | _ => ("FlowConstants$Walk", "times", "[I", true)
def tyX7 : Nat → FieldType := fun k => match k with
  | 0 => .int
  | 1 => .int
  | 2 => .array .int
  | 3 => .array .int
  | _ => .array .int
abbrev wsX70 : List Cond := u_ws RX7 TX7 5
theorem nmX7 : ∀ a, a < 5 → ∀ b, b < 5 → a ≠ b → (TX7 a).2.1 ≠ (TX7 b).2.1 := by decide +kernel
theorem tyX7_ok : ∀ k, k < 5 → parseFieldDescriptor (TX7 k).2.2.1 = some (tyX7 k) := by decide +kernel
abbrev cX7_init : ByteArray := prog_9_method_1_code
def yX7_init : MethodName := ⟨RX7, "<init>", "()V"⟩
abbrev cX7_start : ByteArray := prog_9_method_2_code
def yX7_start : MethodName := ⟨RX7, "start", "(LFlowConstants$Shape;LFlowConstants$Now;)V"⟩
abbrev cX7_takeJoins : ByteArray := prog_9_method_3_code
def yX7_takeJoins : MethodName := ⟨RX7, "takeJoins", "(LFlowConstants$Shape;II)V"⟩
abbrev cX7_makeNames : ByteArray := prog_9_method_4_code
def yX7_makeNames : MethodName := ⟨RX7, "makeNames", "(LFlowConstants$Shape;LFlowConstants$Now;I)I"⟩
abbrev cX7_next : ByteArray := prog_9_method_5_code
def yX7_next : MethodName := ⟨RX7, "next", "(LFlowConstants$Shape;LFlowConstants$Now;I)I"⟩
def RX8 : String := "FlowConstants"
def TX8 : u_T := fun k => match k with
  | 0 => ("FlowConstants", "text", "LFlowConstants$Text;", true)
  | 1 => ("FlowConstants", "shape", "LFlowConstants$Shape;", false)
  | 2 => ("FlowConstants", "draft", "LFlowConstants$Shape;", false)
  | 3 => ("FlowConstants", "now", "LFlowConstants$Now;", true)
  | 4 => ("FlowConstants", "flow", "LFlowConstants$Flow;", true)
  | 5 => ("FlowConstants", "plain", "LFlowConstants$Flow;", true)
  | 6 => ("FlowConstants", "trial", "LFlowConstants$Flow;", true)
  | 7 => ("FlowConstants", "walk", "LFlowConstants$Walk;", true)
  | 8 => ("FlowConstants", "history", "LFlowConstants$History;", true)
  | 9 => ("FlowConstants", "images", "[LFlowConstants$Now;", true)
  | 10 => ("FlowConstants", "kept", "[I", true)
  | _ => ("FlowConstants", "told", "I", false)
def tyX8 : Nat → FieldType := fun k => match k with
  | 0 => .object "FlowConstants$Text"
  | 1 => .object "FlowConstants$Shape"
  | 2 => .object "FlowConstants$Shape"
  | 3 => .object "FlowConstants$Now"
  | 4 => .object "FlowConstants$Flow"
  | 5 => .object "FlowConstants$Flow"
  | 6 => .object "FlowConstants$Flow"
  | 7 => .object "FlowConstants$Walk"
  | 8 => .object "FlowConstants$History"
  | 9 => .array (.object "FlowConstants$Now")
  | 10 => .array .int
  | _ => .int
abbrev wsX80 : List Cond := u_ws RX8 TX8 12
theorem nmX8 : ∀ a, a < 12 → ∀ b, b < 12 → a ≠ b → (TX8 a).2.1 ≠ (TX8 b).2.1 := by decide +kernel
theorem tyX8_ok : ∀ k, k < 12 → parseFieldDescriptor (TX8 k).2.2.1 = some (tyX8 k) := by decide +kernel
abbrev cX8_init : ByteArray := prog_1_method_1_code
def yX8_init : MethodName := ⟨RX8, "<init>", "()V"⟩
abbrev cX8_type : ByteArray := prog_1_method_2_code
def yX8_type : MethodName := ⟨RX8, "type", "(I)I"⟩
abbrev cX8_clear : ByteArray := prog_1_method_3_code
def yX8_clear : MethodName := ⟨RX8, "clear", "()I"⟩
abbrev cX8_program : ByteArray := prog_1_method_4_code
def yX8_program : MethodName := ⟨RX8, "program", "()I"⟩
abbrev cX8_name : ByteArray := prog_1_method_5_code
def yX8_name : MethodName := ⟨RX8, "name", "(II)I"⟩
abbrev cX8_found : ByteArray := prog_1_method_6_code
def yX8_found : MethodName := ⟨RX8, "found", "(I)I"⟩
abbrev cX8_block : ByteArray := prog_1_method_7_code
def yX8_block : MethodName := ⟨RX8, "block", "(II)I"⟩
abbrev cX8_knows : ByteArray := prog_1_method_8_code
def yX8_knows : MethodName := ⟨RX8, "knows", "(II)I"⟩
abbrev cX8_forgets : ByteArray := prog_1_method_9_code
def yX8_forgets : MethodName := ⟨RX8, "forgets", "(I)I"⟩
abbrev cX8_gives : ByteArray := prog_1_method_10_code
def yX8_gives : MethodName := ⟨RX8, "gives", "(II)I"⟩
abbrev cX8_patches : ByteArray := prog_1_method_11_code
def yX8_patches : MethodName := ⟨RX8, "patches", "(II)I"⟩
abbrev cX8_turned : ByteArray := prog_1_method_12_code
def yX8_turned : MethodName := ⟨RX8, "turned", "(I)I"⟩
abbrev cX8_undo : ByteArray := prog_1_method_13_code
def yX8_undo : MethodName := ⟨RX8, "undo", "()I"⟩
abbrev cX8_run : ByteArray := prog_1_method_14_code
def yX8_run : MethodName := ⟨RX8, "run", "()I"⟩
abbrev cX8_visits : ByteArray := prog_1_method_15_code
def yX8_visits : MethodName := ⟨RX8, "visits", "(I)I"⟩
abbrev cX8_last : ByteArray := prog_1_method_16_code
def yX8_last : MethodName := ⟨RX8, "last", "(I)I"⟩
abbrev cX8_count : ByteArray := prog_1_method_17_code
def yX8_count : MethodName := ⟨RX8, "count", "(I)I"⟩
abbrev cX8_best : ByteArray := prog_1_method_18_code
def yX8_best : MethodName := ⟨RX8, "best", "(I)I"⟩
abbrev cX8_keep : ByteArray := prog_1_method_19_code
def yX8_keep : MethodName := ⟨RX8, "keep", "(I)I"⟩
abbrev cX8_back : ByteArray := prog_1_method_20_code
def yX8_back : MethodName := ⟨RX8, "back", "(I)I"⟩
abbrev cX8_asked : ByteArray := prog_1_method_21_code
def yX8_asked : MethodName := ⟨RX8, "asked", "()I"⟩
abbrev cX8_settle : ByteArray := prog_1_method_22_code
def yX8_settle : MethodName := ⟨RX8, "settle", "()V"⟩
def RX9 : String := "FlowConstantsModel"
def TX9 : u_T := fun k => match k with
  | 0 => ("FlowConstantsModel", "text", "[I", true)
  | 1 => ("FlowConstantsModel", "length", "I", false)
  | 2 => ("FlowConstantsModel", "names", "I", false)
  | 3 => ("FlowConstantsModel", "blocks", "I", false)
  | 4 => ("FlowConstantsModel", "made", "[I", true)
  | 5 => ("FlowConstantsModel", "blockOf", "[I", true)
  | 6 => ("FlowConstantsModel", "sign", "[I", true)
  | 7 => ("FlowConstantsModel", "one", "[I", true)
  | 8 => ("FlowConstantsModel", "other", "[I", true)
  | 9 => ("FlowConstantsModel", "arms", "[I", true)
  | 10 => ("FlowConstantsModel", "armBlock", "[I", true)
  | 11 => ("FlowConstantsModel", "armName", "[I", true)
  | 12 => ("FlowConstantsModel", "first", "[I", true)
  | 13 => ("FlowConstantsModel", "ends", "[I", true)
  | 14 => ("FlowConstantsModel", "endName", "[I", true)
  | 15 => ("FlowConstantsModel", "before", "[I", true)
  | 16 => ("FlowConstantsModel", "st", "[I", true)
  | 17 => ("FlowConstantsModel", "book", "[I", true)
  | 18 => ("FlowConstantsModel", "undos", "I", false)
  | 19 => ("FlowConstantsModel", "images", "[I", true)
  | 20 => ("FlowConstantsModel", "isKept", "[Z", true)
  | 21 => ("FlowConstantsModel", "asked", "I", false)
  | 22 => ("FlowConstantsModel", "place", "I", false)
  | 23 => ("FlowConstantsModel", "isWrong", "Z", false)
  | 24 => ("FlowConstantsModel", "readNames", "I", false)
  | 25 => ("FlowConstantsModel", "readBlocks", "I", false)
  | 26 => ("FlowConstantsModel", "isOpen", "Z", false)
  | 27 => ("FlowConstantsModel", "readMade", "[I", true)
  | 28 => ("FlowConstantsModel", "readBlockOf", "[I", true)
  | 29 => ("FlowConstantsModel", "readSign", "[I", true)
  | 30 => ("FlowConstantsModel", "readOne", "[I", true)
  | 31 => ("FlowConstantsModel", "readOther", "[I", true)
  | 32 => ("FlowConstantsModel", "readArms", "[I", true)
  | 33 => ("FlowConstantsModel", "readArmBlock", "[I", true)
  | 34 => ("FlowConstantsModel", "readArmName", "[I", true)
  | 35 => ("FlowConstantsModel", "readFirst", "[I", true)
  | 36 => ("FlowConstantsModel", "readEnds", "[I", true)
  | 37 => ("FlowConstantsModel", "readEndName", "[I", true)
  | 38 => ("FlowConstantsModel", "read", "[I", true)
  | 39 => ("FlowConstantsModel", "readBefore", "[I", true)
  | 40 => ("FlowConstantsModel", "found", "[I", true)
  | 41 => ("FlowConstantsModel", "value", "[I", true)
  | 42 => ("FlowConstantsModel", "isLive", "[Z", true)
  | 43 => ("FlowConstantsModel", "plain", "[I", true)
  | 44 => ("FlowConstantsModel", "traps", "Z", false)
  | 45 => ("FlowConstantsModel", "is", "[I", true)
  | 46 => ("FlowConstantsModel", "then", "[I", true)
  | 47 => ("FlowConstantsModel", "visited", "[I", true)
  | _ => ("FlowConstantsModel", "told", "I", false)
def tyX9 : Nat → FieldType := fun k => match k with
  | 0 => .array .int
  | 1 => .int
  | 2 => .int
  | 3 => .int
  | 4 => .array .int
  | 5 => .array .int
  | 6 => .array .int
  | 7 => .array .int
  | 8 => .array .int
  | 9 => .array .int
  | 10 => .array .int
  | 11 => .array .int
  | 12 => .array .int
  | 13 => .array .int
  | 14 => .array .int
  | 15 => .array .int
  | 16 => .array .int
  | 17 => .array .int
  | 18 => .int
  | 19 => .array .int
  | 20 => .array .boolean
  | 21 => .int
  | 22 => .int
  | 23 => .boolean
  | 24 => .int
  | 25 => .int
  | 26 => .boolean
  | 27 => .array .int
  | 28 => .array .int
  | 29 => .array .int
  | 30 => .array .int
  | 31 => .array .int
  | 32 => .array .int
  | 33 => .array .int
  | 34 => .array .int
  | 35 => .array .int
  | 36 => .array .int
  | 37 => .array .int
  | 38 => .array .int
  | 39 => .array .int
  | 40 => .array .int
  | 41 => .array .int
  | 42 => .array .boolean
  | 43 => .array .int
  | 44 => .boolean
  | 45 => .array .int
  | 46 => .array .int
  | 47 => .array .int
  | _ => .int
abbrev wsX90 : List Cond := u_ws RX9 TX9 49
theorem nmX9 : ∀ a, a < 49 → ∀ b, b < 49 → a ≠ b → (TX9 a).2.1 ≠ (TX9 b).2.1 := by decide +kernel
theorem tyX9_ok : ∀ k, k < 49 → parseFieldDescriptor (TX9 k).2.2.1 = some (tyX9 k) := by decide +kernel
abbrev cX9_init : ByteArray := prog_11_method_1_code
def yX9_init : MethodName := ⟨RX9, "<init>", "()V"⟩
abbrev cX9_in : ByteArray := prog_11_method_3_code
def yX9_in : MethodName := ⟨RX9, "in", "(III)Z"⟩
abbrev cX9_has : ByteArray := prog_11_method_4_code
def yX9_has : MethodName := ⟨RX9, "has", "(II)Z"⟩
abbrev cX9_bring : ByteArray := prog_11_method_5_code
def yX9_bring : MethodName := ⟨RX9, "bring", "([II[III)V"⟩
abbrev cX9_isName : ByteArray := prog_11_method_6_code
def yX9_isName : MethodName := ⟨RX9, "isName", "(I)Z"⟩
abbrev cX9_isBlock : ByteArray := prog_11_method_7_code
def yX9_isBlock : MethodName := ⟨RX9, "isBlock", "(I)Z"⟩
abbrev cX9_type : ByteArray := prog_11_method_8_code
def yX9_type : MethodName := ⟨RX9, "type", "(I)I"⟩
abbrev cX9_clear : ByteArray := prog_11_method_9_code
def yX9_clear : MethodName := ⟨RX9, "clear", "()I"⟩
abbrev cX9_here : ByteArray := prog_11_method_10_code
def yX9_here : MethodName := ⟨RX9, "here", "()I"⟩
abbrev cX9_numeral : ByteArray := prog_11_method_11_code
def yX9_numeral : MethodName := ⟨RX9, "numeral", "(I)I"⟩
abbrev cX9_closes : ByteArray := prog_11_method_12_code
def yX9_closes : MethodName := ⟨RX9, "closes", "()V"⟩
abbrev cX9_isSign : ByteArray := prog_11_method_13_code
def yX9_isSign : MethodName := ⟨RX9, "isSign", "(I)Z"⟩
abbrev cX9_onlyJoins : ByteArray := prog_11_method_14_code
def yX9_onlyJoins : MethodName := ⟨RX9, "onlyJoins", "()Z"⟩
abbrev cX9_startsName : ByteArray := prog_11_method_15_code
def yX9_startsName : MethodName := ⟨RX9, "startsName", "(I)V"⟩
abbrev cX9_readsOperation : ByteArray := prog_11_method_16_code
def yX9_readsOperation : MethodName := ⟨RX9, "readsOperation", "()V"⟩
abbrev cX9_readsJoin : ByteArray := prog_11_method_17_code
def yX9_readsJoin : MethodName := ⟨RX9, "readsJoin", "()V"⟩
abbrev cX9_readsEnd : ByteArray := prog_11_method_18_code
def yX9_readsEnd : MethodName := ⟨RX9, "readsEnd", "(I)V"⟩
abbrev cX9_mayBegin : ByteArray := prog_11_method_19_code
def yX9_mayBegin : MethodName := ⟨RX9, "mayBegin", "(I)Z"⟩
abbrev cX9_readsItem : ByteArray := prog_11_method_20_code
def yX9_readsItem : MethodName := ⟨RX9, "readsItem", "()V"⟩
abbrev cX9_goesTo : ByteArray := prog_11_method_21_code
def yX9_goesTo : MethodName := ⟨RX9, "goesTo", "(II)Z"⟩
abbrev cX9_laysBefore : ByteArray := prog_11_method_22_code
def yX9_laysBefore : MethodName := ⟨RX9, "laysBefore", "()V"⟩
abbrev cX9_isBefore : ByteArray := prog_11_method_23_code
def yX9_isBefore : MethodName := ⟨RX9, "isBefore", "(III)Z"⟩
abbrev cX9_isJoined : ByteArray := prog_11_method_24_code
def yX9_isJoined : MethodName := ⟨RX9, "isJoined", "(I)Z"⟩
abbrev cX9_isStrict : ByteArray := prog_11_method_25_code
def yX9_isStrict : MethodName := ⟨RX9, "isStrict", "()Z"⟩
abbrev cX9_startsReading : ByteArray := prog_11_method_26_code
def yX9_startsReading : MethodName := ⟨RX9, "startsReading", "()V"⟩
abbrev cX9_program : ByteArray := prog_11_method_27_code
def yX9_program : MethodName := ⟨RX9, "program", "()I"⟩
abbrev cX9_doneBy : ByteArray := prog_11_method_28_code
def yX9_doneBy : MethodName := ⟨RX9, "doneBy", "(III)I"⟩
abbrev cX9_isEdge : ByteArray := prog_11_method_29_code
def yX9_isEdge : MethodName := ⟨RX9, "isEdge", "(IIZ)Z"⟩
abbrev cX9_isWay : ByteArray := prog_11_method_30_code
def yX9_isWay : MethodName := ⟨RX9, "isWay", "(IIZ)Z"⟩
abbrev cX9_climbsOperation : ByteArray := prog_11_method_31_code
def yX9_climbsOperation : MethodName := ⟨RX9, "climbsOperation", "(I)V"⟩
abbrev cX9_climbsJoin : ByteArray := prog_11_method_32_code
def yX9_climbsJoin : MethodName := ⟨RX9, "climbsJoin", "(IZ)V"⟩
abbrev cX9_climbs : ByteArray := prog_11_method_33_code
def yX9_climbs : MethodName := ⟨RX9, "climbs", "(IZ)V"⟩
abbrev cX9_finds : ByteArray := prog_11_method_34_code
def yX9_finds : MethodName := ⟨RX9, "finds", "(Z)V"⟩
abbrev cX9_those : ByteArray := prog_11_method_35_code
def yX9_those : MethodName := ⟨RX9, "those", "(I)I"⟩
abbrev cX9_liveBlocks : ByteArray := prog_11_method_36_code
def yX9_liveBlocks : MethodName := ⟨RX9, "liveBlocks", "()I"⟩
abbrev cX9_tells : ByteArray := prog_11_method_37_code
def yX9_tells : MethodName := ⟨RX9, "tells", "(II)I"⟩
abbrev cX9_name : ByteArray := prog_11_method_38_code
def yX9_name : MethodName := ⟨RX9, "name", "(II)I"⟩
abbrev cX9_found : ByteArray := prog_11_method_39_code
def yX9_found : MethodName := ⟨RX9, "found", "(I)I"⟩
abbrev cX9_block : ByteArray := prog_11_method_40_code
def yX9_block : MethodName := ⟨RX9, "block", "(II)I"⟩
abbrev cX9_notes : ByteArray := prog_11_method_41_code
def yX9_notes : MethodName := ⟨RX9, "notes", "()V"⟩
abbrev cX9_isMade : ByteArray := prog_11_method_42_code
def yX9_isMade : MethodName := ⟨RX9, "isMade", "(II)Z"⟩
abbrev cX9_knows : ByteArray := prog_11_method_43_code
def yX9_knows : MethodName := ⟨RX9, "knows", "(II)I"⟩
abbrev cX9_forgets : ByteArray := prog_11_method_44_code
def yX9_forgets : MethodName := ⟨RX9, "forgets", "(I)I"⟩
abbrev cX9_gives : ByteArray := prog_11_method_45_code
def yX9_gives : MethodName := ⟨RX9, "gives", "(II)I"⟩
abbrev cX9_patches : ByteArray := prog_11_method_46_code
def yX9_patches : MethodName := ⟨RX9, "patches", "(II)I"⟩
abbrev cX9_turned : ByteArray := prog_11_method_47_code
def yX9_turned : MethodName := ⟨RX9, "turned", "(I)I"⟩
abbrev cX9_undo : ByteArray := prog_11_method_48_code
def yX9_undo : MethodName := ⟨RX9, "undo", "()I"⟩
abbrev cX9_takes : ByteArray := prog_11_method_49_code
def yX9_takes : MethodName := ⟨RX9, "takes", "(II)V"⟩
abbrev cX9_makes : ByteArray := prog_11_method_50_code
def yX9_makes : MethodName := ⟨RX9, "makes", "(I)I"⟩
abbrev cX9_runs : ByteArray := prog_11_method_51_code
def yX9_runs : MethodName := ⟨RX9, "runs", "()I"⟩
abbrev cX9_run : ByteArray := prog_11_method_52_code
def yX9_run : MethodName := ⟨RX9, "run", "()I"⟩
abbrev cX9_visits : ByteArray := prog_11_method_53_code
def yX9_visits : MethodName := ⟨RX9, "visits", "(I)I"⟩
abbrev cX9_last : ByteArray := prog_11_method_54_code
def yX9_last : MethodName := ⟨RX9, "last", "(I)I"⟩
abbrev cX9_edges : ByteArray := prog_11_method_55_code
def yX9_edges : MethodName := ⟨RX9, "edges", "(Z)I"⟩
abbrev cX9_folds : ByteArray := prog_11_method_56_code
def yX9_folds : MethodName := ⟨RX9, "folds", "()I"⟩
abbrev cX9_foldedEnds : ByteArray := prog_11_method_57_code
def yX9_foldedEnds : MethodName := ⟨RX9, "foldedEnds", "()I"⟩
abbrev cX9_stays : ByteArray := prog_11_method_58_code
def yX9_stays : MethodName := ⟨RX9, "stays", "()I"⟩
abbrev cX9_gain : ByteArray := prog_11_method_59_code
def yX9_gain : MethodName := ⟨RX9, "gain", "()I"⟩
abbrev cX9_count : ByteArray := prog_11_method_60_code
def yX9_count : MethodName := ⟨RX9, "count", "(I)I"⟩
abbrev cX9_best : ByteArray := prog_11_method_61_code
def yX9_best : MethodName := ⟨RX9, "best", "(I)I"⟩
abbrev cX9_keep : ByteArray := prog_11_method_62_code
def yX9_keep : MethodName := ⟨RX9, "keep", "(I)I"⟩
abbrev cX9_back : ByteArray := prog_11_method_63_code
def yX9_back : MethodName := ⟨RX9, "back", "(I)I"⟩
abbrev cX9_asked : ByteArray := prog_11_method_64_code
def yX9_asked : MethodName := ⟨RX9, "asked", "()I"⟩
def RJ10 : String := "java/lang/System"
def TJ10 : u_T := fun k => match k with
  | _ => ("", "", "", false)
def tyJ10 : Nat → FieldType := fun k => match k with
  | _ => .int
abbrev wsJ100 : List Cond := u_ws RJ10 TJ10 0
theorem nmJ10 : ∀ a, a < 0 → ∀ b, b < 0 → a ≠ b → (TJ10 a).2.1 ≠ (TJ10 b).2.1 := by decide +kernel
theorem tyJ10_ok : ∀ k, k < 0 → parseFieldDescriptor (TJ10 k).2.2.1 = some (tyJ10 k) := by decide +kernel
def RJ7 : String := "java/util/Arrays"
def TJ7 : u_T := fun k => match k with
  | _ => ("", "", "", false)
def tyJ7 : Nat → FieldType := fun k => match k with
  | _ => .int
abbrev wsJ70 : List Cond := u_ws RJ7 TJ7 0
theorem nmJ7 : ∀ a, a < 0 → ∀ b, b < 0 → a ≠ b → (TJ7 a).2.1 ≠ (TJ7 b).2.1 := by decide +kernel
theorem tyJ7_ok : ∀ k, k < 0 → parseFieldDescriptor (TJ7 k).2.2.1 = some (tyJ7 k) := by decide +kernel
abbrev cJ7_fill_53178 : ByteArray := prog_13_method_103_code
def yJ7_fill_53178 : MethodName := ⟨RJ7, "fill", "([II)V"⟩
def RL : String := "FlowConstantsLaw"
abbrev cL_law : ByteArray := code
def yL_law : MethodName := ⟨RL, "law", "([I)Z"⟩
end
section
theorem dX0_init_0 : decode cX0_init 0 = .ok (.aload_n 0, 1) := by decide +kernel
theorem dX0_init_1 : decode cX0_init 1 = .ok (.invokespecial 3, 3) := by decide +kernel
theorem dX0_init_4 : decode cX0_init 4 = .ok (.aload_n 0, 1) := by decide +kernel
theorem dX0_init_5 : decode cX0_init 5 = .ok (.bipush 24, 2) := by decide +kernel
theorem dX0_init_7 : decode cX0_init 7 = .ok (.newarray .int, 2) := by decide +kernel
theorem dX0_init_9 : decode cX0_init 9 = .ok (.putfield 9, 3) := by decide +kernel
theorem dX0_init_12 : decode cX0_init 12 = .ok (.aload_n 0, 1) := by decide +kernel
theorem dX0_init_13 : decode cX0_init 13 = .ok (.bipush 24, 2) := by decide +kernel
theorem dX0_init_15 : decode cX0_init 15 = .ok (.newarray .int, 2) := by decide +kernel
theorem dX0_init_17 : decode cX0_init 17 = .ok (.putfield 15, 3) := by decide +kernel
theorem dX0_init_20 : decode cX0_init 20 = .ok (.aload_n 0, 1) := by decide +kernel
theorem dX0_init_21 : decode cX0_init 21 = .ok (.bipush 8, 2) := by decide +kernel
theorem dX0_init_23 : decode cX0_init 23 = .ok (.newarray .int, 2) := by decide +kernel
theorem dX0_init_25 : decode cX0_init 25 = .ok (.putfield 18, 3) := by decide +kernel
theorem dX0_init_28 : decode cX0_init 28 = .ok (.aload_n 0, 1) := by decide +kernel
theorem dX0_init_29 : decode cX0_init 29 = .ok (.bipush 16, 2) := by decide +kernel
theorem dX0_init_31 : decode cX0_init 31 = .ok (.newarray .int, 2) := by decide +kernel
theorem dX0_init_33 : decode cX0_init 33 = .ok (.putfield 21, 3) := by decide +kernel
theorem dX0_init_36 : decode cX0_init 36 = .ok (.return_, 1) := by decide +kernel
theorem dX0_climb_0 : decode cX0_climb 0 = .ok (.aload_n 0, 1) := by decide +kernel
theorem dX0_climb_1 : decode cX0_climb 1 = .ok (.getfield 9, 3) := by decide +kernel
theorem dX0_climb_4 : decode cX0_climb 4 = .ok (.iconst 0, 1) := by decide +kernel
theorem dX0_climb_5 : decode cX0_climb 5 = .ok (.invokestatic 24, 3) := by decide +kernel
theorem dX0_climb_8 : decode cX0_climb 8 = .ok (.aload_n 0, 1) := by decide +kernel
theorem dX0_climb_9 : decode cX0_climb 9 = .ok (.getfield 15, 3) := by decide +kernel
theorem dX0_climb_12 : decode cX0_climb 12 = .ok (.iconst 0, 1) := by decide +kernel
theorem dX0_climb_13 : decode cX0_climb 13 = .ok (.invokestatic 24, 3) := by decide +kernel
theorem dX0_climb_16 : decode cX0_climb 16 = .ok (.aload_n 0, 1) := by decide +kernel
theorem dX0_climb_17 : decode cX0_climb 17 = .ok (.getfield 18, 3) := by decide +kernel
theorem dX0_climb_20 : decode cX0_climb 20 = .ok (.iconst 0, 1) := by decide +kernel
theorem dX0_climb_21 : decode cX0_climb 21 = .ok (.invokestatic 24, 3) := by decide +kernel
theorem dX0_climb_24 : decode cX0_climb 24 = .ok (.aload_n 0, 1) := by decide +kernel
theorem dX0_climb_25 : decode cX0_climb 25 = .ok (.getfield 21, 3) := by decide +kernel
theorem dX0_climb_28 : decode cX0_climb 28 = .ok (.iconst 0, 1) := by decide +kernel
theorem dX0_climb_29 : decode cX0_climb 29 = .ok (.invokestatic 24, 3) := by decide +kernel
theorem dX0_climb_32 : decode cX0_climb 32 = .ok (.aload_n 0, 1) := by decide +kernel
theorem dX0_climb_33 : decode cX0_climb 33 = .ok (.getfield 18, 3) := by decide +kernel
theorem dX0_climb_36 : decode cX0_climb 36 = .ok (.iconst 0, 1) := by decide +kernel
theorem dX0_climb_37 : decode cX0_climb 37 = .ok (.aload_n 1, 1) := by decide +kernel
theorem dX0_climb_38 : decode cX0_climb 38 = .ok (.getfield 30, 3) := by decide +kernel
theorem dX0_climb_41 : decode cX0_climb 41 = .ok (.ifCond .le 7, 3) := by decide +kernel
theorem dX0_climb_44 : decode cX0_climb 44 = .ok (.iconst 1, 1) := by decide +kernel
theorem dX0_climb_45 : decode cX0_climb 45 = .ok (.goto 4, 3) := by decide +kernel
theorem dX0_climb_48 : decode cX0_climb 48 = .ok (.iconst 0, 1) := by decide +kernel
theorem dX0_climb_49 : decode cX0_climb 49 = .ok (.iastore, 1) := by decide +kernel
theorem dX0_climb_50 : decode cX0_climb 50 = .ok (.iconst 1, 1) := by decide +kernel
theorem dX0_climb_51 : decode cX0_climb 51 = .ok (.istore 5, 2) := by decide +kernel
theorem dX0_climb_53 : decode cX0_climb 53 = .ok (.iconst 0, 1) := by decide +kernel
theorem dX0_climb_54 : decode cX0_climb 54 = .ok (.istore 6, 2) := by decide +kernel
theorem dX0_climb_56 : decode cX0_climb 56 = .ok (.iload 6, 2) := by decide +kernel
theorem dX0_climb_58 : decode cX0_climb 58 = .ok (.bipush 65, 2) := by decide +kernel
theorem dX0_climb_60 : decode cX0_climb 60 = .ok (.if_icmp .ge 75, 3) := by decide +kernel
theorem dX0_climb_63 : decode cX0_climb 63 = .ok (.iload 5, 2) := by decide +kernel
theorem dX0_climb_65 : decode cX0_climb 65 = .ok (.ifCond .eq 70, 3) := by decide +kernel
theorem dX0_climb_68 : decode cX0_climb 68 = .ok (.iconst 0, 1) := by decide +kernel
theorem dX0_climb_69 : decode cX0_climb 69 = .ok (.istore 5, 2) := by decide +kernel
theorem dX0_climb_71 : decode cX0_climb 71 = .ok (.iconst 0, 1) := by decide +kernel
theorem dX0_climb_72 : decode cX0_climb 72 = .ok (.istore 7, 2) := by decide +kernel
theorem dX0_climb_74 : decode cX0_climb 74 = .ok (.iload 7, 2) := by decide +kernel
theorem dX0_climb_76 : decode cX0_climb 76 = .ok (.aload_n 1, 1) := by decide +kernel
theorem dX0_climb_77 : decode cX0_climb 77 = .ok (.getfield 30, 3) := by decide +kernel
theorem dX0_climb_80 : decode cX0_climb 80 = .ok (.if_icmp .ge 49, 3) := by decide +kernel
theorem dX0_climb_83 : decode cX0_climb 83 = .ok (.aload_n 0, 1) := by decide +kernel
theorem dX0_climb_84 : decode cX0_climb 84 = .ok (.getfield 18, 3) := by decide +kernel
theorem dX0_climb_87 : decode cX0_climb 87 = .ok (.iload 7, 2) := by decide +kernel
theorem dX0_climb_89 : decode cX0_climb 89 = .ok (.iaload, 1) := by decide +kernel
theorem dX0_climb_90 : decode cX0_climb 90 = .ok (.iconst 1, 1) := by decide +kernel
theorem dX0_climb_91 : decode cX0_climb 91 = .ok (.if_icmp .ne 32, 3) := by decide +kernel
theorem dX0_climb_94 : decode cX0_climb 94 = .ok (.iload 5, 2) := by decide +kernel
theorem dX0_climb_96 : decode cX0_climb 96 = .ok (.aload_n 0, 1) := by decide +kernel
theorem dX0_climb_97 : decode cX0_climb 97 = .ok (.aload_n 1, 1) := by decide +kernel
theorem dX0_climb_98 : decode cX0_climb 98 = .ok (.aload_n 2, 1) := by decide +kernel
theorem dX0_climb_99 : decode cX0_climb 99 = .ok (.iload 7, 2) := by decide +kernel
theorem dX0_climb_101 : decode cX0_climb 101 = .ok (.iload 4, 2) := by decide +kernel
theorem dX0_climb_103 : decode cX0_climb 103 = .ok (.invokevirtual 36, 3) := by decide +kernel
theorem dX0_climb_106 : decode cX0_climb 106 = .ok (.ior, 1) := by decide +kernel
theorem dX0_climb_107 : decode cX0_climb 107 = .ok (.istore 5, 2) := by decide +kernel
theorem dX0_climb_109 : decode cX0_climb 109 = .ok (.iload 5, 2) := by decide +kernel
theorem dX0_climb_111 : decode cX0_climb 111 = .ok (.aload_n 0, 1) := by decide +kernel
theorem dX0_climb_112 : decode cX0_climb 112 = .ok (.aload_n 1, 1) := by decide +kernel
theorem dX0_climb_113 : decode cX0_climb 113 = .ok (.aload_n 2, 1) := by decide +kernel
theorem dX0_climb_114 : decode cX0_climb 114 = .ok (.iload 7, 2) := by decide +kernel
theorem dX0_climb_116 : decode cX0_climb 116 = .ok (.iload_n 3, 1) := by decide +kernel
theorem dX0_climb_117 : decode cX0_climb 117 = .ok (.invokevirtual 40, 3) := by decide +kernel
theorem dX0_climb_120 : decode cX0_climb 120 = .ok (.ior, 1) := by decide +kernel
theorem dX0_climb_121 : decode cX0_climb 121 = .ok (.istore 5, 2) := by decide +kernel
theorem dX0_climb_123 : decode cX0_climb 123 = .ok (.iinc 7 1, 3) := by decide +kernel
theorem dX0_climb_126 : decode cX0_climb 126 = .ok (.goto (-52), 3) := by decide +kernel
theorem dX0_climb_129 : decode cX0_climb 129 = .ok (.iinc 6 1, 3) := by decide +kernel
theorem dX0_climb_132 : decode cX0_climb 132 = .ok (.goto (-76), 3) := by decide +kernel
theorem dX0_climb_135 : decode cX0_climb 135 = .ok (.return_, 1) := by decide +kernel
theorem dX0_liftNames_0 : decode cX0_liftNames 0 = .ok (.iconst 0, 1) := by decide +kernel
theorem dX0_liftNames_1 : decode cX0_liftNames 1 = .ok (.istore 5, 2) := by decide +kernel
theorem dX0_liftNames_3 : decode cX0_liftNames 3 = .ok (.aload_n 1, 1) := by decide +kernel
theorem dX0_liftNames_4 : decode cX0_liftNames 4 = .ok (.getfield 44, 3) := by decide +kernel
theorem dX0_liftNames_7 : decode cX0_liftNames 7 = .ok (.iload_n 3, 1) := by decide +kernel
theorem dX0_liftNames_8 : decode cX0_liftNames 8 = .ok (.iaload, 1) := by decide +kernel
theorem dX0_liftNames_9 : decode cX0_liftNames 9 = .ok (.istore 6, 2) := by decide +kernel
theorem dX0_liftNames_11 : decode cX0_liftNames 11 = .ok (.iload 6, 2) := by decide +kernel
theorem dX0_liftNames_13 : decode cX0_liftNames 13 = .ok (.aload_n 1, 1) := by decide +kernel
theorem dX0_liftNames_14 : decode cX0_liftNames 14 = .ok (.getfield 44, 3) := by decide +kernel
theorem dX0_liftNames_17 : decode cX0_liftNames 17 = .ok (.iload_n 3, 1) := by decide +kernel
theorem dX0_liftNames_18 : decode cX0_liftNames 18 = .ok (.iaload, 1) := by decide +kernel
theorem dX0_liftNames_19 : decode cX0_liftNames 19 = .ok (.aload_n 1, 1) := by decide +kernel
theorem dX0_liftNames_20 : decode cX0_liftNames 20 = .ok (.getfield 47, 3) := by decide +kernel
theorem dX0_liftNames_23 : decode cX0_liftNames 23 = .ok (.iload_n 3, 1) := by decide +kernel
theorem dX0_liftNames_24 : decode cX0_liftNames 24 = .ok (.iaload, 1) := by decide +kernel
theorem dX0_liftNames_25 : decode cX0_liftNames 25 = .ok (.iadd, 1) := by decide +kernel
theorem dX0_liftNames_26 : decode cX0_liftNames 26 = .ok (.if_icmp .ge 137, 3) := by decide +kernel
theorem dX0_liftNames_29 : decode cX0_liftNames 29 = .ok (.aload_n 1, 1) := by decide +kernel
theorem dX0_liftNames_30 : decode cX0_liftNames 30 = .ok (.getfield 50, 3) := by decide +kernel
theorem dX0_liftNames_33 : decode cX0_liftNames 33 = .ok (.iload 6, 2) := by decide +kernel
theorem dX0_liftNames_35 : decode cX0_liftNames 35 = .ok (.iaload, 1) := by decide +kernel
theorem dX0_liftNames_36 : decode cX0_liftNames 36 = .ok (.tableswitch 108 0 2 #[28, 50, 93], 28) := by decide +kernel
theorem dX0_liftNames_64 : decode cX0_liftNames 64 = .ok (.iload 5, 2) := by decide +kernel
theorem dX0_liftNames_66 : decode cX0_liftNames 66 = .ok (.aload_n 0, 1) := by decide +kernel
theorem dX0_liftNames_67 : decode cX0_liftNames 67 = .ok (.iload 6, 2) := by decide +kernel
theorem dX0_liftNames_69 : decode cX0_liftNames 69 = .ok (.iconst 1, 1) := by decide +kernel
theorem dX0_liftNames_70 : decode cX0_liftNames 70 = .ok (.aload_n 2, 1) := by decide +kernel
theorem dX0_liftNames_71 : decode cX0_liftNames 71 = .ok (.getfield 53, 3) := by decide +kernel
theorem dX0_liftNames_74 : decode cX0_liftNames 74 = .ok (.iload 6, 2) := by decide +kernel
theorem dX0_liftNames_76 : decode cX0_liftNames 76 = .ok (.iaload, 1) := by decide +kernel
theorem dX0_liftNames_77 : decode cX0_liftNames 77 = .ok (.invokevirtual 58, 3) := by decide +kernel
theorem dX0_liftNames_80 : decode cX0_liftNames 80 = .ok (.ior, 1) := by decide +kernel
theorem dX0_liftNames_81 : decode cX0_liftNames 81 = .ok (.istore 5, 2) := by decide +kernel
theorem dX0_liftNames_83 : decode cX0_liftNames 83 = .ok (.goto 74, 3) := by decide +kernel
theorem dX0_liftNames_86 : decode cX0_liftNames 86 = .ok (.iload 5, 2) := by decide +kernel
theorem dX0_liftNames_88 : decode cX0_liftNames 88 = .ok (.aload_n 0, 1) := by decide +kernel
theorem dX0_liftNames_89 : decode cX0_liftNames 89 = .ok (.iload 6, 2) := by decide +kernel
theorem dX0_liftNames_91 : decode cX0_liftNames 91 = .ok (.aload_n 2, 1) := by decide +kernel
theorem dX0_liftNames_92 : decode cX0_liftNames 92 = .ok (.getfield 62, 3) := by decide +kernel
theorem dX0_liftNames_95 : decode cX0_liftNames 95 = .ok (.iload 6, 2) := by decide +kernel
theorem dX0_liftNames_97 : decode cX0_liftNames 97 = .ok (.iaload, 1) := by decide +kernel
theorem dX0_liftNames_98 : decode cX0_liftNames 98 = .ok (.iconst 1, 1) := by decide +kernel
theorem dX0_liftNames_99 : decode cX0_liftNames 99 = .ok (.if_icmp .eq 10, 3) := by decide +kernel
theorem dX0_liftNames_102 : decode cX0_liftNames 102 = .ok (.iload 6, 2) := by decide +kernel
theorem dX0_liftNames_104 : decode cX0_liftNames 104 = .ok (.iload 4, 2) := by decide +kernel
theorem dX0_liftNames_106 : decode cX0_liftNames 106 = .ok (.if_icmp .ne 7, 3) := by decide +kernel
theorem dX0_liftNames_109 : decode cX0_liftNames 109 = .ok (.iconst 1, 1) := by decide +kernel
theorem dX0_liftNames_110 : decode cX0_liftNames 110 = .ok (.goto 4, 3) := by decide +kernel
theorem dX0_liftNames_113 : decode cX0_liftNames 113 = .ok (.iconst 2, 1) := by decide +kernel
theorem dX0_liftNames_114 : decode cX0_liftNames 114 = .ok (.aload_n 2, 1) := by decide +kernel
theorem dX0_liftNames_115 : decode cX0_liftNames 115 = .ok (.iload 6, 2) := by decide +kernel
theorem dX0_liftNames_117 : decode cX0_liftNames 117 = .ok (.invokevirtual 65, 3) := by decide +kernel
theorem dX0_liftNames_120 : decode cX0_liftNames 120 = .ok (.invokevirtual 58, 3) := by decide +kernel
theorem dX0_liftNames_123 : decode cX0_liftNames 123 = .ok (.ior, 1) := by decide +kernel
theorem dX0_liftNames_124 : decode cX0_liftNames 124 = .ok (.istore 5, 2) := by decide +kernel
theorem dX0_liftNames_126 : decode cX0_liftNames 126 = .ok (.goto 31, 3) := by decide +kernel
theorem dX0_liftNames_129 : decode cX0_liftNames 129 = .ok (.iload 5, 2) := by decide +kernel
theorem dX0_liftNames_131 : decode cX0_liftNames 131 = .ok (.aload_n 0, 1) := by decide +kernel
theorem dX0_liftNames_132 : decode cX0_liftNames 132 = .ok (.aload_n 1, 1) := by decide +kernel
theorem dX0_liftNames_133 : decode cX0_liftNames 133 = .ok (.iload 6, 2) := by decide +kernel
theorem dX0_liftNames_135 : decode cX0_liftNames 135 = .ok (.invokevirtual 69, 3) := by decide +kernel
theorem dX0_liftNames_138 : decode cX0_liftNames 138 = .ok (.ior, 1) := by decide +kernel
theorem dX0_liftNames_139 : decode cX0_liftNames 139 = .ok (.istore 5, 2) := by decide +kernel
theorem dX0_liftNames_141 : decode cX0_liftNames 141 = .ok (.goto 16, 3) := by decide +kernel
theorem dX0_liftNames_144 : decode cX0_liftNames 144 = .ok (.iload 5, 2) := by decide +kernel
theorem dX0_liftNames_146 : decode cX0_liftNames 146 = .ok (.aload_n 0, 1) := by decide +kernel
theorem dX0_liftNames_147 : decode cX0_liftNames 147 = .ok (.aload_n 1, 1) := by decide +kernel
theorem dX0_liftNames_148 : decode cX0_liftNames 148 = .ok (.aload_n 2, 1) := by decide +kernel
theorem dX0_liftNames_149 : decode cX0_liftNames 149 = .ok (.iload 6, 2) := by decide +kernel
theorem dX0_liftNames_151 : decode cX0_liftNames 151 = .ok (.invokevirtual 73, 3) := by decide +kernel
theorem dX0_liftNames_154 : decode cX0_liftNames 154 = .ok (.ior, 1) := by decide +kernel
theorem dX0_liftNames_155 : decode cX0_liftNames 155 = .ok (.istore 5, 2) := by decide +kernel
theorem dX0_liftNames_157 : decode cX0_liftNames 157 = .ok (.iinc 6 1, 3) := by decide +kernel
theorem dX0_liftNames_160 : decode cX0_liftNames 160 = .ok (.goto (-149), 3) := by decide +kernel
theorem dX0_liftNames_163 : decode cX0_liftNames 163 = .ok (.iload 5, 2) := by decide +kernel
theorem dX0_liftNames_165 : decode cX0_liftNames 165 = .ok (.ireturn, 1) := by decide +kernel
theorem dX0_liftOperation_0 : decode cX0_liftOperation 0 = .ok (.aload_n 1, 1) := by decide +kernel
theorem dX0_liftOperation_1 : decode cX0_liftOperation 1 = .ok (.getfield 77, 3) := by decide +kernel
theorem dX0_liftOperation_4 : decode cX0_liftOperation 4 = .ok (.iload_n 2, 1) := by decide +kernel
theorem dX0_liftOperation_5 : decode cX0_liftOperation 5 = .ok (.iaload, 1) := by decide +kernel
theorem dX0_liftOperation_6 : decode cX0_liftOperation 6 = .ok (.istore_n 3, 1) := by decide +kernel
theorem dX0_liftOperation_7 : decode cX0_liftOperation 7 = .ok (.aload_n 1, 1) := by decide +kernel
theorem dX0_liftOperation_8 : decode cX0_liftOperation 8 = .ok (.getfield 80, 3) := by decide +kernel
theorem dX0_liftOperation_11 : decode cX0_liftOperation 11 = .ok (.iload_n 2, 1) := by decide +kernel
theorem dX0_liftOperation_12 : decode cX0_liftOperation 12 = .ok (.iaload, 1) := by decide +kernel
theorem dX0_liftOperation_13 : decode cX0_liftOperation 13 = .ok (.istore 4, 2) := by decide +kernel
theorem dX0_liftOperation_15 : decode cX0_liftOperation 15 = .ok (.aload_n 0, 1) := by decide +kernel
theorem dX0_liftOperation_16 : decode cX0_liftOperation 16 = .ok (.getfield 9, 3) := by decide +kernel
theorem dX0_liftOperation_19 : decode cX0_liftOperation 19 = .ok (.iload_n 3, 1) := by decide +kernel
theorem dX0_liftOperation_20 : decode cX0_liftOperation 20 = .ok (.iaload, 1) := by decide +kernel
theorem dX0_liftOperation_21 : decode cX0_liftOperation 21 = .ok (.ifCond .eq 13, 3) := by decide +kernel
theorem dX0_liftOperation_24 : decode cX0_liftOperation 24 = .ok (.aload_n 0, 1) := by decide +kernel
theorem dX0_liftOperation_25 : decode cX0_liftOperation 25 = .ok (.getfield 9, 3) := by decide +kernel
theorem dX0_liftOperation_28 : decode cX0_liftOperation 28 = .ok (.iload 4, 2) := by decide +kernel
theorem dX0_liftOperation_30 : decode cX0_liftOperation 30 = .ok (.iaload, 1) := by decide +kernel
theorem dX0_liftOperation_31 : decode cX0_liftOperation 31 = .ok (.ifCond .ne 5, 3) := by decide +kernel
theorem dX0_liftOperation_34 : decode cX0_liftOperation 34 = .ok (.iconst 0, 1) := by decide +kernel
theorem dX0_liftOperation_35 : decode cX0_liftOperation 35 = .ok (.ireturn, 1) := by decide +kernel
theorem dX0_liftOperation_36 : decode cX0_liftOperation 36 = .ok (.aload_n 0, 1) := by decide +kernel
theorem dX0_liftOperation_37 : decode cX0_liftOperation 37 = .ok (.getfield 9, 3) := by decide +kernel
theorem dX0_liftOperation_40 : decode cX0_liftOperation 40 = .ok (.iload_n 3, 1) := by decide +kernel
theorem dX0_liftOperation_41 : decode cX0_liftOperation 41 = .ok (.iaload, 1) := by decide +kernel
theorem dX0_liftOperation_42 : decode cX0_liftOperation 42 = .ok (.iconst 2, 1) := by decide +kernel
theorem dX0_liftOperation_43 : decode cX0_liftOperation 43 = .ok (.if_icmp .eq 33, 3) := by decide +kernel
theorem dX0_liftOperation_46 : decode cX0_liftOperation 46 = .ok (.aload_n 0, 1) := by decide +kernel
theorem dX0_liftOperation_47 : decode cX0_liftOperation 47 = .ok (.getfield 9, 3) := by decide +kernel
theorem dX0_liftOperation_50 : decode cX0_liftOperation 50 = .ok (.iload 4, 2) := by decide +kernel
theorem dX0_liftOperation_52 : decode cX0_liftOperation 52 = .ok (.iaload, 1) := by decide +kernel
theorem dX0_liftOperation_53 : decode cX0_liftOperation 53 = .ok (.iconst 2, 1) := by decide +kernel
theorem dX0_liftOperation_54 : decode cX0_liftOperation 54 = .ok (.if_icmp .eq 22, 3) := by decide +kernel
theorem dX0_liftOperation_57 : decode cX0_liftOperation 57 = .ok (.aload_n 1, 1) := by decide +kernel
theorem dX0_liftOperation_58 : decode cX0_liftOperation 58 = .ok (.getfield 83, 3) := by decide +kernel
theorem dX0_liftOperation_61 : decode cX0_liftOperation 61 = .ok (.iload_n 2, 1) := by decide +kernel
theorem dX0_liftOperation_62 : decode cX0_liftOperation 62 = .ok (.iaload, 1) := by decide +kernel
theorem dX0_liftOperation_63 : decode cX0_liftOperation 63 = .ok (.aload_n 0, 1) := by decide +kernel
theorem dX0_liftOperation_64 : decode cX0_liftOperation 64 = .ok (.getfield 15, 3) := by decide +kernel
theorem dX0_liftOperation_67 : decode cX0_liftOperation 67 = .ok (.iload 4, 2) := by decide +kernel
theorem dX0_liftOperation_69 : decode cX0_liftOperation 69 = .ok (.iaload, 1) := by decide +kernel
theorem dX0_liftOperation_70 : decode cX0_liftOperation 70 = .ok (.invokestatic 86, 3) := by decide +kernel
theorem dX0_liftOperation_73 : decode cX0_liftOperation 73 = .ok (.ifCond .eq 11, 3) := by decide +kernel
theorem dX0_liftOperation_76 : decode cX0_liftOperation 76 = .ok (.aload_n 0, 1) := by decide +kernel
theorem dX0_liftOperation_77 : decode cX0_liftOperation 77 = .ok (.iload_n 2, 1) := by decide +kernel
theorem dX0_liftOperation_78 : decode cX0_liftOperation 78 = .ok (.iconst 2, 1) := by decide +kernel
theorem dX0_liftOperation_79 : decode cX0_liftOperation 79 = .ok (.iconst 0, 1) := by decide +kernel
theorem dX0_liftOperation_80 : decode cX0_liftOperation 80 = .ok (.invokevirtual 58, 3) := by decide +kernel
theorem dX0_liftOperation_83 : decode cX0_liftOperation 83 = .ok (.ireturn, 1) := by decide +kernel
theorem dX0_liftOperation_84 : decode cX0_liftOperation 84 = .ok (.aload_n 0, 1) := by decide +kernel
theorem dX0_liftOperation_85 : decode cX0_liftOperation 85 = .ok (.iload_n 2, 1) := by decide +kernel
theorem dX0_liftOperation_86 : decode cX0_liftOperation 86 = .ok (.iconst 1, 1) := by decide +kernel
theorem dX0_liftOperation_87 : decode cX0_liftOperation 87 = .ok (.aload_n 1, 1) := by decide +kernel
theorem dX0_liftOperation_88 : decode cX0_liftOperation 88 = .ok (.getfield 83, 3) := by decide +kernel
theorem dX0_liftOperation_91 : decode cX0_liftOperation 91 = .ok (.iload_n 2, 1) := by decide +kernel
theorem dX0_liftOperation_92 : decode cX0_liftOperation 92 = .ok (.iaload, 1) := by decide +kernel
theorem dX0_liftOperation_93 : decode cX0_liftOperation 93 = .ok (.aload_n 0, 1) := by decide +kernel
theorem dX0_liftOperation_94 : decode cX0_liftOperation 94 = .ok (.getfield 15, 3) := by decide +kernel
theorem dX0_liftOperation_97 : decode cX0_liftOperation 97 = .ok (.iload_n 3, 1) := by decide +kernel
theorem dX0_liftOperation_98 : decode cX0_liftOperation 98 = .ok (.iaload, 1) := by decide +kernel
theorem dX0_liftOperation_99 : decode cX0_liftOperation 99 = .ok (.aload_n 0, 1) := by decide +kernel
theorem dX0_liftOperation_100 : decode cX0_liftOperation 100 = .ok (.getfield 15, 3) := by decide +kernel
theorem dX0_liftOperation_103 : decode cX0_liftOperation 103 = .ok (.iload 4, 2) := by decide +kernel
theorem dX0_liftOperation_105 : decode cX0_liftOperation 105 = .ok (.iaload, 1) := by decide +kernel
theorem dX0_liftOperation_106 : decode cX0_liftOperation 106 = .ok (.invokestatic 92, 3) := by decide +kernel
theorem dX0_liftOperation_109 : decode cX0_liftOperation 109 = .ok (.invokevirtual 58, 3) := by decide +kernel
theorem dX0_liftOperation_112 : decode cX0_liftOperation 112 = .ok (.ireturn, 1) := by decide +kernel
theorem dX0_liftJoin_0 : decode cX0_liftJoin 0 = .ok (.iconst 0, 1) := by decide +kernel
theorem dX0_liftJoin_1 : decode cX0_liftJoin 1 = .ok (.istore 4, 2) := by decide +kernel
theorem dX0_liftJoin_3 : decode cX0_liftJoin 3 = .ok (.iconst 3, 1) := by decide +kernel
theorem dX0_liftJoin_4 : decode cX0_liftJoin 4 = .ok (.iload_n 3, 1) := by decide +kernel
theorem dX0_liftJoin_5 : decode cX0_liftJoin 5 = .ok (.imul, 1) := by decide +kernel
theorem dX0_liftJoin_6 : decode cX0_liftJoin 6 = .ok (.istore 5, 2) := by decide +kernel
theorem dX0_liftJoin_8 : decode cX0_liftJoin 8 = .ok (.iload 5, 2) := by decide +kernel
theorem dX0_liftJoin_10 : decode cX0_liftJoin 10 = .ok (.iconst 3, 1) := by decide +kernel
theorem dX0_liftJoin_11 : decode cX0_liftJoin 11 = .ok (.iload_n 3, 1) := by decide +kernel
theorem dX0_liftJoin_12 : decode cX0_liftJoin 12 = .ok (.imul, 1) := by decide +kernel
theorem dX0_liftJoin_13 : decode cX0_liftJoin 13 = .ok (.aload_n 1, 1) := by decide +kernel
theorem dX0_liftJoin_14 : decode cX0_liftJoin 14 = .ok (.getfield 96, 3) := by decide +kernel
theorem dX0_liftJoin_17 : decode cX0_liftJoin 17 = .ok (.iload_n 3, 1) := by decide +kernel
theorem dX0_liftJoin_18 : decode cX0_liftJoin 18 = .ok (.iaload, 1) := by decide +kernel
theorem dX0_liftJoin_19 : decode cX0_liftJoin 19 = .ok (.iadd, 1) := by decide +kernel
theorem dX0_liftJoin_20 : decode cX0_liftJoin 20 = .ok (.if_icmp .ge 63, 3) := by decide +kernel
theorem dX0_liftJoin_23 : decode cX0_liftJoin 23 = .ok (.aload_n 1, 1) := by decide +kernel
theorem dX0_liftJoin_24 : decode cX0_liftJoin 24 = .ok (.getfield 99, 3) := by decide +kernel
theorem dX0_liftJoin_27 : decode cX0_liftJoin 27 = .ok (.iload 5, 2) := by decide +kernel
theorem dX0_liftJoin_29 : decode cX0_liftJoin 29 = .ok (.iaload, 1) := by decide +kernel
theorem dX0_liftJoin_30 : decode cX0_liftJoin 30 = .ok (.istore 6, 2) := by decide +kernel
theorem dX0_liftJoin_32 : decode cX0_liftJoin 32 = .ok (.aload_n 0, 1) := by decide +kernel
theorem dX0_liftJoin_33 : decode cX0_liftJoin 33 = .ok (.aload_n 2, 1) := by decide +kernel
theorem dX0_liftJoin_34 : decode cX0_liftJoin 34 = .ok (.aload_n 1, 1) := by decide +kernel
theorem dX0_liftJoin_35 : decode cX0_liftJoin 35 = .ok (.getfield 102, 3) := by decide +kernel
theorem dX0_liftJoin_38 : decode cX0_liftJoin 38 = .ok (.iload 5, 2) := by decide +kernel
theorem dX0_liftJoin_40 : decode cX0_liftJoin 40 = .ok (.iaload, 1) := by decide +kernel
theorem dX0_liftJoin_41 : decode cX0_liftJoin 41 = .ok (.aload_n 1, 1) := by decide +kernel
theorem dX0_liftJoin_42 : decode cX0_liftJoin 42 = .ok (.getfield 105, 3) := by decide +kernel
theorem dX0_liftJoin_45 : decode cX0_liftJoin 45 = .ok (.iload_n 3, 1) := by decide +kernel
theorem dX0_liftJoin_46 : decode cX0_liftJoin 46 = .ok (.iaload, 1) := by decide +kernel
theorem dX0_liftJoin_47 : decode cX0_liftJoin 47 = .ok (.invokevirtual 108, 3) := by decide +kernel
theorem dX0_liftJoin_50 : decode cX0_liftJoin 50 = .ok (.ifCond .eq 27, 3) := by decide +kernel
theorem dX0_liftJoin_53 : decode cX0_liftJoin 53 = .ok (.iload 4, 2) := by decide +kernel
theorem dX0_liftJoin_55 : decode cX0_liftJoin 55 = .ok (.aload_n 0, 1) := by decide +kernel
theorem dX0_liftJoin_56 : decode cX0_liftJoin 56 = .ok (.iload_n 3, 1) := by decide +kernel
theorem dX0_liftJoin_57 : decode cX0_liftJoin 57 = .ok (.aload_n 0, 1) := by decide +kernel
theorem dX0_liftJoin_58 : decode cX0_liftJoin 58 = .ok (.getfield 9, 3) := by decide +kernel
theorem dX0_liftJoin_61 : decode cX0_liftJoin 61 = .ok (.iload 6, 2) := by decide +kernel
theorem dX0_liftJoin_63 : decode cX0_liftJoin 63 = .ok (.iaload, 1) := by decide +kernel
theorem dX0_liftJoin_64 : decode cX0_liftJoin 64 = .ok (.aload_n 0, 1) := by decide +kernel
theorem dX0_liftJoin_65 : decode cX0_liftJoin 65 = .ok (.getfield 15, 3) := by decide +kernel
theorem dX0_liftJoin_68 : decode cX0_liftJoin 68 = .ok (.iload 6, 2) := by decide +kernel
theorem dX0_liftJoin_70 : decode cX0_liftJoin 70 = .ok (.iaload, 1) := by decide +kernel
theorem dX0_liftJoin_71 : decode cX0_liftJoin 71 = .ok (.invokevirtual 58, 3) := by decide +kernel
theorem dX0_liftJoin_74 : decode cX0_liftJoin 74 = .ok (.ior, 1) := by decide +kernel
theorem dX0_liftJoin_75 : decode cX0_liftJoin 75 = .ok (.istore 4, 2) := by decide +kernel
theorem dX0_liftJoin_77 : decode cX0_liftJoin 77 = .ok (.iinc 5 1, 3) := by decide +kernel
theorem dX0_liftJoin_80 : decode cX0_liftJoin 80 = .ok (.goto (-72), 3) := by decide +kernel
theorem dX0_liftJoin_83 : decode cX0_liftJoin 83 = .ok (.iload 4, 2) := by decide +kernel
theorem dX0_liftJoin_85 : decode cX0_liftJoin 85 = .ok (.ireturn, 1) := by decide +kernel
theorem dX0_lift_0 : decode cX0_lift 0 = .ok (.aload_n 0, 1) := by decide +kernel
theorem dX0_lift_1 : decode cX0_lift 1 = .ok (.getfield 9, 3) := by decide +kernel
theorem dX0_lift_4 : decode cX0_lift 4 = .ok (.iload_n 1, 1) := by decide +kernel
theorem dX0_lift_5 : decode cX0_lift 5 = .ok (.iaload, 1) := by decide +kernel
theorem dX0_lift_6 : decode cX0_lift 6 = .ok (.iconst 1, 1) := by decide +kernel
theorem dX0_lift_7 : decode cX0_lift 7 = .ok (.if_icmp .ne 22, 3) := by decide +kernel
theorem dX0_lift_10 : decode cX0_lift 10 = .ok (.iload_n 2, 1) := by decide +kernel
theorem dX0_lift_11 : decode cX0_lift 11 = .ok (.iconst 1, 1) := by decide +kernel
theorem dX0_lift_12 : decode cX0_lift 12 = .ok (.if_icmp .ne 17, 3) := by decide +kernel
theorem dX0_lift_15 : decode cX0_lift 15 = .ok (.aload_n 0, 1) := by decide +kernel
theorem dX0_lift_16 : decode cX0_lift 16 = .ok (.getfield 15, 3) := by decide +kernel
theorem dX0_lift_19 : decode cX0_lift 19 = .ok (.iload_n 1, 1) := by decide +kernel
theorem dX0_lift_20 : decode cX0_lift 20 = .ok (.iaload, 1) := by decide +kernel
theorem dX0_lift_21 : decode cX0_lift 21 = .ok (.iload_n 3, 1) := by decide +kernel
theorem dX0_lift_22 : decode cX0_lift 22 = .ok (.if_icmp .eq 7, 3) := by decide +kernel
theorem dX0_lift_25 : decode cX0_lift 25 = .ok (.iconst 1, 1) := by decide +kernel
theorem dX0_lift_26 : decode cX0_lift 26 = .ok (.goto 4, 3) := by decide +kernel
theorem dX0_lift_29 : decode cX0_lift 29 = .ok (.iconst 0, 1) := by decide +kernel
theorem dX0_lift_30 : decode cX0_lift 30 = .ok (.istore 4, 2) := by decide +kernel
theorem dX0_lift_32 : decode cX0_lift 32 = .ok (.iload_n 2, 1) := by decide +kernel
theorem dX0_lift_33 : decode cX0_lift 33 = .ok (.aload_n 0, 1) := by decide +kernel
theorem dX0_lift_34 : decode cX0_lift 34 = .ok (.getfield 9, 3) := by decide +kernel
theorem dX0_lift_37 : decode cX0_lift 37 = .ok (.iload_n 1, 1) := by decide +kernel
theorem dX0_lift_38 : decode cX0_lift 38 = .ok (.iaload, 1) := by decide +kernel
theorem dX0_lift_39 : decode cX0_lift 39 = .ok (.if_icmp .gt 10, 3) := by decide +kernel
theorem dX0_lift_42 : decode cX0_lift 42 = .ok (.iload 4, 2) := by decide +kernel
theorem dX0_lift_44 : decode cX0_lift 44 = .ok (.ifCond .ne 5, 3) := by decide +kernel
theorem dX0_lift_47 : decode cX0_lift 47 = .ok (.iconst 0, 1) := by decide +kernel
theorem dX0_lift_48 : decode cX0_lift 48 = .ok (.ireturn, 1) := by decide +kernel
theorem dX0_lift_49 : decode cX0_lift 49 = .ok (.aload_n 0, 1) := by decide +kernel
theorem dX0_lift_50 : decode cX0_lift 50 = .ok (.getfield 9, 3) := by decide +kernel
theorem dX0_lift_53 : decode cX0_lift 53 = .ok (.iload_n 1, 1) := by decide +kernel
theorem dX0_lift_54 : decode cX0_lift 54 = .ok (.iload 4, 2) := by decide +kernel
theorem dX0_lift_56 : decode cX0_lift 56 = .ok (.ifCond .eq 7, 3) := by decide +kernel
theorem dX0_lift_59 : decode cX0_lift 59 = .ok (.iconst 2, 1) := by decide +kernel
theorem dX0_lift_60 : decode cX0_lift 60 = .ok (.goto 4, 3) := by decide +kernel
theorem dX0_lift_63 : decode cX0_lift 63 = .ok (.iload_n 2, 1) := by decide +kernel
theorem dX0_lift_64 : decode cX0_lift 64 = .ok (.iastore, 1) := by decide +kernel
theorem dX0_lift_65 : decode cX0_lift 65 = .ok (.aload_n 0, 1) := by decide +kernel
theorem dX0_lift_66 : decode cX0_lift 66 = .ok (.getfield 15, 3) := by decide +kernel
theorem dX0_lift_69 : decode cX0_lift 69 = .ok (.iload_n 1, 1) := by decide +kernel
theorem dX0_lift_70 : decode cX0_lift 70 = .ok (.iload_n 3, 1) := by decide +kernel
theorem dX0_lift_71 : decode cX0_lift 71 = .ok (.iastore, 1) := by decide +kernel
theorem dX0_lift_72 : decode cX0_lift 72 = .ok (.iconst 1, 1) := by decide +kernel
theorem dX0_lift_73 : decode cX0_lift 73 = .ok (.ireturn, 1) := by decide +kernel
theorem dX0_openEdges_0 : decode cX0_openEdges 0 = .ok (.iconst 0, 1) := by decide +kernel
theorem dX0_openEdges_1 : decode cX0_openEdges 1 = .ok (.istore 5, 2) := by decide +kernel
theorem dX0_openEdges_3 : decode cX0_openEdges 3 = .ok (.iconst 0, 1) := by decide +kernel
theorem dX0_openEdges_4 : decode cX0_openEdges 4 = .ok (.istore 6, 2) := by decide +kernel
theorem dX0_openEdges_6 : decode cX0_openEdges 6 = .ok (.iload 6, 2) := by decide +kernel
theorem dX0_openEdges_8 : decode cX0_openEdges 8 = .ok (.iconst 2, 1) := by decide +kernel
theorem dX0_openEdges_9 : decode cX0_openEdges 9 = .ok (.if_icmp .ge 83, 3) := by decide +kernel
theorem dX0_openEdges_12 : decode cX0_openEdges 12 = .ok (.iconst 2, 1) := by decide +kernel
theorem dX0_openEdges_13 : decode cX0_openEdges 13 = .ok (.iload_n 3, 1) := by decide +kernel
theorem dX0_openEdges_14 : decode cX0_openEdges 14 = .ok (.imul, 1) := by decide +kernel
theorem dX0_openEdges_15 : decode cX0_openEdges 15 = .ok (.iload 6, 2) := by decide +kernel
theorem dX0_openEdges_17 : decode cX0_openEdges 17 = .ok (.iadd, 1) := by decide +kernel
theorem dX0_openEdges_18 : decode cX0_openEdges 18 = .ok (.istore 7, 2) := by decide +kernel
theorem dX0_openEdges_20 : decode cX0_openEdges 20 = .ok (.aload_n 2, 1) := by decide +kernel
theorem dX0_openEdges_21 : decode cX0_openEdges 21 = .ok (.getfield 112, 3) := by decide +kernel
theorem dX0_openEdges_24 : decode cX0_openEdges 24 = .ok (.iload 7, 2) := by decide +kernel
theorem dX0_openEdges_26 : decode cX0_openEdges 26 = .ok (.iaload, 1) := by decide +kernel
theorem dX0_openEdges_27 : decode cX0_openEdges 27 = .ok (.bipush (-9), 2) := by decide +kernel
theorem dX0_openEdges_29 : decode cX0_openEdges 29 = .ok (.if_icmp .eq 57, 3) := by decide +kernel
theorem dX0_openEdges_32 : decode cX0_openEdges 32 = .ok (.aload_n 0, 1) := by decide +kernel
theorem dX0_openEdges_33 : decode cX0_openEdges 33 = .ok (.getfield 21, 3) := by decide +kernel
theorem dX0_openEdges_36 : decode cX0_openEdges 36 = .ok (.iload 7, 2) := by decide +kernel
theorem dX0_openEdges_38 : decode cX0_openEdges 38 = .ok (.iaload, 1) := by decide +kernel
theorem dX0_openEdges_39 : decode cX0_openEdges 39 = .ok (.iconst 1, 1) := by decide +kernel
theorem dX0_openEdges_40 : decode cX0_openEdges 40 = .ok (.if_icmp .eq 46, 3) := by decide +kernel
theorem dX0_openEdges_43 : decode cX0_openEdges 43 = .ok (.iload 4, 2) := by decide +kernel
theorem dX0_openEdges_45 : decode cX0_openEdges 45 = .ok (.ifCond .ne 17, 3) := by decide +kernel
theorem dX0_openEdges_48 : decode cX0_openEdges 48 = .ok (.aload_n 0, 1) := by decide +kernel
theorem dX0_openEdges_49 : decode cX0_openEdges 49 = .ok (.aload_n 1, 1) := by decide +kernel
theorem dX0_openEdges_50 : decode cX0_openEdges 50 = .ok (.iload_n 3, 1) := by decide +kernel
theorem dX0_openEdges_51 : decode cX0_openEdges 51 = .ok (.iload 6, 2) := by decide +kernel
theorem dX0_openEdges_53 : decode cX0_openEdges 53 = .ok (.invokevirtual 115, 3) := by decide +kernel
theorem dX0_openEdges_56 : decode cX0_openEdges 56 = .ok (.ifCond .ne 6, 3) := by decide +kernel
theorem dX0_openEdges_59 : decode cX0_openEdges 59 = .ok (.goto 27, 3) := by decide +kernel
theorem dX0_openEdges_62 : decode cX0_openEdges 62 = .ok (.aload_n 0, 1) := by decide +kernel
theorem dX0_openEdges_63 : decode cX0_openEdges 63 = .ok (.getfield 21, 3) := by decide +kernel
theorem dX0_openEdges_66 : decode cX0_openEdges 66 = .ok (.iload 7, 2) := by decide +kernel
theorem dX0_openEdges_68 : decode cX0_openEdges 68 = .ok (.iconst 1, 1) := by decide +kernel
theorem dX0_openEdges_69 : decode cX0_openEdges 69 = .ok (.iastore, 1) := by decide +kernel
theorem dX0_openEdges_70 : decode cX0_openEdges 70 = .ok (.aload_n 0, 1) := by decide +kernel
theorem dX0_openEdges_71 : decode cX0_openEdges 71 = .ok (.getfield 18, 3) := by decide +kernel
theorem dX0_openEdges_74 : decode cX0_openEdges 74 = .ok (.aload_n 2, 1) := by decide +kernel
theorem dX0_openEdges_75 : decode cX0_openEdges 75 = .ok (.getfield 112, 3) := by decide +kernel
theorem dX0_openEdges_78 : decode cX0_openEdges 78 = .ok (.iload 7, 2) := by decide +kernel
theorem dX0_openEdges_80 : decode cX0_openEdges 80 = .ok (.iaload, 1) := by decide +kernel
theorem dX0_openEdges_81 : decode cX0_openEdges 81 = .ok (.iconst 1, 1) := by decide +kernel
theorem dX0_openEdges_82 : decode cX0_openEdges 82 = .ok (.iastore, 1) := by decide +kernel
theorem dX0_openEdges_83 : decode cX0_openEdges 83 = .ok (.iconst 1, 1) := by decide +kernel
theorem dX0_openEdges_84 : decode cX0_openEdges 84 = .ok (.istore 5, 2) := by decide +kernel
theorem dX0_openEdges_86 : decode cX0_openEdges 86 = .ok (.iinc 6 1, 3) := by decide +kernel
theorem dX0_openEdges_89 : decode cX0_openEdges 89 = .ok (.goto (-83), 3) := by decide +kernel
theorem dX0_openEdges_92 : decode cX0_openEdges 92 = .ok (.iload 5, 2) := by decide +kernel
theorem dX0_openEdges_94 : decode cX0_openEdges 94 = .ok (.ireturn, 1) := by decide +kernel
theorem dX0_goes_0 : decode cX0_goes 0 = .ok (.aload_n 1, 1) := by decide +kernel
theorem dX0_goes_1 : decode cX0_goes 1 = .ok (.getfield 119, 3) := by decide +kernel
theorem dX0_goes_4 : decode cX0_goes 4 = .ok (.iload_n 2, 1) := by decide +kernel
theorem dX0_goes_5 : decode cX0_goes 5 = .ok (.iaload, 1) := by decide +kernel
theorem dX0_goes_6 : decode cX0_goes 6 = .ok (.iconst 1, 1) := by decide +kernel
theorem dX0_goes_7 : decode cX0_goes 7 = .ok (.if_icmp .eq 5, 3) := by decide +kernel
theorem dX0_goes_10 : decode cX0_goes 10 = .ok (.iconst 1, 1) := by decide +kernel
theorem dX0_goes_11 : decode cX0_goes 11 = .ok (.ireturn, 1) := by decide +kernel
theorem dX0_goes_12 : decode cX0_goes 12 = .ok (.aload_n 1, 1) := by decide +kernel
theorem dX0_goes_13 : decode cX0_goes 13 = .ok (.getfield 122, 3) := by decide +kernel
theorem dX0_goes_16 : decode cX0_goes 16 = .ok (.iload_n 2, 1) := by decide +kernel
theorem dX0_goes_17 : decode cX0_goes 17 = .ok (.iaload, 1) := by decide +kernel
theorem dX0_goes_18 : decode cX0_goes 18 = .ok (.istore 4, 2) := by decide +kernel
theorem dX0_goes_20 : decode cX0_goes 20 = .ok (.aload_n 0, 1) := by decide +kernel
theorem dX0_goes_21 : decode cX0_goes 21 = .ok (.getfield 9, 3) := by decide +kernel
theorem dX0_goes_24 : decode cX0_goes 24 = .ok (.iload 4, 2) := by decide +kernel
theorem dX0_goes_26 : decode cX0_goes 26 = .ok (.iaload, 1) := by decide +kernel
theorem dX0_goes_27 : decode cX0_goes 27 = .ok (.iconst 2, 1) := by decide +kernel
theorem dX0_goes_28 : decode cX0_goes 28 = .ok (.if_icmp .eq 28, 3) := by decide +kernel
theorem dX0_goes_31 : decode cX0_goes 31 = .ok (.aload_n 0, 1) := by decide +kernel
theorem dX0_goes_32 : decode cX0_goes 32 = .ok (.getfield 9, 3) := by decide +kernel
theorem dX0_goes_35 : decode cX0_goes 35 = .ok (.iload 4, 2) := by decide +kernel
theorem dX0_goes_37 : decode cX0_goes 37 = .ok (.iaload, 1) := by decide +kernel
theorem dX0_goes_38 : decode cX0_goes 38 = .ok (.iconst 1, 1) := by decide +kernel
theorem dX0_goes_39 : decode cX0_goes 39 = .ok (.if_icmp .ne 21, 3) := by decide +kernel
theorem dX0_goes_42 : decode cX0_goes 42 = .ok (.aload_n 0, 1) := by decide +kernel
theorem dX0_goes_43 : decode cX0_goes 43 = .ok (.getfield 15, 3) := by decide +kernel
theorem dX0_goes_46 : decode cX0_goes 46 = .ok (.iload 4, 2) := by decide +kernel
theorem dX0_goes_48 : decode cX0_goes 48 = .ok (.iaload, 1) := by decide +kernel
theorem dX0_goes_49 : decode cX0_goes 49 = .ok (.invokestatic 125, 3) := by decide +kernel
theorem dX0_goes_52 : decode cX0_goes 52 = .ok (.iload_n 3, 1) := by decide +kernel
theorem dX0_goes_53 : decode cX0_goes 53 = .ok (.if_icmp .ne 7, 3) := by decide +kernel
theorem dX0_goes_56 : decode cX0_goes 56 = .ok (.iconst 1, 1) := by decide +kernel
theorem dX0_goes_57 : decode cX0_goes 57 = .ok (.goto 4, 3) := by decide +kernel
theorem dX0_goes_60 : decode cX0_goes 60 = .ok (.iconst 0, 1) := by decide +kernel
theorem dX0_goes_61 : decode cX0_goes 61 = .ok (.ireturn, 1) := by decide +kernel
theorem dX0_isOpen_0 : decode cX0_isOpen 0 = .ok (.iconst 2, 1) := by decide +kernel
theorem dX0_isOpen_1 : decode cX0_isOpen 1 = .ok (.iload_n 2, 1) := by decide +kernel
theorem dX0_isOpen_2 : decode cX0_isOpen 2 = .ok (.imul, 1) := by decide +kernel
theorem dX0_isOpen_3 : decode cX0_isOpen 3 = .ok (.istore 4, 2) := by decide +kernel
theorem dX0_isOpen_5 : decode cX0_isOpen 5 = .ok (.iload 4, 2) := by decide +kernel
theorem dX0_isOpen_7 : decode cX0_isOpen 7 = .ok (.iconst 2, 1) := by decide +kernel
theorem dX0_isOpen_8 : decode cX0_isOpen 8 = .ok (.iload_n 2, 1) := by decide +kernel
theorem dX0_isOpen_9 : decode cX0_isOpen 9 = .ok (.imul, 1) := by decide +kernel
theorem dX0_isOpen_10 : decode cX0_isOpen 10 = .ok (.iconst 2, 1) := by decide +kernel
theorem dX0_isOpen_11 : decode cX0_isOpen 11 = .ok (.iadd, 1) := by decide +kernel
theorem dX0_isOpen_12 : decode cX0_isOpen 12 = .ok (.if_icmp .ge 33, 3) := by decide +kernel
theorem dX0_isOpen_15 : decode cX0_isOpen 15 = .ok (.aload_n 0, 1) := by decide +kernel
theorem dX0_isOpen_16 : decode cX0_isOpen 16 = .ok (.getfield 21, 3) := by decide +kernel
theorem dX0_isOpen_19 : decode cX0_isOpen 19 = .ok (.iload 4, 2) := by decide +kernel
theorem dX0_isOpen_21 : decode cX0_isOpen 21 = .ok (.iaload, 1) := by decide +kernel
theorem dX0_isOpen_22 : decode cX0_isOpen 22 = .ok (.iconst 1, 1) := by decide +kernel
theorem dX0_isOpen_23 : decode cX0_isOpen 23 = .ok (.if_icmp .ne 16, 3) := by decide +kernel
theorem dX0_isOpen_26 : decode cX0_isOpen 26 = .ok (.aload_n 1, 1) := by decide +kernel
theorem dX0_isOpen_27 : decode cX0_isOpen 27 = .ok (.getfield 112, 3) := by decide +kernel
theorem dX0_isOpen_30 : decode cX0_isOpen 30 = .ok (.iload 4, 2) := by decide +kernel
theorem dX0_isOpen_32 : decode cX0_isOpen 32 = .ok (.iaload, 1) := by decide +kernel
theorem dX0_isOpen_33 : decode cX0_isOpen 33 = .ok (.iload_n 3, 1) := by decide +kernel
theorem dX0_isOpen_34 : decode cX0_isOpen 34 = .ok (.if_icmp .ne 5, 3) := by decide +kernel
theorem dX0_isOpen_37 : decode cX0_isOpen 37 = .ok (.iconst 1, 1) := by decide +kernel
theorem dX0_isOpen_38 : decode cX0_isOpen 38 = .ok (.ireturn, 1) := by decide +kernel
theorem dX0_isOpen_39 : decode cX0_isOpen 39 = .ok (.iinc 4 1, 3) := by decide +kernel
theorem dX0_isOpen_42 : decode cX0_isOpen 42 = .ok (.goto (-37), 3) := by decide +kernel
theorem dX0_isOpen_45 : decode cX0_isOpen 45 = .ok (.iconst 0, 1) := by decide +kernel
theorem dX0_isOpen_46 : decode cX0_isOpen 46 = .ok (.ireturn, 1) := by decide +kernel
theorem dX0_namesThatAre_0 : decode cX0_namesThatAre 0 = .ok (.iconst 0, 1) := by decide +kernel
theorem dX0_namesThatAre_1 : decode cX0_namesThatAre 1 = .ok (.istore_n 3, 1) := by decide +kernel
theorem dX0_namesThatAre_2 : decode cX0_namesThatAre 2 = .ok (.iconst 0, 1) := by decide +kernel
theorem dX0_namesThatAre_3 : decode cX0_namesThatAre 3 = .ok (.istore 4, 2) := by decide +kernel
theorem dX0_namesThatAre_5 : decode cX0_namesThatAre 5 = .ok (.iload 4, 2) := by decide +kernel
theorem dX0_namesThatAre_7 : decode cX0_namesThatAre 7 = .ok (.aload_n 2, 1) := by decide +kernel
theorem dX0_namesThatAre_8 : decode cX0_namesThatAre 8 = .ok (.getfield 128, 3) := by decide +kernel
theorem dX0_namesThatAre_11 : decode cX0_namesThatAre 11 = .ok (.if_icmp .ge 28, 3) := by decide +kernel
theorem dX0_namesThatAre_14 : decode cX0_namesThatAre 14 = .ok (.iload_n 3, 1) := by decide +kernel
theorem dX0_namesThatAre_15 : decode cX0_namesThatAre 15 = .ok (.aload_n 0, 1) := by decide +kernel
theorem dX0_namesThatAre_16 : decode cX0_namesThatAre 16 = .ok (.getfield 9, 3) := by decide +kernel
theorem dX0_namesThatAre_19 : decode cX0_namesThatAre 19 = .ok (.iload 4, 2) := by decide +kernel
theorem dX0_namesThatAre_21 : decode cX0_namesThatAre 21 = .ok (.iaload, 1) := by decide +kernel
theorem dX0_namesThatAre_22 : decode cX0_namesThatAre 22 = .ok (.iload_n 1, 1) := by decide +kernel
theorem dX0_namesThatAre_23 : decode cX0_namesThatAre 23 = .ok (.if_icmp .ne 7, 3) := by decide +kernel
theorem dX0_namesThatAre_26 : decode cX0_namesThatAre 26 = .ok (.iconst 1, 1) := by decide +kernel
theorem dX0_namesThatAre_27 : decode cX0_namesThatAre 27 = .ok (.goto 4, 3) := by decide +kernel
theorem dX0_namesThatAre_30 : decode cX0_namesThatAre 30 = .ok (.iconst 0, 1) := by decide +kernel
theorem dX0_namesThatAre_31 : decode cX0_namesThatAre 31 = .ok (.iadd, 1) := by decide +kernel
theorem dX0_namesThatAre_32 : decode cX0_namesThatAre 32 = .ok (.istore_n 3, 1) := by decide +kernel
theorem dX0_namesThatAre_33 : decode cX0_namesThatAre 33 = .ok (.iinc 4 1, 3) := by decide +kernel
theorem dX0_namesThatAre_36 : decode cX0_namesThatAre 36 = .ok (.goto (-31), 3) := by decide +kernel
theorem dX0_namesThatAre_39 : decode cX0_namesThatAre 39 = .ok (.iload_n 3, 1) := by decide +kernel
theorem dX0_namesThatAre_40 : decode cX0_namesThatAre 40 = .ok (.ireturn, 1) := by decide +kernel
theorem dX0_liveBlocks_0 : decode cX0_liveBlocks 0 = .ok (.iconst 0, 1) := by decide +kernel
theorem dX0_liveBlocks_1 : decode cX0_liveBlocks 1 = .ok (.istore_n 2, 1) := by decide +kernel
theorem dX0_liveBlocks_2 : decode cX0_liveBlocks 2 = .ok (.iconst 0, 1) := by decide +kernel
theorem dX0_liveBlocks_3 : decode cX0_liveBlocks 3 = .ok (.istore_n 3, 1) := by decide +kernel
theorem dX0_liveBlocks_4 : decode cX0_liveBlocks 4 = .ok (.iload_n 3, 1) := by decide +kernel
theorem dX0_liveBlocks_5 : decode cX0_liveBlocks 5 = .ok (.aload_n 1, 1) := by decide +kernel
theorem dX0_liveBlocks_6 : decode cX0_liveBlocks 6 = .ok (.getfield 30, 3) := by decide +kernel
theorem dX0_liveBlocks_9 : decode cX0_liveBlocks 9 = .ok (.if_icmp .ge 18, 3) := by decide +kernel
theorem dX0_liveBlocks_12 : decode cX0_liveBlocks 12 = .ok (.iload_n 2, 1) := by decide +kernel
theorem dX0_liveBlocks_13 : decode cX0_liveBlocks 13 = .ok (.aload_n 0, 1) := by decide +kernel
theorem dX0_liveBlocks_14 : decode cX0_liveBlocks 14 = .ok (.getfield 18, 3) := by decide +kernel
theorem dX0_liveBlocks_17 : decode cX0_liveBlocks 17 = .ok (.iload_n 3, 1) := by decide +kernel
theorem dX0_liveBlocks_18 : decode cX0_liveBlocks 18 = .ok (.iaload, 1) := by decide +kernel
theorem dX0_liveBlocks_19 : decode cX0_liveBlocks 19 = .ok (.iadd, 1) := by decide +kernel
theorem dX0_liveBlocks_20 : decode cX0_liveBlocks 20 = .ok (.istore_n 2, 1) := by decide +kernel
theorem dX0_liveBlocks_21 : decode cX0_liveBlocks 21 = .ok (.iinc 3 1, 3) := by decide +kernel
theorem dX0_liveBlocks_24 : decode cX0_liveBlocks 24 = .ok (.goto (-20), 3) := by decide +kernel
theorem dX0_liveBlocks_27 : decode cX0_liveBlocks 27 = .ok (.iload_n 2, 1) := by decide +kernel
theorem dX0_liveBlocks_28 : decode cX0_liveBlocks 28 = .ok (.ireturn, 1) := by decide +kernel
theorem dX0_liveEdges_0 : decode cX0_liveEdges 0 = .ok (.iconst 0, 1) := by decide +kernel
theorem dX0_liveEdges_1 : decode cX0_liveEdges 1 = .ok (.istore_n 1, 1) := by decide +kernel
theorem dX0_liveEdges_2 : decode cX0_liveEdges 2 = .ok (.iconst 0, 1) := by decide +kernel
theorem dX0_liveEdges_3 : decode cX0_liveEdges 3 = .ok (.istore_n 2, 1) := by decide +kernel
theorem dX0_liveEdges_4 : decode cX0_liveEdges 4 = .ok (.iload_n 2, 1) := by decide +kernel
theorem dX0_liveEdges_5 : decode cX0_liveEdges 5 = .ok (.bipush 16, 2) := by decide +kernel
theorem dX0_liveEdges_7 : decode cX0_liveEdges 7 = .ok (.if_icmp .ge 18, 3) := by decide +kernel
theorem dX0_liveEdges_10 : decode cX0_liveEdges 10 = .ok (.iload_n 1, 1) := by decide +kernel
theorem dX0_liveEdges_11 : decode cX0_liveEdges 11 = .ok (.aload_n 0, 1) := by decide +kernel
theorem dX0_liveEdges_12 : decode cX0_liveEdges 12 = .ok (.getfield 21, 3) := by decide +kernel
theorem dX0_liveEdges_15 : decode cX0_liveEdges 15 = .ok (.iload_n 2, 1) := by decide +kernel
theorem dX0_liveEdges_16 : decode cX0_liveEdges 16 = .ok (.iaload, 1) := by decide +kernel
theorem dX0_liveEdges_17 : decode cX0_liveEdges 17 = .ok (.iadd, 1) := by decide +kernel
theorem dX0_liveEdges_18 : decode cX0_liveEdges 18 = .ok (.istore_n 1, 1) := by decide +kernel
theorem dX0_liveEdges_19 : decode cX0_liveEdges 19 = .ok (.iinc 2 1, 3) := by decide +kernel
theorem dX0_liveEdges_22 : decode cX0_liveEdges 22 = .ok (.goto (-18), 3) := by decide +kernel
theorem dX0_liveEdges_25 : decode cX0_liveEdges 25 = .ok (.iload_n 1, 1) := by decide +kernel
theorem dX0_liveEdges_26 : decode cX0_liveEdges 26 = .ok (.ireturn, 1) := by decide +kernel
theorem dX0_foldedNames_0 : decode cX0_foldedNames 0 = .ok (.iconst 0, 1) := by decide +kernel
theorem dX0_foldedNames_1 : decode cX0_foldedNames 1 = .ok (.istore_n 2, 1) := by decide +kernel
theorem dX0_foldedNames_2 : decode cX0_foldedNames 2 = .ok (.iconst 0, 1) := by decide +kernel
theorem dX0_foldedNames_3 : decode cX0_foldedNames 3 = .ok (.istore_n 3, 1) := by decide +kernel
theorem dX0_foldedNames_4 : decode cX0_foldedNames 4 = .ok (.iload_n 3, 1) := by decide +kernel
theorem dX0_foldedNames_5 : decode cX0_foldedNames 5 = .ok (.aload_n 1, 1) := by decide +kernel
theorem dX0_foldedNames_6 : decode cX0_foldedNames 6 = .ok (.getfield 128, 3) := by decide +kernel
theorem dX0_foldedNames_9 : decode cX0_foldedNames 9 = .ok (.if_icmp .ge 36, 3) := by decide +kernel
theorem dX0_foldedNames_12 : decode cX0_foldedNames 12 = .ok (.iload_n 2, 1) := by decide +kernel
theorem dX0_foldedNames_13 : decode cX0_foldedNames 13 = .ok (.aload_n 0, 1) := by decide +kernel
theorem dX0_foldedNames_14 : decode cX0_foldedNames 14 = .ok (.getfield 9, 3) := by decide +kernel
theorem dX0_foldedNames_17 : decode cX0_foldedNames 17 = .ok (.iload_n 3, 1) := by decide +kernel
theorem dX0_foldedNames_18 : decode cX0_foldedNames 18 = .ok (.iaload, 1) := by decide +kernel
theorem dX0_foldedNames_19 : decode cX0_foldedNames 19 = .ok (.iconst 1, 1) := by decide +kernel
theorem dX0_foldedNames_20 : decode cX0_foldedNames 20 = .ok (.if_icmp .ne 16, 3) := by decide +kernel
theorem dX0_foldedNames_23 : decode cX0_foldedNames 23 = .ok (.aload_n 1, 1) := by decide +kernel
theorem dX0_foldedNames_24 : decode cX0_foldedNames 24 = .ok (.getfield 50, 3) := by decide +kernel
theorem dX0_foldedNames_27 : decode cX0_foldedNames 27 = .ok (.iload_n 3, 1) := by decide +kernel
theorem dX0_foldedNames_28 : decode cX0_foldedNames 28 = .ok (.iaload, 1) := by decide +kernel
theorem dX0_foldedNames_29 : decode cX0_foldedNames 29 = .ok (.ifCond .eq 7, 3) := by decide +kernel
theorem dX0_foldedNames_32 : decode cX0_foldedNames 32 = .ok (.iconst 1, 1) := by decide +kernel
theorem dX0_foldedNames_33 : decode cX0_foldedNames 33 = .ok (.goto 4, 3) := by decide +kernel
theorem dX0_foldedNames_36 : decode cX0_foldedNames 36 = .ok (.iconst 0, 1) := by decide +kernel
theorem dX0_foldedNames_37 : decode cX0_foldedNames 37 = .ok (.iadd, 1) := by decide +kernel
theorem dX0_foldedNames_38 : decode cX0_foldedNames 38 = .ok (.istore_n 2, 1) := by decide +kernel
theorem dX0_foldedNames_39 : decode cX0_foldedNames 39 = .ok (.iinc 3 1, 3) := by decide +kernel
theorem dX0_foldedNames_42 : decode cX0_foldedNames 42 = .ok (.goto (-38), 3) := by decide +kernel
theorem dX0_foldedNames_45 : decode cX0_foldedNames 45 = .ok (.iload_n 2, 1) := by decide +kernel
theorem dX0_foldedNames_46 : decode cX0_foldedNames 46 = .ok (.ireturn, 1) := by decide +kernel
theorem dX0_foldedEnds_0 : decode cX0_foldedEnds 0 = .ok (.iconst 0, 1) := by decide +kernel
theorem dX0_foldedEnds_1 : decode cX0_foldedEnds 1 = .ok (.istore_n 2, 1) := by decide +kernel
theorem dX0_foldedEnds_2 : decode cX0_foldedEnds 2 = .ok (.iconst 0, 1) := by decide +kernel
theorem dX0_foldedEnds_3 : decode cX0_foldedEnds 3 = .ok (.istore_n 3, 1) := by decide +kernel
theorem dX0_foldedEnds_4 : decode cX0_foldedEnds 4 = .ok (.iload_n 3, 1) := by decide +kernel
theorem dX0_foldedEnds_5 : decode cX0_foldedEnds 5 = .ok (.aload_n 1, 1) := by decide +kernel
theorem dX0_foldedEnds_6 : decode cX0_foldedEnds 6 = .ok (.getfield 30, 3) := by decide +kernel
theorem dX0_foldedEnds_9 : decode cX0_foldedEnds 9 = .ok (.if_icmp .ge 70, 3) := by decide +kernel
theorem dX0_foldedEnds_12 : decode cX0_foldedEnds 12 = .ok (.aload_n 0, 1) := by decide +kernel
theorem dX0_foldedEnds_13 : decode cX0_foldedEnds 13 = .ok (.getfield 21, 3) := by decide +kernel
theorem dX0_foldedEnds_16 : decode cX0_foldedEnds 16 = .ok (.iconst 2, 1) := by decide +kernel
theorem dX0_foldedEnds_17 : decode cX0_foldedEnds 17 = .ok (.iload_n 3, 1) := by decide +kernel
theorem dX0_foldedEnds_18 : decode cX0_foldedEnds 18 = .ok (.imul, 1) := by decide +kernel
theorem dX0_foldedEnds_19 : decode cX0_foldedEnds 19 = .ok (.iaload, 1) := by decide +kernel
theorem dX0_foldedEnds_20 : decode cX0_foldedEnds 20 = .ok (.aload_n 0, 1) := by decide +kernel
theorem dX0_foldedEnds_21 : decode cX0_foldedEnds 21 = .ok (.getfield 21, 3) := by decide +kernel
theorem dX0_foldedEnds_24 : decode cX0_foldedEnds 24 = .ok (.iconst 2, 1) := by decide +kernel
theorem dX0_foldedEnds_25 : decode cX0_foldedEnds 25 = .ok (.iload_n 3, 1) := by decide +kernel
theorem dX0_foldedEnds_26 : decode cX0_foldedEnds 26 = .ok (.imul, 1) := by decide +kernel
theorem dX0_foldedEnds_27 : decode cX0_foldedEnds 27 = .ok (.iconst 1, 1) := by decide +kernel
theorem dX0_foldedEnds_28 : decode cX0_foldedEnds 28 = .ok (.iadd, 1) := by decide +kernel
theorem dX0_foldedEnds_29 : decode cX0_foldedEnds 29 = .ok (.iaload, 1) := by decide +kernel
theorem dX0_foldedEnds_30 : decode cX0_foldedEnds 30 = .ok (.if_icmp .eq 7, 3) := by decide +kernel
theorem dX0_foldedEnds_33 : decode cX0_foldedEnds 33 = .ok (.iconst 1, 1) := by decide +kernel
theorem dX0_foldedEnds_34 : decode cX0_foldedEnds 34 = .ok (.goto 4, 3) := by decide +kernel
theorem dX0_foldedEnds_37 : decode cX0_foldedEnds 37 = .ok (.iconst 0, 1) := by decide +kernel
theorem dX0_foldedEnds_38 : decode cX0_foldedEnds 38 = .ok (.istore 4, 2) := by decide +kernel
theorem dX0_foldedEnds_40 : decode cX0_foldedEnds 40 = .ok (.iload_n 2, 1) := by decide +kernel
theorem dX0_foldedEnds_41 : decode cX0_foldedEnds 41 = .ok (.aload_n 0, 1) := by decide +kernel
theorem dX0_foldedEnds_42 : decode cX0_foldedEnds 42 = .ok (.getfield 18, 3) := by decide +kernel
theorem dX0_foldedEnds_45 : decode cX0_foldedEnds 45 = .ok (.iload_n 3, 1) := by decide +kernel
theorem dX0_foldedEnds_46 : decode cX0_foldedEnds 46 = .ok (.iaload, 1) := by decide +kernel
theorem dX0_foldedEnds_47 : decode cX0_foldedEnds 47 = .ok (.iconst 1, 1) := by decide +kernel
theorem dX0_foldedEnds_48 : decode cX0_foldedEnds 48 = .ok (.if_icmp .ne 22, 3) := by decide +kernel
theorem dX0_foldedEnds_51 : decode cX0_foldedEnds 51 = .ok (.aload_n 1, 1) := by decide +kernel
theorem dX0_foldedEnds_52 : decode cX0_foldedEnds 52 = .ok (.getfield 119, 3) := by decide +kernel
theorem dX0_foldedEnds_55 : decode cX0_foldedEnds 55 = .ok (.iload_n 3, 1) := by decide +kernel
theorem dX0_foldedEnds_56 : decode cX0_foldedEnds 56 = .ok (.iaload, 1) := by decide +kernel
theorem dX0_foldedEnds_57 : decode cX0_foldedEnds 57 = .ok (.iconst 1, 1) := by decide +kernel
theorem dX0_foldedEnds_58 : decode cX0_foldedEnds 58 = .ok (.if_icmp .ne 12, 3) := by decide +kernel
theorem dX0_foldedEnds_61 : decode cX0_foldedEnds 61 = .ok (.iload 4, 2) := by decide +kernel
theorem dX0_foldedEnds_63 : decode cX0_foldedEnds 63 = .ok (.ifCond .eq 7, 3) := by decide +kernel
theorem dX0_foldedEnds_66 : decode cX0_foldedEnds 66 = .ok (.iconst 1, 1) := by decide +kernel
theorem dX0_foldedEnds_67 : decode cX0_foldedEnds 67 = .ok (.goto 4, 3) := by decide +kernel
theorem dX0_foldedEnds_70 : decode cX0_foldedEnds 70 = .ok (.iconst 0, 1) := by decide +kernel
theorem dX0_foldedEnds_71 : decode cX0_foldedEnds 71 = .ok (.iadd, 1) := by decide +kernel
theorem dX0_foldedEnds_72 : decode cX0_foldedEnds 72 = .ok (.istore_n 2, 1) := by decide +kernel
theorem dX0_foldedEnds_73 : decode cX0_foldedEnds 73 = .ok (.iinc 3 1, 3) := by decide +kernel
theorem dX0_foldedEnds_76 : decode cX0_foldedEnds 76 = .ok (.goto (-72), 3) := by decide +kernel
theorem dX0_foldedEnds_79 : decode cX0_foldedEnds 79 = .ok (.iload_n 2, 1) := by decide +kernel
theorem dX0_foldedEnds_80 : decode cX0_foldedEnds 80 = .ok (.ireturn, 1) := by decide +kernel
theorem dX0_stayingNames_0 : decode cX0_stayingNames 0 = .ok (.iconst 0, 1) := by decide +kernel
theorem dX0_stayingNames_1 : decode cX0_stayingNames 1 = .ok (.istore_n 2, 1) := by decide +kernel
theorem dX0_stayingNames_2 : decode cX0_stayingNames 2 = .ok (.iconst 0, 1) := by decide +kernel
theorem dX0_stayingNames_3 : decode cX0_stayingNames 3 = .ok (.istore_n 3, 1) := by decide +kernel
theorem dX0_stayingNames_4 : decode cX0_stayingNames 4 = .ok (.iload_n 3, 1) := by decide +kernel
theorem dX0_stayingNames_5 : decode cX0_stayingNames 5 = .ok (.aload_n 1, 1) := by decide +kernel
theorem dX0_stayingNames_6 : decode cX0_stayingNames 6 = .ok (.getfield 128, 3) := by decide +kernel
theorem dX0_stayingNames_9 : decode cX0_stayingNames 9 = .ok (.if_icmp .ge 63, 3) := by decide +kernel
theorem dX0_stayingNames_12 : decode cX0_stayingNames 12 = .ok (.aload_n 0, 1) := by decide +kernel
theorem dX0_stayingNames_13 : decode cX0_stayingNames 13 = .ok (.getfield 18, 3) := by decide +kernel
theorem dX0_stayingNames_16 : decode cX0_stayingNames 16 = .ok (.aload_n 1, 1) := by decide +kernel
theorem dX0_stayingNames_17 : decode cX0_stayingNames 17 = .ok (.getfield 105, 3) := by decide +kernel
theorem dX0_stayingNames_20 : decode cX0_stayingNames 20 = .ok (.iload_n 3, 1) := by decide +kernel
theorem dX0_stayingNames_21 : decode cX0_stayingNames 21 = .ok (.iaload, 1) := by decide +kernel
theorem dX0_stayingNames_22 : decode cX0_stayingNames 22 = .ok (.iaload, 1) := by decide +kernel
theorem dX0_stayingNames_23 : decode cX0_stayingNames 23 = .ok (.iconst 1, 1) := by decide +kernel
theorem dX0_stayingNames_24 : decode cX0_stayingNames 24 = .ok (.if_icmp .ne 26, 3) := by decide +kernel
theorem dX0_stayingNames_27 : decode cX0_stayingNames 27 = .ok (.aload_n 0, 1) := by decide +kernel
theorem dX0_stayingNames_28 : decode cX0_stayingNames 28 = .ok (.getfield 9, 3) := by decide +kernel
theorem dX0_stayingNames_31 : decode cX0_stayingNames 31 = .ok (.iload_n 3, 1) := by decide +kernel
theorem dX0_stayingNames_32 : decode cX0_stayingNames 32 = .ok (.iaload, 1) := by decide +kernel
theorem dX0_stayingNames_33 : decode cX0_stayingNames 33 = .ok (.iconst 1, 1) := by decide +kernel
theorem dX0_stayingNames_34 : decode cX0_stayingNames 34 = .ok (.if_icmp .eq 16, 3) := by decide +kernel
theorem dX0_stayingNames_37 : decode cX0_stayingNames 37 = .ok (.aload_n 1, 1) := by decide +kernel
theorem dX0_stayingNames_38 : decode cX0_stayingNames 38 = .ok (.getfield 50, 3) := by decide +kernel
theorem dX0_stayingNames_41 : decode cX0_stayingNames 41 = .ok (.iload_n 3, 1) := by decide +kernel
theorem dX0_stayingNames_42 : decode cX0_stayingNames 42 = .ok (.iaload, 1) := by decide +kernel
theorem dX0_stayingNames_43 : decode cX0_stayingNames 43 = .ok (.ifCond .eq 7, 3) := by decide +kernel
theorem dX0_stayingNames_46 : decode cX0_stayingNames 46 = .ok (.iconst 1, 1) := by decide +kernel
theorem dX0_stayingNames_47 : decode cX0_stayingNames 47 = .ok (.goto 4, 3) := by decide +kernel
theorem dX0_stayingNames_50 : decode cX0_stayingNames 50 = .ok (.iconst 0, 1) := by decide +kernel
theorem dX0_stayingNames_51 : decode cX0_stayingNames 51 = .ok (.istore 4, 2) := by decide +kernel
theorem dX0_stayingNames_53 : decode cX0_stayingNames 53 = .ok (.iload_n 2, 1) := by decide +kernel
theorem dX0_stayingNames_54 : decode cX0_stayingNames 54 = .ok (.iload 4, 2) := by decide +kernel
theorem dX0_stayingNames_56 : decode cX0_stayingNames 56 = .ok (.ifCond .eq 7, 3) := by decide +kernel
theorem dX0_stayingNames_59 : decode cX0_stayingNames 59 = .ok (.iconst 1, 1) := by decide +kernel
theorem dX0_stayingNames_60 : decode cX0_stayingNames 60 = .ok (.goto 4, 3) := by decide +kernel
theorem dX0_stayingNames_63 : decode cX0_stayingNames 63 = .ok (.iconst 0, 1) := by decide +kernel
theorem dX0_stayingNames_64 : decode cX0_stayingNames 64 = .ok (.iadd, 1) := by decide +kernel
theorem dX0_stayingNames_65 : decode cX0_stayingNames 65 = .ok (.istore_n 2, 1) := by decide +kernel
theorem dX0_stayingNames_66 : decode cX0_stayingNames 66 = .ok (.iinc 3 1, 3) := by decide +kernel
theorem dX0_stayingNames_69 : decode cX0_stayingNames 69 = .ok (.goto (-65), 3) := by decide +kernel
theorem dX0_stayingNames_72 : decode cX0_stayingNames 72 = .ok (.iload_n 2, 1) := by decide +kernel
theorem dX0_stayingNames_73 : decode cX0_stayingNames 73 = .ok (.ireturn, 1) := by decide +kernel
theorem dX0_gainOver_0 : decode cX0_gainOver 0 = .ok (.iconst 0, 1) := by decide +kernel
theorem dX0_gainOver_1 : decode cX0_gainOver 1 = .ok (.istore_n 3, 1) := by decide +kernel
theorem dX0_gainOver_2 : decode cX0_gainOver 2 = .ok (.iconst 0, 1) := by decide +kernel
theorem dX0_gainOver_3 : decode cX0_gainOver 3 = .ok (.istore 4, 2) := by decide +kernel
theorem dX0_gainOver_5 : decode cX0_gainOver 5 = .ok (.iload 4, 2) := by decide +kernel
theorem dX0_gainOver_7 : decode cX0_gainOver 7 = .ok (.aload_n 2, 1) := by decide +kernel
theorem dX0_gainOver_8 : decode cX0_gainOver 8 = .ok (.getfield 128, 3) := by decide +kernel
theorem dX0_gainOver_11 : decode cX0_gainOver 11 = .ok (.if_icmp .ge 39, 3) := by decide +kernel
theorem dX0_gainOver_14 : decode cX0_gainOver 14 = .ok (.iload_n 3, 1) := by decide +kernel
theorem dX0_gainOver_15 : decode cX0_gainOver 15 = .ok (.aload_n 0, 1) := by decide +kernel
theorem dX0_gainOver_16 : decode cX0_gainOver 16 = .ok (.getfield 9, 3) := by decide +kernel
theorem dX0_gainOver_19 : decode cX0_gainOver 19 = .ok (.iload 4, 2) := by decide +kernel
theorem dX0_gainOver_21 : decode cX0_gainOver 21 = .ok (.iaload, 1) := by decide +kernel
theorem dX0_gainOver_22 : decode cX0_gainOver 22 = .ok (.iconst 2, 1) := by decide +kernel
theorem dX0_gainOver_23 : decode cX0_gainOver 23 = .ok (.if_icmp .eq 18, 3) := by decide +kernel
theorem dX0_gainOver_26 : decode cX0_gainOver 26 = .ok (.aload_n 1, 1) := by decide +kernel
theorem dX0_gainOver_27 : decode cX0_gainOver 27 = .ok (.getfield 9, 3) := by decide +kernel
theorem dX0_gainOver_30 : decode cX0_gainOver 30 = .ok (.iload 4, 2) := by decide +kernel
theorem dX0_gainOver_32 : decode cX0_gainOver 32 = .ok (.iaload, 1) := by decide +kernel
theorem dX0_gainOver_33 : decode cX0_gainOver 33 = .ok (.iconst 2, 1) := by decide +kernel
theorem dX0_gainOver_34 : decode cX0_gainOver 34 = .ok (.if_icmp .ne 7, 3) := by decide +kernel
theorem dX0_gainOver_37 : decode cX0_gainOver 37 = .ok (.iconst 1, 1) := by decide +kernel
theorem dX0_gainOver_38 : decode cX0_gainOver 38 = .ok (.goto 4, 3) := by decide +kernel
theorem dX0_gainOver_41 : decode cX0_gainOver 41 = .ok (.iconst 0, 1) := by decide +kernel
theorem dX0_gainOver_42 : decode cX0_gainOver 42 = .ok (.iadd, 1) := by decide +kernel
theorem dX0_gainOver_43 : decode cX0_gainOver 43 = .ok (.istore_n 3, 1) := by decide +kernel
theorem dX0_gainOver_44 : decode cX0_gainOver 44 = .ok (.iinc 4 1, 3) := by decide +kernel
theorem dX0_gainOver_47 : decode cX0_gainOver 47 = .ok (.goto (-42), 3) := by decide +kernel
theorem dX0_gainOver_50 : decode cX0_gainOver 50 = .ok (.iload_n 3, 1) := by decide +kernel
theorem dX0_gainOver_51 : decode cX0_gainOver 51 = .ok (.ireturn, 1) := by decide +kernel
theorem dX1_init_0 : decode cX1_init 0 = .ok (.aload_n 0, 1) := by decide +kernel
theorem dX1_init_1 : decode cX1_init 1 = .ok (.invokespecial 3, 3) := by decide +kernel
theorem dX1_init_4 : decode cX1_init 4 = .ok (.aload_n 0, 1) := by decide +kernel
theorem dX1_init_5 : decode cX1_init 5 = .ok (.iconst 0, 1) := by decide +kernel
theorem dX1_init_6 : decode cX1_init 6 = .ok (.putfield 9, 3) := by decide +kernel
theorem dX1_init_9 : decode cX1_init 9 = .ok (.aload_n 0, 1) := by decide +kernel
theorem dX1_init_10 : decode cX1_init 10 = .ok (.bipush 10, 2) := by decide +kernel
theorem dX1_init_12 : decode cX1_init 12 = .ok (.newarray .int, 2) := by decide +kernel
theorem dX1_init_14 : decode cX1_init 14 = .ok (.putfield 15, 3) := by decide +kernel
theorem dX1_init_17 : decode cX1_init 17 = .ok (.aload_n 0, 1) := by decide +kernel
theorem dX1_init_18 : decode cX1_init 18 = .ok (.bipush 10, 2) := by decide +kernel
theorem dX1_init_20 : decode cX1_init 20 = .ok (.newarray .int, 2) := by decide +kernel
theorem dX1_init_22 : decode cX1_init 22 = .ok (.putfield 19, 3) := by decide +kernel
theorem dX1_init_25 : decode cX1_init 25 = .ok (.aload_n 0, 1) := by decide +kernel
theorem dX1_init_26 : decode cX1_init 26 = .ok (.bipush 10, 2) := by decide +kernel
theorem dX1_init_28 : decode cX1_init 28 = .ok (.newarray .int, 2) := by decide +kernel
theorem dX1_init_30 : decode cX1_init 30 = .ok (.putfield 22, 3) := by decide +kernel
theorem dX1_init_33 : decode cX1_init 33 = .ok (.aload_n 0, 1) := by decide +kernel
theorem dX1_init_34 : decode cX1_init 34 = .ok (.bipush 10, 2) := by decide +kernel
theorem dX1_init_36 : decode cX1_init 36 = .ok (.newarray .int, 2) := by decide +kernel
theorem dX1_init_38 : decode cX1_init 38 = .ok (.putfield 25, 3) := by decide +kernel
theorem dX1_init_41 : decode cX1_init 41 = .ok (.return_, 1) := by decide +kernel
theorem dX1_note_0 : decode cX1_note 0 = .ok (.aload_n 0, 1) := by decide +kernel
theorem dX1_note_1 : decode cX1_note 1 = .ok (.getfield 9, 3) := by decide +kernel
theorem dX1_note_4 : decode cX1_note 4 = .ok (.bipush 10, 2) := by decide +kernel
theorem dX1_note_6 : decode cX1_note 6 = .ok (.if_icmp .lt 7, 3) := by decide +kernel
theorem dX1_note_9 : decode cX1_note 9 = .ok (.aload_n 0, 1) := by decide +kernel
theorem dX1_note_10 : decode cX1_note 10 = .ok (.invokevirtual 28, 3) := by decide +kernel
theorem dX1_note_13 : decode cX1_note 13 = .ok (.aload_n 0, 1) := by decide +kernel
theorem dX1_note_14 : decode cX1_note 14 = .ok (.getfield 15, 3) := by decide +kernel
theorem dX1_note_17 : decode cX1_note 17 = .ok (.aload_n 0, 1) := by decide +kernel
theorem dX1_note_18 : decode cX1_note 18 = .ok (.getfield 9, 3) := by decide +kernel
theorem dX1_note_21 : decode cX1_note 21 = .ok (.iload_n 1, 1) := by decide +kernel
theorem dX1_note_22 : decode cX1_note 22 = .ok (.iastore, 1) := by decide +kernel
theorem dX1_note_23 : decode cX1_note 23 = .ok (.aload_n 0, 1) := by decide +kernel
theorem dX1_note_24 : decode cX1_note 24 = .ok (.getfield 19, 3) := by decide +kernel
theorem dX1_note_27 : decode cX1_note 27 = .ok (.aload_n 0, 1) := by decide +kernel
theorem dX1_note_28 : decode cX1_note 28 = .ok (.getfield 9, 3) := by decide +kernel
theorem dX1_note_31 : decode cX1_note 31 = .ok (.iload_n 2, 1) := by decide +kernel
theorem dX1_note_32 : decode cX1_note 32 = .ok (.iastore, 1) := by decide +kernel
theorem dX1_note_33 : decode cX1_note 33 = .ok (.aload_n 0, 1) := by decide +kernel
theorem dX1_note_34 : decode cX1_note 34 = .ok (.getfield 22, 3) := by decide +kernel
theorem dX1_note_37 : decode cX1_note 37 = .ok (.aload_n 0, 1) := by decide +kernel
theorem dX1_note_38 : decode cX1_note 38 = .ok (.getfield 9, 3) := by decide +kernel
theorem dX1_note_41 : decode cX1_note 41 = .ok (.aload_n 3, 1) := by decide +kernel
theorem dX1_note_42 : decode cX1_note 42 = .ok (.getfield 31, 3) := by decide +kernel
theorem dX1_note_45 : decode cX1_note 45 = .ok (.iload_n 2, 1) := by decide +kernel
theorem dX1_note_46 : decode cX1_note 46 = .ok (.iaload, 1) := by decide +kernel
theorem dX1_note_47 : decode cX1_note 47 = .ok (.iastore, 1) := by decide +kernel
theorem dX1_note_48 : decode cX1_note 48 = .ok (.iload_n 1, 1) := by decide +kernel
theorem dX1_note_49 : decode cX1_note 49 = .ok (.tableswitch 81 0 2 #[27, 45, 63], 27) := by decide +kernel
theorem dX1_note_76 : decode cX1_note 76 = .ok (.aload_n 0, 1) := by decide +kernel
theorem dX1_note_77 : decode cX1_note 77 = .ok (.getfield 25, 3) := by decide +kernel
theorem dX1_note_80 : decode cX1_note 80 = .ok (.aload_n 0, 1) := by decide +kernel
theorem dX1_note_81 : decode cX1_note 81 = .ok (.getfield 9, 3) := by decide +kernel
theorem dX1_note_84 : decode cX1_note 84 = .ok (.aload_n 3, 1) := by decide +kernel
theorem dX1_note_85 : decode cX1_note 85 = .ok (.getfield 36, 3) := by decide +kernel
theorem dX1_note_88 : decode cX1_note 88 = .ok (.iload_n 2, 1) := by decide +kernel
theorem dX1_note_89 : decode cX1_note 89 = .ok (.iaload, 1) := by decide +kernel
theorem dX1_note_90 : decode cX1_note 90 = .ok (.iastore, 1) := by decide +kernel
theorem dX1_note_91 : decode cX1_note 91 = .ok (.goto 49, 3) := by decide +kernel
theorem dX1_note_94 : decode cX1_note 94 = .ok (.aload_n 0, 1) := by decide +kernel
theorem dX1_note_95 : decode cX1_note 95 = .ok (.getfield 25, 3) := by decide +kernel
theorem dX1_note_98 : decode cX1_note 98 = .ok (.aload_n 0, 1) := by decide +kernel
theorem dX1_note_99 : decode cX1_note 99 = .ok (.getfield 9, 3) := by decide +kernel
theorem dX1_note_102 : decode cX1_note 102 = .ok (.aload_n 3, 1) := by decide +kernel
theorem dX1_note_103 : decode cX1_note 103 = .ok (.getfield 39, 3) := by decide +kernel
theorem dX1_note_106 : decode cX1_note 106 = .ok (.iload_n 2, 1) := by decide +kernel
theorem dX1_note_107 : decode cX1_note 107 = .ok (.iaload, 1) := by decide +kernel
theorem dX1_note_108 : decode cX1_note 108 = .ok (.iastore, 1) := by decide +kernel
theorem dX1_note_109 : decode cX1_note 109 = .ok (.goto 31, 3) := by decide +kernel
theorem dX1_note_112 : decode cX1_note 112 = .ok (.aload_n 0, 1) := by decide +kernel
theorem dX1_note_113 : decode cX1_note 113 = .ok (.getfield 25, 3) := by decide +kernel
theorem dX1_note_116 : decode cX1_note 116 = .ok (.aload_n 0, 1) := by decide +kernel
theorem dX1_note_117 : decode cX1_note 117 = .ok (.getfield 9, 3) := by decide +kernel
theorem dX1_note_120 : decode cX1_note 120 = .ok (.aload_n 3, 1) := by decide +kernel
theorem dX1_note_121 : decode cX1_note 121 = .ok (.getfield 42, 3) := by decide +kernel
theorem dX1_note_124 : decode cX1_note 124 = .ok (.iload_n 2, 1) := by decide +kernel
theorem dX1_note_125 : decode cX1_note 125 = .ok (.iaload, 1) := by decide +kernel
theorem dX1_note_126 : decode cX1_note 126 = .ok (.iastore, 1) := by decide +kernel
theorem dX1_note_127 : decode cX1_note 127 = .ok (.goto 13, 3) := by decide +kernel
theorem dX1_note_130 : decode cX1_note 130 = .ok (.aload_n 0, 1) := by decide +kernel
theorem dX1_note_131 : decode cX1_note 131 = .ok (.getfield 25, 3) := by decide +kernel
theorem dX1_note_134 : decode cX1_note 134 = .ok (.aload_n 0, 1) := by decide +kernel
theorem dX1_note_135 : decode cX1_note 135 = .ok (.getfield 9, 3) := by decide +kernel
theorem dX1_note_138 : decode cX1_note 138 = .ok (.iconst 0, 1) := by decide +kernel
theorem dX1_note_139 : decode cX1_note 139 = .ok (.iastore, 1) := by decide +kernel
theorem dX1_note_140 : decode cX1_note 140 = .ok (.aload_n 0, 1) := by decide +kernel
theorem dX1_note_141 : decode cX1_note 141 = .ok (.dup, 1) := by decide +kernel
theorem dX1_note_142 : decode cX1_note 142 = .ok (.getfield 9, 3) := by decide +kernel
theorem dX1_note_145 : decode cX1_note 145 = .ok (.iconst 1, 1) := by decide +kernel
theorem dX1_note_146 : decode cX1_note 146 = .ok (.iadd, 1) := by decide +kernel
theorem dX1_note_147 : decode cX1_note 147 = .ok (.putfield 9, 3) := by decide +kernel
theorem dX1_note_150 : decode cX1_note 150 = .ok (.return_, 1) := by decide +kernel
theorem dX1_dropOldest_0 : decode cX1_dropOldest 0 = .ok (.iconst 1, 1) := by decide +kernel
theorem dX1_dropOldest_1 : decode cX1_dropOldest 1 = .ok (.istore_n 1, 1) := by decide +kernel
theorem dX1_dropOldest_2 : decode cX1_dropOldest 2 = .ok (.iload_n 1, 1) := by decide +kernel
theorem dX1_dropOldest_3 : decode cX1_dropOldest 3 = .ok (.bipush 10, 2) := by decide +kernel
theorem dX1_dropOldest_5 : decode cX1_dropOldest 5 = .ok (.if_icmp .ge 65, 3) := by decide +kernel
theorem dX1_dropOldest_8 : decode cX1_dropOldest 8 = .ok (.aload_n 0, 1) := by decide +kernel
theorem dX1_dropOldest_9 : decode cX1_dropOldest 9 = .ok (.getfield 15, 3) := by decide +kernel
theorem dX1_dropOldest_12 : decode cX1_dropOldest 12 = .ok (.iload_n 1, 1) := by decide +kernel
theorem dX1_dropOldest_13 : decode cX1_dropOldest 13 = .ok (.iconst 1, 1) := by decide +kernel
theorem dX1_dropOldest_14 : decode cX1_dropOldest 14 = .ok (.isub, 1) := by decide +kernel
theorem dX1_dropOldest_15 : decode cX1_dropOldest 15 = .ok (.aload_n 0, 1) := by decide +kernel
theorem dX1_dropOldest_16 : decode cX1_dropOldest 16 = .ok (.getfield 15, 3) := by decide +kernel
theorem dX1_dropOldest_19 : decode cX1_dropOldest 19 = .ok (.iload_n 1, 1) := by decide +kernel
theorem dX1_dropOldest_20 : decode cX1_dropOldest 20 = .ok (.iaload, 1) := by decide +kernel
theorem dX1_dropOldest_21 : decode cX1_dropOldest 21 = .ok (.iastore, 1) := by decide +kernel
theorem dX1_dropOldest_22 : decode cX1_dropOldest 22 = .ok (.aload_n 0, 1) := by decide +kernel
theorem dX1_dropOldest_23 : decode cX1_dropOldest 23 = .ok (.getfield 19, 3) := by decide +kernel
theorem dX1_dropOldest_26 : decode cX1_dropOldest 26 = .ok (.iload_n 1, 1) := by decide +kernel
theorem dX1_dropOldest_27 : decode cX1_dropOldest 27 = .ok (.iconst 1, 1) := by decide +kernel
theorem dX1_dropOldest_28 : decode cX1_dropOldest 28 = .ok (.isub, 1) := by decide +kernel
theorem dX1_dropOldest_29 : decode cX1_dropOldest 29 = .ok (.aload_n 0, 1) := by decide +kernel
theorem dX1_dropOldest_30 : decode cX1_dropOldest 30 = .ok (.getfield 19, 3) := by decide +kernel
theorem dX1_dropOldest_33 : decode cX1_dropOldest 33 = .ok (.iload_n 1, 1) := by decide +kernel
theorem dX1_dropOldest_34 : decode cX1_dropOldest 34 = .ok (.iaload, 1) := by decide +kernel
theorem dX1_dropOldest_35 : decode cX1_dropOldest 35 = .ok (.iastore, 1) := by decide +kernel
theorem dX1_dropOldest_36 : decode cX1_dropOldest 36 = .ok (.aload_n 0, 1) := by decide +kernel
theorem dX1_dropOldest_37 : decode cX1_dropOldest 37 = .ok (.getfield 22, 3) := by decide +kernel
theorem dX1_dropOldest_40 : decode cX1_dropOldest 40 = .ok (.iload_n 1, 1) := by decide +kernel
theorem dX1_dropOldest_41 : decode cX1_dropOldest 41 = .ok (.iconst 1, 1) := by decide +kernel
theorem dX1_dropOldest_42 : decode cX1_dropOldest 42 = .ok (.isub, 1) := by decide +kernel
theorem dX1_dropOldest_43 : decode cX1_dropOldest 43 = .ok (.aload_n 0, 1) := by decide +kernel
theorem dX1_dropOldest_44 : decode cX1_dropOldest 44 = .ok (.getfield 22, 3) := by decide +kernel
theorem dX1_dropOldest_47 : decode cX1_dropOldest 47 = .ok (.iload_n 1, 1) := by decide +kernel
theorem dX1_dropOldest_48 : decode cX1_dropOldest 48 = .ok (.iaload, 1) := by decide +kernel
theorem dX1_dropOldest_49 : decode cX1_dropOldest 49 = .ok (.iastore, 1) := by decide +kernel
theorem dX1_dropOldest_50 : decode cX1_dropOldest 50 = .ok (.aload_n 0, 1) := by decide +kernel
theorem dX1_dropOldest_51 : decode cX1_dropOldest 51 = .ok (.getfield 25, 3) := by decide +kernel
theorem dX1_dropOldest_54 : decode cX1_dropOldest 54 = .ok (.iload_n 1, 1) := by decide +kernel
theorem dX1_dropOldest_55 : decode cX1_dropOldest 55 = .ok (.iconst 1, 1) := by decide +kernel
theorem dX1_dropOldest_56 : decode cX1_dropOldest 56 = .ok (.isub, 1) := by decide +kernel
theorem dX1_dropOldest_57 : decode cX1_dropOldest 57 = .ok (.aload_n 0, 1) := by decide +kernel
theorem dX1_dropOldest_58 : decode cX1_dropOldest 58 = .ok (.getfield 25, 3) := by decide +kernel
theorem dX1_dropOldest_61 : decode cX1_dropOldest 61 = .ok (.iload_n 1, 1) := by decide +kernel
theorem dX1_dropOldest_62 : decode cX1_dropOldest 62 = .ok (.iaload, 1) := by decide +kernel
theorem dX1_dropOldest_63 : decode cX1_dropOldest 63 = .ok (.iastore, 1) := by decide +kernel
theorem dX1_dropOldest_64 : decode cX1_dropOldest 64 = .ok (.iinc 1 1, 3) := by decide +kernel
theorem dX1_dropOldest_67 : decode cX1_dropOldest 67 = .ok (.goto (-65), 3) := by decide +kernel
theorem dX1_dropOldest_70 : decode cX1_dropOldest 70 = .ok (.aload_n 0, 1) := by decide +kernel
theorem dX1_dropOldest_71 : decode cX1_dropOldest 71 = .ok (.bipush 9, 2) := by decide +kernel
theorem dX1_dropOldest_73 : decode cX1_dropOldest 73 = .ok (.putfield 9, 3) := by decide +kernel
theorem dX1_dropOldest_76 : decode cX1_dropOldest 76 = .ok (.return_, 1) := by decide +kernel
theorem dX1_takeBack_0 : decode cX1_takeBack 0 = .ok (.aload_n 0, 1) := by decide +kernel
theorem dX1_takeBack_1 : decode cX1_takeBack 1 = .ok (.getfield 9, 3) := by decide +kernel
theorem dX1_takeBack_4 : decode cX1_takeBack 4 = .ok (.ifCond .gt 4, 3) := by decide +kernel
theorem dX1_takeBack_7 : decode cX1_takeBack 7 = .ok (.return_, 1) := by decide +kernel
theorem dX1_takeBack_8 : decode cX1_takeBack 8 = .ok (.aload_n 0, 1) := by decide +kernel
theorem dX1_takeBack_9 : decode cX1_takeBack 9 = .ok (.dup, 1) := by decide +kernel
theorem dX1_takeBack_10 : decode cX1_takeBack 10 = .ok (.getfield 9, 3) := by decide +kernel
theorem dX1_takeBack_13 : decode cX1_takeBack 13 = .ok (.iconst 1, 1) := by decide +kernel
theorem dX1_takeBack_14 : decode cX1_takeBack 14 = .ok (.isub, 1) := by decide +kernel
theorem dX1_takeBack_15 : decode cX1_takeBack 15 = .ok (.putfield 9, 3) := by decide +kernel
theorem dX1_takeBack_18 : decode cX1_takeBack 18 = .ok (.aload_n 0, 1) := by decide +kernel
theorem dX1_takeBack_19 : decode cX1_takeBack 19 = .ok (.getfield 19, 3) := by decide +kernel
theorem dX1_takeBack_22 : decode cX1_takeBack 22 = .ok (.aload_n 0, 1) := by decide +kernel
theorem dX1_takeBack_23 : decode cX1_takeBack 23 = .ok (.getfield 9, 3) := by decide +kernel
theorem dX1_takeBack_26 : decode cX1_takeBack 26 = .ok (.iaload, 1) := by decide +kernel
theorem dX1_takeBack_27 : decode cX1_takeBack 27 = .ok (.istore_n 2, 1) := by decide +kernel
theorem dX1_takeBack_28 : decode cX1_takeBack 28 = .ok (.aload_n 0, 1) := by decide +kernel
theorem dX1_takeBack_29 : decode cX1_takeBack 29 = .ok (.getfield 15, 3) := by decide +kernel
theorem dX1_takeBack_32 : decode cX1_takeBack 32 = .ok (.aload_n 0, 1) := by decide +kernel
theorem dX1_takeBack_33 : decode cX1_takeBack 33 = .ok (.getfield 9, 3) := by decide +kernel
theorem dX1_takeBack_36 : decode cX1_takeBack 36 = .ok (.iaload, 1) := by decide +kernel
theorem dX1_takeBack_37 : decode cX1_takeBack 37 = .ok (.tableswitch 96 0 2 #[27, 60, 78], 27) := by decide +kernel
theorem dX1_takeBack_64 : decode cX1_takeBack 64 = .ok (.aload_n 1, 1) := by decide +kernel
theorem dX1_takeBack_65 : decode cX1_takeBack 65 = .ok (.getfield 31, 3) := by decide +kernel
theorem dX1_takeBack_68 : decode cX1_takeBack 68 = .ok (.iload_n 2, 1) := by decide +kernel
theorem dX1_takeBack_69 : decode cX1_takeBack 69 = .ok (.aload_n 0, 1) := by decide +kernel
theorem dX1_takeBack_70 : decode cX1_takeBack 70 = .ok (.getfield 22, 3) := by decide +kernel
theorem dX1_takeBack_73 : decode cX1_takeBack 73 = .ok (.aload_n 0, 1) := by decide +kernel
theorem dX1_takeBack_74 : decode cX1_takeBack 74 = .ok (.getfield 9, 3) := by decide +kernel
theorem dX1_takeBack_77 : decode cX1_takeBack 77 = .ok (.iaload, 1) := by decide +kernel
theorem dX1_takeBack_78 : decode cX1_takeBack 78 = .ok (.iastore, 1) := by decide +kernel
theorem dX1_takeBack_79 : decode cX1_takeBack 79 = .ok (.aload_n 1, 1) := by decide +kernel
theorem dX1_takeBack_80 : decode cX1_takeBack 80 = .ok (.getfield 36, 3) := by decide +kernel
theorem dX1_takeBack_83 : decode cX1_takeBack 83 = .ok (.iload_n 2, 1) := by decide +kernel
theorem dX1_takeBack_84 : decode cX1_takeBack 84 = .ok (.aload_n 0, 1) := by decide +kernel
theorem dX1_takeBack_85 : decode cX1_takeBack 85 = .ok (.getfield 25, 3) := by decide +kernel
theorem dX1_takeBack_88 : decode cX1_takeBack 88 = .ok (.aload_n 0, 1) := by decide +kernel
theorem dX1_takeBack_89 : decode cX1_takeBack 89 = .ok (.getfield 9, 3) := by decide +kernel
theorem dX1_takeBack_92 : decode cX1_takeBack 92 = .ok (.iaload, 1) := by decide +kernel
theorem dX1_takeBack_93 : decode cX1_takeBack 93 = .ok (.iastore, 1) := by decide +kernel
theorem dX1_takeBack_94 : decode cX1_takeBack 94 = .ok (.goto 44, 3) := by decide +kernel
theorem dX1_takeBack_97 : decode cX1_takeBack 97 = .ok (.aload_n 1, 1) := by decide +kernel
theorem dX1_takeBack_98 : decode cX1_takeBack 98 = .ok (.getfield 39, 3) := by decide +kernel
theorem dX1_takeBack_101 : decode cX1_takeBack 101 = .ok (.iload_n 2, 1) := by decide +kernel
theorem dX1_takeBack_102 : decode cX1_takeBack 102 = .ok (.aload_n 0, 1) := by decide +kernel
theorem dX1_takeBack_103 : decode cX1_takeBack 103 = .ok (.getfield 25, 3) := by decide +kernel
theorem dX1_takeBack_106 : decode cX1_takeBack 106 = .ok (.aload_n 0, 1) := by decide +kernel
theorem dX1_takeBack_107 : decode cX1_takeBack 107 = .ok (.getfield 9, 3) := by decide +kernel
theorem dX1_takeBack_110 : decode cX1_takeBack 110 = .ok (.iaload, 1) := by decide +kernel
theorem dX1_takeBack_111 : decode cX1_takeBack 111 = .ok (.iastore, 1) := by decide +kernel
theorem dX1_takeBack_112 : decode cX1_takeBack 112 = .ok (.goto 26, 3) := by decide +kernel
theorem dX1_takeBack_115 : decode cX1_takeBack 115 = .ok (.aload_n 1, 1) := by decide +kernel
theorem dX1_takeBack_116 : decode cX1_takeBack 116 = .ok (.getfield 42, 3) := by decide +kernel
theorem dX1_takeBack_119 : decode cX1_takeBack 119 = .ok (.iload_n 2, 1) := by decide +kernel
theorem dX1_takeBack_120 : decode cX1_takeBack 120 = .ok (.aload_n 0, 1) := by decide +kernel
theorem dX1_takeBack_121 : decode cX1_takeBack 121 = .ok (.getfield 25, 3) := by decide +kernel
theorem dX1_takeBack_124 : decode cX1_takeBack 124 = .ok (.aload_n 0, 1) := by decide +kernel
theorem dX1_takeBack_125 : decode cX1_takeBack 125 = .ok (.getfield 9, 3) := by decide +kernel
theorem dX1_takeBack_128 : decode cX1_takeBack 128 = .ok (.iaload, 1) := by decide +kernel
theorem dX1_takeBack_129 : decode cX1_takeBack 129 = .ok (.iastore, 1) := by decide +kernel
theorem dX1_takeBack_130 : decode cX1_takeBack 130 = .ok (.goto 8, 3) := by decide +kernel
theorem dX1_takeBack_133 : decode cX1_takeBack 133 = .ok (.aload_n 1, 1) := by decide +kernel
theorem dX1_takeBack_134 : decode cX1_takeBack 134 = .ok (.iload_n 2, 1) := by decide +kernel
theorem dX1_takeBack_135 : decode cX1_takeBack 135 = .ok (.invokevirtual 45, 3) := by decide +kernel
theorem dX1_takeBack_138 : decode cX1_takeBack 138 = .ok (.return_, 1) := by decide +kernel
theorem dX2_init_0 : decode cX2_init 0 = .ok (.aload_n 0, 1) := by decide +kernel
theorem dX2_init_1 : decode cX2_init 1 = .ok (.invokespecial 3, 3) := by decide +kernel
theorem dX2_init_4 : decode cX2_init 4 = .ok (.aload_n 0, 1) := by decide +kernel
theorem dX2_init_5 : decode cX2_init 5 = .ok (.bipush 24, 2) := by decide +kernel
theorem dX2_init_7 : decode cX2_init 7 = .ok (.newarray .int, 2) := by decide +kernel
theorem dX2_init_9 : decode cX2_init 9 = .ok (.putfield 9, 3) := by decide +kernel
theorem dX2_init_12 : decode cX2_init 12 = .ok (.aload_n 0, 1) := by decide +kernel
theorem dX2_init_13 : decode cX2_init 13 = .ok (.bipush 24, 2) := by decide +kernel
theorem dX2_init_15 : decode cX2_init 15 = .ok (.newarray .int, 2) := by decide +kernel
theorem dX2_init_17 : decode cX2_init 17 = .ok (.putfield 15, 3) := by decide +kernel
theorem dX2_init_20 : decode cX2_init 20 = .ok (.aload_n 0, 1) := by decide +kernel
theorem dX2_init_21 : decode cX2_init 21 = .ok (.bipush 24, 2) := by decide +kernel
theorem dX2_init_23 : decode cX2_init 23 = .ok (.newarray .int, 2) := by decide +kernel
theorem dX2_init_25 : decode cX2_init 25 = .ok (.putfield 18, 3) := by decide +kernel
theorem dX2_init_28 : decode cX2_init 28 = .ok (.aload_n 0, 1) := by decide +kernel
theorem dX2_init_29 : decode cX2_init 29 = .ok (.bipush 24, 2) := by decide +kernel
theorem dX2_init_31 : decode cX2_init 31 = .ok (.newarray .int, 2) := by decide +kernel
theorem dX2_init_33 : decode cX2_init 33 = .ok (.putfield 21, 3) := by decide +kernel
theorem dX2_init_36 : decode cX2_init 36 = .ok (.aload_n 0, 1) := by decide +kernel
theorem dX2_init_37 : decode cX2_init 37 = .ok (.bipush 16, 2) := by decide +kernel
theorem dX2_init_39 : decode cX2_init 39 = .ok (.newarray .int, 2) := by decide +kernel
theorem dX2_init_41 : decode cX2_init 41 = .ok (.putfield 24, 3) := by decide +kernel
theorem dX2_init_44 : decode cX2_init 44 = .ok (.return_, 1) := by decide +kernel
theorem dX2_becomesAsTold_0 : decode cX2_becomesAsTold 0 = .ok (.aload_n 0, 1) := by decide +kernel
theorem dX2_becomesAsTold_1 : decode cX2_becomesAsTold 1 = .ok (.getfield 9, 3) := by decide +kernel
theorem dX2_becomesAsTold_4 : decode cX2_becomesAsTold 4 = .ok (.iconst 0, 1) := by decide +kernel
theorem dX2_becomesAsTold_5 : decode cX2_becomesAsTold 5 = .ok (.invokestatic 27, 3) := by decide +kernel
theorem dX2_becomesAsTold_8 : decode cX2_becomesAsTold 8 = .ok (.aload_n 0, 1) := by decide +kernel
theorem dX2_becomesAsTold_9 : decode cX2_becomesAsTold 9 = .ok (.getfield 15, 3) := by decide +kernel
theorem dX2_becomesAsTold_12 : decode cX2_becomesAsTold 12 = .ok (.iconst 0, 1) := by decide +kernel
theorem dX2_becomesAsTold_13 : decode cX2_becomesAsTold 13 = .ok (.invokestatic 27, 3) := by decide +kernel
theorem dX2_becomesAsTold_16 : decode cX2_becomesAsTold 16 = .ok (.aload_n 0, 1) := by decide +kernel
theorem dX2_becomesAsTold_17 : decode cX2_becomesAsTold 17 = .ok (.getfield 18, 3) := by decide +kernel
theorem dX2_becomesAsTold_20 : decode cX2_becomesAsTold 20 = .ok (.iconst 0, 1) := by decide +kernel
theorem dX2_becomesAsTold_21 : decode cX2_becomesAsTold 21 = .ok (.invokestatic 27, 3) := by decide +kernel
theorem dX2_becomesAsTold_24 : decode cX2_becomesAsTold 24 = .ok (.aload_n 1, 1) := by decide +kernel
theorem dX2_becomesAsTold_25 : decode cX2_becomesAsTold 25 = .ok (.getfield 33, 3) := by decide +kernel
theorem dX2_becomesAsTold_28 : decode cX2_becomesAsTold 28 = .ok (.iconst 0, 1) := by decide +kernel
theorem dX2_becomesAsTold_29 : decode cX2_becomesAsTold 29 = .ok (.aload_n 0, 1) := by decide +kernel
theorem dX2_becomesAsTold_30 : decode cX2_becomesAsTold 30 = .ok (.getfield 21, 3) := by decide +kernel
theorem dX2_becomesAsTold_33 : decode cX2_becomesAsTold 33 = .ok (.iconst 0, 1) := by decide +kernel
theorem dX2_becomesAsTold_34 : decode cX2_becomesAsTold 34 = .ok (.bipush 24, 2) := by decide +kernel
theorem dX2_becomesAsTold_36 : decode cX2_becomesAsTold 36 = .ok (.invokestatic 36, 3) := by decide +kernel
theorem dX2_becomesAsTold_39 : decode cX2_becomesAsTold 39 = .ok (.aload_n 1, 1) := by decide +kernel
theorem dX2_becomesAsTold_40 : decode cX2_becomesAsTold 40 = .ok (.getfield 42, 3) := by decide +kernel
theorem dX2_becomesAsTold_43 : decode cX2_becomesAsTold 43 = .ok (.iconst 0, 1) := by decide +kernel
theorem dX2_becomesAsTold_44 : decode cX2_becomesAsTold 44 = .ok (.aload_n 0, 1) := by decide +kernel
theorem dX2_becomesAsTold_45 : decode cX2_becomesAsTold 45 = .ok (.getfield 24, 3) := by decide +kernel
theorem dX2_becomesAsTold_48 : decode cX2_becomesAsTold 48 = .ok (.iconst 0, 1) := by decide +kernel
theorem dX2_becomesAsTold_49 : decode cX2_becomesAsTold 49 = .ok (.bipush 16, 2) := by decide +kernel
theorem dX2_becomesAsTold_51 : decode cX2_becomesAsTold 51 = .ok (.invokestatic 36, 3) := by decide +kernel
theorem dX2_becomesAsTold_54 : decode cX2_becomesAsTold 54 = .ok (.return_, 1) := by decide +kernel
theorem dX2_copy_0 : decode cX2_copy 0 = .ok (.aload_n 1, 1) := by decide +kernel
theorem dX2_copy_1 : decode cX2_copy 1 = .ok (.getfield 9, 3) := by decide +kernel
theorem dX2_copy_4 : decode cX2_copy 4 = .ok (.iconst 0, 1) := by decide +kernel
theorem dX2_copy_5 : decode cX2_copy 5 = .ok (.aload_n 0, 1) := by decide +kernel
theorem dX2_copy_6 : decode cX2_copy 6 = .ok (.getfield 9, 3) := by decide +kernel
theorem dX2_copy_9 : decode cX2_copy 9 = .ok (.iconst 0, 1) := by decide +kernel
theorem dX2_copy_10 : decode cX2_copy 10 = .ok (.bipush 24, 2) := by decide +kernel
theorem dX2_copy_12 : decode cX2_copy 12 = .ok (.invokestatic 36, 3) := by decide +kernel
theorem dX2_copy_15 : decode cX2_copy 15 = .ok (.aload_n 1, 1) := by decide +kernel
theorem dX2_copy_16 : decode cX2_copy 16 = .ok (.getfield 15, 3) := by decide +kernel
theorem dX2_copy_19 : decode cX2_copy 19 = .ok (.iconst 0, 1) := by decide +kernel
theorem dX2_copy_20 : decode cX2_copy 20 = .ok (.aload_n 0, 1) := by decide +kernel
theorem dX2_copy_21 : decode cX2_copy 21 = .ok (.getfield 15, 3) := by decide +kernel
theorem dX2_copy_24 : decode cX2_copy 24 = .ok (.iconst 0, 1) := by decide +kernel
theorem dX2_copy_25 : decode cX2_copy 25 = .ok (.bipush 24, 2) := by decide +kernel
theorem dX2_copy_27 : decode cX2_copy 27 = .ok (.invokestatic 36, 3) := by decide +kernel
theorem dX2_copy_30 : decode cX2_copy 30 = .ok (.aload_n 1, 1) := by decide +kernel
theorem dX2_copy_31 : decode cX2_copy 31 = .ok (.getfield 18, 3) := by decide +kernel
theorem dX2_copy_34 : decode cX2_copy 34 = .ok (.iconst 0, 1) := by decide +kernel
theorem dX2_copy_35 : decode cX2_copy 35 = .ok (.aload_n 0, 1) := by decide +kernel
theorem dX2_copy_36 : decode cX2_copy 36 = .ok (.getfield 18, 3) := by decide +kernel
theorem dX2_copy_39 : decode cX2_copy 39 = .ok (.iconst 0, 1) := by decide +kernel
theorem dX2_copy_40 : decode cX2_copy 40 = .ok (.bipush 24, 2) := by decide +kernel
theorem dX2_copy_42 : decode cX2_copy 42 = .ok (.invokestatic 36, 3) := by decide +kernel
theorem dX2_copy_45 : decode cX2_copy 45 = .ok (.aload_n 1, 1) := by decide +kernel
theorem dX2_copy_46 : decode cX2_copy 46 = .ok (.getfield 21, 3) := by decide +kernel
theorem dX2_copy_49 : decode cX2_copy 49 = .ok (.iconst 0, 1) := by decide +kernel
theorem dX2_copy_50 : decode cX2_copy 50 = .ok (.aload_n 0, 1) := by decide +kernel
theorem dX2_copy_51 : decode cX2_copy 51 = .ok (.getfield 21, 3) := by decide +kernel
theorem dX2_copy_54 : decode cX2_copy 54 = .ok (.iconst 0, 1) := by decide +kernel
theorem dX2_copy_55 : decode cX2_copy 55 = .ok (.bipush 24, 2) := by decide +kernel
theorem dX2_copy_57 : decode cX2_copy 57 = .ok (.invokestatic 36, 3) := by decide +kernel
theorem dX2_copy_60 : decode cX2_copy 60 = .ok (.aload_n 1, 1) := by decide +kernel
theorem dX2_copy_61 : decode cX2_copy 61 = .ok (.getfield 24, 3) := by decide +kernel
theorem dX2_copy_64 : decode cX2_copy 64 = .ok (.iconst 0, 1) := by decide +kernel
theorem dX2_copy_65 : decode cX2_copy 65 = .ok (.aload_n 0, 1) := by decide +kernel
theorem dX2_copy_66 : decode cX2_copy 66 = .ok (.getfield 24, 3) := by decide +kernel
theorem dX2_copy_69 : decode cX2_copy 69 = .ok (.iconst 0, 1) := by decide +kernel
theorem dX2_copy_70 : decode cX2_copy 70 = .ok (.bipush 16, 2) := by decide +kernel
theorem dX2_copy_72 : decode cX2_copy 72 = .ok (.invokestatic 36, 3) := by decide +kernel
theorem dX2_copy_75 : decode cX2_copy 75 = .ok (.return_, 1) := by decide +kernel
theorem dX2_turn_0 : decode cX2_turn 0 = .ok (.aload_n 0, 1) := by decide +kernel
theorem dX2_turn_1 : decode cX2_turn 1 = .ok (.getfield 24, 3) := by decide +kernel
theorem dX2_turn_4 : decode cX2_turn 4 = .ok (.iconst 2, 1) := by decide +kernel
theorem dX2_turn_5 : decode cX2_turn 5 = .ok (.iload_n 1, 1) := by decide +kernel
theorem dX2_turn_6 : decode cX2_turn 6 = .ok (.imul, 1) := by decide +kernel
theorem dX2_turn_7 : decode cX2_turn 7 = .ok (.iaload, 1) := by decide +kernel
theorem dX2_turn_8 : decode cX2_turn 8 = .ok (.istore_n 2, 1) := by decide +kernel
theorem dX2_turn_9 : decode cX2_turn 9 = .ok (.aload_n 0, 1) := by decide +kernel
theorem dX2_turn_10 : decode cX2_turn 10 = .ok (.getfield 24, 3) := by decide +kernel
theorem dX2_turn_13 : decode cX2_turn 13 = .ok (.iconst 2, 1) := by decide +kernel
theorem dX2_turn_14 : decode cX2_turn 14 = .ok (.iload_n 1, 1) := by decide +kernel
theorem dX2_turn_15 : decode cX2_turn 15 = .ok (.imul, 1) := by decide +kernel
theorem dX2_turn_16 : decode cX2_turn 16 = .ok (.aload_n 0, 1) := by decide +kernel
theorem dX2_turn_17 : decode cX2_turn 17 = .ok (.getfield 24, 3) := by decide +kernel
theorem dX2_turn_20 : decode cX2_turn 20 = .ok (.iconst 2, 1) := by decide +kernel
theorem dX2_turn_21 : decode cX2_turn 21 = .ok (.iload_n 1, 1) := by decide +kernel
theorem dX2_turn_22 : decode cX2_turn 22 = .ok (.imul, 1) := by decide +kernel
theorem dX2_turn_23 : decode cX2_turn 23 = .ok (.iconst 1, 1) := by decide +kernel
theorem dX2_turn_24 : decode cX2_turn 24 = .ok (.iadd, 1) := by decide +kernel
theorem dX2_turn_25 : decode cX2_turn 25 = .ok (.iaload, 1) := by decide +kernel
theorem dX2_turn_26 : decode cX2_turn 26 = .ok (.iastore, 1) := by decide +kernel
theorem dX2_turn_27 : decode cX2_turn 27 = .ok (.aload_n 0, 1) := by decide +kernel
theorem dX2_turn_28 : decode cX2_turn 28 = .ok (.getfield 24, 3) := by decide +kernel
theorem dX2_turn_31 : decode cX2_turn 31 = .ok (.iconst 2, 1) := by decide +kernel
theorem dX2_turn_32 : decode cX2_turn 32 = .ok (.iload_n 1, 1) := by decide +kernel
theorem dX2_turn_33 : decode cX2_turn 33 = .ok (.imul, 1) := by decide +kernel
theorem dX2_turn_34 : decode cX2_turn 34 = .ok (.iconst 1, 1) := by decide +kernel
theorem dX2_turn_35 : decode cX2_turn 35 = .ok (.iadd, 1) := by decide +kernel
theorem dX2_turn_36 : decode cX2_turn 36 = .ok (.iload_n 2, 1) := by decide +kernel
theorem dX2_turn_37 : decode cX2_turn 37 = .ok (.iastore, 1) := by decide +kernel
theorem dX2_turn_38 : decode cX2_turn 38 = .ok (.return_, 1) := by decide +kernel
theorem dX2_inputOf_0 : decode cX2_inputOf 0 = .ok (.aload_n 0, 1) := by decide +kernel
theorem dX2_inputOf_1 : decode cX2_inputOf 1 = .ok (.getfield 9, 3) := by decide +kernel
theorem dX2_inputOf_4 : decode cX2_inputOf 4 = .ok (.iload_n 1, 1) := by decide +kernel
theorem dX2_inputOf_5 : decode cX2_inputOf 5 = .ok (.iaload, 1) := by decide +kernel
theorem dX2_inputOf_6 : decode cX2_inputOf 6 = .ok (.iconst 1, 1) := by decide +kernel
theorem dX2_inputOf_7 : decode cX2_inputOf 7 = .ok (.if_icmp .ne 12, 3) := by decide +kernel
theorem dX2_inputOf_10 : decode cX2_inputOf 10 = .ok (.aload_n 0, 1) := by decide +kernel
theorem dX2_inputOf_11 : decode cX2_inputOf 11 = .ok (.getfield 15, 3) := by decide +kernel
theorem dX2_inputOf_14 : decode cX2_inputOf 14 = .ok (.iload_n 1, 1) := by decide +kernel
theorem dX2_inputOf_15 : decode cX2_inputOf 15 = .ok (.iaload, 1) := by decide +kernel
theorem dX2_inputOf_16 : decode cX2_inputOf 16 = .ok (.goto 9, 3) := by decide +kernel
theorem dX2_inputOf_19 : decode cX2_inputOf 19 = .ok (.aload_n 0, 1) := by decide +kernel
theorem dX2_inputOf_20 : decode cX2_inputOf 20 = .ok (.getfield 18, 3) := by decide +kernel
theorem dX2_inputOf_23 : decode cX2_inputOf 23 = .ok (.iload_n 1, 1) := by decide +kernel
theorem dX2_inputOf_24 : decode cX2_inputOf 24 = .ok (.iaload, 1) := by decide +kernel
theorem dX2_inputOf_25 : decode cX2_inputOf 25 = .ok (.ireturn, 1) := by decide +kernel
theorem dX3_faultOf_0 : decode cX3_faultOf 0 = .ok (.aload_n 1, 1) := by decide +kernel
theorem dX3_faultOf_1 : decode cX3_faultOf 1 = .ok (.invokevirtual 9, 3) := by decide +kernel
theorem dX3_faultOf_4 : decode cX3_faultOf 4 = .ok (.aload_n 0, 1) := by decide +kernel
theorem dX3_faultOf_5 : decode cX3_faultOf 5 = .ok (.invokevirtual 14, 3) := by decide +kernel
theorem dX3_faultOf_8 : decode cX3_faultOf 8 = .ok (.iconst 0, 1) := by decide +kernel
theorem dX3_faultOf_9 : decode cX3_faultOf 9 = .ok (.istore_n 2, 1) := by decide +kernel
theorem dX3_faultOf_10 : decode cX3_faultOf 10 = .ok (.iload_n 2, 1) := by decide +kernel
theorem dX3_faultOf_11 : decode cX3_faultOf 11 = .ok (.sipush 150, 3) := by decide +kernel
theorem dX3_faultOf_14 : decode cX3_faultOf 14 = .ok (.if_icmp .ge 21, 3) := by decide +kernel
theorem dX3_faultOf_17 : decode cX3_faultOf 17 = .ok (.aload_n 0, 1) := by decide +kernel
theorem dX3_faultOf_18 : decode cX3_faultOf 18 = .ok (.invokevirtual 19, 3) := by decide +kernel
theorem dX3_faultOf_21 : decode cX3_faultOf 21 = .ok (.ifCond .eq 14, 3) := by decide +kernel
theorem dX3_faultOf_24 : decode cX3_faultOf 24 = .ok (.aload_n 0, 1) := by decide +kernel
theorem dX3_faultOf_25 : decode cX3_faultOf 25 = .ok (.aload_n 1, 1) := by decide +kernel
theorem dX3_faultOf_26 : decode cX3_faultOf 26 = .ok (.invokestatic 23, 3) := by decide +kernel
theorem dX3_faultOf_29 : decode cX3_faultOf 29 = .ok (.iinc 2 1, 3) := by decide +kernel
theorem dX3_faultOf_32 : decode cX3_faultOf 32 = .ok (.goto (-22), 3) := by decide +kernel
theorem dX3_faultOf_35 : decode cX3_faultOf 35 = .ok (.aload_n 0, 1) := by decide +kernel
theorem dX3_faultOf_36 : decode cX3_faultOf 36 = .ok (.getfield 29, 3) := by decide +kernel
theorem dX3_faultOf_39 : decode cX3_faultOf 39 = .ok (.ifCond .ne 21, 3) := by decide +kernel
theorem dX3_faultOf_42 : decode cX3_faultOf 42 = .ok (.aload_n 1, 1) := by decide +kernel
theorem dX3_faultOf_43 : decode cX3_faultOf 43 = .ok (.invokevirtual 33, 3) := by decide +kernel
theorem dX3_faultOf_46 : decode cX3_faultOf 46 = .ok (.ifCond .eq 14, 3) := by decide +kernel
theorem dX3_faultOf_49 : decode cX3_faultOf 49 = .ok (.aload_n 1, 1) := by decide +kernel
theorem dX3_faultOf_50 : decode cX3_faultOf 50 = .ok (.invokevirtual 36, 3) := by decide +kernel
theorem dX3_faultOf_53 : decode cX3_faultOf 53 = .ok (.ifCond .eq 7, 3) := by decide +kernel
theorem dX3_faultOf_56 : decode cX3_faultOf 56 = .ok (.iconst 1, 1) := by decide +kernel
theorem dX3_faultOf_57 : decode cX3_faultOf 57 = .ok (.goto 4, 3) := by decide +kernel
theorem dX3_faultOf_60 : decode cX3_faultOf 60 = .ok (.iconst 0, 1) := by decide +kernel
theorem dX3_faultOf_61 : decode cX3_faultOf 61 = .ok (.istore_n 2, 1) := by decide +kernel
theorem dX3_faultOf_62 : decode cX3_faultOf 62 = .ok (.iload_n 2, 1) := by decide +kernel
theorem dX3_faultOf_63 : decode cX3_faultOf 63 = .ok (.ifCond .eq 7, 3) := by decide +kernel
theorem dX3_faultOf_66 : decode cX3_faultOf 66 = .ok (.iconst (-1), 1) := by decide +kernel
theorem dX3_faultOf_67 : decode cX3_faultOf 67 = .ok (.goto 7, 3) := by decide +kernel
theorem dX3_faultOf_70 : decode cX3_faultOf 70 = .ok (.aload_n 0, 1) := by decide +kernel
theorem dX3_faultOf_71 : decode cX3_faultOf 71 = .ok (.getfield 39, 3) := by decide +kernel
theorem dX3_faultOf_74 : decode cX3_faultOf 74 = .ok (.ireturn, 1) := by decide +kernel
theorem dX3_readItem_0 : decode cX3_readItem 0 = .ok (.aload_n 0, 1) := by decide +kernel
theorem dX3_readItem_1 : decode cX3_readItem 1 = .ok (.getfield 43, 3) := by decide +kernel
theorem dX3_readItem_4 : decode cX3_readItem 4 = .ok (.iconst 1, 1) := by decide +kernel
theorem dX3_readItem_5 : decode cX3_readItem 5 = .ok (.if_icmp .ne 10, 3) := by decide +kernel
theorem dX3_readItem_8 : decode cX3_readItem 8 = .ok (.aload_n 0, 1) := by decide +kernel
theorem dX3_readItem_9 : decode cX3_readItem 9 = .ok (.getfield 46, 3) := by decide +kernel
theorem dX3_readItem_12 : decode cX3_readItem 12 = .ok (.goto 4, 3) := by decide +kernel
theorem dX3_readItem_15 : decode cX3_readItem 15 = .ok (.iconst 0, 1) := by decide +kernel
theorem dX3_readItem_16 : decode cX3_readItem 16 = .ok (.istore_n 2, 1) := by decide +kernel
theorem dX3_readItem_17 : decode cX3_readItem 17 = .ok (.aload_n 1, 1) := by decide +kernel
theorem dX3_readItem_18 : decode cX3_readItem 18 = .ok (.iload_n 2, 1) := by decide +kernel
theorem dX3_readItem_19 : decode cX3_readItem 19 = .ok (.invokevirtual 49, 3) := by decide +kernel
theorem dX3_readItem_22 : decode cX3_readItem 22 = .ok (.ifCond .ne 9, 3) := by decide +kernel
theorem dX3_readItem_25 : decode cX3_readItem 25 = .ok (.aload_n 0, 1) := by decide +kernel
theorem dX3_readItem_26 : decode cX3_readItem 26 = .ok (.iconst 1, 1) := by decide +kernel
theorem dX3_readItem_27 : decode cX3_readItem 27 = .ok (.putfield 29, 3) := by decide +kernel
theorem dX3_readItem_30 : decode cX3_readItem 30 = .ok (.return_, 1) := by decide +kernel
theorem dX3_readItem_31 : decode cX3_readItem 31 = .ok (.aload_n 0, 1) := by decide +kernel
theorem dX3_readItem_32 : decode cX3_readItem 32 = .ok (.invokevirtual 53, 3) := by decide +kernel
theorem dX3_readItem_35 : decode cX3_readItem 35 = .ok (.iload_n 2, 1) := by decide +kernel
theorem dX3_readItem_36 : decode cX3_readItem 36 = .ok (.tableswitch 136 98 113 #[80, 136, 136, 136, 136, 120, 136, 87, 112, 96, 136, 136, 136, 104, 136, 128], 80) := by decide +kernel
theorem dX3_readItem_116 : decode cX3_readItem 116 = .ok (.aload_n 1, 1) := by decide +kernel
theorem dX3_readItem_117 : decode cX3_readItem 117 = .ok (.invokevirtual 56, 3) := by decide +kernel
theorem dX3_readItem_120 : decode cX3_readItem 120 = .ok (.goto 57, 3) := by decide +kernel
theorem dX3_readItem_123 : decode cX3_readItem 123 = .ok (.aload_n 1, 1) := by decide +kernel
theorem dX3_readItem_124 : decode cX3_readItem 124 = .ok (.iconst 1, 1) := by decide +kernel
theorem dX3_readItem_125 : decode cX3_readItem 125 = .ok (.invokevirtual 59, 3) := by decide +kernel
theorem dX3_readItem_128 : decode cX3_readItem 128 = .ok (.pop, 1) := by decide +kernel
theorem dX3_readItem_129 : decode cX3_readItem 129 = .ok (.goto 48, 3) := by decide +kernel
theorem dX3_readItem_132 : decode cX3_readItem 132 = .ok (.aload_n 0, 1) := by decide +kernel
theorem dX3_readItem_133 : decode cX3_readItem 133 = .ok (.aload_n 1, 1) := by decide +kernel
theorem dX3_readItem_134 : decode cX3_readItem 134 = .ok (.invokestatic 63, 3) := by decide +kernel
theorem dX3_readItem_137 : decode cX3_readItem 137 = .ok (.goto 40, 3) := by decide +kernel
theorem dX3_readItem_140 : decode cX3_readItem 140 = .ok (.aload_n 0, 1) := by decide +kernel
theorem dX3_readItem_141 : decode cX3_readItem 141 = .ok (.aload_n 1, 1) := by decide +kernel
theorem dX3_readItem_142 : decode cX3_readItem 142 = .ok (.invokestatic 66, 3) := by decide +kernel
theorem dX3_readItem_145 : decode cX3_readItem 145 = .ok (.goto 32, 3) := by decide +kernel
theorem dX3_readItem_148 : decode cX3_readItem 148 = .ok (.aload_n 0, 1) := by decide +kernel
theorem dX3_readItem_149 : decode cX3_readItem 149 = .ok (.aload_n 1, 1) := by decide +kernel
theorem dX3_readItem_150 : decode cX3_readItem 150 = .ok (.invokestatic 69, 3) := by decide +kernel
theorem dX3_readItem_153 : decode cX3_readItem 153 = .ok (.goto 24, 3) := by decide +kernel
theorem dX3_readItem_156 : decode cX3_readItem 156 = .ok (.aload_n 0, 1) := by decide +kernel
theorem dX3_readItem_157 : decode cX3_readItem 157 = .ok (.aload_n 1, 1) := by decide +kernel
theorem dX3_readItem_158 : decode cX3_readItem 158 = .ok (.invokestatic 72, 3) := by decide +kernel
theorem dX3_readItem_161 : decode cX3_readItem 161 = .ok (.goto 16, 3) := by decide +kernel
theorem dX3_readItem_164 : decode cX3_readItem 164 = .ok (.aload_n 0, 1) := by decide +kernel
theorem dX3_readItem_165 : decode cX3_readItem 165 = .ok (.aload_n 1, 1) := by decide +kernel
theorem dX3_readItem_166 : decode cX3_readItem 166 = .ok (.invokestatic 75, 3) := by decide +kernel
theorem dX3_readItem_169 : decode cX3_readItem 169 = .ok (.goto 8, 3) := by decide +kernel
theorem dX3_readItem_172 : decode cX3_readItem 172 = .ok (.aload_n 0, 1) := by decide +kernel
theorem dX3_readItem_173 : decode cX3_readItem 173 = .ok (.aload_n 1, 1) := by decide +kernel
theorem dX3_readItem_174 : decode cX3_readItem 174 = .ok (.invokestatic 78, 3) := by decide +kernel
theorem dX3_readItem_177 : decode cX3_readItem 177 = .ok (.aload_n 0, 1) := by decide +kernel
theorem dX3_readItem_178 : decode cX3_readItem 178 = .ok (.iconst 4, 1) := by decide +kernel
theorem dX3_readItem_179 : decode cX3_readItem 179 = .ok (.invokevirtual 81, 3) := by decide +kernel
theorem dX3_readItem_182 : decode cX3_readItem 182 = .ok (.pop, 1) := by decide +kernel
theorem dX3_readItem_183 : decode cX3_readItem 183 = .ok (.return_, 1) := by decide +kernel
theorem dX3_readNumber_0 : decode cX3_readNumber 0 = .ok (.aload_n 1, 1) := by decide +kernel
theorem dX3_readNumber_1 : decode cX3_readNumber 1 = .ok (.iconst 0, 1) := by decide +kernel
theorem dX3_readNumber_2 : decode cX3_readNumber 2 = .ok (.invokevirtual 59, 3) := by decide +kernel
theorem dX3_readNumber_5 : decode cX3_readNumber 5 = .ok (.istore_n 2, 1) := by decide +kernel
theorem dX3_readNumber_6 : decode cX3_readNumber 6 = .ok (.aload_n 1, 1) := by decide +kernel
theorem dX3_readNumber_7 : decode cX3_readNumber 7 = .ok (.getfield 84, 3) := by decide +kernel
theorem dX3_readNumber_10 : decode cX3_readNumber 10 = .ok (.iload_n 2, 1) := by decide +kernel
theorem dX3_readNumber_11 : decode cX3_readNumber 11 = .ok (.aload_n 0, 1) := by decide +kernel
theorem dX3_readNumber_12 : decode cX3_readNumber 12 = .ok (.iconst 2, 1) := by decide +kernel
theorem dX3_readNumber_13 : decode cX3_readNumber 13 = .ok (.invokevirtual 81, 3) := by decide +kernel
theorem dX3_readNumber_16 : decode cX3_readNumber 16 = .ok (.iastore, 1) := by decide +kernel
theorem dX3_readNumber_17 : decode cX3_readNumber 17 = .ok (.return_, 1) := by decide +kernel
theorem dX3_readOperation_0 : decode cX3_readOperation 0 = .ok (.aload_n 1, 1) := by decide +kernel
theorem dX3_readOperation_1 : decode cX3_readOperation 1 = .ok (.iconst 2, 1) := by decide +kernel
theorem dX3_readOperation_2 : decode cX3_readOperation 2 = .ok (.invokevirtual 59, 3) := by decide +kernel
theorem dX3_readOperation_5 : decode cX3_readOperation 5 = .ok (.istore_n 2, 1) := by decide +kernel
theorem dX3_readOperation_6 : decode cX3_readOperation 6 = .ok (.aload_n 1, 1) := by decide +kernel
theorem dX3_readOperation_7 : decode cX3_readOperation 7 = .ok (.getfield 88, 3) := by decide +kernel
theorem dX3_readOperation_10 : decode cX3_readOperation 10 = .ok (.iload_n 2, 1) := by decide +kernel
theorem dX3_readOperation_11 : decode cX3_readOperation 11 = .ok (.aload_n 0, 1) := by decide +kernel
theorem dX3_readOperation_12 : decode cX3_readOperation 12 = .ok (.bipush 24, 2) := by decide +kernel
theorem dX3_readOperation_14 : decode cX3_readOperation 14 = .ok (.invokevirtual 91, 3) := by decide +kernel
theorem dX3_readOperation_17 : decode cX3_readOperation 17 = .ok (.iastore, 1) := by decide +kernel
theorem dX3_readOperation_18 : decode cX3_readOperation 18 = .ok (.aload_n 1, 1) := by decide +kernel
theorem dX3_readOperation_19 : decode cX3_readOperation 19 = .ok (.getfield 94, 3) := by decide +kernel
theorem dX3_readOperation_22 : decode cX3_readOperation 22 = .ok (.iload_n 2, 1) := by decide +kernel
theorem dX3_readOperation_23 : decode cX3_readOperation 23 = .ok (.aload_n 0, 1) := by decide +kernel
theorem dX3_readOperation_24 : decode cX3_readOperation 24 = .ok (.iconst 3, 1) := by decide +kernel
theorem dX3_readOperation_25 : decode cX3_readOperation 25 = .ok (.invokevirtual 81, 3) := by decide +kernel
theorem dX3_readOperation_28 : decode cX3_readOperation 28 = .ok (.iastore, 1) := by decide +kernel
theorem dX3_readOperation_29 : decode cX3_readOperation 29 = .ok (.aload_n 1, 1) := by decide +kernel
theorem dX3_readOperation_30 : decode cX3_readOperation 30 = .ok (.getfield 97, 3) := by decide +kernel
theorem dX3_readOperation_33 : decode cX3_readOperation 33 = .ok (.iload_n 2, 1) := by decide +kernel
theorem dX3_readOperation_34 : decode cX3_readOperation 34 = .ok (.aload_n 0, 1) := by decide +kernel
theorem dX3_readOperation_35 : decode cX3_readOperation 35 = .ok (.bipush 24, 2) := by decide +kernel
theorem dX3_readOperation_37 : decode cX3_readOperation 37 = .ok (.invokevirtual 91, 3) := by decide +kernel
theorem dX3_readOperation_40 : decode cX3_readOperation 40 = .ok (.iastore, 1) := by decide +kernel
theorem dX3_readOperation_41 : decode cX3_readOperation 41 = .ok (.return_, 1) := by decide +kernel
theorem dX3_readArms_0 : decode cX3_readArms 0 = .ok (.aload_n 1, 1) := by decide +kernel
theorem dX3_readArms_1 : decode cX3_readArms 1 = .ok (.iconst 3, 1) := by decide +kernel
theorem dX3_readArms_2 : decode cX3_readArms 2 = .ok (.invokevirtual 59, 3) := by decide +kernel
theorem dX3_readArms_5 : decode cX3_readArms 5 = .ok (.istore_n 2, 1) := by decide +kernel
theorem dX3_readArms_6 : decode cX3_readArms 6 = .ok (.iconst 0, 1) := by decide +kernel
theorem dX3_readArms_7 : decode cX3_readArms 7 = .ok (.istore_n 3, 1) := by decide +kernel
theorem dX3_readArms_8 : decode cX3_readArms 8 = .ok (.iload_n 3, 1) := by decide +kernel
theorem dX3_readArms_9 : decode cX3_readArms 9 = .ok (.iconst 3, 1) := by decide +kernel
theorem dX3_readArms_10 : decode cX3_readArms 10 = .ok (.if_icmp .ge 71, 3) := by decide +kernel
theorem dX3_readArms_13 : decode cX3_readArms 13 = .ok (.iload_n 3, 1) := by decide +kernel
theorem dX3_readArms_14 : decode cX3_readArms 14 = .ok (.ifCond .eq 11, 3) := by decide +kernel
theorem dX3_readArms_17 : decode cX3_readArms 17 = .ok (.aload_n 0, 1) := by decide +kernel
theorem dX3_readArms_18 : decode cX3_readArms 18 = .ok (.getfield 43, 3) := by decide +kernel
theorem dX3_readArms_21 : decode cX3_readArms 21 = .ok (.iconst 4, 1) := by decide +kernel
theorem dX3_readArms_22 : decode cX3_readArms 22 = .ok (.if_icmp .eq 59, 3) := by decide +kernel
theorem dX3_readArms_25 : decode cX3_readArms 25 = .ok (.aload_n 0, 1) := by decide +kernel
theorem dX3_readArms_26 : decode cX3_readArms 26 = .ok (.getfield 43, 3) := by decide +kernel
theorem dX3_readArms_29 : decode cX3_readArms 29 = .ok (.iconst 2, 1) := by decide +kernel
theorem dX3_readArms_30 : decode cX3_readArms 30 = .ok (.if_icmp .ne 20, 3) := by decide +kernel
theorem dX3_readArms_33 : decode cX3_readArms 33 = .ok (.aload_n 1, 1) := by decide +kernel
theorem dX3_readArms_34 : decode cX3_readArms 34 = .ok (.iload_n 2, 1) := by decide +kernel
theorem dX3_readArms_35 : decode cX3_readArms 35 = .ok (.aload_n 0, 1) := by decide +kernel
theorem dX3_readArms_36 : decode cX3_readArms 36 = .ok (.getfield 46, 3) := by decide +kernel
theorem dX3_readArms_39 : decode cX3_readArms 39 = .ok (.invokevirtual 100, 3) := by decide +kernel
theorem dX3_readArms_42 : decode cX3_readArms 42 = .ok (.ifCond .eq 8, 3) := by decide +kernel
theorem dX3_readArms_45 : decode cX3_readArms 45 = .ok (.aload_n 0, 1) := by decide +kernel
theorem dX3_readArms_46 : decode cX3_readArms 46 = .ok (.iconst 1, 1) := by decide +kernel
theorem dX3_readArms_47 : decode cX3_readArms 47 = .ok (.putfield 29, 3) := by decide +kernel
theorem dX3_readArms_50 : decode cX3_readArms 50 = .ok (.aload_n 0, 1) := by decide +kernel
theorem dX3_readArms_51 : decode cX3_readArms 51 = .ok (.bipush 8, 2) := by decide +kernel
theorem dX3_readArms_53 : decode cX3_readArms 53 = .ok (.invokevirtual 91, 3) := by decide +kernel
theorem dX3_readArms_56 : decode cX3_readArms 56 = .ok (.istore 4, 2) := by decide +kernel
theorem dX3_readArms_58 : decode cX3_readArms 58 = .ok (.aload_n 0, 1) := by decide +kernel
theorem dX3_readArms_59 : decode cX3_readArms 59 = .ok (.bipush 24, 2) := by decide +kernel
theorem dX3_readArms_61 : decode cX3_readArms 61 = .ok (.invokevirtual 91, 3) := by decide +kernel
theorem dX3_readArms_64 : decode cX3_readArms 64 = .ok (.istore 5, 2) := by decide +kernel
theorem dX3_readArms_66 : decode cX3_readArms 66 = .ok (.aload_n 1, 1) := by decide +kernel
theorem dX3_readArms_67 : decode cX3_readArms 67 = .ok (.iload_n 2, 1) := by decide +kernel
theorem dX3_readArms_68 : decode cX3_readArms 68 = .ok (.iload 4, 2) := by decide +kernel
theorem dX3_readArms_70 : decode cX3_readArms 70 = .ok (.iload 5, 2) := by decide +kernel
theorem dX3_readArms_72 : decode cX3_readArms 72 = .ok (.invokevirtual 104, 3) := by decide +kernel
theorem dX3_readArms_75 : decode cX3_readArms 75 = .ok (.iinc 3 1, 3) := by decide +kernel
theorem dX3_readArms_78 : decode cX3_readArms 78 = .ok (.goto (-70), 3) := by decide +kernel
theorem dX3_readArms_81 : decode cX3_readArms 81 = .ok (.return_, 1) := by decide +kernel
theorem dX3_readGoing_0 : decode cX3_readGoing 0 = .ok (.aload_n 1, 1) := by decide +kernel
theorem dX3_readGoing_1 : decode cX3_readGoing 1 = .ok (.iconst 0, 1) := by decide +kernel
theorem dX3_readGoing_2 : decode cX3_readGoing 2 = .ok (.invokevirtual 108, 3) := by decide +kernel
theorem dX3_readGoing_5 : decode cX3_readGoing 5 = .ok (.istore_n 2, 1) := by decide +kernel
theorem dX3_readGoing_6 : decode cX3_readGoing 6 = .ok (.aload_n 1, 1) := by decide +kernel
theorem dX3_readGoing_7 : decode cX3_readGoing 7 = .ok (.getfield 111, 3) := by decide +kernel
theorem dX3_readGoing_10 : decode cX3_readGoing 10 = .ok (.iconst 2, 1) := by decide +kernel
theorem dX3_readGoing_11 : decode cX3_readGoing 11 = .ok (.iload_n 2, 1) := by decide +kernel
theorem dX3_readGoing_12 : decode cX3_readGoing 12 = .ok (.imul, 1) := by decide +kernel
end
section
theorem dX3_readGoing_13 : decode cX3_readGoing 13 = .ok (.aload_n 0, 1) := by decide +kernel
theorem dX3_readGoing_14 : decode cX3_readGoing 14 = .ok (.bipush 8, 2) := by decide +kernel
theorem dX3_readGoing_16 : decode cX3_readGoing 16 = .ok (.invokevirtual 91, 3) := by decide +kernel
theorem dX3_readGoing_19 : decode cX3_readGoing 19 = .ok (.iastore, 1) := by decide +kernel
theorem dX3_readGoing_20 : decode cX3_readGoing 20 = .ok (.return_, 1) := by decide +kernel
theorem dX3_readChoice_0 : decode cX3_readChoice 0 = .ok (.aload_n 1, 1) := by decide +kernel
theorem dX3_readChoice_1 : decode cX3_readChoice 1 = .ok (.iconst 1, 1) := by decide +kernel
theorem dX3_readChoice_2 : decode cX3_readChoice 2 = .ok (.invokevirtual 108, 3) := by decide +kernel
theorem dX3_readChoice_5 : decode cX3_readChoice 5 = .ok (.istore_n 2, 1) := by decide +kernel
theorem dX3_readChoice_6 : decode cX3_readChoice 6 = .ok (.aload_n 1, 1) := by decide +kernel
theorem dX3_readChoice_7 : decode cX3_readChoice 7 = .ok (.getfield 114, 3) := by decide +kernel
theorem dX3_readChoice_10 : decode cX3_readChoice 10 = .ok (.iload_n 2, 1) := by decide +kernel
theorem dX3_readChoice_11 : decode cX3_readChoice 11 = .ok (.aload_n 0, 1) := by decide +kernel
theorem dX3_readChoice_12 : decode cX3_readChoice 12 = .ok (.bipush 24, 2) := by decide +kernel
theorem dX3_readChoice_14 : decode cX3_readChoice 14 = .ok (.invokevirtual 91, 3) := by decide +kernel
theorem dX3_readChoice_17 : decode cX3_readChoice 17 = .ok (.iastore, 1) := by decide +kernel
theorem dX3_readChoice_18 : decode cX3_readChoice 18 = .ok (.aload_n 0, 1) := by decide +kernel
theorem dX3_readChoice_19 : decode cX3_readChoice 19 = .ok (.bipush 8, 2) := by decide +kernel
theorem dX3_readChoice_21 : decode cX3_readChoice 21 = .ok (.invokevirtual 91, 3) := by decide +kernel
theorem dX3_readChoice_24 : decode cX3_readChoice 24 = .ok (.istore_n 3, 1) := by decide +kernel
theorem dX3_readChoice_25 : decode cX3_readChoice 25 = .ok (.aload_n 0, 1) := by decide +kernel
theorem dX3_readChoice_26 : decode cX3_readChoice 26 = .ok (.getfield 43, 3) := by decide +kernel
theorem dX3_readChoice_29 : decode cX3_readChoice 29 = .ok (.iconst 2, 1) := by decide +kernel
theorem dX3_readChoice_30 : decode cX3_readChoice 30 = .ok (.if_icmp .ne 16, 3) := by decide +kernel
theorem dX3_readChoice_33 : decode cX3_readChoice 33 = .ok (.aload_n 0, 1) := by decide +kernel
theorem dX3_readChoice_34 : decode cX3_readChoice 34 = .ok (.getfield 46, 3) := by decide +kernel
theorem dX3_readChoice_37 : decode cX3_readChoice 37 = .ok (.iload_n 3, 1) := by decide +kernel
theorem dX3_readChoice_38 : decode cX3_readChoice 38 = .ok (.if_icmp .ne 8, 3) := by decide +kernel
theorem dX3_readChoice_41 : decode cX3_readChoice 41 = .ok (.aload_n 0, 1) := by decide +kernel
theorem dX3_readChoice_42 : decode cX3_readChoice 42 = .ok (.iconst 1, 1) := by decide +kernel
theorem dX3_readChoice_43 : decode cX3_readChoice 43 = .ok (.putfield 29, 3) := by decide +kernel
theorem dX3_readChoice_46 : decode cX3_readChoice 46 = .ok (.aload_n 1, 1) := by decide +kernel
theorem dX3_readChoice_47 : decode cX3_readChoice 47 = .ok (.getfield 111, 3) := by decide +kernel
theorem dX3_readChoice_50 : decode cX3_readChoice 50 = .ok (.iconst 2, 1) := by decide +kernel
theorem dX3_readChoice_51 : decode cX3_readChoice 51 = .ok (.iload_n 2, 1) := by decide +kernel
theorem dX3_readChoice_52 : decode cX3_readChoice 52 = .ok (.imul, 1) := by decide +kernel
theorem dX3_readChoice_53 : decode cX3_readChoice 53 = .ok (.iload_n 3, 1) := by decide +kernel
theorem dX3_readChoice_54 : decode cX3_readChoice 54 = .ok (.iastore, 1) := by decide +kernel
theorem dX3_readChoice_55 : decode cX3_readChoice 55 = .ok (.aload_n 1, 1) := by decide +kernel
theorem dX3_readChoice_56 : decode cX3_readChoice 56 = .ok (.getfield 111, 3) := by decide +kernel
theorem dX3_readChoice_59 : decode cX3_readChoice 59 = .ok (.iconst 2, 1) := by decide +kernel
theorem dX3_readChoice_60 : decode cX3_readChoice 60 = .ok (.iload_n 2, 1) := by decide +kernel
theorem dX3_readChoice_61 : decode cX3_readChoice 61 = .ok (.imul, 1) := by decide +kernel
theorem dX3_readChoice_62 : decode cX3_readChoice 62 = .ok (.iconst 1, 1) := by decide +kernel
theorem dX3_readChoice_63 : decode cX3_readChoice 63 = .ok (.iadd, 1) := by decide +kernel
theorem dX3_readChoice_64 : decode cX3_readChoice 64 = .ok (.aload_n 0, 1) := by decide +kernel
theorem dX3_readChoice_65 : decode cX3_readChoice 65 = .ok (.bipush 8, 2) := by decide +kernel
theorem dX3_readChoice_67 : decode cX3_readChoice 67 = .ok (.invokevirtual 91, 3) := by decide +kernel
theorem dX3_readChoice_70 : decode cX3_readChoice 70 = .ok (.iastore, 1) := by decide +kernel
theorem dX3_readChoice_71 : decode cX3_readChoice 71 = .ok (.return_, 1) := by decide +kernel
theorem dX3_readReturn_0 : decode cX3_readReturn 0 = .ok (.aload_n 1, 1) := by decide +kernel
theorem dX3_readReturn_1 : decode cX3_readReturn 1 = .ok (.iconst 2, 1) := by decide +kernel
theorem dX3_readReturn_2 : decode cX3_readReturn 2 = .ok (.invokevirtual 108, 3) := by decide +kernel
theorem dX3_readReturn_5 : decode cX3_readReturn 5 = .ok (.istore_n 2, 1) := by decide +kernel
theorem dX3_readReturn_6 : decode cX3_readReturn 6 = .ok (.aload_n 1, 1) := by decide +kernel
theorem dX3_readReturn_7 : decode cX3_readReturn 7 = .ok (.getfield 114, 3) := by decide +kernel
theorem dX3_readReturn_10 : decode cX3_readReturn 10 = .ok (.iload_n 2, 1) := by decide +kernel
theorem dX3_readReturn_11 : decode cX3_readReturn 11 = .ok (.aload_n 0, 1) := by decide +kernel
theorem dX3_readReturn_12 : decode cX3_readReturn 12 = .ok (.bipush 24, 2) := by decide +kernel
theorem dX3_readReturn_14 : decode cX3_readReturn 14 = .ok (.invokevirtual 91, 3) := by decide +kernel
theorem dX3_readReturn_17 : decode cX3_readReturn 17 = .ok (.iastore, 1) := by decide +kernel
theorem dX3_readReturn_18 : decode cX3_readReturn 18 = .ok (.return_, 1) := by decide +kernel
theorem dX4_init_0 : decode cX4_init 0 = .ok (.aload_n 0, 1) := by decide +kernel
theorem dX4_init_1 : decode cX4_init 1 = .ok (.invokespecial 3, 3) := by decide +kernel
theorem dX4_init_4 : decode cX4_init 4 = .ok (.aload_n 0, 1) := by decide +kernel
theorem dX4_init_5 : decode cX4_init 5 = .ok (.iconst 0, 1) := by decide +kernel
theorem dX4_init_6 : decode cX4_init 6 = .ok (.putfield 9, 3) := by decide +kernel
theorem dX4_init_9 : decode cX4_init 9 = .ok (.aload_n 0, 1) := by decide +kernel
theorem dX4_init_10 : decode cX4_init 10 = .ok (.iconst 0, 1) := by decide +kernel
theorem dX4_init_11 : decode cX4_init 11 = .ok (.putfield 15, 3) := by decide +kernel
theorem dX4_init_14 : decode cX4_init 14 = .ok (.aload_n 0, 1) := by decide +kernel
theorem dX4_init_15 : decode cX4_init 15 = .ok (.bipush 24, 2) := by decide +kernel
theorem dX4_init_17 : decode cX4_init 17 = .ok (.newarray .int, 2) := by decide +kernel
theorem dX4_init_19 : decode cX4_init 19 = .ok (.putfield 18, 3) := by decide +kernel
theorem dX4_init_22 : decode cX4_init 22 = .ok (.aload_n 0, 1) := by decide +kernel
theorem dX4_init_23 : decode cX4_init 23 = .ok (.bipush 24, 2) := by decide +kernel
theorem dX4_init_25 : decode cX4_init 25 = .ok (.newarray .int, 2) := by decide +kernel
theorem dX4_init_27 : decode cX4_init 27 = .ok (.putfield 22, 3) := by decide +kernel
theorem dX4_init_30 : decode cX4_init 30 = .ok (.aload_n 0, 1) := by decide +kernel
theorem dX4_init_31 : decode cX4_init 31 = .ok (.bipush 24, 2) := by decide +kernel
theorem dX4_init_33 : decode cX4_init 33 = .ok (.newarray .int, 2) := by decide +kernel
theorem dX4_init_35 : decode cX4_init 35 = .ok (.putfield 25, 3) := by decide +kernel
theorem dX4_init_38 : decode cX4_init 38 = .ok (.aload_n 0, 1) := by decide +kernel
theorem dX4_init_39 : decode cX4_init 39 = .ok (.bipush 24, 2) := by decide +kernel
theorem dX4_init_41 : decode cX4_init 41 = .ok (.newarray .int, 2) := by decide +kernel
theorem dX4_init_43 : decode cX4_init 43 = .ok (.putfield 28, 3) := by decide +kernel
theorem dX4_init_46 : decode cX4_init 46 = .ok (.aload_n 0, 1) := by decide +kernel
theorem dX4_init_47 : decode cX4_init 47 = .ok (.bipush 24, 2) := by decide +kernel
theorem dX4_init_49 : decode cX4_init 49 = .ok (.newarray .int, 2) := by decide +kernel
theorem dX4_init_51 : decode cX4_init 51 = .ok (.putfield 31, 3) := by decide +kernel
theorem dX4_init_54 : decode cX4_init 54 = .ok (.aload_n 0, 1) := by decide +kernel
theorem dX4_init_55 : decode cX4_init 55 = .ok (.bipush 24, 2) := by decide +kernel
theorem dX4_init_57 : decode cX4_init 57 = .ok (.newarray .int, 2) := by decide +kernel
theorem dX4_init_59 : decode cX4_init 59 = .ok (.putfield 34, 3) := by decide +kernel
theorem dX4_init_62 : decode cX4_init 62 = .ok (.aload_n 0, 1) := by decide +kernel
theorem dX4_init_63 : decode cX4_init 63 = .ok (.bipush 24, 2) := by decide +kernel
theorem dX4_init_65 : decode cX4_init 65 = .ok (.newarray .int, 2) := by decide +kernel
theorem dX4_init_67 : decode cX4_init 67 = .ok (.putfield 37, 3) := by decide +kernel
theorem dX4_init_70 : decode cX4_init 70 = .ok (.aload_n 0, 1) := by decide +kernel
theorem dX4_init_71 : decode cX4_init 71 = .ok (.bipush 72, 2) := by decide +kernel
theorem dX4_init_73 : decode cX4_init 73 = .ok (.newarray .int, 2) := by decide +kernel
theorem dX4_init_75 : decode cX4_init 75 = .ok (.putfield 40, 3) := by decide +kernel
theorem dX4_init_78 : decode cX4_init 78 = .ok (.aload_n 0, 1) := by decide +kernel
theorem dX4_init_79 : decode cX4_init 79 = .ok (.bipush 72, 2) := by decide +kernel
theorem dX4_init_81 : decode cX4_init 81 = .ok (.newarray .int, 2) := by decide +kernel
theorem dX4_init_83 : decode cX4_init 83 = .ok (.putfield 43, 3) := by decide +kernel
theorem dX4_init_86 : decode cX4_init 86 = .ok (.aload_n 0, 1) := by decide +kernel
theorem dX4_init_87 : decode cX4_init 87 = .ok (.bipush 8, 2) := by decide +kernel
theorem dX4_init_89 : decode cX4_init 89 = .ok (.newarray .int, 2) := by decide +kernel
theorem dX4_init_91 : decode cX4_init 91 = .ok (.putfield 46, 3) := by decide +kernel
theorem dX4_init_94 : decode cX4_init 94 = .ok (.aload_n 0, 1) := by decide +kernel
theorem dX4_init_95 : decode cX4_init 95 = .ok (.bipush 8, 2) := by decide +kernel
theorem dX4_init_97 : decode cX4_init 97 = .ok (.newarray .int, 2) := by decide +kernel
theorem dX4_init_99 : decode cX4_init 99 = .ok (.putfield 49, 3) := by decide +kernel
theorem dX4_init_102 : decode cX4_init 102 = .ok (.aload_n 0, 1) := by decide +kernel
theorem dX4_init_103 : decode cX4_init 103 = .ok (.bipush 8, 2) := by decide +kernel
theorem dX4_init_105 : decode cX4_init 105 = .ok (.newarray .int, 2) := by decide +kernel
theorem dX4_init_107 : decode cX4_init 107 = .ok (.putfield 52, 3) := by decide +kernel
theorem dX4_init_110 : decode cX4_init 110 = .ok (.aload_n 0, 1) := by decide +kernel
theorem dX4_init_111 : decode cX4_init 111 = .ok (.bipush 8, 2) := by decide +kernel
theorem dX4_init_113 : decode cX4_init 113 = .ok (.newarray .int, 2) := by decide +kernel
theorem dX4_init_115 : decode cX4_init 115 = .ok (.putfield 55, 3) := by decide +kernel
theorem dX4_init_118 : decode cX4_init 118 = .ok (.aload_n 0, 1) := by decide +kernel
theorem dX4_init_119 : decode cX4_init 119 = .ok (.bipush 16, 2) := by decide +kernel
theorem dX4_init_121 : decode cX4_init 121 = .ok (.newarray .int, 2) := by decide +kernel
theorem dX4_init_123 : decode cX4_init 123 = .ok (.putfield 58, 3) := by decide +kernel
theorem dX4_init_126 : decode cX4_init 126 = .ok (.aload_n 0, 1) := by decide +kernel
theorem dX4_init_127 : decode cX4_init 127 = .ok (.bipush 8, 2) := by decide +kernel
theorem dX4_init_129 : decode cX4_init 129 = .ok (.newarray .int, 2) := by decide +kernel
theorem dX4_init_131 : decode cX4_init 131 = .ok (.putfield 61, 3) := by decide +kernel
theorem dX4_init_134 : decode cX4_init 134 = .ok (.return_, 1) := by decide +kernel
theorem dX4_hasName_0 : decode cX4_hasName 0 = .ok (.iload_n 1, 1) := by decide +kernel
theorem dX4_hasName_1 : decode cX4_hasName 1 = .ok (.ifCond .lt 15, 3) := by decide +kernel
theorem dX4_hasName_4 : decode cX4_hasName 4 = .ok (.iload_n 1, 1) := by decide +kernel
theorem dX4_hasName_5 : decode cX4_hasName 5 = .ok (.aload_n 0, 1) := by decide +kernel
theorem dX4_hasName_6 : decode cX4_hasName 6 = .ok (.getfield 15, 3) := by decide +kernel
theorem dX4_hasName_9 : decode cX4_hasName 9 = .ok (.if_icmp .ge 7, 3) := by decide +kernel
theorem dX4_hasName_12 : decode cX4_hasName 12 = .ok (.iconst 1, 1) := by decide +kernel
theorem dX4_hasName_13 : decode cX4_hasName 13 = .ok (.goto 4, 3) := by decide +kernel
theorem dX4_hasName_16 : decode cX4_hasName 16 = .ok (.iconst 0, 1) := by decide +kernel
theorem dX4_hasName_17 : decode cX4_hasName 17 = .ok (.ireturn, 1) := by decide +kernel
theorem dX4_hasBlock_0 : decode cX4_hasBlock 0 = .ok (.iload_n 1, 1) := by decide +kernel
theorem dX4_hasBlock_1 : decode cX4_hasBlock 1 = .ok (.ifCond .lt 15, 3) := by decide +kernel
theorem dX4_hasBlock_4 : decode cX4_hasBlock 4 = .ok (.iload_n 1, 1) := by decide +kernel
theorem dX4_hasBlock_5 : decode cX4_hasBlock 5 = .ok (.aload_n 0, 1) := by decide +kernel
theorem dX4_hasBlock_6 : decode cX4_hasBlock 6 = .ok (.getfield 9, 3) := by decide +kernel
theorem dX4_hasBlock_9 : decode cX4_hasBlock 9 = .ok (.if_icmp .ge 7, 3) := by decide +kernel
theorem dX4_hasBlock_12 : decode cX4_hasBlock 12 = .ok (.iconst 1, 1) := by decide +kernel
theorem dX4_hasBlock_13 : decode cX4_hasBlock 13 = .ok (.goto 4, 3) := by decide +kernel
theorem dX4_hasBlock_16 : decode cX4_hasBlock 16 = .ok (.iconst 0, 1) := by decide +kernel
theorem dX4_hasBlock_17 : decode cX4_hasBlock 17 = .ok (.ireturn, 1) := by decide +kernel
theorem dX4_isMade_0 : decode cX4_isMade 0 = .ok (.aload_n 0, 1) := by decide +kernel
theorem dX4_isMade_1 : decode cX4_isMade 1 = .ok (.iload_n 1, 1) := by decide +kernel
theorem dX4_isMade_2 : decode cX4_isMade 2 = .ok (.invokevirtual 64, 3) := by decide +kernel
theorem dX4_isMade_5 : decode cX4_isMade 5 = .ok (.ifCond .eq 17, 3) := by decide +kernel
theorem dX4_isMade_8 : decode cX4_isMade 8 = .ok (.aload_n 0, 1) := by decide +kernel
theorem dX4_isMade_9 : decode cX4_isMade 9 = .ok (.getfield 22, 3) := by decide +kernel
theorem dX4_isMade_12 : decode cX4_isMade 12 = .ok (.iload_n 1, 1) := by decide +kernel
theorem dX4_isMade_13 : decode cX4_isMade 13 = .ok (.iaload, 1) := by decide +kernel
theorem dX4_isMade_14 : decode cX4_isMade 14 = .ok (.iload_n 2, 1) := by decide +kernel
theorem dX4_isMade_15 : decode cX4_isMade 15 = .ok (.if_icmp .ne 7, 3) := by decide +kernel
theorem dX4_isMade_18 : decode cX4_isMade 18 = .ok (.iconst 1, 1) := by decide +kernel
theorem dX4_isMade_19 : decode cX4_isMade 19 = .ok (.goto 4, 3) := by decide +kernel
theorem dX4_isMade_22 : decode cX4_isMade 22 = .ok (.iconst 0, 1) := by decide +kernel
theorem dX4_isMade_23 : decode cX4_isMade 23 = .ok (.ireturn, 1) := by decide +kernel
theorem dX4_edges_0 : decode cX4_edges 0 = .ok (.iconst 0, 1) := by decide +kernel
theorem dX4_edges_1 : decode cX4_edges 1 = .ok (.istore_n 1, 1) := by decide +kernel
theorem dX4_edges_2 : decode cX4_edges 2 = .ok (.iconst 0, 1) := by decide +kernel
theorem dX4_edges_3 : decode cX4_edges 3 = .ok (.istore_n 2, 1) := by decide +kernel
theorem dX4_edges_4 : decode cX4_edges 4 = .ok (.iload_n 2, 1) := by decide +kernel
theorem dX4_edges_5 : decode cX4_edges 5 = .ok (.iconst 2, 1) := by decide +kernel
theorem dX4_edges_6 : decode cX4_edges 6 = .ok (.aload_n 0, 1) := by decide +kernel
theorem dX4_edges_7 : decode cX4_edges 7 = .ok (.getfield 9, 3) := by decide +kernel
theorem dX4_edges_10 : decode cX4_edges 10 = .ok (.imul, 1) := by decide +kernel
theorem dX4_edges_11 : decode cX4_edges 11 = .ok (.if_icmp .ge 28, 3) := by decide +kernel
theorem dX4_edges_14 : decode cX4_edges 14 = .ok (.iload_n 1, 1) := by decide +kernel
theorem dX4_edges_15 : decode cX4_edges 15 = .ok (.aload_n 0, 1) := by decide +kernel
theorem dX4_edges_16 : decode cX4_edges 16 = .ok (.getfield 58, 3) := by decide +kernel
theorem dX4_edges_19 : decode cX4_edges 19 = .ok (.iload_n 2, 1) := by decide +kernel
theorem dX4_edges_20 : decode cX4_edges 20 = .ok (.iaload, 1) := by decide +kernel
theorem dX4_edges_21 : decode cX4_edges 21 = .ok (.bipush (-9), 2) := by decide +kernel
theorem dX4_edges_23 : decode cX4_edges 23 = .ok (.if_icmp .ne 7, 3) := by decide +kernel
theorem dX4_edges_26 : decode cX4_edges 26 = .ok (.iconst 0, 1) := by decide +kernel
theorem dX4_edges_27 : decode cX4_edges 27 = .ok (.goto 4, 3) := by decide +kernel
theorem dX4_edges_30 : decode cX4_edges 30 = .ok (.iconst 1, 1) := by decide +kernel
theorem dX4_edges_31 : decode cX4_edges 31 = .ok (.iadd, 1) := by decide +kernel
theorem dX4_edges_32 : decode cX4_edges 32 = .ok (.istore_n 1, 1) := by decide +kernel
theorem dX4_edges_33 : decode cX4_edges 33 = .ok (.iinc 2 1, 3) := by decide +kernel
theorem dX4_edges_36 : decode cX4_edges 36 = .ok (.goto (-32), 3) := by decide +kernel
theorem dX4_edges_39 : decode cX4_edges 39 = .ok (.iload_n 1, 1) := by decide +kernel
theorem dX4_edges_40 : decode cX4_edges 40 = .ok (.ireturn, 1) := by decide +kernel
theorem dX4_empty_0 : decode cX4_empty 0 = .ok (.aload_n 0, 1) := by decide +kernel
theorem dX4_empty_1 : decode cX4_empty 1 = .ok (.iconst 0, 1) := by decide +kernel
theorem dX4_empty_2 : decode cX4_empty 2 = .ok (.putfield 9, 3) := by decide +kernel
theorem dX4_empty_5 : decode cX4_empty 5 = .ok (.aload_n 0, 1) := by decide +kernel
theorem dX4_empty_6 : decode cX4_empty 6 = .ok (.iconst 0, 1) := by decide +kernel
theorem dX4_empty_7 : decode cX4_empty 7 = .ok (.putfield 15, 3) := by decide +kernel
theorem dX4_empty_10 : decode cX4_empty 10 = .ok (.return_, 1) := by decide +kernel
theorem dX4_admits_0 : decode cX4_admits 0 = .ok (.aload_n 0, 1) := by decide +kernel
theorem dX4_admits_1 : decode cX4_admits 1 = .ok (.getfield 9, 3) := by decide +kernel
theorem dX4_admits_4 : decode cX4_admits 4 = .ok (.ifCond .le 22, 3) := by decide +kernel
theorem dX4_admits_7 : decode cX4_admits 7 = .ok (.aload_n 0, 1) := by decide +kernel
theorem dX4_admits_8 : decode cX4_admits 8 = .ok (.getfield 52, 3) := by decide +kernel
theorem dX4_admits_11 : decode cX4_admits 11 = .ok (.aload_n 0, 1) := by decide +kernel
theorem dX4_admits_12 : decode cX4_admits 12 = .ok (.getfield 9, 3) := by decide +kernel
theorem dX4_admits_15 : decode cX4_admits 15 = .ok (.iconst 1, 1) := by decide +kernel
theorem dX4_admits_16 : decode cX4_admits 16 = .ok (.isub, 1) := by decide +kernel
theorem dX4_admits_17 : decode cX4_admits 17 = .ok (.iaload, 1) := by decide +kernel
theorem dX4_admits_18 : decode cX4_admits 18 = .ok (.iconst (-1), 1) := by decide +kernel
theorem dX4_admits_19 : decode cX4_admits 19 = .ok (.if_icmp .ne 7, 3) := by decide +kernel
theorem dX4_admits_22 : decode cX4_admits 22 = .ok (.iconst 1, 1) := by decide +kernel
theorem dX4_admits_23 : decode cX4_admits 23 = .ok (.goto 4, 3) := by decide +kernel
theorem dX4_admits_26 : decode cX4_admits 26 = .ok (.iconst 0, 1) := by decide +kernel
theorem dX4_admits_27 : decode cX4_admits 27 = .ok (.istore_n 2, 1) := by decide +kernel
theorem dX4_admits_28 : decode cX4_admits 28 = .ok (.iload_n 1, 1) := by decide +kernel
theorem dX4_admits_29 : decode cX4_admits 29 = .ok (.tableswitch 181 98 122 #[115, 181, 181, 181, 181, 179, 181, 134, 153, 134, 181, 181, 181, 134, 181, 179, 181, 181, 181, 181, 181, 181, 181, 181, 179], 115) := by decide +kernel
theorem dX4_admits_144 : decode cX4_admits 144 = .ok (.iload_n 2, 1) := by decide +kernel
theorem dX4_admits_145 : decode cX4_admits 145 = .ok (.ifCond .ne 16, 3) := by decide +kernel
theorem dX4_admits_148 : decode cX4_admits 148 = .ok (.aload_n 0, 1) := by decide +kernel
theorem dX4_admits_149 : decode cX4_admits 149 = .ok (.getfield 9, 3) := by decide +kernel
theorem dX4_admits_152 : decode cX4_admits 152 = .ok (.bipush 8, 2) := by decide +kernel
theorem dX4_admits_154 : decode cX4_admits 154 = .ok (.if_icmp .ge 7, 3) := by decide +kernel
theorem dX4_admits_157 : decode cX4_admits 157 = .ok (.iconst 1, 1) := by decide +kernel
theorem dX4_admits_158 : decode cX4_admits 158 = .ok (.goto 4, 3) := by decide +kernel
theorem dX4_admits_161 : decode cX4_admits 161 = .ok (.iconst 0, 1) := by decide +kernel
theorem dX4_admits_162 : decode cX4_admits 162 = .ok (.ireturn, 1) := by decide +kernel
theorem dX4_admits_163 : decode cX4_admits 163 = .ok (.iload_n 2, 1) := by decide +kernel
theorem dX4_admits_164 : decode cX4_admits 164 = .ok (.ifCond .eq 16, 3) := by decide +kernel
theorem dX4_admits_167 : decode cX4_admits 167 = .ok (.aload_n 0, 1) := by decide +kernel
theorem dX4_admits_168 : decode cX4_admits 168 = .ok (.getfield 15, 3) := by decide +kernel
theorem dX4_admits_171 : decode cX4_admits 171 = .ok (.bipush 24, 2) := by decide +kernel
theorem dX4_admits_173 : decode cX4_admits 173 = .ok (.if_icmp .ge 7, 3) := by decide +kernel
theorem dX4_admits_176 : decode cX4_admits 176 = .ok (.iconst 1, 1) := by decide +kernel
theorem dX4_admits_177 : decode cX4_admits 177 = .ok (.goto 4, 3) := by decide +kernel
theorem dX4_admits_180 : decode cX4_admits 180 = .ok (.iconst 0, 1) := by decide +kernel
theorem dX4_admits_181 : decode cX4_admits 181 = .ok (.ireturn, 1) := by decide +kernel
theorem dX4_admits_182 : decode cX4_admits 182 = .ok (.iload_n 2, 1) := by decide +kernel
theorem dX4_admits_183 : decode cX4_admits 183 = .ok (.ifCond .eq 23, 3) := by decide +kernel
theorem dX4_admits_186 : decode cX4_admits 186 = .ok (.aload_n 0, 1) := by decide +kernel
theorem dX4_admits_187 : decode cX4_admits 187 = .ok (.getfield 15, 3) := by decide +kernel
theorem dX4_admits_190 : decode cX4_admits 190 = .ok (.bipush 24, 2) := by decide +kernel
theorem dX4_admits_192 : decode cX4_admits 192 = .ok (.if_icmp .ge 14, 3) := by decide +kernel
theorem dX4_admits_195 : decode cX4_admits 195 = .ok (.aload_n 0, 1) := by decide +kernel
theorem dX4_admits_196 : decode cX4_admits 196 = .ok (.invokevirtual 68, 3) := by decide +kernel
theorem dX4_admits_199 : decode cX4_admits 199 = .ok (.ifCond .eq 7, 3) := by decide +kernel
theorem dX4_admits_202 : decode cX4_admits 202 = .ok (.iconst 1, 1) := by decide +kernel
theorem dX4_admits_203 : decode cX4_admits 203 = .ok (.goto 4, 3) := by decide +kernel
theorem dX4_admits_206 : decode cX4_admits 206 = .ok (.iconst 0, 1) := by decide +kernel
theorem dX4_admits_207 : decode cX4_admits 207 = .ok (.ireturn, 1) := by decide +kernel
theorem dX4_admits_208 : decode cX4_admits 208 = .ok (.iload_n 2, 1) := by decide +kernel
theorem dX4_admits_209 : decode cX4_admits 209 = .ok (.ireturn, 1) := by decide +kernel
theorem dX4_admits_210 : decode cX4_admits 210 = .ok (.iconst 0, 1) := by decide +kernel
theorem dX4_admits_211 : decode cX4_admits 211 = .ok (.ireturn, 1) := by decide +kernel
theorem dX4_admitsJoin_0 : decode cX4_admitsJoin 0 = .ok (.aload_n 0, 1) := by decide +kernel
theorem dX4_admitsJoin_1 : decode cX4_admitsJoin 1 = .ok (.getfield 9, 3) := by decide +kernel
theorem dX4_admitsJoin_4 : decode cX4_admitsJoin 4 = .ok (.iconst 1, 1) := by decide +kernel
theorem dX4_admitsJoin_5 : decode cX4_admitsJoin 5 = .ok (.if_icmp .le 35, 3) := by decide +kernel
theorem dX4_admitsJoin_8 : decode cX4_admitsJoin 8 = .ok (.aload_n 0, 1) := by decide +kernel
theorem dX4_admitsJoin_9 : decode cX4_admitsJoin 9 = .ok (.getfield 49, 3) := by decide +kernel
theorem dX4_admitsJoin_12 : decode cX4_admitsJoin 12 = .ok (.aload_n 0, 1) := by decide +kernel
theorem dX4_admitsJoin_13 : decode cX4_admitsJoin 13 = .ok (.getfield 9, 3) := by decide +kernel
theorem dX4_admitsJoin_16 : decode cX4_admitsJoin 16 = .ok (.iconst 1, 1) := by decide +kernel
theorem dX4_admitsJoin_17 : decode cX4_admitsJoin 17 = .ok (.isub, 1) := by decide +kernel
theorem dX4_admitsJoin_18 : decode cX4_admitsJoin 18 = .ok (.iaload, 1) := by decide +kernel
theorem dX4_admitsJoin_19 : decode cX4_admitsJoin 19 = .ok (.ifCond .eq 17, 3) := by decide +kernel
theorem dX4_admitsJoin_22 : decode cX4_admitsJoin 22 = .ok (.aload_n 0, 1) := by decide +kernel
theorem dX4_admitsJoin_23 : decode cX4_admitsJoin 23 = .ok (.aload_n 0, 1) := by decide +kernel
theorem dX4_admitsJoin_24 : decode cX4_admitsJoin 24 = .ok (.getfield 15, 3) := by decide +kernel
theorem dX4_admitsJoin_27 : decode cX4_admitsJoin 27 = .ok (.iconst 1, 1) := by decide +kernel
theorem dX4_admitsJoin_28 : decode cX4_admitsJoin 28 = .ok (.isub, 1) := by decide +kernel
theorem dX4_admitsJoin_29 : decode cX4_admitsJoin 29 = .ok (.iconst 3, 1) := by decide +kernel
theorem dX4_admitsJoin_30 : decode cX4_admitsJoin 30 = .ok (.invokevirtual 72, 3) := by decide +kernel
theorem dX4_admitsJoin_33 : decode cX4_admitsJoin 33 = .ok (.ifCond .eq 7, 3) := by decide +kernel
theorem dX4_admitsJoin_36 : decode cX4_admitsJoin 36 = .ok (.iconst 1, 1) := by decide +kernel
theorem dX4_admitsJoin_37 : decode cX4_admitsJoin 37 = .ok (.goto 4, 3) := by decide +kernel
theorem dX4_admitsJoin_40 : decode cX4_admitsJoin 40 = .ok (.iconst 0, 1) := by decide +kernel
theorem dX4_admitsJoin_41 : decode cX4_admitsJoin 41 = .ok (.ireturn, 1) := by decide +kernel
theorem dX4_beginBlock_0 : decode cX4_beginBlock 0 = .ok (.aload_n 0, 1) := by decide +kernel
theorem dX4_beginBlock_1 : decode cX4_beginBlock 1 = .ok (.getfield 9, 3) := by decide +kernel
theorem dX4_beginBlock_4 : decode cX4_beginBlock 4 = .ok (.istore_n 1, 1) := by decide +kernel
theorem dX4_beginBlock_5 : decode cX4_beginBlock 5 = .ok (.aload_n 0, 1) := by decide +kernel
theorem dX4_beginBlock_6 : decode cX4_beginBlock 6 = .ok (.getfield 46, 3) := by decide +kernel
theorem dX4_beginBlock_9 : decode cX4_beginBlock 9 = .ok (.iload_n 1, 1) := by decide +kernel
theorem dX4_beginBlock_10 : decode cX4_beginBlock 10 = .ok (.aload_n 0, 1) := by decide +kernel
theorem dX4_beginBlock_11 : decode cX4_beginBlock 11 = .ok (.getfield 15, 3) := by decide +kernel
theorem dX4_beginBlock_14 : decode cX4_beginBlock 14 = .ok (.iastore, 1) := by decide +kernel
theorem dX4_beginBlock_15 : decode cX4_beginBlock 15 = .ok (.aload_n 0, 1) := by decide +kernel
theorem dX4_beginBlock_16 : decode cX4_beginBlock 16 = .ok (.getfield 49, 3) := by decide +kernel
theorem dX4_beginBlock_19 : decode cX4_beginBlock 19 = .ok (.iload_n 1, 1) := by decide +kernel
theorem dX4_beginBlock_20 : decode cX4_beginBlock 20 = .ok (.iconst 0, 1) := by decide +kernel
theorem dX4_beginBlock_21 : decode cX4_beginBlock 21 = .ok (.iastore, 1) := by decide +kernel
theorem dX4_beginBlock_22 : decode cX4_beginBlock 22 = .ok (.aload_n 0, 1) := by decide +kernel
theorem dX4_beginBlock_23 : decode cX4_beginBlock 23 = .ok (.getfield 52, 3) := by decide +kernel
theorem dX4_beginBlock_26 : decode cX4_beginBlock 26 = .ok (.iload_n 1, 1) := by decide +kernel
theorem dX4_beginBlock_27 : decode cX4_beginBlock 27 = .ok (.iconst (-1), 1) := by decide +kernel
theorem dX4_beginBlock_28 : decode cX4_beginBlock 28 = .ok (.iastore, 1) := by decide +kernel
theorem dX4_beginBlock_29 : decode cX4_beginBlock 29 = .ok (.aload_n 0, 1) := by decide +kernel
theorem dX4_beginBlock_30 : decode cX4_beginBlock 30 = .ok (.getfield 55, 3) := by decide +kernel
theorem dX4_beginBlock_33 : decode cX4_beginBlock 33 = .ok (.iload_n 1, 1) := by decide +kernel
theorem dX4_beginBlock_34 : decode cX4_beginBlock 34 = .ok (.bipush (-9), 2) := by decide +kernel
theorem dX4_beginBlock_36 : decode cX4_beginBlock 36 = .ok (.iastore, 1) := by decide +kernel
theorem dX4_beginBlock_37 : decode cX4_beginBlock 37 = .ok (.aload_n 0, 1) := by decide +kernel
theorem dX4_beginBlock_38 : decode cX4_beginBlock 38 = .ok (.getfield 58, 3) := by decide +kernel
theorem dX4_beginBlock_41 : decode cX4_beginBlock 41 = .ok (.iconst 2, 1) := by decide +kernel
theorem dX4_beginBlock_42 : decode cX4_beginBlock 42 = .ok (.iload_n 1, 1) := by decide +kernel
theorem dX4_beginBlock_43 : decode cX4_beginBlock 43 = .ok (.imul, 1) := by decide +kernel
theorem dX4_beginBlock_44 : decode cX4_beginBlock 44 = .ok (.bipush (-9), 2) := by decide +kernel
theorem dX4_beginBlock_46 : decode cX4_beginBlock 46 = .ok (.iastore, 1) := by decide +kernel
theorem dX4_beginBlock_47 : decode cX4_beginBlock 47 = .ok (.aload_n 0, 1) := by decide +kernel
theorem dX4_beginBlock_48 : decode cX4_beginBlock 48 = .ok (.getfield 58, 3) := by decide +kernel
theorem dX4_beginBlock_51 : decode cX4_beginBlock 51 = .ok (.iconst 2, 1) := by decide +kernel
theorem dX4_beginBlock_52 : decode cX4_beginBlock 52 = .ok (.iload_n 1, 1) := by decide +kernel
theorem dX4_beginBlock_53 : decode cX4_beginBlock 53 = .ok (.imul, 1) := by decide +kernel
theorem dX4_beginBlock_54 : decode cX4_beginBlock 54 = .ok (.iconst 1, 1) := by decide +kernel
theorem dX4_beginBlock_55 : decode cX4_beginBlock 55 = .ok (.iadd, 1) := by decide +kernel
theorem dX4_beginBlock_56 : decode cX4_beginBlock 56 = .ok (.bipush (-9), 2) := by decide +kernel
theorem dX4_beginBlock_58 : decode cX4_beginBlock 58 = .ok (.iastore, 1) := by decide +kernel
theorem dX4_beginBlock_59 : decode cX4_beginBlock 59 = .ok (.aload_n 0, 1) := by decide +kernel
theorem dX4_beginBlock_60 : decode cX4_beginBlock 60 = .ok (.dup, 1) := by decide +kernel
theorem dX4_beginBlock_61 : decode cX4_beginBlock 61 = .ok (.getfield 9, 3) := by decide +kernel
theorem dX4_beginBlock_64 : decode cX4_beginBlock 64 = .ok (.iconst 1, 1) := by decide +kernel
theorem dX4_beginBlock_65 : decode cX4_beginBlock 65 = .ok (.iadd, 1) := by decide +kernel
theorem dX4_beginBlock_66 : decode cX4_beginBlock 66 = .ok (.putfield 9, 3) := by decide +kernel
theorem dX4_beginBlock_69 : decode cX4_beginBlock 69 = .ok (.return_, 1) := by decide +kernel
theorem dX4_addName_0 : decode cX4_addName 0 = .ok (.aload_n 0, 1) := by decide +kernel
theorem dX4_addName_1 : decode cX4_addName 1 = .ok (.getfield 15, 3) := by decide +kernel
theorem dX4_addName_4 : decode cX4_addName 4 = .ok (.istore_n 2, 1) := by decide +kernel
theorem dX4_addName_5 : decode cX4_addName 5 = .ok (.aload_n 0, 1) := by decide +kernel
theorem dX4_addName_6 : decode cX4_addName 6 = .ok (.getfield 18, 3) := by decide +kernel
theorem dX4_addName_9 : decode cX4_addName 9 = .ok (.iload_n 2, 1) := by decide +kernel
theorem dX4_addName_10 : decode cX4_addName 10 = .ok (.aload_n 0, 1) := by decide +kernel
theorem dX4_addName_11 : decode cX4_addName 11 = .ok (.getfield 9, 3) := by decide +kernel
theorem dX4_addName_14 : decode cX4_addName 14 = .ok (.iconst 1, 1) := by decide +kernel
theorem dX4_addName_15 : decode cX4_addName 15 = .ok (.isub, 1) := by decide +kernel
theorem dX4_addName_16 : decode cX4_addName 16 = .ok (.iastore, 1) := by decide +kernel
theorem dX4_addName_17 : decode cX4_addName 17 = .ok (.aload_n 0, 1) := by decide +kernel
theorem dX4_addName_18 : decode cX4_addName 18 = .ok (.getfield 22, 3) := by decide +kernel
theorem dX4_addName_21 : decode cX4_addName 21 = .ok (.iload_n 2, 1) := by decide +kernel
theorem dX4_addName_22 : decode cX4_addName 22 = .ok (.iload_n 1, 1) := by decide +kernel
theorem dX4_addName_23 : decode cX4_addName 23 = .ok (.iastore, 1) := by decide +kernel
theorem dX4_addName_24 : decode cX4_addName 24 = .ok (.aload_n 0, 1) := by decide +kernel
theorem dX4_addName_25 : decode cX4_addName 25 = .ok (.getfield 25, 3) := by decide +kernel
theorem dX4_addName_28 : decode cX4_addName 28 = .ok (.iload_n 2, 1) := by decide +kernel
theorem dX4_addName_29 : decode cX4_addName 29 = .ok (.iconst 0, 1) := by decide +kernel
theorem dX4_addName_30 : decode cX4_addName 30 = .ok (.iastore, 1) := by decide +kernel
theorem dX4_addName_31 : decode cX4_addName 31 = .ok (.aload_n 0, 1) := by decide +kernel
theorem dX4_addName_32 : decode cX4_addName 32 = .ok (.getfield 28, 3) := by decide +kernel
theorem dX4_addName_35 : decode cX4_addName 35 = .ok (.iload_n 2, 1) := by decide +kernel
theorem dX4_addName_36 : decode cX4_addName 36 = .ok (.iconst 0, 1) := by decide +kernel
theorem dX4_addName_37 : decode cX4_addName 37 = .ok (.iastore, 1) := by decide +kernel
theorem dX4_addName_38 : decode cX4_addName 38 = .ok (.aload_n 0, 1) := by decide +kernel
theorem dX4_addName_39 : decode cX4_addName 39 = .ok (.getfield 31, 3) := by decide +kernel
theorem dX4_addName_42 : decode cX4_addName 42 = .ok (.iload_n 2, 1) := by decide +kernel
theorem dX4_addName_43 : decode cX4_addName 43 = .ok (.bipush (-9), 2) := by decide +kernel
theorem dX4_addName_45 : decode cX4_addName 45 = .ok (.iastore, 1) := by decide +kernel
theorem dX4_addName_46 : decode cX4_addName 46 = .ok (.aload_n 0, 1) := by decide +kernel
theorem dX4_addName_47 : decode cX4_addName 47 = .ok (.getfield 34, 3) := by decide +kernel
theorem dX4_addName_50 : decode cX4_addName 50 = .ok (.iload_n 2, 1) := by decide +kernel
theorem dX4_addName_51 : decode cX4_addName 51 = .ok (.bipush (-9), 2) := by decide +kernel
theorem dX4_addName_53 : decode cX4_addName 53 = .ok (.iastore, 1) := by decide +kernel
theorem dX4_addName_54 : decode cX4_addName 54 = .ok (.aload_n 0, 1) := by decide +kernel
theorem dX4_addName_55 : decode cX4_addName 55 = .ok (.getfield 37, 3) := by decide +kernel
theorem dX4_addName_58 : decode cX4_addName 58 = .ok (.iload_n 2, 1) := by decide +kernel
theorem dX4_addName_59 : decode cX4_addName 59 = .ok (.iconst 0, 1) := by decide +kernel
theorem dX4_addName_60 : decode cX4_addName 60 = .ok (.iastore, 1) := by decide +kernel
theorem dX4_addName_61 : decode cX4_addName 61 = .ok (.aload_n 0, 1) := by decide +kernel
theorem dX4_addName_62 : decode cX4_addName 62 = .ok (.dup, 1) := by decide +kernel
theorem dX4_addName_63 : decode cX4_addName 63 = .ok (.getfield 15, 3) := by decide +kernel
theorem dX4_addName_66 : decode cX4_addName 66 = .ok (.iconst 1, 1) := by decide +kernel
theorem dX4_addName_67 : decode cX4_addName 67 = .ok (.iadd, 1) := by decide +kernel
theorem dX4_addName_68 : decode cX4_addName 68 = .ok (.putfield 15, 3) := by decide +kernel
theorem dX4_addName_71 : decode cX4_addName 71 = .ok (.aload_n 0, 1) := by decide +kernel
theorem dX4_addName_72 : decode cX4_addName 72 = .ok (.getfield 49, 3) := by decide +kernel
theorem dX4_addName_75 : decode cX4_addName 75 = .ok (.aload_n 0, 1) := by decide +kernel
theorem dX4_addName_76 : decode cX4_addName 76 = .ok (.getfield 9, 3) := by decide +kernel
theorem dX4_addName_79 : decode cX4_addName 79 = .ok (.iconst 1, 1) := by decide +kernel
theorem dX4_addName_80 : decode cX4_addName 80 = .ok (.isub, 1) := by decide +kernel
theorem dX4_addName_81 : decode cX4_addName 81 = .ok (.dup2, 1) := by decide +kernel
theorem dX4_addName_82 : decode cX4_addName 82 = .ok (.iaload, 1) := by decide +kernel
theorem dX4_addName_83 : decode cX4_addName 83 = .ok (.iconst 1, 1) := by decide +kernel
theorem dX4_addName_84 : decode cX4_addName 84 = .ok (.iadd, 1) := by decide +kernel
theorem dX4_addName_85 : decode cX4_addName 85 = .ok (.iastore, 1) := by decide +kernel
theorem dX4_addName_86 : decode cX4_addName 86 = .ok (.iload_n 2, 1) := by decide +kernel
theorem dX4_addName_87 : decode cX4_addName 87 = .ok (.ireturn, 1) := by decide +kernel
theorem dX4_addArm_0 : decode cX4_addArm 0 = .ok (.iconst 3, 1) := by decide +kernel
theorem dX4_addArm_1 : decode cX4_addArm 1 = .ok (.iload_n 1, 1) := by decide +kernel
theorem dX4_addArm_2 : decode cX4_addArm 2 = .ok (.imul, 1) := by decide +kernel
theorem dX4_addArm_3 : decode cX4_addArm 3 = .ok (.aload_n 0, 1) := by decide +kernel
theorem dX4_addArm_4 : decode cX4_addArm 4 = .ok (.getfield 37, 3) := by decide +kernel
theorem dX4_addArm_7 : decode cX4_addArm 7 = .ok (.iload_n 1, 1) := by decide +kernel
theorem dX4_addArm_8 : decode cX4_addArm 8 = .ok (.iaload, 1) := by decide +kernel
theorem dX4_addArm_9 : decode cX4_addArm 9 = .ok (.iadd, 1) := by decide +kernel
theorem dX4_addArm_10 : decode cX4_addArm 10 = .ok (.istore 4, 2) := by decide +kernel
theorem dX4_addArm_12 : decode cX4_addArm 12 = .ok (.aload_n 0, 1) := by decide +kernel
theorem dX4_addArm_13 : decode cX4_addArm 13 = .ok (.getfield 40, 3) := by decide +kernel
theorem dX4_addArm_16 : decode cX4_addArm 16 = .ok (.iload 4, 2) := by decide +kernel
theorem dX4_addArm_18 : decode cX4_addArm 18 = .ok (.iload_n 2, 1) := by decide +kernel
theorem dX4_addArm_19 : decode cX4_addArm 19 = .ok (.iastore, 1) := by decide +kernel
theorem dX4_addArm_20 : decode cX4_addArm 20 = .ok (.aload_n 0, 1) := by decide +kernel
theorem dX4_addArm_21 : decode cX4_addArm 21 = .ok (.getfield 43, 3) := by decide +kernel
theorem dX4_addArm_24 : decode cX4_addArm 24 = .ok (.iload 4, 2) := by decide +kernel
theorem dX4_addArm_26 : decode cX4_addArm 26 = .ok (.iload_n 3, 1) := by decide +kernel
theorem dX4_addArm_27 : decode cX4_addArm 27 = .ok (.iastore, 1) := by decide +kernel
theorem dX4_addArm_28 : decode cX4_addArm 28 = .ok (.aload_n 0, 1) := by decide +kernel
theorem dX4_addArm_29 : decode cX4_addArm 29 = .ok (.getfield 37, 3) := by decide +kernel
theorem dX4_addArm_32 : decode cX4_addArm 32 = .ok (.iload_n 1, 1) := by decide +kernel
theorem dX4_addArm_33 : decode cX4_addArm 33 = .ok (.dup2, 1) := by decide +kernel
theorem dX4_addArm_34 : decode cX4_addArm 34 = .ok (.iaload, 1) := by decide +kernel
theorem dX4_addArm_35 : decode cX4_addArm 35 = .ok (.iconst 1, 1) := by decide +kernel
theorem dX4_addArm_36 : decode cX4_addArm 36 = .ok (.iadd, 1) := by decide +kernel
theorem dX4_addArm_37 : decode cX4_addArm 37 = .ok (.iastore, 1) := by decide +kernel
theorem dX4_addArm_38 : decode cX4_addArm 38 = .ok (.return_, 1) := by decide +kernel
theorem dX4_endBlock_0 : decode cX4_endBlock 0 = .ok (.aload_n 0, 1) := by decide +kernel
theorem dX4_endBlock_1 : decode cX4_endBlock 1 = .ok (.getfield 52, 3) := by decide +kernel
theorem dX4_endBlock_4 : decode cX4_endBlock 4 = .ok (.aload_n 0, 1) := by decide +kernel
theorem dX4_endBlock_5 : decode cX4_endBlock 5 = .ok (.getfield 9, 3) := by decide +kernel
theorem dX4_endBlock_8 : decode cX4_endBlock 8 = .ok (.iconst 1, 1) := by decide +kernel
theorem dX4_endBlock_9 : decode cX4_endBlock 9 = .ok (.isub, 1) := by decide +kernel
theorem dX4_endBlock_10 : decode cX4_endBlock 10 = .ok (.iload_n 1, 1) := by decide +kernel
theorem dX4_endBlock_11 : decode cX4_endBlock 11 = .ok (.iastore, 1) := by decide +kernel
theorem dX4_endBlock_12 : decode cX4_endBlock 12 = .ok (.aload_n 0, 1) := by decide +kernel
theorem dX4_endBlock_13 : decode cX4_endBlock 13 = .ok (.getfield 9, 3) := by decide +kernel
theorem dX4_endBlock_16 : decode cX4_endBlock 16 = .ok (.iconst 1, 1) := by decide +kernel
theorem dX4_endBlock_17 : decode cX4_endBlock 17 = .ok (.isub, 1) := by decide +kernel
theorem dX4_endBlock_18 : decode cX4_endBlock 18 = .ok (.ireturn, 1) := by decide +kernel
theorem dX4_armFrom_0 : decode cX4_armFrom 0 = .ok (.iconst 3, 1) := by decide +kernel
theorem dX4_armFrom_1 : decode cX4_armFrom 1 = .ok (.iload_n 1, 1) := by decide +kernel
theorem dX4_armFrom_2 : decode cX4_armFrom 2 = .ok (.imul, 1) := by decide +kernel
theorem dX4_armFrom_3 : decode cX4_armFrom 3 = .ok (.istore_n 3, 1) := by decide +kernel
theorem dX4_armFrom_4 : decode cX4_armFrom 4 = .ok (.iload_n 3, 1) := by decide +kernel
theorem dX4_armFrom_5 : decode cX4_armFrom 5 = .ok (.iconst 3, 1) := by decide +kernel
theorem dX4_armFrom_6 : decode cX4_armFrom 6 = .ok (.iload_n 1, 1) := by decide +kernel
theorem dX4_armFrom_7 : decode cX4_armFrom 7 = .ok (.imul, 1) := by decide +kernel
theorem dX4_armFrom_8 : decode cX4_armFrom 8 = .ok (.aload_n 0, 1) := by decide +kernel
theorem dX4_armFrom_9 : decode cX4_armFrom 9 = .ok (.getfield 37, 3) := by decide +kernel
theorem dX4_armFrom_12 : decode cX4_armFrom 12 = .ok (.iload_n 1, 1) := by decide +kernel
theorem dX4_armFrom_13 : decode cX4_armFrom 13 = .ok (.iaload, 1) := by decide +kernel
theorem dX4_armFrom_14 : decode cX4_armFrom 14 = .ok (.iadd, 1) := by decide +kernel
theorem dX4_armFrom_15 : decode cX4_armFrom 15 = .ok (.if_icmp .ge 21, 3) := by decide +kernel
theorem dX4_armFrom_18 : decode cX4_armFrom 18 = .ok (.aload_n 0, 1) := by decide +kernel
theorem dX4_armFrom_19 : decode cX4_armFrom 19 = .ok (.getfield 40, 3) := by decide +kernel
theorem dX4_armFrom_22 : decode cX4_armFrom 22 = .ok (.iload_n 3, 1) := by decide +kernel
theorem dX4_armFrom_23 : decode cX4_armFrom 23 = .ok (.iaload, 1) := by decide +kernel
theorem dX4_armFrom_24 : decode cX4_armFrom 24 = .ok (.iload_n 2, 1) := by decide +kernel
theorem dX4_armFrom_25 : decode cX4_armFrom 25 = .ok (.if_icmp .ne 5, 3) := by decide +kernel
theorem dX4_armFrom_28 : decode cX4_armFrom 28 = .ok (.iload_n 3, 1) := by decide +kernel
theorem dX4_armFrom_29 : decode cX4_armFrom 29 = .ok (.ireturn, 1) := by decide +kernel
theorem dX4_armFrom_30 : decode cX4_armFrom 30 = .ok (.iinc 3 1, 3) := by decide +kernel
theorem dX4_armFrom_33 : decode cX4_armFrom 33 = .ok (.goto (-29), 3) := by decide +kernel
theorem dX4_armFrom_36 : decode cX4_armFrom 36 = .ok (.bipush (-9), 2) := by decide +kernel
theorem dX4_armFrom_38 : decode cX4_armFrom 38 = .ok (.ireturn, 1) := by decide +kernel
theorem dX4_hasArm_0 : decode cX4_hasArm 0 = .ok (.aload_n 0, 1) := by decide +kernel
theorem dX4_hasArm_1 : decode cX4_hasArm 1 = .ok (.iload_n 1, 1) := by decide +kernel
theorem dX4_hasArm_2 : decode cX4_hasArm 2 = .ok (.iload_n 2, 1) := by decide +kernel
theorem dX4_hasArm_3 : decode cX4_hasArm 3 = .ok (.invokevirtual 76, 3) := by decide +kernel
theorem dX4_hasArm_6 : decode cX4_hasArm 6 = .ok (.bipush (-9), 2) := by decide +kernel
theorem dX4_hasArm_8 : decode cX4_hasArm 8 = .ok (.if_icmp .eq 7, 3) := by decide +kernel
theorem dX4_hasArm_11 : decode cX4_hasArm 11 = .ok (.iconst 1, 1) := by decide +kernel
theorem dX4_hasArm_12 : decode cX4_hasArm 12 = .ok (.goto 4, 3) := by decide +kernel
theorem dX4_hasArm_15 : decode cX4_hasArm 15 = .ok (.iconst 0, 1) := by decide +kernel
theorem dX4_hasArm_16 : decode cX4_hasArm 16 = .ok (.ireturn, 1) := by decide +kernel
theorem dX4_isWhole_0 : decode cX4_isWhole 0 = .ok (.aload_n 0, 1) := by decide +kernel
theorem dX4_isWhole_1 : decode cX4_isWhole 1 = .ok (.getfield 9, 3) := by decide +kernel
theorem dX4_isWhole_4 : decode cX4_isWhole 4 = .ok (.ifCond .le 22, 3) := by decide +kernel
theorem dX4_isWhole_7 : decode cX4_isWhole 7 = .ok (.aload_n 0, 1) := by decide +kernel
theorem dX4_isWhole_8 : decode cX4_isWhole 8 = .ok (.getfield 52, 3) := by decide +kernel
theorem dX4_isWhole_11 : decode cX4_isWhole 11 = .ok (.aload_n 0, 1) := by decide +kernel
theorem dX4_isWhole_12 : decode cX4_isWhole 12 = .ok (.getfield 9, 3) := by decide +kernel
theorem dX4_isWhole_15 : decode cX4_isWhole 15 = .ok (.iconst 1, 1) := by decide +kernel
theorem dX4_isWhole_16 : decode cX4_isWhole 16 = .ok (.isub, 1) := by decide +kernel
theorem dX4_isWhole_17 : decode cX4_isWhole 17 = .ok (.iaload, 1) := by decide +kernel
theorem dX4_isWhole_18 : decode cX4_isWhole 18 = .ok (.iconst (-1), 1) := by decide +kernel
theorem dX4_isWhole_19 : decode cX4_isWhole 19 = .ok (.if_icmp .eq 7, 3) := by decide +kernel
theorem dX4_isWhole_22 : decode cX4_isWhole 22 = .ok (.iconst 1, 1) := by decide +kernel
theorem dX4_isWhole_23 : decode cX4_isWhole 23 = .ok (.goto 4, 3) := by decide +kernel
theorem dX4_isWhole_26 : decode cX4_isWhole 26 = .ok (.iconst 0, 1) := by decide +kernel
theorem dX4_isWhole_27 : decode cX4_isWhole 27 = .ok (.ireturn, 1) := by decide +kernel
theorem dX4_isStrict_0 : decode cX4_isStrict 0 = .ok (.aload_n 0, 1) := by decide +kernel
theorem dX4_isStrict_1 : decode cX4_isStrict 1 = .ok (.invokevirtual 80, 3) := by decide +kernel
theorem dX4_isStrict_4 : decode cX4_isStrict 4 = .ok (.ifCond .eq 10, 3) := by decide +kernel
theorem dX4_isStrict_7 : decode cX4_isStrict 7 = .ok (.aload_n 0, 1) := by decide +kernel
theorem dX4_isStrict_8 : decode cX4_isStrict 8 = .ok (.invokevirtual 83, 3) := by decide +kernel
theorem dX4_isStrict_11 : decode cX4_isStrict 11 = .ok (.ifCond .ne 5, 3) := by decide +kernel
theorem dX4_isStrict_14 : decode cX4_isStrict 14 = .ok (.iconst 0, 1) := by decide +kernel
theorem dX4_isStrict_15 : decode cX4_isStrict 15 = .ok (.ireturn, 1) := by decide +kernel
theorem dX4_isStrict_16 : decode cX4_isStrict 16 = .ok (.aload_n 0, 1) := by decide +kernel
theorem dX4_isStrict_17 : decode cX4_isStrict 17 = .ok (.invokevirtual 86, 3) := by decide +kernel
theorem dX4_isStrict_20 : decode cX4_isStrict 20 = .ok (.iconst 0, 1) := by decide +kernel
theorem dX4_isStrict_21 : decode cX4_isStrict 21 = .ok (.istore_n 1, 1) := by decide +kernel
theorem dX4_isStrict_22 : decode cX4_isStrict 22 = .ok (.iload_n 1, 1) := by decide +kernel
theorem dX4_isStrict_23 : decode cX4_isStrict 23 = .ok (.aload_n 0, 1) := by decide +kernel
theorem dX4_isStrict_24 : decode cX4_isStrict 24 = .ok (.getfield 9, 3) := by decide +kernel
theorem dX4_isStrict_27 : decode cX4_isStrict 27 = .ok (.if_icmp .ge 41, 3) := by decide +kernel
theorem dX4_isStrict_30 : decode cX4_isStrict 30 = .ok (.aload_n 0, 1) := by decide +kernel
theorem dX4_isStrict_31 : decode cX4_isStrict 31 = .ok (.getfield 55, 3) := by decide +kernel
theorem dX4_isStrict_34 : decode cX4_isStrict 34 = .ok (.iload_n 1, 1) := by decide +kernel
theorem dX4_isStrict_35 : decode cX4_isStrict 35 = .ok (.iaload, 1) := by decide +kernel
theorem dX4_isStrict_36 : decode cX4_isStrict 36 = .ok (.bipush (-9), 2) := by decide +kernel
theorem dX4_isStrict_38 : decode cX4_isStrict 38 = .ok (.if_icmp .eq 24, 3) := by decide +kernel
theorem dX4_isStrict_41 : decode cX4_isStrict 41 = .ok (.aload_n 0, 1) := by decide +kernel
theorem dX4_isStrict_42 : decode cX4_isStrict 42 = .ok (.aload_n 0, 1) := by decide +kernel
theorem dX4_isStrict_43 : decode cX4_isStrict 43 = .ok (.getfield 18, 3) := by decide +kernel
theorem dX4_isStrict_46 : decode cX4_isStrict 46 = .ok (.aload_n 0, 1) := by decide +kernel
theorem dX4_isStrict_47 : decode cX4_isStrict 47 = .ok (.getfield 55, 3) := by decide +kernel
theorem dX4_isStrict_50 : decode cX4_isStrict 50 = .ok (.iload_n 1, 1) := by decide +kernel
theorem dX4_isStrict_51 : decode cX4_isStrict 51 = .ok (.iaload, 1) := by decide +kernel
theorem dX4_isStrict_52 : decode cX4_isStrict 52 = .ok (.iaload, 1) := by decide +kernel
theorem dX4_isStrict_53 : decode cX4_isStrict 53 = .ok (.iload_n 1, 1) := by decide +kernel
theorem dX4_isStrict_54 : decode cX4_isStrict 54 = .ok (.invokevirtual 89, 3) := by decide +kernel
theorem dX4_isStrict_57 : decode cX4_isStrict 57 = .ok (.ifCond .ne 5, 3) := by decide +kernel
theorem dX4_isStrict_60 : decode cX4_isStrict 60 = .ok (.iconst 0, 1) := by decide +kernel
theorem dX4_isStrict_61 : decode cX4_isStrict 61 = .ok (.ireturn, 1) := by decide +kernel
theorem dX4_isStrict_62 : decode cX4_isStrict 62 = .ok (.iinc 1 1, 3) := by decide +kernel
theorem dX4_isStrict_65 : decode cX4_isStrict 65 = .ok (.goto (-43), 3) := by decide +kernel
theorem dX4_isStrict_68 : decode cX4_isStrict 68 = .ok (.iconst 0, 1) := by decide +kernel
theorem dX4_isStrict_69 : decode cX4_isStrict 69 = .ok (.istore_n 1, 1) := by decide +kernel
theorem dX4_isStrict_70 : decode cX4_isStrict 70 = .ok (.iload_n 1, 1) := by decide +kernel
theorem dX4_isStrict_71 : decode cX4_isStrict 71 = .ok (.aload_n 0, 1) := by decide +kernel
theorem dX4_isStrict_72 : decode cX4_isStrict 72 = .ok (.getfield 15, 3) := by decide +kernel
theorem dX4_isStrict_75 : decode cX4_isStrict 75 = .ok (.if_icmp .ge 69, 3) := by decide +kernel
theorem dX4_isStrict_78 : decode cX4_isStrict 78 = .ok (.aload_n 0, 1) := by decide +kernel
theorem dX4_isStrict_79 : decode cX4_isStrict 79 = .ok (.getfield 22, 3) := by decide +kernel
theorem dX4_isStrict_82 : decode cX4_isStrict 82 = .ok (.iload_n 1, 1) := by decide +kernel
theorem dX4_isStrict_83 : decode cX4_isStrict 83 = .ok (.iaload, 1) := by decide +kernel
theorem dX4_isStrict_84 : decode cX4_isStrict 84 = .ok (.iconst 2, 1) := by decide +kernel
theorem dX4_isStrict_85 : decode cX4_isStrict 85 = .ok (.if_icmp .ne 33, 3) := by decide +kernel
theorem dX4_isStrict_88 : decode cX4_isStrict 88 = .ok (.aload_n 0, 1) := by decide +kernel
theorem dX4_isStrict_89 : decode cX4_isStrict 89 = .ok (.aload_n 0, 1) := by decide +kernel
theorem dX4_isStrict_90 : decode cX4_isStrict 90 = .ok (.getfield 31, 3) := by decide +kernel
theorem dX4_isStrict_93 : decode cX4_isStrict 93 = .ok (.iload_n 1, 1) := by decide +kernel
theorem dX4_isStrict_94 : decode cX4_isStrict 94 = .ok (.iaload, 1) := by decide +kernel
theorem dX4_isStrict_95 : decode cX4_isStrict 95 = .ok (.iload_n 1, 1) := by decide +kernel
theorem dX4_isStrict_96 : decode cX4_isStrict 96 = .ok (.invokevirtual 92, 3) := by decide +kernel
theorem dX4_isStrict_99 : decode cX4_isStrict 99 = .ok (.ifCond .eq 17, 3) := by decide +kernel
theorem dX4_isStrict_102 : decode cX4_isStrict 102 = .ok (.aload_n 0, 1) := by decide +kernel
theorem dX4_isStrict_103 : decode cX4_isStrict 103 = .ok (.aload_n 0, 1) := by decide +kernel
theorem dX4_isStrict_104 : decode cX4_isStrict 104 = .ok (.getfield 34, 3) := by decide +kernel
theorem dX4_isStrict_107 : decode cX4_isStrict 107 = .ok (.iload_n 1, 1) := by decide +kernel
theorem dX4_isStrict_108 : decode cX4_isStrict 108 = .ok (.iaload, 1) := by decide +kernel
theorem dX4_isStrict_109 : decode cX4_isStrict 109 = .ok (.iload_n 1, 1) := by decide +kernel
theorem dX4_isStrict_110 : decode cX4_isStrict 110 = .ok (.invokevirtual 92, 3) := by decide +kernel
theorem dX4_isStrict_113 : decode cX4_isStrict 113 = .ok (.ifCond .ne 5, 3) := by decide +kernel
theorem dX4_isStrict_116 : decode cX4_isStrict 116 = .ok (.iconst 0, 1) := by decide +kernel
theorem dX4_isStrict_117 : decode cX4_isStrict 117 = .ok (.ireturn, 1) := by decide +kernel
theorem dX4_isStrict_118 : decode cX4_isStrict 118 = .ok (.aload_n 0, 1) := by decide +kernel
theorem dX4_isStrict_119 : decode cX4_isStrict 119 = .ok (.getfield 22, 3) := by decide +kernel
theorem dX4_isStrict_122 : decode cX4_isStrict 122 = .ok (.iload_n 1, 1) := by decide +kernel
theorem dX4_isStrict_123 : decode cX4_isStrict 123 = .ok (.iaload, 1) := by decide +kernel
theorem dX4_isStrict_124 : decode cX4_isStrict 124 = .ok (.iconst 3, 1) := by decide +kernel
theorem dX4_isStrict_125 : decode cX4_isStrict 125 = .ok (.if_icmp .ne 13, 3) := by decide +kernel
theorem dX4_isStrict_128 : decode cX4_isStrict 128 = .ok (.aload_n 0, 1) := by decide +kernel
theorem dX4_isStrict_129 : decode cX4_isStrict 129 = .ok (.iload_n 1, 1) := by decide +kernel
theorem dX4_isStrict_130 : decode cX4_isStrict 130 = .ok (.invokevirtual 95, 3) := by decide +kernel
theorem dX4_isStrict_133 : decode cX4_isStrict 133 = .ok (.ifCond .ne 5, 3) := by decide +kernel
theorem dX4_isStrict_136 : decode cX4_isStrict 136 = .ok (.iconst 0, 1) := by decide +kernel
theorem dX4_isStrict_137 : decode cX4_isStrict 137 = .ok (.ireturn, 1) := by decide +kernel
theorem dX4_isStrict_138 : decode cX4_isStrict 138 = .ok (.iinc 1 1, 3) := by decide +kernel
theorem dX4_isStrict_141 : decode cX4_isStrict 141 = .ok (.goto (-71), 3) := by decide +kernel
theorem dX4_isStrict_144 : decode cX4_isStrict 144 = .ok (.iconst 1, 1) := by decide +kernel
theorem dX4_isStrict_145 : decode cX4_isStrict 145 = .ok (.ireturn, 1) := by decide +kernel
theorem dX4_endsTellOfWhatIsThere_0 : decode cX4_endsTellOfWhatIsThere 0 = .ok (.iconst 0, 1) := by decide +kernel
theorem dX4_endsTellOfWhatIsThere_1 : decode cX4_endsTellOfWhatIsThere 1 = .ok (.istore_n 1, 1) := by decide +kernel
theorem dX4_endsTellOfWhatIsThere_2 : decode cX4_endsTellOfWhatIsThere 2 = .ok (.iload_n 1, 1) := by decide +kernel
theorem dX4_endsTellOfWhatIsThere_3 : decode cX4_endsTellOfWhatIsThere 3 = .ok (.aload_n 0, 1) := by decide +kernel
theorem dX4_endsTellOfWhatIsThere_4 : decode cX4_endsTellOfWhatIsThere 4 = .ok (.getfield 9, 3) := by decide +kernel
theorem dX4_endsTellOfWhatIsThere_7 : decode cX4_endsTellOfWhatIsThere 7 = .ok (.if_icmp .ge 35, 3) := by decide +kernel
theorem dX4_endsTellOfWhatIsThere_10 : decode cX4_endsTellOfWhatIsThere 10 = .ok (.aload_n 0, 1) := by decide +kernel
theorem dX4_endsTellOfWhatIsThere_11 : decode cX4_endsTellOfWhatIsThere 11 = .ok (.getfield 55, 3) := by decide +kernel
theorem dX4_endsTellOfWhatIsThere_14 : decode cX4_endsTellOfWhatIsThere 14 = .ok (.iload_n 1, 1) := by decide +kernel
theorem dX4_endsTellOfWhatIsThere_15 : decode cX4_endsTellOfWhatIsThere 15 = .ok (.iaload, 1) := by decide +kernel
theorem dX4_endsTellOfWhatIsThere_16 : decode cX4_endsTellOfWhatIsThere 16 = .ok (.bipush (-9), 2) := by decide +kernel
theorem dX4_endsTellOfWhatIsThere_18 : decode cX4_endsTellOfWhatIsThere 18 = .ok (.if_icmp .eq 18, 3) := by decide +kernel
theorem dX4_endsTellOfWhatIsThere_21 : decode cX4_endsTellOfWhatIsThere 21 = .ok (.aload_n 0, 1) := by decide +kernel
theorem dX4_endsTellOfWhatIsThere_22 : decode cX4_endsTellOfWhatIsThere 22 = .ok (.aload_n 0, 1) := by decide +kernel
theorem dX4_endsTellOfWhatIsThere_23 : decode cX4_endsTellOfWhatIsThere 23 = .ok (.getfield 55, 3) := by decide +kernel
theorem dX4_endsTellOfWhatIsThere_26 : decode cX4_endsTellOfWhatIsThere 26 = .ok (.iload_n 1, 1) := by decide +kernel
theorem dX4_endsTellOfWhatIsThere_27 : decode cX4_endsTellOfWhatIsThere 27 = .ok (.iaload, 1) := by decide +kernel
theorem dX4_endsTellOfWhatIsThere_28 : decode cX4_endsTellOfWhatIsThere 28 = .ok (.invokevirtual 64, 3) := by decide +kernel
theorem dX4_endsTellOfWhatIsThere_31 : decode cX4_endsTellOfWhatIsThere 31 = .ok (.ifCond .ne 5, 3) := by decide +kernel
theorem dX4_endsTellOfWhatIsThere_34 : decode cX4_endsTellOfWhatIsThere 34 = .ok (.iconst 0, 1) := by decide +kernel
theorem dX4_endsTellOfWhatIsThere_35 : decode cX4_endsTellOfWhatIsThere 35 = .ok (.ireturn, 1) := by decide +kernel
theorem dX4_endsTellOfWhatIsThere_36 : decode cX4_endsTellOfWhatIsThere 36 = .ok (.iinc 1 1, 3) := by decide +kernel
theorem dX4_endsTellOfWhatIsThere_39 : decode cX4_endsTellOfWhatIsThere 39 = .ok (.goto (-37), 3) := by decide +kernel
theorem dX4_endsTellOfWhatIsThere_42 : decode cX4_endsTellOfWhatIsThere 42 = .ok (.iconst 0, 1) := by decide +kernel
theorem dX4_endsTellOfWhatIsThere_43 : decode cX4_endsTellOfWhatIsThere 43 = .ok (.istore_n 1, 1) := by decide +kernel
theorem dX4_endsTellOfWhatIsThere_44 : decode cX4_endsTellOfWhatIsThere 44 = .ok (.iload_n 1, 1) := by decide +kernel
theorem dX4_endsTellOfWhatIsThere_45 : decode cX4_endsTellOfWhatIsThere 45 = .ok (.iconst 2, 1) := by decide +kernel
theorem dX4_endsTellOfWhatIsThere_46 : decode cX4_endsTellOfWhatIsThere 46 = .ok (.aload_n 0, 1) := by decide +kernel
theorem dX4_endsTellOfWhatIsThere_47 : decode cX4_endsTellOfWhatIsThere 47 = .ok (.getfield 9, 3) := by decide +kernel
theorem dX4_endsTellOfWhatIsThere_50 : decode cX4_endsTellOfWhatIsThere 50 = .ok (.imul, 1) := by decide +kernel
theorem dX4_endsTellOfWhatIsThere_51 : decode cX4_endsTellOfWhatIsThere 51 = .ok (.if_icmp .ge 44, 3) := by decide +kernel
theorem dX4_endsTellOfWhatIsThere_54 : decode cX4_endsTellOfWhatIsThere 54 = .ok (.aload_n 0, 1) := by decide +kernel
theorem dX4_endsTellOfWhatIsThere_55 : decode cX4_endsTellOfWhatIsThere 55 = .ok (.getfield 58, 3) := by decide +kernel
theorem dX4_endsTellOfWhatIsThere_58 : decode cX4_endsTellOfWhatIsThere 58 = .ok (.iload_n 1, 1) := by decide +kernel
theorem dX4_endsTellOfWhatIsThere_59 : decode cX4_endsTellOfWhatIsThere 59 = .ok (.iaload, 1) := by decide +kernel
theorem dX4_endsTellOfWhatIsThere_60 : decode cX4_endsTellOfWhatIsThere 60 = .ok (.bipush (-9), 2) := by decide +kernel
theorem dX4_endsTellOfWhatIsThere_62 : decode cX4_endsTellOfWhatIsThere 62 = .ok (.if_icmp .eq 27, 3) := by decide +kernel
theorem dX4_endsTellOfWhatIsThere_65 : decode cX4_endsTellOfWhatIsThere 65 = .ok (.aload_n 0, 1) := by decide +kernel
theorem dX4_endsTellOfWhatIsThere_66 : decode cX4_endsTellOfWhatIsThere 66 = .ok (.getfield 58, 3) := by decide +kernel
theorem dX4_endsTellOfWhatIsThere_69 : decode cX4_endsTellOfWhatIsThere 69 = .ok (.iload_n 1, 1) := by decide +kernel
theorem dX4_endsTellOfWhatIsThere_70 : decode cX4_endsTellOfWhatIsThere 70 = .ok (.iaload, 1) := by decide +kernel
theorem dX4_endsTellOfWhatIsThere_71 : decode cX4_endsTellOfWhatIsThere 71 = .ok (.ifCond .eq 16, 3) := by decide +kernel
theorem dX4_endsTellOfWhatIsThere_74 : decode cX4_endsTellOfWhatIsThere 74 = .ok (.aload_n 0, 1) := by decide +kernel
theorem dX4_endsTellOfWhatIsThere_75 : decode cX4_endsTellOfWhatIsThere 75 = .ok (.aload_n 0, 1) := by decide +kernel
theorem dX4_endsTellOfWhatIsThere_76 : decode cX4_endsTellOfWhatIsThere 76 = .ok (.getfield 58, 3) := by decide +kernel
theorem dX4_endsTellOfWhatIsThere_79 : decode cX4_endsTellOfWhatIsThere 79 = .ok (.iload_n 1, 1) := by decide +kernel
theorem dX4_endsTellOfWhatIsThere_80 : decode cX4_endsTellOfWhatIsThere 80 = .ok (.iaload, 1) := by decide +kernel
theorem dX4_endsTellOfWhatIsThere_81 : decode cX4_endsTellOfWhatIsThere 81 = .ok (.invokevirtual 98, 3) := by decide +kernel
theorem dX4_endsTellOfWhatIsThere_84 : decode cX4_endsTellOfWhatIsThere 84 = .ok (.ifCond .ne 5, 3) := by decide +kernel
theorem dX4_endsTellOfWhatIsThere_87 : decode cX4_endsTellOfWhatIsThere 87 = .ok (.iconst 0, 1) := by decide +kernel
theorem dX4_endsTellOfWhatIsThere_88 : decode cX4_endsTellOfWhatIsThere 88 = .ok (.ireturn, 1) := by decide +kernel
theorem dX4_endsTellOfWhatIsThere_89 : decode cX4_endsTellOfWhatIsThere 89 = .ok (.iinc 1 1, 3) := by decide +kernel
theorem dX4_endsTellOfWhatIsThere_92 : decode cX4_endsTellOfWhatIsThere 92 = .ok (.goto (-48), 3) := by decide +kernel
theorem dX4_endsTellOfWhatIsThere_95 : decode cX4_endsTellOfWhatIsThere 95 = .ok (.iconst 1, 1) := by decide +kernel
theorem dX4_endsTellOfWhatIsThere_96 : decode cX4_endsTellOfWhatIsThere 96 = .ok (.ireturn, 1) := by decide +kernel
theorem dX4_namesTellOfWhatIsThere_0 : decode cX4_namesTellOfWhatIsThere 0 = .ok (.iconst 0, 1) := by decide +kernel
theorem dX4_namesTellOfWhatIsThere_1 : decode cX4_namesTellOfWhatIsThere 1 = .ok (.istore_n 1, 1) := by decide +kernel
theorem dX4_namesTellOfWhatIsThere_2 : decode cX4_namesTellOfWhatIsThere 2 = .ok (.iload_n 1, 1) := by decide +kernel
theorem dX4_namesTellOfWhatIsThere_3 : decode cX4_namesTellOfWhatIsThere 3 = .ok (.aload_n 0, 1) := by decide +kernel
theorem dX4_namesTellOfWhatIsThere_4 : decode cX4_namesTellOfWhatIsThere 4 = .ok (.getfield 15, 3) := by decide +kernel
theorem dX4_namesTellOfWhatIsThere_7 : decode cX4_namesTellOfWhatIsThere 7 = .ok (.if_icmp .ge 99, 3) := by decide +kernel
theorem dX4_namesTellOfWhatIsThere_10 : decode cX4_namesTellOfWhatIsThere 10 = .ok (.aload_n 0, 1) := by decide +kernel
theorem dX4_namesTellOfWhatIsThere_11 : decode cX4_namesTellOfWhatIsThere 11 = .ok (.getfield 22, 3) := by decide +kernel
theorem dX4_namesTellOfWhatIsThere_14 : decode cX4_namesTellOfWhatIsThere 14 = .ok (.iload_n 1, 1) := by decide +kernel
theorem dX4_namesTellOfWhatIsThere_15 : decode cX4_namesTellOfWhatIsThere 15 = .ok (.iaload, 1) := by decide +kernel
theorem dX4_namesTellOfWhatIsThere_16 : decode cX4_namesTellOfWhatIsThere 16 = .ok (.iconst 2, 1) := by decide +kernel
theorem dX4_namesTellOfWhatIsThere_17 : decode cX4_namesTellOfWhatIsThere 17 = .ok (.if_icmp .ne 31, 3) := by decide +kernel
theorem dX4_namesTellOfWhatIsThere_20 : decode cX4_namesTellOfWhatIsThere 20 = .ok (.aload_n 0, 1) := by decide +kernel
theorem dX4_namesTellOfWhatIsThere_21 : decode cX4_namesTellOfWhatIsThere 21 = .ok (.aload_n 0, 1) := by decide +kernel
theorem dX4_namesTellOfWhatIsThere_22 : decode cX4_namesTellOfWhatIsThere 22 = .ok (.getfield 31, 3) := by decide +kernel
theorem dX4_namesTellOfWhatIsThere_25 : decode cX4_namesTellOfWhatIsThere 25 = .ok (.iload_n 1, 1) := by decide +kernel
theorem dX4_namesTellOfWhatIsThere_26 : decode cX4_namesTellOfWhatIsThere 26 = .ok (.iaload, 1) := by decide +kernel
theorem dX4_namesTellOfWhatIsThere_27 : decode cX4_namesTellOfWhatIsThere 27 = .ok (.invokevirtual 64, 3) := by decide +kernel
theorem dX4_namesTellOfWhatIsThere_30 : decode cX4_namesTellOfWhatIsThere 30 = .ok (.ifCond .eq 16, 3) := by decide +kernel
theorem dX4_namesTellOfWhatIsThere_33 : decode cX4_namesTellOfWhatIsThere 33 = .ok (.aload_n 0, 1) := by decide +kernel
theorem dX4_namesTellOfWhatIsThere_34 : decode cX4_namesTellOfWhatIsThere 34 = .ok (.aload_n 0, 1) := by decide +kernel
theorem dX4_namesTellOfWhatIsThere_35 : decode cX4_namesTellOfWhatIsThere 35 = .ok (.getfield 34, 3) := by decide +kernel
theorem dX4_namesTellOfWhatIsThere_38 : decode cX4_namesTellOfWhatIsThere 38 = .ok (.iload_n 1, 1) := by decide +kernel
theorem dX4_namesTellOfWhatIsThere_39 : decode cX4_namesTellOfWhatIsThere 39 = .ok (.iaload, 1) := by decide +kernel
theorem dX4_namesTellOfWhatIsThere_40 : decode cX4_namesTellOfWhatIsThere 40 = .ok (.invokevirtual 64, 3) := by decide +kernel
theorem dX4_namesTellOfWhatIsThere_43 : decode cX4_namesTellOfWhatIsThere 43 = .ok (.ifCond .ne 5, 3) := by decide +kernel
theorem dX4_namesTellOfWhatIsThere_46 : decode cX4_namesTellOfWhatIsThere 46 = .ok (.iconst 0, 1) := by decide +kernel
theorem dX4_namesTellOfWhatIsThere_47 : decode cX4_namesTellOfWhatIsThere 47 = .ok (.ireturn, 1) := by decide +kernel
theorem dX4_namesTellOfWhatIsThere_48 : decode cX4_namesTellOfWhatIsThere 48 = .ok (.iconst 3, 1) := by decide +kernel
theorem dX4_namesTellOfWhatIsThere_49 : decode cX4_namesTellOfWhatIsThere 49 = .ok (.iload_n 1, 1) := by decide +kernel
theorem dX4_namesTellOfWhatIsThere_50 : decode cX4_namesTellOfWhatIsThere 50 = .ok (.imul, 1) := by decide +kernel
theorem dX4_namesTellOfWhatIsThere_51 : decode cX4_namesTellOfWhatIsThere 51 = .ok (.istore_n 2, 1) := by decide +kernel
theorem dX4_namesTellOfWhatIsThere_52 : decode cX4_namesTellOfWhatIsThere 52 = .ok (.iload_n 2, 1) := by decide +kernel
theorem dX4_namesTellOfWhatIsThere_53 : decode cX4_namesTellOfWhatIsThere 53 = .ok (.iconst 3, 1) := by decide +kernel
theorem dX4_namesTellOfWhatIsThere_54 : decode cX4_namesTellOfWhatIsThere 54 = .ok (.iload_n 1, 1) := by decide +kernel
theorem dX4_namesTellOfWhatIsThere_55 : decode cX4_namesTellOfWhatIsThere 55 = .ok (.imul, 1) := by decide +kernel
theorem dX4_namesTellOfWhatIsThere_56 : decode cX4_namesTellOfWhatIsThere 56 = .ok (.aload_n 0, 1) := by decide +kernel
theorem dX4_namesTellOfWhatIsThere_57 : decode cX4_namesTellOfWhatIsThere 57 = .ok (.getfield 37, 3) := by decide +kernel
theorem dX4_namesTellOfWhatIsThere_60 : decode cX4_namesTellOfWhatIsThere 60 = .ok (.iload_n 1, 1) := by decide +kernel
theorem dX4_namesTellOfWhatIsThere_61 : decode cX4_namesTellOfWhatIsThere 61 = .ok (.iaload, 1) := by decide +kernel
theorem dX4_namesTellOfWhatIsThere_62 : decode cX4_namesTellOfWhatIsThere 62 = .ok (.iadd, 1) := by decide +kernel
theorem dX4_namesTellOfWhatIsThere_63 : decode cX4_namesTellOfWhatIsThere 63 = .ok (.if_icmp .ge 37, 3) := by decide +kernel
theorem dX4_namesTellOfWhatIsThere_66 : decode cX4_namesTellOfWhatIsThere 66 = .ok (.aload_n 0, 1) := by decide +kernel
theorem dX4_namesTellOfWhatIsThere_67 : decode cX4_namesTellOfWhatIsThere 67 = .ok (.aload_n 0, 1) := by decide +kernel
theorem dX4_namesTellOfWhatIsThere_68 : decode cX4_namesTellOfWhatIsThere 68 = .ok (.getfield 40, 3) := by decide +kernel
theorem dX4_namesTellOfWhatIsThere_71 : decode cX4_namesTellOfWhatIsThere 71 = .ok (.iload_n 2, 1) := by decide +kernel
theorem dX4_namesTellOfWhatIsThere_72 : decode cX4_namesTellOfWhatIsThere 72 = .ok (.iaload, 1) := by decide +kernel
theorem dX4_namesTellOfWhatIsThere_73 : decode cX4_namesTellOfWhatIsThere 73 = .ok (.invokevirtual 98, 3) := by decide +kernel
theorem dX4_namesTellOfWhatIsThere_76 : decode cX4_namesTellOfWhatIsThere 76 = .ok (.ifCond .eq 16, 3) := by decide +kernel
theorem dX4_namesTellOfWhatIsThere_79 : decode cX4_namesTellOfWhatIsThere 79 = .ok (.aload_n 0, 1) := by decide +kernel
theorem dX4_namesTellOfWhatIsThere_80 : decode cX4_namesTellOfWhatIsThere 80 = .ok (.aload_n 0, 1) := by decide +kernel
theorem dX4_namesTellOfWhatIsThere_81 : decode cX4_namesTellOfWhatIsThere 81 = .ok (.getfield 43, 3) := by decide +kernel
theorem dX4_namesTellOfWhatIsThere_84 : decode cX4_namesTellOfWhatIsThere 84 = .ok (.iload_n 2, 1) := by decide +kernel
theorem dX4_namesTellOfWhatIsThere_85 : decode cX4_namesTellOfWhatIsThere 85 = .ok (.iaload, 1) := by decide +kernel
theorem dX4_namesTellOfWhatIsThere_86 : decode cX4_namesTellOfWhatIsThere 86 = .ok (.invokevirtual 64, 3) := by decide +kernel
theorem dX4_namesTellOfWhatIsThere_89 : decode cX4_namesTellOfWhatIsThere 89 = .ok (.ifCond .ne 5, 3) := by decide +kernel
theorem dX4_namesTellOfWhatIsThere_92 : decode cX4_namesTellOfWhatIsThere 92 = .ok (.iconst 0, 1) := by decide +kernel
theorem dX4_namesTellOfWhatIsThere_93 : decode cX4_namesTellOfWhatIsThere 93 = .ok (.ireturn, 1) := by decide +kernel
theorem dX4_namesTellOfWhatIsThere_94 : decode cX4_namesTellOfWhatIsThere 94 = .ok (.iinc 2 1, 3) := by decide +kernel
theorem dX4_namesTellOfWhatIsThere_97 : decode cX4_namesTellOfWhatIsThere 97 = .ok (.goto (-45), 3) := by decide +kernel
theorem dX4_namesTellOfWhatIsThere_100 : decode cX4_namesTellOfWhatIsThere 100 = .ok (.iinc 1 1, 3) := by decide +kernel
theorem dX4_namesTellOfWhatIsThere_103 : decode cX4_namesTellOfWhatIsThere 103 = .ok (.goto (-101), 3) := by decide +kernel
theorem dX4_namesTellOfWhatIsThere_106 : decode cX4_namesTellOfWhatIsThere 106 = .ok (.iconst 1, 1) := by decide +kernel
theorem dX4_namesTellOfWhatIsThere_107 : decode cX4_namesTellOfWhatIsThere 107 = .ok (.ireturn, 1) := by decide +kernel
theorem dX4_findDominators_0 : decode cX4_findDominators 0 = .ok (.iconst 0, 1) := by decide +kernel
theorem dX4_findDominators_1 : decode cX4_findDominators 1 = .ok (.istore_n 1, 1) := by decide +kernel
theorem dX4_findDominators_2 : decode cX4_findDominators 2 = .ok (.iload_n 1, 1) := by decide +kernel
theorem dX4_findDominators_3 : decode cX4_findDominators 3 = .ok (.aload_n 0, 1) := by decide +kernel
theorem dX4_findDominators_4 : decode cX4_findDominators 4 = .ok (.getfield 9, 3) := by decide +kernel
theorem dX4_findDominators_7 : decode cX4_findDominators 7 = .ok (.if_icmp .ge 16, 3) := by decide +kernel
theorem dX4_findDominators_10 : decode cX4_findDominators 10 = .ok (.aload_n 0, 1) := by decide +kernel
theorem dX4_findDominators_11 : decode cX4_findDominators 11 = .ok (.getfield 61, 3) := by decide +kernel
theorem dX4_findDominators_14 : decode cX4_findDominators 14 = .ok (.iload_n 1, 1) := by decide +kernel
theorem dX4_findDominators_15 : decode cX4_findDominators 15 = .ok (.iconst 0, 1) := by decide +kernel
theorem dX4_findDominators_16 : decode cX4_findDominators 16 = .ok (.iastore, 1) := by decide +kernel
theorem dX4_findDominators_17 : decode cX4_findDominators 17 = .ok (.iinc 1 1, 3) := by decide +kernel
theorem dX4_findDominators_20 : decode cX4_findDominators 20 = .ok (.goto (-18), 3) := by decide +kernel
theorem dX4_findDominators_23 : decode cX4_findDominators 23 = .ok (.iconst 0, 1) := by decide +kernel
theorem dX4_findDominators_24 : decode cX4_findDominators 24 = .ok (.istore_n 1, 1) := by decide +kernel
theorem dX4_findDominators_25 : decode cX4_findDominators 25 = .ok (.iload_n 1, 1) := by decide +kernel
theorem dX4_findDominators_26 : decode cX4_findDominators 26 = .ok (.aload_n 0, 1) := by decide +kernel
theorem dX4_findDominators_27 : decode cX4_findDominators 27 = .ok (.getfield 9, 3) := by decide +kernel
theorem dX4_findDominators_30 : decode cX4_findDominators 30 = .ok (.if_icmp .ge 51, 3) := by decide +kernel
theorem dX4_findDominators_33 : decode cX4_findDominators 33 = .ok (.aload_n 0, 1) := by decide +kernel
theorem dX4_findDominators_34 : decode cX4_findDominators 34 = .ok (.iload_n 1, 1) := by decide +kernel
theorem dX4_findDominators_35 : decode cX4_findDominators 35 = .ok (.invokevirtual 101, 3) := by decide +kernel
theorem dX4_findDominators_38 : decode cX4_findDominators 38 = .ok (.istore_n 2, 1) := by decide +kernel
theorem dX4_findDominators_39 : decode cX4_findDominators 39 = .ok (.iconst 0, 1) := by decide +kernel
theorem dX4_findDominators_40 : decode cX4_findDominators 40 = .ok (.istore_n 3, 1) := by decide +kernel
theorem dX4_findDominators_41 : decode cX4_findDominators 41 = .ok (.iload_n 3, 1) := by decide +kernel
theorem dX4_findDominators_42 : decode cX4_findDominators 42 = .ok (.aload_n 0, 1) := by decide +kernel
theorem dX4_findDominators_43 : decode cX4_findDominators 43 = .ok (.getfield 9, 3) := by decide +kernel
theorem dX4_findDominators_46 : decode cX4_findDominators 46 = .ok (.if_icmp .ge 29, 3) := by decide +kernel
theorem dX4_findDominators_49 : decode cX4_findDominators 49 = .ok (.iload_n 2, 1) := by decide +kernel
theorem dX4_findDominators_50 : decode cX4_findDominators 50 = .ok (.iload_n 3, 1) := by decide +kernel
theorem dX4_findDominators_51 : decode cX4_findDominators 51 = .ok (.invokestatic 105, 3) := by decide +kernel
theorem dX4_findDominators_54 : decode cX4_findDominators 54 = .ok (.ifCond .ne 15, 3) := by decide +kernel
theorem dX4_findDominators_57 : decode cX4_findDominators 57 = .ok (.aload_n 0, 1) := by decide +kernel
theorem dX4_findDominators_58 : decode cX4_findDominators 58 = .ok (.getfield 61, 3) := by decide +kernel
theorem dX4_findDominators_61 : decode cX4_findDominators 61 = .ok (.iload_n 3, 1) := by decide +kernel
theorem dX4_findDominators_62 : decode cX4_findDominators 62 = .ok (.dup2, 1) := by decide +kernel
theorem dX4_findDominators_63 : decode cX4_findDominators 63 = .ok (.iaload, 1) := by decide +kernel
theorem dX4_findDominators_64 : decode cX4_findDominators 64 = .ok (.iconst 1, 1) := by decide +kernel
theorem dX4_findDominators_65 : decode cX4_findDominators 65 = .ok (.iload_n 1, 1) := by decide +kernel
theorem dX4_findDominators_66 : decode cX4_findDominators 66 = .ok (.ishl, 1) := by decide +kernel
theorem dX4_findDominators_67 : decode cX4_findDominators 67 = .ok (.ior, 1) := by decide +kernel
theorem dX4_findDominators_68 : decode cX4_findDominators 68 = .ok (.iastore, 1) := by decide +kernel
theorem dX4_findDominators_69 : decode cX4_findDominators 69 = .ok (.iinc 3 1, 3) := by decide +kernel
theorem dX4_findDominators_72 : decode cX4_findDominators 72 = .ok (.goto (-31), 3) := by decide +kernel
theorem dX4_findDominators_75 : decode cX4_findDominators 75 = .ok (.iinc 1 1, 3) := by decide +kernel
theorem dX4_findDominators_78 : decode cX4_findDominators 78 = .ok (.goto (-53), 3) := by decide +kernel
theorem dX4_findDominators_81 : decode cX4_findDominators 81 = .ok (.return_, 1) := by decide +kernel
theorem dX4_reachedWithout_0 : decode cX4_reachedWithout 0 = .ok (.iconst 1, 1) := by decide +kernel
theorem dX4_reachedWithout_1 : decode cX4_reachedWithout 1 = .ok (.iload_n 1, 1) := by decide +kernel
theorem dX4_reachedWithout_2 : decode cX4_reachedWithout 2 = .ok (.ishl, 1) := by decide +kernel
theorem dX4_reachedWithout_3 : decode cX4_reachedWithout 3 = .ok (.iconst (-1), 1) := by decide +kernel
theorem dX4_reachedWithout_4 : decode cX4_reachedWithout 4 = .ok (.ixor, 1) := by decide +kernel
theorem dX4_reachedWithout_5 : decode cX4_reachedWithout 5 = .ok (.istore_n 2, 1) := by decide +kernel
theorem dX4_reachedWithout_6 : decode cX4_reachedWithout 6 = .ok (.iconst 1, 1) := by decide +kernel
theorem dX4_reachedWithout_7 : decode cX4_reachedWithout 7 = .ok (.iload_n 2, 1) := by decide +kernel
theorem dX4_reachedWithout_8 : decode cX4_reachedWithout 8 = .ok (.iand, 1) := by decide +kernel
theorem dX4_reachedWithout_9 : decode cX4_reachedWithout 9 = .ok (.istore_n 3, 1) := by decide +kernel
theorem dX4_reachedWithout_10 : decode cX4_reachedWithout 10 = .ok (.iconst 0, 1) := by decide +kernel
theorem dX4_reachedWithout_11 : decode cX4_reachedWithout 11 = .ok (.istore 4, 2) := by decide +kernel
theorem dX4_reachedWithout_13 : decode cX4_reachedWithout 13 = .ok (.iload 4, 2) := by decide +kernel
theorem dX4_reachedWithout_15 : decode cX4_reachedWithout 15 = .ok (.aload_n 0, 1) := by decide +kernel
theorem dX4_reachedWithout_16 : decode cX4_reachedWithout 16 = .ok (.getfield 9, 3) := by decide +kernel
theorem dX4_reachedWithout_19 : decode cX4_reachedWithout 19 = .ok (.if_icmp .ge 66, 3) := by decide +kernel
theorem dX4_reachedWithout_22 : decode cX4_reachedWithout 22 = .ok (.iconst 0, 1) := by decide +kernel
theorem dX4_reachedWithout_23 : decode cX4_reachedWithout 23 = .ok (.istore 5, 2) := by decide +kernel
theorem dX4_reachedWithout_25 : decode cX4_reachedWithout 25 = .ok (.iload 5, 2) := by decide +kernel
theorem dX4_reachedWithout_27 : decode cX4_reachedWithout 27 = .ok (.iconst 2, 1) := by decide +kernel
theorem dX4_reachedWithout_28 : decode cX4_reachedWithout 28 = .ok (.aload_n 0, 1) := by decide +kernel
theorem dX4_reachedWithout_29 : decode cX4_reachedWithout 29 = .ok (.getfield 9, 3) := by decide +kernel
theorem dX4_reachedWithout_32 : decode cX4_reachedWithout 32 = .ok (.imul, 1) := by decide +kernel
theorem dX4_reachedWithout_33 : decode cX4_reachedWithout 33 = .ok (.if_icmp .ge 46, 3) := by decide +kernel
theorem dX4_reachedWithout_36 : decode cX4_reachedWithout 36 = .ok (.aload_n 0, 1) := by decide +kernel
theorem dX4_reachedWithout_37 : decode cX4_reachedWithout 37 = .ok (.getfield 58, 3) := by decide +kernel
theorem dX4_reachedWithout_40 : decode cX4_reachedWithout 40 = .ok (.iload 5, 2) := by decide +kernel
theorem dX4_reachedWithout_42 : decode cX4_reachedWithout 42 = .ok (.iaload, 1) := by decide +kernel
theorem dX4_reachedWithout_43 : decode cX4_reachedWithout 43 = .ok (.bipush (-9), 2) := by decide +kernel
theorem dX4_reachedWithout_45 : decode cX4_reachedWithout 45 = .ok (.if_icmp .eq 28, 3) := by decide +kernel
theorem dX4_reachedWithout_48 : decode cX4_reachedWithout 48 = .ok (.iload_n 3, 1) := by decide +kernel
theorem dX4_reachedWithout_49 : decode cX4_reachedWithout 49 = .ok (.iload 5, 2) := by decide +kernel
theorem dX4_reachedWithout_51 : decode cX4_reachedWithout 51 = .ok (.iconst 2, 1) := by decide +kernel
theorem dX4_reachedWithout_52 : decode cX4_reachedWithout 52 = .ok (.idiv, 1) := by decide +kernel
theorem dX4_reachedWithout_53 : decode cX4_reachedWithout 53 = .ok (.invokestatic 105, 3) := by decide +kernel
theorem dX4_reachedWithout_56 : decode cX4_reachedWithout 56 = .ok (.ifCond .eq 17, 3) := by decide +kernel
theorem dX4_reachedWithout_59 : decode cX4_reachedWithout 59 = .ok (.iload_n 3, 1) := by decide +kernel
theorem dX4_reachedWithout_60 : decode cX4_reachedWithout 60 = .ok (.iconst 1, 1) := by decide +kernel
theorem dX4_reachedWithout_61 : decode cX4_reachedWithout 61 = .ok (.aload_n 0, 1) := by decide +kernel
theorem dX4_reachedWithout_62 : decode cX4_reachedWithout 62 = .ok (.getfield 58, 3) := by decide +kernel
theorem dX4_reachedWithout_65 : decode cX4_reachedWithout 65 = .ok (.iload 5, 2) := by decide +kernel
theorem dX4_reachedWithout_67 : decode cX4_reachedWithout 67 = .ok (.iaload, 1) := by decide +kernel
theorem dX4_reachedWithout_68 : decode cX4_reachedWithout 68 = .ok (.ishl, 1) := by decide +kernel
theorem dX4_reachedWithout_69 : decode cX4_reachedWithout 69 = .ok (.iload_n 2, 1) := by decide +kernel
theorem dX4_reachedWithout_70 : decode cX4_reachedWithout 70 = .ok (.iand, 1) := by decide +kernel
theorem dX4_reachedWithout_71 : decode cX4_reachedWithout 71 = .ok (.ior, 1) := by decide +kernel
theorem dX4_reachedWithout_72 : decode cX4_reachedWithout 72 = .ok (.istore_n 3, 1) := by decide +kernel
theorem dX4_reachedWithout_73 : decode cX4_reachedWithout 73 = .ok (.iinc 5 1, 3) := by decide +kernel
theorem dX4_reachedWithout_76 : decode cX4_reachedWithout 76 = .ok (.goto (-51), 3) := by decide +kernel
theorem dX4_reachedWithout_79 : decode cX4_reachedWithout 79 = .ok (.iinc 4 1, 3) := by decide +kernel
theorem dX4_reachedWithout_82 : decode cX4_reachedWithout 82 = .ok (.goto (-69), 3) := by decide +kernel
theorem dX4_reachedWithout_85 : decode cX4_reachedWithout 85 = .ok (.iload_n 3, 1) := by decide +kernel
theorem dX4_reachedWithout_86 : decode cX4_reachedWithout 86 = .ok (.ireturn, 1) := by decide +kernel
theorem dX4_dominates_0 : decode cX4_dominates 0 = .ok (.aload_n 0, 1) := by decide +kernel
theorem dX4_dominates_1 : decode cX4_dominates 1 = .ok (.getfield 61, 3) := by decide +kernel
theorem dX4_dominates_4 : decode cX4_dominates 4 = .ok (.iload_n 2, 1) := by decide +kernel
theorem dX4_dominates_5 : decode cX4_dominates 5 = .ok (.iaload, 1) := by decide +kernel
theorem dX4_dominates_6 : decode cX4_dominates 6 = .ok (.iload_n 1, 1) := by decide +kernel
theorem dX4_dominates_7 : decode cX4_dominates 7 = .ok (.invokestatic 105, 3) := by decide +kernel
theorem dX4_dominates_10 : decode cX4_dominates 10 = .ok (.ireturn, 1) := by decide +kernel
theorem dX4_isIn_0 : decode cX4_isIn 0 = .ok (.iload_n 0, 1) := by decide +kernel
theorem dX4_isIn_1 : decode cX4_isIn 1 = .ok (.iload_n 1, 1) := by decide +kernel
theorem dX4_isIn_2 : decode cX4_isIn 2 = .ok (.ishr, 1) := by decide +kernel
theorem dX4_isIn_3 : decode cX4_isIn 3 = .ok (.iconst 1, 1) := by decide +kernel
theorem dX4_isIn_4 : decode cX4_isIn 4 = .ok (.iand, 1) := by decide +kernel
theorem dX4_isIn_5 : decode cX4_isIn 5 = .ok (.iconst 1, 1) := by decide +kernel
theorem dX4_isIn_6 : decode cX4_isIn 6 = .ok (.if_icmp .ne 7, 3) := by decide +kernel
theorem dX4_isIn_9 : decode cX4_isIn 9 = .ok (.iconst 1, 1) := by decide +kernel
theorem dX4_isIn_10 : decode cX4_isIn 10 = .ok (.goto 4, 3) := by decide +kernel
theorem dX4_isIn_13 : decode cX4_isIn 13 = .ok (.iconst 0, 1) := by decide +kernel
theorem dX4_isIn_14 : decode cX4_isIn 14 = .ok (.ireturn, 1) := by decide +kernel
theorem dX4_isAhead_0 : decode cX4_isAhead 0 = .ok (.aload_n 0, 1) := by decide +kernel
theorem dX4_isAhead_1 : decode cX4_isAhead 1 = .ok (.getfield 18, 3) := by decide +kernel
theorem dX4_isAhead_4 : decode cX4_isAhead 4 = .ok (.iload_n 1, 1) := by decide +kernel
theorem dX4_isAhead_5 : decode cX4_isAhead 5 = .ok (.iaload, 1) := by decide +kernel
theorem dX4_isAhead_6 : decode cX4_isAhead 6 = .ok (.aload_n 0, 1) := by decide +kernel
theorem dX4_isAhead_7 : decode cX4_isAhead 7 = .ok (.getfield 18, 3) := by decide +kernel
theorem dX4_isAhead_10 : decode cX4_isAhead 10 = .ok (.iload_n 2, 1) := by decide +kernel
theorem dX4_isAhead_11 : decode cX4_isAhead 11 = .ok (.iaload, 1) := by decide +kernel
theorem dX4_isAhead_12 : decode cX4_isAhead 12 = .ok (.if_icmp .ne 16, 3) := by decide +kernel
theorem dX4_isAhead_15 : decode cX4_isAhead 15 = .ok (.iload_n 1, 1) := by decide +kernel
theorem dX4_isAhead_16 : decode cX4_isAhead 16 = .ok (.iload_n 2, 1) := by decide +kernel
theorem dX4_isAhead_17 : decode cX4_isAhead 17 = .ok (.if_icmp .ge 7, 3) := by decide +kernel
theorem dX4_isAhead_20 : decode cX4_isAhead 20 = .ok (.iconst 1, 1) := by decide +kernel
theorem dX4_isAhead_21 : decode cX4_isAhead 21 = .ok (.goto 23, 3) := by decide +kernel
theorem dX4_isAhead_24 : decode cX4_isAhead 24 = .ok (.iconst 0, 1) := by decide +kernel
theorem dX4_isAhead_25 : decode cX4_isAhead 25 = .ok (.goto 19, 3) := by decide +kernel
theorem dX4_isAhead_28 : decode cX4_isAhead 28 = .ok (.aload_n 0, 1) := by decide +kernel
theorem dX4_isAhead_29 : decode cX4_isAhead 29 = .ok (.aload_n 0, 1) := by decide +kernel
theorem dX4_isAhead_30 : decode cX4_isAhead 30 = .ok (.getfield 18, 3) := by decide +kernel
theorem dX4_isAhead_33 : decode cX4_isAhead 33 = .ok (.iload_n 1, 1) := by decide +kernel
theorem dX4_isAhead_34 : decode cX4_isAhead 34 = .ok (.iaload, 1) := by decide +kernel
theorem dX4_isAhead_35 : decode cX4_isAhead 35 = .ok (.aload_n 0, 1) := by decide +kernel
theorem dX4_isAhead_36 : decode cX4_isAhead 36 = .ok (.getfield 18, 3) := by decide +kernel
theorem dX4_isAhead_39 : decode cX4_isAhead 39 = .ok (.iload_n 2, 1) := by decide +kernel
theorem dX4_isAhead_40 : decode cX4_isAhead 40 = .ok (.iaload, 1) := by decide +kernel
theorem dX4_isAhead_41 : decode cX4_isAhead 41 = .ok (.invokevirtual 89, 3) := by decide +kernel
theorem dX4_isAhead_44 : decode cX4_isAhead 44 = .ok (.ireturn, 1) := by decide +kernel
theorem dX4_armsFit_0 : decode cX4_armsFit 0 = .ok (.iconst 0, 1) := by decide +kernel
theorem dX4_armsFit_1 : decode cX4_armsFit 1 = .ok (.istore_n 2, 1) := by decide +kernel
theorem dX4_armsFit_2 : decode cX4_armsFit 2 = .ok (.iconst 3, 1) := by decide +kernel
theorem dX4_armsFit_3 : decode cX4_armsFit 3 = .ok (.iload_n 1, 1) := by decide +kernel
theorem dX4_armsFit_4 : decode cX4_armsFit 4 = .ok (.imul, 1) := by decide +kernel
theorem dX4_armsFit_5 : decode cX4_armsFit 5 = .ok (.istore_n 3, 1) := by decide +kernel
theorem dX4_armsFit_6 : decode cX4_armsFit 6 = .ok (.iload_n 3, 1) := by decide +kernel
theorem dX4_armsFit_7 : decode cX4_armsFit 7 = .ok (.iconst 3, 1) := by decide +kernel
theorem dX4_armsFit_8 : decode cX4_armsFit 8 = .ok (.iload_n 1, 1) := by decide +kernel
theorem dX4_armsFit_9 : decode cX4_armsFit 9 = .ok (.imul, 1) := by decide +kernel
theorem dX4_armsFit_10 : decode cX4_armsFit 10 = .ok (.aload_n 0, 1) := by decide +kernel
theorem dX4_armsFit_11 : decode cX4_armsFit 11 = .ok (.getfield 37, 3) := by decide +kernel
theorem dX4_armsFit_14 : decode cX4_armsFit 14 = .ok (.iload_n 1, 1) := by decide +kernel
theorem dX4_armsFit_15 : decode cX4_armsFit 15 = .ok (.iaload, 1) := by decide +kernel
theorem dX4_armsFit_16 : decode cX4_armsFit 16 = .ok (.iadd, 1) := by decide +kernel
theorem dX4_armsFit_17 : decode cX4_armsFit 17 = .ok (.if_icmp .ge 46, 3) := by decide +kernel
theorem dX4_armsFit_20 : decode cX4_armsFit 20 = .ok (.aload_n 0, 1) := by decide +kernel
theorem dX4_armsFit_21 : decode cX4_armsFit 21 = .ok (.aload_n 0, 1) := by decide +kernel
theorem dX4_armsFit_22 : decode cX4_armsFit 22 = .ok (.getfield 18, 3) := by decide +kernel
theorem dX4_armsFit_25 : decode cX4_armsFit 25 = .ok (.aload_n 0, 1) := by decide +kernel
theorem dX4_armsFit_26 : decode cX4_armsFit 26 = .ok (.getfield 43, 3) := by decide +kernel
theorem dX4_armsFit_29 : decode cX4_armsFit 29 = .ok (.iload_n 3, 1) := by decide +kernel
theorem dX4_armsFit_30 : decode cX4_armsFit 30 = .ok (.iaload, 1) := by decide +kernel
theorem dX4_armsFit_31 : decode cX4_armsFit 31 = .ok (.iaload, 1) := by decide +kernel
theorem dX4_armsFit_32 : decode cX4_armsFit 32 = .ok (.aload_n 0, 1) := by decide +kernel
theorem dX4_armsFit_33 : decode cX4_armsFit 33 = .ok (.getfield 40, 3) := by decide +kernel
theorem dX4_armsFit_36 : decode cX4_armsFit 36 = .ok (.iload_n 3, 1) := by decide +kernel
theorem dX4_armsFit_37 : decode cX4_armsFit 37 = .ok (.iaload, 1) := by decide +kernel
theorem dX4_armsFit_38 : decode cX4_armsFit 38 = .ok (.invokevirtual 89, 3) := by decide +kernel
theorem dX4_armsFit_41 : decode cX4_armsFit 41 = .ok (.ifCond .ne 5, 3) := by decide +kernel
theorem dX4_armsFit_44 : decode cX4_armsFit 44 = .ok (.iconst 0, 1) := by decide +kernel
theorem dX4_armsFit_45 : decode cX4_armsFit 45 = .ok (.ireturn, 1) := by decide +kernel
theorem dX4_armsFit_46 : decode cX4_armsFit 46 = .ok (.iload_n 2, 1) := by decide +kernel
theorem dX4_armsFit_47 : decode cX4_armsFit 47 = .ok (.iconst 1, 1) := by decide +kernel
theorem dX4_armsFit_48 : decode cX4_armsFit 48 = .ok (.aload_n 0, 1) := by decide +kernel
theorem dX4_armsFit_49 : decode cX4_armsFit 49 = .ok (.getfield 40, 3) := by decide +kernel
theorem dX4_armsFit_52 : decode cX4_armsFit 52 = .ok (.iload_n 3, 1) := by decide +kernel
theorem dX4_armsFit_53 : decode cX4_armsFit 53 = .ok (.iaload, 1) := by decide +kernel
theorem dX4_armsFit_54 : decode cX4_armsFit 54 = .ok (.ishl, 1) := by decide +kernel
theorem dX4_armsFit_55 : decode cX4_armsFit 55 = .ok (.ior, 1) := by decide +kernel
theorem dX4_armsFit_56 : decode cX4_armsFit 56 = .ok (.istore_n 2, 1) := by decide +kernel
theorem dX4_armsFit_57 : decode cX4_armsFit 57 = .ok (.iinc 3 1, 3) := by decide +kernel
theorem dX4_armsFit_60 : decode cX4_armsFit 60 = .ok (.goto (-54), 3) := by decide +kernel
theorem dX4_armsFit_63 : decode cX4_armsFit 63 = .ok (.iload_n 2, 1) := by decide +kernel
theorem dX4_armsFit_64 : decode cX4_armsFit 64 = .ok (.aload_n 0, 1) := by decide +kernel
theorem dX4_armsFit_65 : decode cX4_armsFit 65 = .ok (.aload_n 0, 1) := by decide +kernel
theorem dX4_armsFit_66 : decode cX4_armsFit 66 = .ok (.getfield 18, 3) := by decide +kernel
theorem dX4_armsFit_69 : decode cX4_armsFit 69 = .ok (.iload_n 1, 1) := by decide +kernel
theorem dX4_armsFit_70 : decode cX4_armsFit 70 = .ok (.iaload, 1) := by decide +kernel
theorem dX4_armsFit_71 : decode cX4_armsFit 71 = .ok (.invokevirtual 108, 3) := by decide +kernel
theorem dX4_armsFit_74 : decode cX4_armsFit 74 = .ok (.if_icmp .ne 7, 3) := by decide +kernel
theorem dX4_armsFit_77 : decode cX4_armsFit 77 = .ok (.iconst 1, 1) := by decide +kernel
theorem dX4_armsFit_78 : decode cX4_armsFit 78 = .ok (.goto 4, 3) := by decide +kernel
theorem dX4_armsFit_81 : decode cX4_armsFit 81 = .ok (.iconst 0, 1) := by decide +kernel
theorem dX4_armsFit_82 : decode cX4_armsFit 82 = .ok (.ireturn, 1) := by decide +kernel
theorem dX4_comingTo_0 : decode cX4_comingTo 0 = .ok (.iconst 0, 1) := by decide +kernel
theorem dX4_comingTo_1 : decode cX4_comingTo 1 = .ok (.istore_n 2, 1) := by decide +kernel
theorem dX4_comingTo_2 : decode cX4_comingTo 2 = .ok (.iconst 0, 1) := by decide +kernel
theorem dX4_comingTo_3 : decode cX4_comingTo 3 = .ok (.istore_n 3, 1) := by decide +kernel
theorem dX4_comingTo_4 : decode cX4_comingTo 4 = .ok (.iload_n 3, 1) := by decide +kernel
theorem dX4_comingTo_5 : decode cX4_comingTo 5 = .ok (.iconst 2, 1) := by decide +kernel
theorem dX4_comingTo_6 : decode cX4_comingTo 6 = .ok (.aload_n 0, 1) := by decide +kernel
theorem dX4_comingTo_7 : decode cX4_comingTo 7 = .ok (.getfield 9, 3) := by decide +kernel
theorem dX4_comingTo_10 : decode cX4_comingTo 10 = .ok (.imul, 1) := by decide +kernel
theorem dX4_comingTo_11 : decode cX4_comingTo 11 = .ok (.if_icmp .ge 27, 3) := by decide +kernel
theorem dX4_comingTo_14 : decode cX4_comingTo 14 = .ok (.aload_n 0, 1) := by decide +kernel
theorem dX4_comingTo_15 : decode cX4_comingTo 15 = .ok (.getfield 58, 3) := by decide +kernel
theorem dX4_comingTo_18 : decode cX4_comingTo 18 = .ok (.iload_n 3, 1) := by decide +kernel
theorem dX4_comingTo_19 : decode cX4_comingTo 19 = .ok (.iaload, 1) := by decide +kernel
theorem dX4_comingTo_20 : decode cX4_comingTo 20 = .ok (.iload_n 1, 1) := by decide +kernel
theorem dX4_comingTo_21 : decode cX4_comingTo 21 = .ok (.if_icmp .ne 11, 3) := by decide +kernel
theorem dX4_comingTo_24 : decode cX4_comingTo 24 = .ok (.iload_n 2, 1) := by decide +kernel
theorem dX4_comingTo_25 : decode cX4_comingTo 25 = .ok (.iconst 1, 1) := by decide +kernel
theorem dX4_comingTo_26 : decode cX4_comingTo 26 = .ok (.iload_n 3, 1) := by decide +kernel
theorem dX4_comingTo_27 : decode cX4_comingTo 27 = .ok (.iconst 2, 1) := by decide +kernel
theorem dX4_comingTo_28 : decode cX4_comingTo 28 = .ok (.idiv, 1) := by decide +kernel
theorem dX4_comingTo_29 : decode cX4_comingTo 29 = .ok (.ishl, 1) := by decide +kernel
theorem dX4_comingTo_30 : decode cX4_comingTo 30 = .ok (.ior, 1) := by decide +kernel
theorem dX4_comingTo_31 : decode cX4_comingTo 31 = .ok (.istore_n 2, 1) := by decide +kernel
theorem dX4_comingTo_32 : decode cX4_comingTo 32 = .ok (.iinc 3 1, 3) := by decide +kernel
theorem dX4_comingTo_35 : decode cX4_comingTo 35 = .ok (.goto (-31), 3) := by decide +kernel
theorem dX4_comingTo_38 : decode cX4_comingTo 38 = .ok (.iload_n 2, 1) := by decide +kernel
theorem dX4_comingTo_39 : decode cX4_comingTo 39 = .ok (.ireturn, 1) := by decide +kernel
theorem dX5_isSign_0 : decode cX5_isSign 0 = .ok (.iload_n 0, 1) := by decide +kernel
theorem dX5_isSign_1 : decode cX5_isSign 1 = .ok (.lookupswitch 85 #[(37, 83), (38, 83), (42, 83), (43, 83), (45, 83), (47, 83), (60, 83), (61, 83), (94, 83)], 83) := by decide +kernel
theorem dX5_isSign_84 : decode cX5_isSign 84 = .ok (.iconst 1, 1) := by decide +kernel
theorem dX5_isSign_85 : decode cX5_isSign 85 = .ok (.ireturn, 1) := by decide +kernel
theorem dX5_isSign_86 : decode cX5_isSign 86 = .ok (.iconst 0, 1) := by decide +kernel
theorem dX5_isSign_87 : decode cX5_isSign 87 = .ok (.ireturn, 1) := by decide +kernel
theorem dX5_traps_0 : decode cX5_traps 0 = .ok (.iload_n 1, 1) := by decide +kernel
theorem dX5_traps_1 : decode cX5_traps 1 = .ok (.ifCond .ne 19, 3) := by decide +kernel
theorem dX5_traps_4 : decode cX5_traps 4 = .ok (.iload_n 0, 1) := by decide +kernel
theorem dX5_traps_5 : decode cX5_traps 5 = .ok (.bipush 47, 2) := by decide +kernel
theorem dX5_traps_7 : decode cX5_traps 7 = .ok (.if_icmp .eq 9, 3) := by decide +kernel
theorem dX5_traps_10 : decode cX5_traps 10 = .ok (.iload_n 0, 1) := by decide +kernel
theorem dX5_traps_11 : decode cX5_traps 11 = .ok (.bipush 37, 2) := by decide +kernel
theorem dX5_traps_13 : decode cX5_traps 13 = .ok (.if_icmp .ne 7, 3) := by decide +kernel
theorem dX5_traps_16 : decode cX5_traps 16 = .ok (.iconst 1, 1) := by decide +kernel
theorem dX5_traps_17 : decode cX5_traps 17 = .ok (.goto 4, 3) := by decide +kernel
theorem dX5_traps_20 : decode cX5_traps 20 = .ok (.iconst 0, 1) := by decide +kernel
theorem dX5_traps_21 : decode cX5_traps 21 = .ok (.ireturn, 1) := by decide +kernel
theorem dX5_result_0 : decode cX5_result 0 = .ok (.iload_n 0, 1) := by decide +kernel
theorem dX5_result_1 : decode cX5_result 1 = .ok (.lookupswitch 130 #[(37, 99), (38, 111), (42, 83), (43, 75), (45, 79), (47, 87), (60, 119), (94, 115)], 75) := by decide +kernel
theorem dX5_result_76 : decode cX5_result 76 = .ok (.iload_n 1, 1) := by decide +kernel
theorem dX5_result_77 : decode cX5_result 77 = .ok (.iload_n 2, 1) := by decide +kernel
theorem dX5_result_78 : decode cX5_result 78 = .ok (.iadd, 1) := by decide +kernel
theorem dX5_result_79 : decode cX5_result 79 = .ok (.ireturn, 1) := by decide +kernel
theorem dX5_result_80 : decode cX5_result 80 = .ok (.iload_n 1, 1) := by decide +kernel
theorem dX5_result_81 : decode cX5_result 81 = .ok (.iload_n 2, 1) := by decide +kernel
theorem dX5_result_82 : decode cX5_result 82 = .ok (.isub, 1) := by decide +kernel
theorem dX5_result_83 : decode cX5_result 83 = .ok (.ireturn, 1) := by decide +kernel
theorem dX5_result_84 : decode cX5_result 84 = .ok (.iload_n 1, 1) := by decide +kernel
theorem dX5_result_85 : decode cX5_result 85 = .ok (.iload_n 2, 1) := by decide +kernel
theorem dX5_result_86 : decode cX5_result 86 = .ok (.imul, 1) := by decide +kernel
theorem dX5_result_87 : decode cX5_result 87 = .ok (.ireturn, 1) := by decide +kernel
theorem dX5_result_88 : decode cX5_result 88 = .ok (.iload_n 2, 1) := by decide +kernel
theorem dX5_result_89 : decode cX5_result 89 = .ok (.ifCond .ne 7, 3) := by decide +kernel
theorem dX5_result_92 : decode cX5_result 92 = .ok (.iconst 0, 1) := by decide +kernel
theorem dX5_result_93 : decode cX5_result 93 = .ok (.goto 6, 3) := by decide +kernel
theorem dX5_result_96 : decode cX5_result 96 = .ok (.iload_n 1, 1) := by decide +kernel
theorem dX5_result_97 : decode cX5_result 97 = .ok (.iload_n 2, 1) := by decide +kernel
theorem dX5_result_98 : decode cX5_result 98 = .ok (.idiv, 1) := by decide +kernel
theorem dX5_result_99 : decode cX5_result 99 = .ok (.ireturn, 1) := by decide +kernel
theorem dX5_result_100 : decode cX5_result 100 = .ok (.iload_n 2, 1) := by decide +kernel
theorem dX5_result_101 : decode cX5_result 101 = .ok (.ifCond .ne 7, 3) := by decide +kernel
theorem dX5_result_104 : decode cX5_result 104 = .ok (.iconst 0, 1) := by decide +kernel
theorem dX5_result_105 : decode cX5_result 105 = .ok (.goto 6, 3) := by decide +kernel
theorem dX5_result_108 : decode cX5_result 108 = .ok (.iload_n 1, 1) := by decide +kernel
theorem dX5_result_109 : decode cX5_result 109 = .ok (.iload_n 2, 1) := by decide +kernel
theorem dX5_result_110 : decode cX5_result 110 = .ok (.irem, 1) := by decide +kernel
theorem dX5_result_111 : decode cX5_result 111 = .ok (.ireturn, 1) := by decide +kernel
theorem dX5_result_112 : decode cX5_result 112 = .ok (.iload_n 1, 1) := by decide +kernel
theorem dX5_result_113 : decode cX5_result 113 = .ok (.iload_n 2, 1) := by decide +kernel
theorem dX5_result_114 : decode cX5_result 114 = .ok (.iand, 1) := by decide +kernel
theorem dX5_result_115 : decode cX5_result 115 = .ok (.ireturn, 1) := by decide +kernel
theorem dX5_result_116 : decode cX5_result 116 = .ok (.iload_n 1, 1) := by decide +kernel
theorem dX5_result_117 : decode cX5_result 117 = .ok (.iload_n 2, 1) := by decide +kernel
theorem dX5_result_118 : decode cX5_result 118 = .ok (.ixor, 1) := by decide +kernel
theorem dX5_result_119 : decode cX5_result 119 = .ok (.ireturn, 1) := by decide +kernel
theorem dX5_result_120 : decode cX5_result 120 = .ok (.iload_n 1, 1) := by decide +kernel
theorem dX5_result_121 : decode cX5_result 121 = .ok (.iload_n 2, 1) := by decide +kernel
theorem dX5_result_122 : decode cX5_result 122 = .ok (.if_icmp .ge 7, 3) := by decide +kernel
theorem dX5_result_125 : decode cX5_result 125 = .ok (.iconst 1, 1) := by decide +kernel
theorem dX5_result_126 : decode cX5_result 126 = .ok (.goto 4, 3) := by decide +kernel
theorem dX5_result_129 : decode cX5_result 129 = .ok (.iconst 0, 1) := by decide +kernel
theorem dX5_result_130 : decode cX5_result 130 = .ok (.ireturn, 1) := by decide +kernel
theorem dX5_result_131 : decode cX5_result 131 = .ok (.iload_n 1, 1) := by decide +kernel
theorem dX5_result_132 : decode cX5_result 132 = .ok (.iload_n 2, 1) := by decide +kernel
theorem dX5_result_133 : decode cX5_result 133 = .ok (.if_icmp .ne 7, 3) := by decide +kernel
theorem dX5_result_136 : decode cX5_result 136 = .ok (.iconst 1, 1) := by decide +kernel
theorem dX5_result_137 : decode cX5_result 137 = .ok (.goto 4, 3) := by decide +kernel
theorem dX5_result_140 : decode cX5_result 140 = .ok (.iconst 0, 1) := by decide +kernel
theorem dX5_result_141 : decode cX5_result 141 = .ok (.ireturn, 1) := by decide +kernel
theorem dX5_side_0 : decode cX5_side 0 = .ok (.iload_n 0, 1) := by decide +kernel
theorem dX5_side_1 : decode cX5_side 1 = .ok (.ifCond .eq 7, 3) := by decide +kernel
theorem dX5_side_4 : decode cX5_side 4 = .ok (.iconst 0, 1) := by decide +kernel
theorem dX5_side_5 : decode cX5_side 5 = .ok (.goto 4, 3) := by decide +kernel
theorem dX5_side_8 : decode cX5_side 8 = .ok (.iconst 1, 1) := by decide +kernel
theorem dX5_side_9 : decode cX5_side 9 = .ok (.ireturn, 1) := by decide +kernel
theorem dX6_init_0 : decode cX6_init 0 = .ok (.aload_n 0, 1) := by decide +kernel
theorem dX6_init_1 : decode cX6_init 1 = .ok (.invokespecial 3, 3) := by decide +kernel
theorem dX6_init_4 : decode cX6_init 4 = .ok (.aload_n 0, 1) := by decide +kernel
theorem dX6_init_5 : decode cX6_init 5 = .ok (.sipush 150, 3) := by decide +kernel
theorem dX6_init_8 : decode cX6_init 8 = .ok (.newarray .int, 2) := by decide +kernel
theorem dX6_init_10 : decode cX6_init 10 = .ok (.putfield 9, 3) := by decide +kernel
theorem dX6_init_13 : decode cX6_init 13 = .ok (.aload_n 0, 1) := by decide +kernel
theorem dX6_init_14 : decode cX6_init 14 = .ok (.iconst 0, 1) := by decide +kernel
theorem dX6_init_15 : decode cX6_init 15 = .ok (.putfield 15, 3) := by decide +kernel
theorem dX6_init_18 : decode cX6_init 18 = .ok (.aload_n 0, 1) := by decide +kernel
theorem dX6_init_19 : decode cX6_init 19 = .ok (.iconst 0, 1) := by decide +kernel
theorem dX6_init_20 : decode cX6_init 20 = .ok (.putfield 19, 3) := by decide +kernel
theorem dX6_init_23 : decode cX6_init 23 = .ok (.aload_n 0, 1) := by decide +kernel
theorem dX6_init_24 : decode cX6_init 24 = .ok (.iconst 0, 1) := by decide +kernel
theorem dX6_init_25 : decode cX6_init 25 = .ok (.putfield 22, 3) := by decide +kernel
theorem dX6_init_28 : decode cX6_init 28 = .ok (.aload_n 0, 1) := by decide +kernel
theorem dX6_init_29 : decode cX6_init 29 = .ok (.iconst 0, 1) := by decide +kernel
theorem dX6_init_30 : decode cX6_init 30 = .ok (.putfield 25, 3) := by decide +kernel
theorem dX6_init_33 : decode cX6_init 33 = .ok (.aload_n 0, 1) := by decide +kernel
theorem dX6_init_34 : decode cX6_init 34 = .ok (.iconst 0, 1) := by decide +kernel
theorem dX6_init_35 : decode cX6_init 35 = .ok (.putfield 28, 3) := by decide +kernel
theorem dX6_init_38 : decode cX6_init 38 = .ok (.aload_n 0, 1) := by decide +kernel
theorem dX6_init_39 : decode cX6_init 39 = .ok (.iconst 0, 1) := by decide +kernel
theorem dX6_init_40 : decode cX6_init 40 = .ok (.putfield 31, 3) := by decide +kernel
theorem dX6_init_43 : decode cX6_init 43 = .ok (.return_, 1) := by decide +kernel
theorem dX6_rewind_0 : decode cX6_rewind 0 = .ok (.aload_n 0, 1) := by decide +kernel
theorem dX6_rewind_1 : decode cX6_rewind 1 = .ok (.iconst 0, 1) := by decide +kernel
theorem dX6_rewind_2 : decode cX6_rewind 2 = .ok (.putfield 31, 3) := by decide +kernel
theorem dX6_rewind_5 : decode cX6_rewind 5 = .ok (.aload_n 0, 1) := by decide +kernel
theorem dX6_rewind_6 : decode cX6_rewind 6 = .ok (.iconst 0, 1) := by decide +kernel
theorem dX6_rewind_7 : decode cX6_rewind 7 = .ok (.putfield 25, 3) := by decide +kernel
theorem dX6_rewind_10 : decode cX6_rewind 10 = .ok (.aload_n 0, 1) := by decide +kernel
theorem dX6_rewind_11 : decode cX6_rewind 11 = .ok (.invokevirtual 35, 3) := by decide +kernel
theorem dX6_rewind_14 : decode cX6_rewind 14 = .ok (.return_, 1) := by decide +kernel
theorem dX6_step_0 : decode cX6_step 0 = .ok (.aload_n 0, 1) := by decide +kernel
theorem dX6_step_1 : decode cX6_step 1 = .ok (.getfield 25, 3) := by decide +kernel
theorem dX6_step_4 : decode cX6_step 4 = .ok (.aload_n 0, 1) := by decide +kernel
theorem dX6_step_5 : decode cX6_step 5 = .ok (.getfield 15, 3) := by decide +kernel
theorem dX6_step_8 : decode cX6_step 8 = .ok (.if_icmp .ge 30, 3) := by decide +kernel
theorem dX6_step_11 : decode cX6_step 11 = .ok (.aload_n 0, 1) := by decide +kernel
theorem dX6_step_12 : decode cX6_step 12 = .ok (.getfield 9, 3) := by decide +kernel
theorem dX6_step_15 : decode cX6_step 15 = .ok (.aload_n 0, 1) := by decide +kernel
theorem dX6_step_16 : decode cX6_step 16 = .ok (.getfield 25, 3) := by decide +kernel
theorem dX6_step_19 : decode cX6_step 19 = .ok (.iaload, 1) := by decide +kernel
theorem dX6_step_20 : decode cX6_step 20 = .ok (.bipush 32, 2) := by decide +kernel
theorem dX6_step_22 : decode cX6_step 22 = .ok (.if_icmp .ne 16, 3) := by decide +kernel
theorem dX6_step_25 : decode cX6_step 25 = .ok (.aload_n 0, 1) := by decide +kernel
theorem dX6_step_26 : decode cX6_step 26 = .ok (.dup, 1) := by decide +kernel
theorem dX6_step_27 : decode cX6_step 27 = .ok (.getfield 25, 3) := by decide +kernel
theorem dX6_step_30 : decode cX6_step 30 = .ok (.iconst 1, 1) := by decide +kernel
theorem dX6_step_31 : decode cX6_step 31 = .ok (.iadd, 1) := by decide +kernel
theorem dX6_step_32 : decode cX6_step 32 = .ok (.putfield 25, 3) := by decide +kernel
theorem dX6_step_35 : decode cX6_step 35 = .ok (.goto (-35), 3) := by decide +kernel
theorem dX6_step_38 : decode cX6_step 38 = .ok (.aload_n 0, 1) := by decide +kernel
theorem dX6_step_39 : decode cX6_step 39 = .ok (.aload_n 0, 1) := by decide +kernel
theorem dX6_step_40 : decode cX6_step 40 = .ok (.getfield 25, 3) := by decide +kernel
theorem dX6_step_43 : decode cX6_step 43 = .ok (.putfield 22, 3) := by decide +kernel
theorem dX6_step_46 : decode cX6_step 46 = .ok (.aload_n 0, 1) := by decide +kernel
theorem dX6_step_47 : decode cX6_step 47 = .ok (.iconst 0, 1) := by decide +kernel
theorem dX6_step_48 : decode cX6_step 48 = .ok (.putfield 28, 3) := by decide +kernel
theorem dX6_step_51 : decode cX6_step 51 = .ok (.aload_n 0, 1) := by decide +kernel
theorem dX6_step_52 : decode cX6_step 52 = .ok (.getfield 22, 3) := by decide +kernel
theorem dX6_step_55 : decode cX6_step 55 = .ok (.aload_n 0, 1) := by decide +kernel
theorem dX6_step_56 : decode cX6_step 56 = .ok (.getfield 15, 3) := by decide +kernel
theorem dX6_step_59 : decode cX6_step 59 = .ok (.if_icmp .lt 9, 3) := by decide +kernel
theorem dX6_step_62 : decode cX6_step 62 = .ok (.aload_n 0, 1) := by decide +kernel
theorem dX6_step_63 : decode cX6_step 63 = .ok (.iconst 0, 1) := by decide +kernel
theorem dX6_step_64 : decode cX6_step 64 = .ok (.putfield 19, 3) := by decide +kernel
theorem dX6_step_67 : decode cX6_step 67 = .ok (.return_, 1) := by decide +kernel
theorem dX6_step_68 : decode cX6_step 68 = .ok (.aload_n 0, 1) := by decide +kernel
theorem dX6_step_69 : decode cX6_step 69 = .ok (.dup, 1) := by decide +kernel
theorem dX6_step_70 : decode cX6_step 70 = .ok (.getfield 25, 3) := by decide +kernel
theorem dX6_step_73 : decode cX6_step 73 = .ok (.iconst 1, 1) := by decide +kernel
theorem dX6_step_74 : decode cX6_step 74 = .ok (.iadd, 1) := by decide +kernel
theorem dX6_step_75 : decode cX6_step 75 = .ok (.putfield 25, 3) := by decide +kernel
theorem dX6_step_78 : decode cX6_step 78 = .ok (.aload_n 0, 1) := by decide +kernel
theorem dX6_step_79 : decode cX6_step 79 = .ok (.getfield 9, 3) := by decide +kernel
theorem dX6_step_82 : decode cX6_step 82 = .ok (.aload_n 0, 1) := by decide +kernel
theorem dX6_step_83 : decode cX6_step 83 = .ok (.getfield 22, 3) := by decide +kernel
theorem dX6_step_86 : decode cX6_step 86 = .ok (.iaload, 1) := by decide +kernel
theorem dX6_step_87 : decode cX6_step 87 = .ok (.istore_n 1, 1) := by decide +kernel
theorem dX6_step_88 : decode cX6_step 88 = .ok (.iload_n 1, 1) := by decide +kernel
theorem dX6_step_89 : decode cX6_step 89 = .ok (.bipush 97, 2) := by decide +kernel
theorem dX6_step_91 : decode cX6_step 91 = .ok (.if_icmp .lt 17, 3) := by decide +kernel
theorem dX6_step_94 : decode cX6_step 94 = .ok (.iload_n 1, 1) := by decide +kernel
theorem dX6_step_95 : decode cX6_step 95 = .ok (.bipush 122, 2) := by decide +kernel
theorem dX6_step_97 : decode cX6_step 97 = .ok (.if_icmp .gt 11, 3) := by decide +kernel
theorem dX6_step_100 : decode cX6_step 100 = .ok (.aload_n 0, 1) := by decide +kernel
theorem dX6_step_101 : decode cX6_step 101 = .ok (.iload_n 1, 1) := by decide +kernel
theorem dX6_step_102 : decode cX6_step 102 = .ok (.invokevirtual 38, 3) := by decide +kernel
theorem dX6_step_105 : decode cX6_step 105 = .ok (.goto 61, 3) := by decide +kernel
theorem dX6_step_108 : decode cX6_step 108 = .ok (.iload_n 1, 1) := by decide +kernel
theorem dX6_step_109 : decode cX6_step 109 = .ok (.bipush 48, 2) := by decide +kernel
theorem dX6_step_111 : decode cX6_step 111 = .ok (.if_icmp .lt 20, 3) := by decide +kernel
theorem dX6_step_114 : decode cX6_step 114 = .ok (.iload_n 1, 1) := by decide +kernel
theorem dX6_step_115 : decode cX6_step 115 = .ok (.bipush 57, 2) := by decide +kernel
theorem dX6_step_117 : decode cX6_step 117 = .ok (.if_icmp .gt 14, 3) := by decide +kernel
theorem dX6_step_120 : decode cX6_step 120 = .ok (.aload_n 0, 1) := by decide +kernel
theorem dX6_step_121 : decode cX6_step 121 = .ok (.iload_n 1, 1) := by decide +kernel
theorem dX6_step_122 : decode cX6_step 122 = .ok (.bipush 48, 2) := by decide +kernel
theorem dX6_step_124 : decode cX6_step 124 = .ok (.isub, 1) := by decide +kernel
theorem dX6_step_125 : decode cX6_step 125 = .ok (.invokevirtual 42, 3) := by decide +kernel
theorem dX6_step_128 : decode cX6_step 128 = .ok (.goto 38, 3) := by decide +kernel
theorem dX6_step_131 : decode cX6_step 131 = .ok (.iload_n 1, 1) := by decide +kernel
theorem dX6_step_132 : decode cX6_step 132 = .ok (.invokestatic 45, 3) := by decide +kernel
theorem dX6_step_135 : decode cX6_step 135 = .ok (.ifCond .eq 16, 3) := by decide +kernel
theorem dX6_step_138 : decode cX6_step 138 = .ok (.aload_n 0, 1) := by decide +kernel
theorem dX6_step_139 : decode cX6_step 139 = .ok (.iconst 3, 1) := by decide +kernel
theorem dX6_step_140 : decode cX6_step 140 = .ok (.putfield 19, 3) := by decide +kernel
theorem dX6_step_143 : decode cX6_step 143 = .ok (.aload_n 0, 1) := by decide +kernel
theorem dX6_step_144 : decode cX6_step 144 = .ok (.iload_n 1, 1) := by decide +kernel
theorem dX6_step_145 : decode cX6_step 145 = .ok (.putfield 28, 3) := by decide +kernel
theorem dX6_step_148 : decode cX6_step 148 = .ok (.goto 18, 3) := by decide +kernel
theorem dX6_step_151 : decode cX6_step 151 = .ok (.aload_n 0, 1) := by decide +kernel
theorem dX6_step_152 : decode cX6_step 152 = .ok (.iload_n 1, 1) := by decide +kernel
theorem dX6_step_153 : decode cX6_step 153 = .ok (.bipush 59, 2) := by decide +kernel
theorem dX6_step_155 : decode cX6_step 155 = .ok (.if_icmp .ne 7, 3) := by decide +kernel
theorem dX6_step_158 : decode cX6_step 158 = .ok (.iconst 4, 1) := by decide +kernel
theorem dX6_step_159 : decode cX6_step 159 = .ok (.goto 4, 3) := by decide +kernel
theorem dX6_step_162 : decode cX6_step 162 = .ok (.iconst 5, 1) := by decide +kernel
theorem dX6_step_163 : decode cX6_step 163 = .ok (.putfield 19, 3) := by decide +kernel
theorem dX6_step_166 : decode cX6_step 166 = .ok (.return_, 1) := by decide +kernel
theorem dX6_readLetters_0 : decode cX6_readLetters 0 = .ok (.aload_n 0, 1) := by decide +kernel
theorem dX6_readLetters_1 : decode cX6_readLetters 1 = .ok (.iconst 1, 1) := by decide +kernel
theorem dX6_readLetters_2 : decode cX6_readLetters 2 = .ok (.putfield 19, 3) := by decide +kernel
theorem dX6_readLetters_5 : decode cX6_readLetters 5 = .ok (.aload_n 0, 1) := by decide +kernel
theorem dX6_readLetters_6 : decode cX6_readLetters 6 = .ok (.iload_n 1, 1) := by decide +kernel
theorem dX6_readLetters_7 : decode cX6_readLetters 7 = .ok (.putfield 28, 3) := by decide +kernel
theorem dX6_readLetters_10 : decode cX6_readLetters 10 = .ok (.aload_n 0, 1) := by decide +kernel
theorem dX6_readLetters_11 : decode cX6_readLetters 11 = .ok (.getfield 25, 3) := by decide +kernel
theorem dX6_readLetters_14 : decode cX6_readLetters 14 = .ok (.aload_n 0, 1) := by decide +kernel
theorem dX6_readLetters_15 : decode cX6_readLetters 15 = .ok (.getfield 15, 3) := by decide +kernel
theorem dX6_readLetters_18 : decode cX6_readLetters 18 = .ok (.if_icmp .ge 49, 3) := by decide +kernel
theorem dX6_readLetters_21 : decode cX6_readLetters 21 = .ok (.aload_n 0, 1) := by decide +kernel
theorem dX6_readLetters_22 : decode cX6_readLetters 22 = .ok (.getfield 9, 3) := by decide +kernel
theorem dX6_readLetters_25 : decode cX6_readLetters 25 = .ok (.aload_n 0, 1) := by decide +kernel
theorem dX6_readLetters_26 : decode cX6_readLetters 26 = .ok (.getfield 25, 3) := by decide +kernel
theorem dX6_readLetters_29 : decode cX6_readLetters 29 = .ok (.iaload, 1) := by decide +kernel
theorem dX6_readLetters_30 : decode cX6_readLetters 30 = .ok (.bipush 97, 2) := by decide +kernel
theorem dX6_readLetters_32 : decode cX6_readLetters 32 = .ok (.if_icmp .lt 35, 3) := by decide +kernel
theorem dX6_readLetters_35 : decode cX6_readLetters 35 = .ok (.aload_n 0, 1) := by decide +kernel
theorem dX6_readLetters_36 : decode cX6_readLetters 36 = .ok (.getfield 9, 3) := by decide +kernel
theorem dX6_readLetters_39 : decode cX6_readLetters 39 = .ok (.aload_n 0, 1) := by decide +kernel
theorem dX6_readLetters_40 : decode cX6_readLetters 40 = .ok (.getfield 25, 3) := by decide +kernel
theorem dX6_readLetters_43 : decode cX6_readLetters 43 = .ok (.iaload, 1) := by decide +kernel
theorem dX6_readLetters_44 : decode cX6_readLetters 44 = .ok (.bipush 122, 2) := by decide +kernel
theorem dX6_readLetters_46 : decode cX6_readLetters 46 = .ok (.if_icmp .gt 21, 3) := by decide +kernel
theorem dX6_readLetters_49 : decode cX6_readLetters 49 = .ok (.aload_n 0, 1) := by decide +kernel
theorem dX6_readLetters_50 : decode cX6_readLetters 50 = .ok (.iconst 0, 1) := by decide +kernel
theorem dX6_readLetters_51 : decode cX6_readLetters 51 = .ok (.putfield 28, 3) := by decide +kernel
theorem dX6_readLetters_54 : decode cX6_readLetters 54 = .ok (.aload_n 0, 1) := by decide +kernel
theorem dX6_readLetters_55 : decode cX6_readLetters 55 = .ok (.dup, 1) := by decide +kernel
theorem dX6_readLetters_56 : decode cX6_readLetters 56 = .ok (.getfield 25, 3) := by decide +kernel
theorem dX6_readLetters_59 : decode cX6_readLetters 59 = .ok (.iconst 1, 1) := by decide +kernel
theorem dX6_readLetters_60 : decode cX6_readLetters 60 = .ok (.iadd, 1) := by decide +kernel
theorem dX6_readLetters_61 : decode cX6_readLetters 61 = .ok (.putfield 25, 3) := by decide +kernel
theorem dX6_readLetters_64 : decode cX6_readLetters 64 = .ok (.goto (-54), 3) := by decide +kernel
theorem dX6_readLetters_67 : decode cX6_readLetters 67 = .ok (.return_, 1) := by decide +kernel
theorem dX6_readNumeral_0 : decode cX6_readNumeral 0 = .ok (.aload_n 0, 1) := by decide +kernel
theorem dX6_readNumeral_1 : decode cX6_readNumeral 1 = .ok (.iconst 2, 1) := by decide +kernel
theorem dX6_readNumeral_2 : decode cX6_readNumeral 2 = .ok (.putfield 19, 3) := by decide +kernel
theorem dX6_readNumeral_5 : decode cX6_readNumeral 5 = .ok (.aload_n 0, 1) := by decide +kernel
theorem dX6_readNumeral_6 : decode cX6_readNumeral 6 = .ok (.iload_n 1, 1) := by decide +kernel
theorem dX6_readNumeral_7 : decode cX6_readNumeral 7 = .ok (.putfield 28, 3) := by decide +kernel
theorem dX6_readNumeral_10 : decode cX6_readNumeral 10 = .ok (.aload_n 0, 1) := by decide +kernel
theorem dX6_readNumeral_11 : decode cX6_readNumeral 11 = .ok (.getfield 25, 3) := by decide +kernel
theorem dX6_readNumeral_14 : decode cX6_readNumeral 14 = .ok (.aload_n 0, 1) := by decide +kernel
theorem dX6_readNumeral_15 : decode cX6_readNumeral 15 = .ok (.getfield 15, 3) := by decide +kernel
theorem dX6_readNumeral_18 : decode cX6_readNumeral 18 = .ok (.if_icmp .ge 90, 3) := by decide +kernel
theorem dX6_readNumeral_21 : decode cX6_readNumeral 21 = .ok (.aload_n 0, 1) := by decide +kernel
theorem dX6_readNumeral_22 : decode cX6_readNumeral 22 = .ok (.getfield 9, 3) := by decide +kernel
theorem dX6_readNumeral_25 : decode cX6_readNumeral 25 = .ok (.aload_n 0, 1) := by decide +kernel
theorem dX6_readNumeral_26 : decode cX6_readNumeral 26 = .ok (.getfield 25, 3) := by decide +kernel
theorem dX6_readNumeral_29 : decode cX6_readNumeral 29 = .ok (.iaload, 1) := by decide +kernel
theorem dX6_readNumeral_30 : decode cX6_readNumeral 30 = .ok (.bipush 48, 2) := by decide +kernel
theorem dX6_readNumeral_32 : decode cX6_readNumeral 32 = .ok (.if_icmp .lt 76, 3) := by decide +kernel
theorem dX6_readNumeral_35 : decode cX6_readNumeral 35 = .ok (.aload_n 0, 1) := by decide +kernel
theorem dX6_readNumeral_36 : decode cX6_readNumeral 36 = .ok (.getfield 9, 3) := by decide +kernel
theorem dX6_readNumeral_39 : decode cX6_readNumeral 39 = .ok (.aload_n 0, 1) := by decide +kernel
theorem dX6_readNumeral_40 : decode cX6_readNumeral 40 = .ok (.getfield 25, 3) := by decide +kernel
theorem dX6_readNumeral_43 : decode cX6_readNumeral 43 = .ok (.iaload, 1) := by decide +kernel
theorem dX6_readNumeral_44 : decode cX6_readNumeral 44 = .ok (.bipush 57, 2) := by decide +kernel
theorem dX6_readNumeral_46 : decode cX6_readNumeral 46 = .ok (.if_icmp .gt 62, 3) := by decide +kernel
theorem dX6_readNumeral_49 : decode cX6_readNumeral 49 = .ok (.aload_n 0, 1) := by decide +kernel
theorem dX6_readNumeral_50 : decode cX6_readNumeral 50 = .ok (.getfield 28, 3) := by decide +kernel
theorem dX6_readNumeral_53 : decode cX6_readNumeral 53 = .ok (.ifCond .ne 8, 3) := by decide +kernel
theorem dX6_readNumeral_56 : decode cX6_readNumeral 56 = .ok (.aload_n 0, 1) := by decide +kernel
theorem dX6_readNumeral_57 : decode cX6_readNumeral 57 = .ok (.iconst 5, 1) := by decide +kernel
theorem dX6_readNumeral_58 : decode cX6_readNumeral 58 = .ok (.putfield 19, 3) := by decide +kernel
theorem dX6_readNumeral_61 : decode cX6_readNumeral 61 = .ok (.aload_n 0, 1) := by decide +kernel
theorem dX6_readNumeral_62 : decode cX6_readNumeral 62 = .ok (.getfield 28, 3) := by decide +kernel
theorem dX6_readNumeral_65 : decode cX6_readNumeral 65 = .ok (.sipush 999, 3) := by decide +kernel
theorem dX6_readNumeral_68 : decode cX6_readNumeral 68 = .ok (.if_icmp .gt 27, 3) := by decide +kernel
theorem dX6_readNumeral_71 : decode cX6_readNumeral 71 = .ok (.aload_n 0, 1) := by decide +kernel
theorem dX6_readNumeral_72 : decode cX6_readNumeral 72 = .ok (.bipush 10, 2) := by decide +kernel
theorem dX6_readNumeral_74 : decode cX6_readNumeral 74 = .ok (.aload_n 0, 1) := by decide +kernel
theorem dX6_readNumeral_75 : decode cX6_readNumeral 75 = .ok (.getfield 28, 3) := by decide +kernel
theorem dX6_readNumeral_78 : decode cX6_readNumeral 78 = .ok (.imul, 1) := by decide +kernel
theorem dX6_readNumeral_79 : decode cX6_readNumeral 79 = .ok (.aload_n 0, 1) := by decide +kernel
theorem dX6_readNumeral_80 : decode cX6_readNumeral 80 = .ok (.getfield 9, 3) := by decide +kernel
theorem dX6_readNumeral_83 : decode cX6_readNumeral 83 = .ok (.aload_n 0, 1) := by decide +kernel
theorem dX6_readNumeral_84 : decode cX6_readNumeral 84 = .ok (.getfield 25, 3) := by decide +kernel
theorem dX6_readNumeral_87 : decode cX6_readNumeral 87 = .ok (.iaload, 1) := by decide +kernel
theorem dX6_readNumeral_88 : decode cX6_readNumeral 88 = .ok (.iadd, 1) := by decide +kernel
theorem dX6_readNumeral_89 : decode cX6_readNumeral 89 = .ok (.bipush 48, 2) := by decide +kernel
theorem dX6_readNumeral_91 : decode cX6_readNumeral 91 = .ok (.isub, 1) := by decide +kernel
theorem dX6_readNumeral_92 : decode cX6_readNumeral 92 = .ok (.putfield 28, 3) := by decide +kernel
theorem dX6_readNumeral_95 : decode cX6_readNumeral 95 = .ok (.aload_n 0, 1) := by decide +kernel
theorem dX6_readNumeral_96 : decode cX6_readNumeral 96 = .ok (.dup, 1) := by decide +kernel
theorem dX6_readNumeral_97 : decode cX6_readNumeral 97 = .ok (.getfield 25, 3) := by decide +kernel
theorem dX6_readNumeral_100 : decode cX6_readNumeral 100 = .ok (.iconst 1, 1) := by decide +kernel
theorem dX6_readNumeral_101 : decode cX6_readNumeral 101 = .ok (.iadd, 1) := by decide +kernel
theorem dX6_readNumeral_102 : decode cX6_readNumeral 102 = .ok (.putfield 25, 3) := by decide +kernel
theorem dX6_readNumeral_105 : decode cX6_readNumeral 105 = .ok (.goto (-95), 3) := by decide +kernel
theorem dX6_readNumeral_108 : decode cX6_readNumeral 108 = .ok (.aload_n 0, 1) := by decide +kernel
theorem dX6_readNumeral_109 : decode cX6_readNumeral 109 = .ok (.getfield 28, 3) := by decide +kernel
end
section
theorem dX6_readNumeral_112 : decode cX6_readNumeral 112 = .ok (.sipush 999, 3) := by decide +kernel
theorem dX6_readNumeral_115 : decode cX6_readNumeral 115 = .ok (.if_icmp .le 8, 3) := by decide +kernel
theorem dX6_readNumeral_118 : decode cX6_readNumeral 118 = .ok (.aload_n 0, 1) := by decide +kernel
theorem dX6_readNumeral_119 : decode cX6_readNumeral 119 = .ok (.iconst 5, 1) := by decide +kernel
theorem dX6_readNumeral_120 : decode cX6_readNumeral 120 = .ok (.putfield 19, 3) := by decide +kernel
theorem dX6_readNumeral_123 : decode cX6_readNumeral 123 = .ok (.return_, 1) := by decide +kernel
theorem dX6_hasMore_0 : decode cX6_hasMore 0 = .ok (.aload_n 0, 1) := by decide +kernel
theorem dX6_hasMore_1 : decode cX6_hasMore 1 = .ok (.getfield 31, 3) := by decide +kernel
theorem dX6_hasMore_4 : decode cX6_hasMore 4 = .ok (.ifCond .ne 14, 3) := by decide +kernel
theorem dX6_hasMore_7 : decode cX6_hasMore 7 = .ok (.aload_n 0, 1) := by decide +kernel
theorem dX6_hasMore_8 : decode cX6_hasMore 8 = .ok (.getfield 19, 3) := by decide +kernel
theorem dX6_hasMore_11 : decode cX6_hasMore 11 = .ok (.ifCond .eq 7, 3) := by decide +kernel
theorem dX6_hasMore_14 : decode cX6_hasMore 14 = .ok (.iconst 1, 1) := by decide +kernel
theorem dX6_hasMore_15 : decode cX6_hasMore 15 = .ok (.goto 4, 3) := by decide +kernel
theorem dX6_hasMore_18 : decode cX6_hasMore 18 = .ok (.iconst 0, 1) := by decide +kernel
theorem dX6_hasMore_19 : decode cX6_hasMore 19 = .ok (.ireturn, 1) := by decide +kernel
theorem dX6_take_0 : decode cX6_take 0 = .ok (.aload_n 0, 1) := by decide +kernel
theorem dX6_take_1 : decode cX6_take 1 = .ok (.getfield 31, 3) := by decide +kernel
theorem dX6_take_4 : decode cX6_take 4 = .ok (.ifCond .ne 11, 3) := by decide +kernel
theorem dX6_take_7 : decode cX6_take 7 = .ok (.aload_n 0, 1) := by decide +kernel
theorem dX6_take_8 : decode cX6_take 8 = .ok (.getfield 19, 3) := by decide +kernel
theorem dX6_take_11 : decode cX6_take 11 = .ok (.iload_n 1, 1) := by decide +kernel
theorem dX6_take_12 : decode cX6_take 12 = .ok (.if_icmp .eq 10, 3) := by decide +kernel
theorem dX6_take_15 : decode cX6_take 15 = .ok (.aload_n 0, 1) := by decide +kernel
theorem dX6_take_16 : decode cX6_take 16 = .ok (.iconst 1, 1) := by decide +kernel
theorem dX6_take_17 : decode cX6_take 17 = .ok (.putfield 31, 3) := by decide +kernel
theorem dX6_take_20 : decode cX6_take 20 = .ok (.iconst 0, 1) := by decide +kernel
theorem dX6_take_21 : decode cX6_take 21 = .ok (.ireturn, 1) := by decide +kernel
theorem dX6_take_22 : decode cX6_take 22 = .ok (.aload_n 0, 1) := by decide +kernel
theorem dX6_take_23 : decode cX6_take 23 = .ok (.getfield 28, 3) := by decide +kernel
theorem dX6_take_26 : decode cX6_take 26 = .ok (.istore_n 2, 1) := by decide +kernel
theorem dX6_take_27 : decode cX6_take 27 = .ok (.aload_n 0, 1) := by decide +kernel
theorem dX6_take_28 : decode cX6_take 28 = .ok (.invokevirtual 35, 3) := by decide +kernel
theorem dX6_take_31 : decode cX6_take 31 = .ok (.iload_n 2, 1) := by decide +kernel
theorem dX6_take_32 : decode cX6_take 32 = .ok (.ireturn, 1) := by decide +kernel
theorem dX6_takeNumeralBelow_0 : decode cX6_takeNumeralBelow 0 = .ok (.aload_n 0, 1) := by decide +kernel
theorem dX6_takeNumeralBelow_1 : decode cX6_takeNumeralBelow 1 = .ok (.getfield 28, 3) := by decide +kernel
theorem dX6_takeNumeralBelow_4 : decode cX6_takeNumeralBelow 4 = .ok (.iload_n 1, 1) := by decide +kernel
theorem dX6_takeNumeralBelow_5 : decode cX6_takeNumeralBelow 5 = .ok (.if_icmp .lt 8, 3) := by decide +kernel
theorem dX6_takeNumeralBelow_8 : decode cX6_takeNumeralBelow 8 = .ok (.aload_n 0, 1) := by decide +kernel
theorem dX6_takeNumeralBelow_9 : decode cX6_takeNumeralBelow 9 = .ok (.iconst 1, 1) := by decide +kernel
theorem dX6_takeNumeralBelow_10 : decode cX6_takeNumeralBelow 10 = .ok (.putfield 31, 3) := by decide +kernel
theorem dX6_takeNumeralBelow_13 : decode cX6_takeNumeralBelow 13 = .ok (.aload_n 0, 1) := by decide +kernel
theorem dX6_takeNumeralBelow_14 : decode cX6_takeNumeralBelow 14 = .ok (.iconst 2, 1) := by decide +kernel
theorem dX6_takeNumeralBelow_15 : decode cX6_takeNumeralBelow 15 = .ok (.invokevirtual 51, 3) := by decide +kernel
theorem dX6_takeNumeralBelow_18 : decode cX6_takeNumeralBelow 18 = .ok (.ireturn, 1) := by decide +kernel
theorem dX7_init_0 : decode cX7_init 0 = .ok (.aload_n 0, 1) := by decide +kernel
theorem dX7_init_1 : decode cX7_init 1 = .ok (.invokespecial 3, 3) := by decide +kernel
theorem dX7_init_4 : decode cX7_init 4 = .ok (.aload_n 0, 1) := by decide +kernel
theorem dX7_init_5 : decode cX7_init 5 = .ok (.iconst 2, 1) := by decide +kernel
theorem dX7_init_6 : decode cX7_init 6 = .ok (.putfield 11, 3) := by decide +kernel
theorem dX7_init_9 : decode cX7_init 9 = .ok (.aload_n 0, 1) := by decide +kernel
theorem dX7_init_10 : decode cX7_init 10 = .ok (.iconst 0, 1) := by decide +kernel
theorem dX7_init_11 : decode cX7_init 11 = .ok (.putfield 15, 3) := by decide +kernel
theorem dX7_init_14 : decode cX7_init 14 = .ok (.aload_n 0, 1) := by decide +kernel
theorem dX7_init_15 : decode cX7_init 15 = .ok (.bipush 24, 2) := by decide +kernel
theorem dX7_init_17 : decode cX7_init 17 = .ok (.newarray .int, 2) := by decide +kernel
theorem dX7_init_19 : decode cX7_init 19 = .ok (.putfield 18, 3) := by decide +kernel
theorem dX7_init_22 : decode cX7_init 22 = .ok (.aload_n 0, 1) := by decide +kernel
theorem dX7_init_23 : decode cX7_init 23 = .ok (.bipush 24, 2) := by decide +kernel
theorem dX7_init_25 : decode cX7_init 25 = .ok (.newarray .int, 2) := by decide +kernel
theorem dX7_init_27 : decode cX7_init 27 = .ok (.putfield 22, 3) := by decide +kernel
theorem dX7_init_30 : decode cX7_init 30 = .ok (.aload_n 0, 1) := by decide +kernel
theorem dX7_init_31 : decode cX7_init 31 = .ok (.bipush 8, 2) := by decide +kernel
theorem dX7_init_33 : decode cX7_init 33 = .ok (.newarray .int, 2) := by decide +kernel
theorem dX7_init_35 : decode cX7_init 35 = .ok (.putfield 25, 3) := by decide +kernel
theorem dX7_init_38 : decode cX7_init 38 = .ok (.return_, 1) := by decide +kernel
theorem dX7_start_0 : decode cX7_start 0 = .ok (.aload_n 0, 1) := by decide +kernel
theorem dX7_start_1 : decode cX7_start 1 = .ok (.iconst 2, 1) := by decide +kernel
theorem dX7_start_2 : decode cX7_start 2 = .ok (.putfield 11, 3) := by decide +kernel
theorem dX7_start_5 : decode cX7_start 5 = .ok (.aload_n 0, 1) := by decide +kernel
theorem dX7_start_6 : decode cX7_start 6 = .ok (.iconst 0, 1) := by decide +kernel
theorem dX7_start_7 : decode cX7_start 7 = .ok (.putfield 15, 3) := by decide +kernel
theorem dX7_start_10 : decode cX7_start 10 = .ok (.aload_n 0, 1) := by decide +kernel
theorem dX7_start_11 : decode cX7_start 11 = .ok (.getfield 18, 3) := by decide +kernel
theorem dX7_start_14 : decode cX7_start 14 = .ok (.iconst 0, 1) := by decide +kernel
theorem dX7_start_15 : decode cX7_start 15 = .ok (.invokestatic 28, 3) := by decide +kernel
theorem dX7_start_18 : decode cX7_start 18 = .ok (.aload_n 0, 1) := by decide +kernel
theorem dX7_start_19 : decode cX7_start 19 = .ok (.getfield 25, 3) := by decide +kernel
theorem dX7_start_22 : decode cX7_start 22 = .ok (.iconst 0, 1) := by decide +kernel
theorem dX7_start_23 : decode cX7_start 23 = .ok (.invokestatic 28, 3) := by decide +kernel
theorem dX7_start_26 : decode cX7_start 26 = .ok (.bipush (-9), 2) := by decide +kernel
theorem dX7_start_28 : decode cX7_start 28 = .ok (.istore_n 3, 1) := by decide +kernel
theorem dX7_start_29 : decode cX7_start 29 = .ok (.iconst 0, 1) := by decide +kernel
theorem dX7_start_30 : decode cX7_start 30 = .ok (.istore 4, 2) := by decide +kernel
theorem dX7_start_32 : decode cX7_start 32 = .ok (.iconst 0, 1) := by decide +kernel
theorem dX7_start_33 : decode cX7_start 33 = .ok (.istore 5, 2) := by decide +kernel
theorem dX7_start_35 : decode cX7_start 35 = .ok (.iload 5, 2) := by decide +kernel
theorem dX7_start_37 : decode cX7_start 37 = .ok (.bipush 60, 2) := by decide +kernel
theorem dX7_start_39 : decode cX7_start 39 = .ok (.if_icmp .ge 112, 3) := by decide +kernel
theorem dX7_start_42 : decode cX7_start 42 = .ok (.aload_n 1, 1) := by decide +kernel
theorem dX7_start_43 : decode cX7_start 43 = .ok (.iload 4, 2) := by decide +kernel
theorem dX7_start_45 : decode cX7_start 45 = .ok (.invokevirtual 34, 3) := by decide +kernel
theorem dX7_start_48 : decode cX7_start 48 = .ok (.ifCond .eq 103, 3) := by decide +kernel
theorem dX7_start_51 : decode cX7_start 51 = .ok (.aload_n 0, 1) := by decide +kernel
theorem dX7_start_52 : decode cX7_start 52 = .ok (.getfield 25, 3) := by decide +kernel
theorem dX7_start_55 : decode cX7_start 55 = .ok (.iload 4, 2) := by decide +kernel
theorem dX7_start_57 : decode cX7_start 57 = .ok (.dup2, 1) := by decide +kernel
theorem dX7_start_58 : decode cX7_start 58 = .ok (.iaload, 1) := by decide +kernel
theorem dX7_start_59 : decode cX7_start 59 = .ok (.iconst 1, 1) := by decide +kernel
theorem dX7_start_60 : decode cX7_start 60 = .ok (.iadd, 1) := by decide +kernel
theorem dX7_start_61 : decode cX7_start 61 = .ok (.iastore, 1) := by decide +kernel
theorem dX7_start_62 : decode cX7_start 62 = .ok (.aload_n 0, 1) := by decide +kernel
theorem dX7_start_63 : decode cX7_start 63 = .ok (.aload_n 1, 1) := by decide +kernel
theorem dX7_start_64 : decode cX7_start 64 = .ok (.iload 4, 2) := by decide +kernel
theorem dX7_start_66 : decode cX7_start 66 = .ok (.iload_n 3, 1) := by decide +kernel
theorem dX7_start_67 : decode cX7_start 67 = .ok (.invokevirtual 40, 3) := by decide +kernel
theorem dX7_start_70 : decode cX7_start 70 = .ok (.aload_n 0, 1) := by decide +kernel
theorem dX7_start_71 : decode cX7_start 71 = .ok (.aload_n 1, 1) := by decide +kernel
theorem dX7_start_72 : decode cX7_start 72 = .ok (.aload_n 2, 1) := by decide +kernel
theorem dX7_start_73 : decode cX7_start 73 = .ok (.iload 4, 2) := by decide +kernel
theorem dX7_start_75 : decode cX7_start 75 = .ok (.invokevirtual 44, 3) := by decide +kernel
theorem dX7_start_78 : decode cX7_start 78 = .ok (.istore 6, 2) := by decide +kernel
theorem dX7_start_80 : decode cX7_start 80 = .ok (.iload 6, 2) := by decide +kernel
theorem dX7_start_82 : decode cX7_start 82 = .ok (.bipush (-9), 2) := by decide +kernel
theorem dX7_start_84 : decode cX7_start 84 = .ok (.if_icmp .eq 15, 3) := by decide +kernel
theorem dX7_start_87 : decode cX7_start 87 = .ok (.aload_n 0, 1) := by decide +kernel
theorem dX7_start_88 : decode cX7_start 88 = .ok (.iconst 1, 1) := by decide +kernel
theorem dX7_start_89 : decode cX7_start 89 = .ok (.putfield 11, 3) := by decide +kernel
theorem dX7_start_92 : decode cX7_start 92 = .ok (.aload_n 0, 1) := by decide +kernel
theorem dX7_start_93 : decode cX7_start 93 = .ok (.iload 6, 2) := by decide +kernel
theorem dX7_start_95 : decode cX7_start 95 = .ok (.putfield 15, 3) := by decide +kernel
theorem dX7_start_98 : decode cX7_start 98 = .ok (.return_, 1) := by decide +kernel
theorem dX7_start_99 : decode cX7_start 99 = .ok (.aload_n 1, 1) := by decide +kernel
theorem dX7_start_100 : decode cX7_start 100 = .ok (.getfield 48, 3) := by decide +kernel
theorem dX7_start_103 : decode cX7_start 103 = .ok (.iload 4, 2) := by decide +kernel
theorem dX7_start_105 : decode cX7_start 105 = .ok (.iaload, 1) := by decide +kernel
theorem dX7_start_106 : decode cX7_start 106 = .ok (.iconst 2, 1) := by decide +kernel
theorem dX7_start_107 : decode cX7_start 107 = .ok (.if_icmp .ne 25, 3) := by decide +kernel
theorem dX7_start_110 : decode cX7_start 110 = .ok (.aload_n 0, 1) := by decide +kernel
theorem dX7_start_111 : decode cX7_start 111 = .ok (.iconst 0, 1) := by decide +kernel
theorem dX7_start_112 : decode cX7_start 112 = .ok (.putfield 11, 3) := by decide +kernel
theorem dX7_start_115 : decode cX7_start 115 = .ok (.aload_n 0, 1) := by decide +kernel
theorem dX7_start_116 : decode cX7_start 116 = .ok (.aload_n 0, 1) := by decide +kernel
theorem dX7_start_117 : decode cX7_start 117 = .ok (.getfield 18, 3) := by decide +kernel
theorem dX7_start_120 : decode cX7_start 120 = .ok (.aload_n 1, 1) := by decide +kernel
theorem dX7_start_121 : decode cX7_start 121 = .ok (.getfield 51, 3) := by decide +kernel
theorem dX7_start_124 : decode cX7_start 124 = .ok (.iload 4, 2) := by decide +kernel
theorem dX7_start_126 : decode cX7_start 126 = .ok (.iaload, 1) := by decide +kernel
theorem dX7_start_127 : decode cX7_start 127 = .ok (.iaload, 1) := by decide +kernel
theorem dX7_start_128 : decode cX7_start 128 = .ok (.putfield 15, 3) := by decide +kernel
theorem dX7_start_131 : decode cX7_start 131 = .ok (.return_, 1) := by decide +kernel
theorem dX7_start_132 : decode cX7_start 132 = .ok (.iload 4, 2) := by decide +kernel
theorem dX7_start_134 : decode cX7_start 134 = .ok (.istore_n 3, 1) := by decide +kernel
theorem dX7_start_135 : decode cX7_start 135 = .ok (.aload_n 0, 1) := by decide +kernel
theorem dX7_start_136 : decode cX7_start 136 = .ok (.aload_n 1, 1) := by decide +kernel
theorem dX7_start_137 : decode cX7_start 137 = .ok (.aload_n 2, 1) := by decide +kernel
theorem dX7_start_138 : decode cX7_start 138 = .ok (.iload 4, 2) := by decide +kernel
theorem dX7_start_140 : decode cX7_start 140 = .ok (.invokevirtual 54, 3) := by decide +kernel
theorem dX7_start_143 : decode cX7_start 143 = .ok (.istore 4, 2) := by decide +kernel
theorem dX7_start_145 : decode cX7_start 145 = .ok (.iinc 5 1, 3) := by decide +kernel
theorem dX7_start_148 : decode cX7_start 148 = .ok (.goto (-113), 3) := by decide +kernel
theorem dX7_start_151 : decode cX7_start 151 = .ok (.return_, 1) := by decide +kernel
theorem dX7_takeJoins_0 : decode cX7_takeJoins 0 = .ok (.aload_n 1, 1) := by decide +kernel
theorem dX7_takeJoins_1 : decode cX7_takeJoins 1 = .ok (.getfield 57, 3) := by decide +kernel
theorem dX7_takeJoins_4 : decode cX7_takeJoins 4 = .ok (.iload_n 2, 1) := by decide +kernel
theorem dX7_takeJoins_5 : decode cX7_takeJoins 5 = .ok (.iaload, 1) := by decide +kernel
theorem dX7_takeJoins_6 : decode cX7_takeJoins 6 = .ok (.aload_n 1, 1) := by decide +kernel
theorem dX7_takeJoins_7 : decode cX7_takeJoins 7 = .ok (.getfield 60, 3) := by decide +kernel
theorem dX7_takeJoins_10 : decode cX7_takeJoins 10 = .ok (.iload_n 2, 1) := by decide +kernel
theorem dX7_takeJoins_11 : decode cX7_takeJoins 11 = .ok (.iaload, 1) := by decide +kernel
theorem dX7_takeJoins_12 : decode cX7_takeJoins 12 = .ok (.iadd, 1) := by decide +kernel
theorem dX7_takeJoins_13 : decode cX7_takeJoins 13 = .ok (.istore 4, 2) := by decide +kernel
theorem dX7_takeJoins_15 : decode cX7_takeJoins 15 = .ok (.aload_n 1, 1) := by decide +kernel
theorem dX7_takeJoins_16 : decode cX7_takeJoins 16 = .ok (.getfield 57, 3) := by decide +kernel
theorem dX7_takeJoins_19 : decode cX7_takeJoins 19 = .ok (.iload_n 2, 1) := by decide +kernel
theorem dX7_takeJoins_20 : decode cX7_takeJoins 20 = .ok (.iaload, 1) := by decide +kernel
theorem dX7_takeJoins_21 : decode cX7_takeJoins 21 = .ok (.istore 5, 2) := by decide +kernel
theorem dX7_takeJoins_23 : decode cX7_takeJoins 23 = .ok (.iload 5, 2) := by decide +kernel
theorem dX7_takeJoins_25 : decode cX7_takeJoins 25 = .ok (.iload 4, 2) := by decide +kernel
theorem dX7_takeJoins_27 : decode cX7_takeJoins 27 = .ok (.if_icmp .ge 48, 3) := by decide +kernel
theorem dX7_takeJoins_30 : decode cX7_takeJoins 30 = .ok (.aload_n 1, 1) := by decide +kernel
theorem dX7_takeJoins_31 : decode cX7_takeJoins 31 = .ok (.iload 5, 2) := by decide +kernel
theorem dX7_takeJoins_33 : decode cX7_takeJoins 33 = .ok (.iload_n 3, 1) := by decide +kernel
theorem dX7_takeJoins_34 : decode cX7_takeJoins 34 = .ok (.invokevirtual 63, 3) := by decide +kernel
theorem dX7_takeJoins_37 : decode cX7_takeJoins 37 = .ok (.istore 6, 2) := by decide +kernel
theorem dX7_takeJoins_39 : decode cX7_takeJoins 39 = .ok (.aload_n 0, 1) := by decide +kernel
theorem dX7_takeJoins_40 : decode cX7_takeJoins 40 = .ok (.getfield 22, 3) := by decide +kernel
theorem dX7_takeJoins_43 : decode cX7_takeJoins 43 = .ok (.iload 5, 2) := by decide +kernel
theorem dX7_takeJoins_45 : decode cX7_takeJoins 45 = .ok (.iload 6, 2) := by decide +kernel
theorem dX7_takeJoins_47 : decode cX7_takeJoins 47 = .ok (.bipush (-9), 2) := by decide +kernel
theorem dX7_takeJoins_49 : decode cX7_takeJoins 49 = .ok (.if_icmp .ne 7, 3) := by decide +kernel
theorem dX7_takeJoins_52 : decode cX7_takeJoins 52 = .ok (.iconst 0, 1) := by decide +kernel
theorem dX7_takeJoins_53 : decode cX7_takeJoins 53 = .ok (.goto 15, 3) := by decide +kernel
theorem dX7_takeJoins_56 : decode cX7_takeJoins 56 = .ok (.aload_n 0, 1) := by decide +kernel
theorem dX7_takeJoins_57 : decode cX7_takeJoins 57 = .ok (.getfield 18, 3) := by decide +kernel
theorem dX7_takeJoins_60 : decode cX7_takeJoins 60 = .ok (.aload_n 1, 1) := by decide +kernel
theorem dX7_takeJoins_61 : decode cX7_takeJoins 61 = .ok (.getfield 67, 3) := by decide +kernel
theorem dX7_takeJoins_64 : decode cX7_takeJoins 64 = .ok (.iload 6, 2) := by decide +kernel
theorem dX7_takeJoins_66 : decode cX7_takeJoins 66 = .ok (.iaload, 1) := by decide +kernel
theorem dX7_takeJoins_67 : decode cX7_takeJoins 67 = .ok (.iaload, 1) := by decide +kernel
theorem dX7_takeJoins_68 : decode cX7_takeJoins 68 = .ok (.iastore, 1) := by decide +kernel
theorem dX7_takeJoins_69 : decode cX7_takeJoins 69 = .ok (.iinc 5 1, 3) := by decide +kernel
theorem dX7_takeJoins_72 : decode cX7_takeJoins 72 = .ok (.goto (-49), 3) := by decide +kernel
theorem dX7_takeJoins_75 : decode cX7_takeJoins 75 = .ok (.aload_n 1, 1) := by decide +kernel
theorem dX7_takeJoins_76 : decode cX7_takeJoins 76 = .ok (.getfield 57, 3) := by decide +kernel
theorem dX7_takeJoins_79 : decode cX7_takeJoins 79 = .ok (.iload_n 2, 1) := by decide +kernel
theorem dX7_takeJoins_80 : decode cX7_takeJoins 80 = .ok (.iaload, 1) := by decide +kernel
theorem dX7_takeJoins_81 : decode cX7_takeJoins 81 = .ok (.istore 5, 2) := by decide +kernel
theorem dX7_takeJoins_83 : decode cX7_takeJoins 83 = .ok (.iload 5, 2) := by decide +kernel
theorem dX7_takeJoins_85 : decode cX7_takeJoins 85 = .ok (.iload 4, 2) := by decide +kernel
theorem dX7_takeJoins_87 : decode cX7_takeJoins 87 = .ok (.if_icmp .ge 34, 3) := by decide +kernel
theorem dX7_takeJoins_90 : decode cX7_takeJoins 90 = .ok (.aload_n 1, 1) := by decide +kernel
theorem dX7_takeJoins_91 : decode cX7_takeJoins 91 = .ok (.getfield 70, 3) := by decide +kernel
theorem dX7_takeJoins_94 : decode cX7_takeJoins 94 = .ok (.iload 5, 2) := by decide +kernel
theorem dX7_takeJoins_96 : decode cX7_takeJoins 96 = .ok (.iaload, 1) := by decide +kernel
theorem dX7_takeJoins_97 : decode cX7_takeJoins 97 = .ok (.iconst 3, 1) := by decide +kernel
theorem dX7_takeJoins_98 : decode cX7_takeJoins 98 = .ok (.if_icmp .ne 17, 3) := by decide +kernel
theorem dX7_takeJoins_101 : decode cX7_takeJoins 101 = .ok (.aload_n 0, 1) := by decide +kernel
theorem dX7_takeJoins_102 : decode cX7_takeJoins 102 = .ok (.getfield 18, 3) := by decide +kernel
theorem dX7_takeJoins_105 : decode cX7_takeJoins 105 = .ok (.iload 5, 2) := by decide +kernel
theorem dX7_takeJoins_107 : decode cX7_takeJoins 107 = .ok (.aload_n 0, 1) := by decide +kernel
theorem dX7_takeJoins_108 : decode cX7_takeJoins 108 = .ok (.getfield 22, 3) := by decide +kernel
theorem dX7_takeJoins_111 : decode cX7_takeJoins 111 = .ok (.iload 5, 2) := by decide +kernel
theorem dX7_takeJoins_113 : decode cX7_takeJoins 113 = .ok (.iaload, 1) := by decide +kernel
theorem dX7_takeJoins_114 : decode cX7_takeJoins 114 = .ok (.iastore, 1) := by decide +kernel
theorem dX7_takeJoins_115 : decode cX7_takeJoins 115 = .ok (.iinc 5 1, 3) := by decide +kernel
theorem dX7_takeJoins_118 : decode cX7_takeJoins 118 = .ok (.goto (-35), 3) := by decide +kernel
theorem dX7_takeJoins_121 : decode cX7_takeJoins 121 = .ok (.return_, 1) := by decide +kernel
theorem dX7_makeNames_0 : decode cX7_makeNames 0 = .ok (.aload_n 1, 1) := by decide +kernel
theorem dX7_makeNames_1 : decode cX7_makeNames 1 = .ok (.getfield 57, 3) := by decide +kernel
theorem dX7_makeNames_4 : decode cX7_makeNames 4 = .ok (.iload_n 3, 1) := by decide +kernel
theorem dX7_makeNames_5 : decode cX7_makeNames 5 = .ok (.iaload, 1) := by decide +kernel
theorem dX7_makeNames_6 : decode cX7_makeNames 6 = .ok (.istore 4, 2) := by decide +kernel
theorem dX7_makeNames_8 : decode cX7_makeNames 8 = .ok (.iload 4, 2) := by decide +kernel
theorem dX7_makeNames_10 : decode cX7_makeNames 10 = .ok (.aload_n 1, 1) := by decide +kernel
theorem dX7_makeNames_11 : decode cX7_makeNames 11 = .ok (.getfield 57, 3) := by decide +kernel
theorem dX7_makeNames_14 : decode cX7_makeNames 14 = .ok (.iload_n 3, 1) := by decide +kernel
theorem dX7_makeNames_15 : decode cX7_makeNames 15 = .ok (.iaload, 1) := by decide +kernel
theorem dX7_makeNames_16 : decode cX7_makeNames 16 = .ok (.aload_n 1, 1) := by decide +kernel
theorem dX7_makeNames_17 : decode cX7_makeNames 17 = .ok (.getfield 60, 3) := by decide +kernel
theorem dX7_makeNames_20 : decode cX7_makeNames 20 = .ok (.iload_n 3, 1) := by decide +kernel
theorem dX7_makeNames_21 : decode cX7_makeNames 21 = .ok (.iaload, 1) := by decide +kernel
theorem dX7_makeNames_22 : decode cX7_makeNames 22 = .ok (.iadd, 1) := by decide +kernel
theorem dX7_makeNames_23 : decode cX7_makeNames 23 = .ok (.if_icmp .ge 141, 3) := by decide +kernel
theorem dX7_makeNames_26 : decode cX7_makeNames 26 = .ok (.aload_n 1, 1) := by decide +kernel
theorem dX7_makeNames_27 : decode cX7_makeNames 27 = .ok (.getfield 70, 3) := by decide +kernel
theorem dX7_makeNames_30 : decode cX7_makeNames 30 = .ok (.iload 4, 2) := by decide +kernel
theorem dX7_makeNames_32 : decode cX7_makeNames 32 = .ok (.iaload, 1) := by decide +kernel
theorem dX7_makeNames_33 : decode cX7_makeNames 33 = .ok (.ifCond .ne 20, 3) := by decide +kernel
theorem dX7_makeNames_36 : decode cX7_makeNames 36 = .ok (.aload_n 0, 1) := by decide +kernel
theorem dX7_makeNames_37 : decode cX7_makeNames 37 = .ok (.getfield 18, 3) := by decide +kernel
theorem dX7_makeNames_40 : decode cX7_makeNames 40 = .ok (.iload 4, 2) := by decide +kernel
theorem dX7_makeNames_42 : decode cX7_makeNames 42 = .ok (.aload_n 2, 1) := by decide +kernel
theorem dX7_makeNames_43 : decode cX7_makeNames 43 = .ok (.getfield 73, 3) := by decide +kernel
theorem dX7_makeNames_46 : decode cX7_makeNames 46 = .ok (.iload 4, 2) := by decide +kernel
theorem dX7_makeNames_48 : decode cX7_makeNames 48 = .ok (.iaload, 1) := by decide +kernel
theorem dX7_makeNames_49 : decode cX7_makeNames 49 = .ok (.iastore, 1) := by decide +kernel
theorem dX7_makeNames_50 : decode cX7_makeNames 50 = .ok (.goto 108, 3) := by decide +kernel
theorem dX7_makeNames_53 : decode cX7_makeNames 53 = .ok (.aload_n 1, 1) := by decide +kernel
theorem dX7_makeNames_54 : decode cX7_makeNames 54 = .ok (.getfield 70, 3) := by decide +kernel
theorem dX7_makeNames_57 : decode cX7_makeNames 57 = .ok (.iload 4, 2) := by decide +kernel
theorem dX7_makeNames_59 : decode cX7_makeNames 59 = .ok (.iaload, 1) := by decide +kernel
theorem dX7_makeNames_60 : decode cX7_makeNames 60 = .ok (.iconst 1, 1) := by decide +kernel
theorem dX7_makeNames_61 : decode cX7_makeNames 61 = .ok (.if_icmp .ne 19, 3) := by decide +kernel
theorem dX7_makeNames_64 : decode cX7_makeNames 64 = .ok (.aload_n 0, 1) := by decide +kernel
theorem dX7_makeNames_65 : decode cX7_makeNames 65 = .ok (.getfield 18, 3) := by decide +kernel
theorem dX7_makeNames_68 : decode cX7_makeNames 68 = .ok (.iload 4, 2) := by decide +kernel
theorem dX7_makeNames_70 : decode cX7_makeNames 70 = .ok (.aload_n 2, 1) := by decide +kernel
theorem dX7_makeNames_71 : decode cX7_makeNames 71 = .ok (.iload 4, 2) := by decide +kernel
theorem dX7_makeNames_73 : decode cX7_makeNames 73 = .ok (.invokevirtual 78, 3) := by decide +kernel
theorem dX7_makeNames_76 : decode cX7_makeNames 76 = .ok (.iastore, 1) := by decide +kernel
theorem dX7_makeNames_77 : decode cX7_makeNames 77 = .ok (.goto 81, 3) := by decide +kernel
theorem dX7_makeNames_80 : decode cX7_makeNames 80 = .ok (.aload_n 1, 1) := by decide +kernel
theorem dX7_makeNames_81 : decode cX7_makeNames 81 = .ok (.getfield 70, 3) := by decide +kernel
theorem dX7_makeNames_84 : decode cX7_makeNames 84 = .ok (.iload 4, 2) := by decide +kernel
theorem dX7_makeNames_86 : decode cX7_makeNames 86 = .ok (.iaload, 1) := by decide +kernel
theorem dX7_makeNames_87 : decode cX7_makeNames 87 = .ok (.iconst 2, 1) := by decide +kernel
theorem dX7_makeNames_88 : decode cX7_makeNames 88 = .ok (.if_icmp .ne 70, 3) := by decide +kernel
theorem dX7_makeNames_91 : decode cX7_makeNames 91 = .ok (.aload_n 0, 1) := by decide +kernel
theorem dX7_makeNames_92 : decode cX7_makeNames 92 = .ok (.getfield 18, 3) := by decide +kernel
theorem dX7_makeNames_95 : decode cX7_makeNames 95 = .ok (.aload_n 1, 1) := by decide +kernel
theorem dX7_makeNames_96 : decode cX7_makeNames 96 = .ok (.getfield 82, 3) := by decide +kernel
theorem dX7_makeNames_99 : decode cX7_makeNames 99 = .ok (.iload 4, 2) := by decide +kernel
theorem dX7_makeNames_101 : decode cX7_makeNames 101 = .ok (.iaload, 1) := by decide +kernel
theorem dX7_makeNames_102 : decode cX7_makeNames 102 = .ok (.iaload, 1) := by decide +kernel
theorem dX7_makeNames_103 : decode cX7_makeNames 103 = .ok (.istore 5, 2) := by decide +kernel
theorem dX7_makeNames_105 : decode cX7_makeNames 105 = .ok (.aload_n 0, 1) := by decide +kernel
theorem dX7_makeNames_106 : decode cX7_makeNames 106 = .ok (.getfield 18, 3) := by decide +kernel
theorem dX7_makeNames_109 : decode cX7_makeNames 109 = .ok (.aload_n 1, 1) := by decide +kernel
theorem dX7_makeNames_110 : decode cX7_makeNames 110 = .ok (.getfield 85, 3) := by decide +kernel
theorem dX7_makeNames_113 : decode cX7_makeNames 113 = .ok (.iload 4, 2) := by decide +kernel
theorem dX7_makeNames_115 : decode cX7_makeNames 115 = .ok (.iaload, 1) := by decide +kernel
theorem dX7_makeNames_116 : decode cX7_makeNames 116 = .ok (.iaload, 1) := by decide +kernel
theorem dX7_makeNames_117 : decode cX7_makeNames 117 = .ok (.istore 6, 2) := by decide +kernel
theorem dX7_makeNames_119 : decode cX7_makeNames 119 = .ok (.aload_n 1, 1) := by decide +kernel
theorem dX7_makeNames_120 : decode cX7_makeNames 120 = .ok (.getfield 88, 3) := by decide +kernel
theorem dX7_makeNames_123 : decode cX7_makeNames 123 = .ok (.iload 4, 2) := by decide +kernel
theorem dX7_makeNames_125 : decode cX7_makeNames 125 = .ok (.iaload, 1) := by decide +kernel
theorem dX7_makeNames_126 : decode cX7_makeNames 126 = .ok (.iload 6, 2) := by decide +kernel
theorem dX7_makeNames_128 : decode cX7_makeNames 128 = .ok (.invokestatic 91, 3) := by decide +kernel
theorem dX7_makeNames_131 : decode cX7_makeNames 131 = .ok (.ifCond .eq 6, 3) := by decide +kernel
theorem dX7_makeNames_134 : decode cX7_makeNames 134 = .ok (.iload 4, 2) := by decide +kernel
theorem dX7_makeNames_136 : decode cX7_makeNames 136 = .ok (.ireturn, 1) := by decide +kernel
theorem dX7_makeNames_137 : decode cX7_makeNames 137 = .ok (.aload_n 0, 1) := by decide +kernel
theorem dX7_makeNames_138 : decode cX7_makeNames 138 = .ok (.getfield 18, 3) := by decide +kernel
theorem dX7_makeNames_141 : decode cX7_makeNames 141 = .ok (.iload 4, 2) := by decide +kernel
theorem dX7_makeNames_143 : decode cX7_makeNames 143 = .ok (.aload_n 1, 1) := by decide +kernel
theorem dX7_makeNames_144 : decode cX7_makeNames 144 = .ok (.getfield 88, 3) := by decide +kernel
theorem dX7_makeNames_147 : decode cX7_makeNames 147 = .ok (.iload 4, 2) := by decide +kernel
theorem dX7_makeNames_149 : decode cX7_makeNames 149 = .ok (.iaload, 1) := by decide +kernel
theorem dX7_makeNames_150 : decode cX7_makeNames 150 = .ok (.iload 5, 2) := by decide +kernel
theorem dX7_makeNames_152 : decode cX7_makeNames 152 = .ok (.iload 6, 2) := by decide +kernel
theorem dX7_makeNames_154 : decode cX7_makeNames 154 = .ok (.invokestatic 97, 3) := by decide +kernel
theorem dX7_makeNames_157 : decode cX7_makeNames 157 = .ok (.iastore, 1) := by decide +kernel
theorem dX7_makeNames_158 : decode cX7_makeNames 158 = .ok (.iinc 4 1, 3) := by decide +kernel
theorem dX7_makeNames_161 : decode cX7_makeNames 161 = .ok (.goto (-153), 3) := by decide +kernel
theorem dX7_makeNames_164 : decode cX7_makeNames 164 = .ok (.bipush (-9), 2) := by decide +kernel
theorem dX7_makeNames_166 : decode cX7_makeNames 166 = .ok (.ireturn, 1) := by decide +kernel
theorem dX7_next_0 : decode cX7_next 0 = .ok (.aload_n 1, 1) := by decide +kernel
theorem dX7_next_1 : decode cX7_next 1 = .ok (.getfield 48, 3) := by decide +kernel
theorem dX7_next_4 : decode cX7_next 4 = .ok (.iload_n 3, 1) := by decide +kernel
theorem dX7_next_5 : decode cX7_next 5 = .ok (.iaload, 1) := by decide +kernel
theorem dX7_next_6 : decode cX7_next 6 = .ok (.iconst 1, 1) := by decide +kernel
theorem dX7_next_7 : decode cX7_next 7 = .ok (.if_icmp .ne 20, 3) := by decide +kernel
theorem dX7_next_10 : decode cX7_next 10 = .ok (.aload_n 0, 1) := by decide +kernel
theorem dX7_next_11 : decode cX7_next 11 = .ok (.getfield 18, 3) := by decide +kernel
theorem dX7_next_14 : decode cX7_next 14 = .ok (.aload_n 1, 1) := by decide +kernel
theorem dX7_next_15 : decode cX7_next 15 = .ok (.getfield 51, 3) := by decide +kernel
theorem dX7_next_18 : decode cX7_next 18 = .ok (.iload_n 3, 1) := by decide +kernel
theorem dX7_next_19 : decode cX7_next 19 = .ok (.iaload, 1) := by decide +kernel
theorem dX7_next_20 : decode cX7_next 20 = .ok (.iaload, 1) := by decide +kernel
theorem dX7_next_21 : decode cX7_next 21 = .ok (.invokestatic 101, 3) := by decide +kernel
theorem dX7_next_24 : decode cX7_next 24 = .ok (.goto 4, 3) := by decide +kernel
theorem dX7_next_27 : decode cX7_next 27 = .ok (.iconst 0, 1) := by decide +kernel
theorem dX7_next_28 : decode cX7_next 28 = .ok (.istore 4, 2) := by decide +kernel
theorem dX7_next_30 : decode cX7_next 30 = .ok (.aload_n 2, 1) := by decide +kernel
theorem dX7_next_31 : decode cX7_next 31 = .ok (.getfield 104, 3) := by decide +kernel
theorem dX7_next_34 : decode cX7_next 34 = .ok (.iconst 2, 1) := by decide +kernel
theorem dX7_next_35 : decode cX7_next 35 = .ok (.iload_n 3, 1) := by decide +kernel
theorem dX7_next_36 : decode cX7_next 36 = .ok (.imul, 1) := by decide +kernel
theorem dX7_next_37 : decode cX7_next 37 = .ok (.iload 4, 2) := by decide +kernel
theorem dX7_next_39 : decode cX7_next 39 = .ok (.iadd, 1) := by decide +kernel
theorem dX7_next_40 : decode cX7_next 40 = .ok (.iaload, 1) := by decide +kernel
theorem dX7_next_41 : decode cX7_next 41 = .ok (.ireturn, 1) := by decide +kernel
theorem dX8_init_0 : decode cX8_init 0 = .ok (.aload_n 0, 1) := by decide +kernel
theorem dX8_init_1 : decode cX8_init 1 = .ok (.invokespecial 3, 3) := by decide +kernel
theorem dX8_init_4 : decode cX8_init 4 = .ok (.aload_n 0, 1) := by decide +kernel
theorem dX8_init_5 : decode cX8_init 5 = .ok (.new 9, 3) := by decide +kernel
theorem dX8_init_8 : decode cX8_init 8 = .ok (.dup, 1) := by decide +kernel
theorem dX8_init_9 : decode cX8_init 9 = .ok (.invokespecial 11, 3) := by decide +kernel
theorem dX8_init_12 : decode cX8_init 12 = .ok (.putfield 12, 3) := by decide +kernel
theorem dX8_init_15 : decode cX8_init 15 = .ok (.aload_n 0, 1) := by decide +kernel
theorem dX8_init_16 : decode cX8_init 16 = .ok (.new 16, 3) := by decide +kernel
theorem dX8_init_19 : decode cX8_init 19 = .ok (.dup, 1) := by decide +kernel
theorem dX8_init_20 : decode cX8_init 20 = .ok (.invokespecial 18, 3) := by decide +kernel
theorem dX8_init_23 : decode cX8_init 23 = .ok (.putfield 19, 3) := by decide +kernel
theorem dX8_init_26 : decode cX8_init 26 = .ok (.aload_n 0, 1) := by decide +kernel
theorem dX8_init_27 : decode cX8_init 27 = .ok (.new 16, 3) := by decide +kernel
theorem dX8_init_30 : decode cX8_init 30 = .ok (.dup, 1) := by decide +kernel
theorem dX8_init_31 : decode cX8_init 31 = .ok (.invokespecial 18, 3) := by decide +kernel
theorem dX8_init_34 : decode cX8_init 34 = .ok (.putfield 23, 3) := by decide +kernel
theorem dX8_init_37 : decode cX8_init 37 = .ok (.aload_n 0, 1) := by decide +kernel
theorem dX8_init_38 : decode cX8_init 38 = .ok (.new 26, 3) := by decide +kernel
theorem dX8_init_41 : decode cX8_init 41 = .ok (.dup, 1) := by decide +kernel
theorem dX8_init_42 : decode cX8_init 42 = .ok (.invokespecial 28, 3) := by decide +kernel
theorem dX8_init_45 : decode cX8_init 45 = .ok (.putfield 29, 3) := by decide +kernel
theorem dX8_init_48 : decode cX8_init 48 = .ok (.aload_n 0, 1) := by decide +kernel
theorem dX8_init_49 : decode cX8_init 49 = .ok (.new 33, 3) := by decide +kernel
theorem dX8_init_52 : decode cX8_init 52 = .ok (.dup, 1) := by decide +kernel
theorem dX8_init_53 : decode cX8_init 53 = .ok (.invokespecial 35, 3) := by decide +kernel
theorem dX8_init_56 : decode cX8_init 56 = .ok (.putfield 36, 3) := by decide +kernel
theorem dX8_init_59 : decode cX8_init 59 = .ok (.aload_n 0, 1) := by decide +kernel
theorem dX8_init_60 : decode cX8_init 60 = .ok (.new 33, 3) := by decide +kernel
theorem dX8_init_63 : decode cX8_init 63 = .ok (.dup, 1) := by decide +kernel
theorem dX8_init_64 : decode cX8_init 64 = .ok (.invokespecial 35, 3) := by decide +kernel
theorem dX8_init_67 : decode cX8_init 67 = .ok (.putfield 40, 3) := by decide +kernel
theorem dX8_init_70 : decode cX8_init 70 = .ok (.aload_n 0, 1) := by decide +kernel
theorem dX8_init_71 : decode cX8_init 71 = .ok (.new 33, 3) := by decide +kernel
theorem dX8_init_74 : decode cX8_init 74 = .ok (.dup, 1) := by decide +kernel
theorem dX8_init_75 : decode cX8_init 75 = .ok (.invokespecial 35, 3) := by decide +kernel
theorem dX8_init_78 : decode cX8_init 78 = .ok (.putfield 43, 3) := by decide +kernel
theorem dX8_init_81 : decode cX8_init 81 = .ok (.aload_n 0, 1) := by decide +kernel
theorem dX8_init_82 : decode cX8_init 82 = .ok (.new 46, 3) := by decide +kernel
theorem dX8_init_85 : decode cX8_init 85 = .ok (.dup, 1) := by decide +kernel
theorem dX8_init_86 : decode cX8_init 86 = .ok (.invokespecial 48, 3) := by decide +kernel
theorem dX8_init_89 : decode cX8_init 89 = .ok (.putfield 49, 3) := by decide +kernel
theorem dX8_init_92 : decode cX8_init 92 = .ok (.aload_n 0, 1) := by decide +kernel
theorem dX8_init_93 : decode cX8_init 93 = .ok (.new 53, 3) := by decide +kernel
theorem dX8_init_96 : decode cX8_init 96 = .ok (.dup, 1) := by decide +kernel
theorem dX8_init_97 : decode cX8_init 97 = .ok (.invokespecial 55, 3) := by decide +kernel
theorem dX8_init_100 : decode cX8_init 100 = .ok (.putfield 56, 3) := by decide +kernel
theorem dX8_init_103 : decode cX8_init 103 = .ok (.aload_n 0, 1) := by decide +kernel
theorem dX8_init_104 : decode cX8_init 104 = .ok (.iconst 2, 1) := by decide +kernel
theorem dX8_init_105 : decode cX8_init 105 = .ok (.anewarray 26, 3) := by decide +kernel
theorem dX8_init_108 : decode cX8_init 108 = .ok (.putfield 60, 3) := by decide +kernel
theorem dX8_init_111 : decode cX8_init 111 = .ok (.iconst 0, 1) := by decide +kernel
theorem dX8_init_112 : decode cX8_init 112 = .ok (.istore_n 1, 1) := by decide +kernel
theorem dX8_init_113 : decode cX8_init 113 = .ok (.iload_n 1, 1) := by decide +kernel
theorem dX8_init_114 : decode cX8_init 114 = .ok (.iconst 2, 1) := by decide +kernel
theorem dX8_init_115 : decode cX8_init 115 = .ok (.if_icmp .ge 22, 3) := by decide +kernel
theorem dX8_init_118 : decode cX8_init 118 = .ok (.aload_n 0, 1) := by decide +kernel
theorem dX8_init_119 : decode cX8_init 119 = .ok (.getfield 60, 3) := by decide +kernel
theorem dX8_init_122 : decode cX8_init 122 = .ok (.iload_n 1, 1) := by decide +kernel
theorem dX8_init_123 : decode cX8_init 123 = .ok (.new 26, 3) := by decide +kernel
theorem dX8_init_126 : decode cX8_init 126 = .ok (.dup, 1) := by decide +kernel
theorem dX8_init_127 : decode cX8_init 127 = .ok (.invokespecial 28, 3) := by decide +kernel
theorem dX8_init_130 : decode cX8_init 130 = .ok (.aastore, 1) := by decide +kernel
theorem dX8_init_131 : decode cX8_init 131 = .ok (.iinc 1 1, 3) := by decide +kernel
theorem dX8_init_134 : decode cX8_init 134 = .ok (.goto (-21), 3) := by decide +kernel
theorem dX8_init_137 : decode cX8_init 137 = .ok (.aload_n 0, 1) := by decide +kernel
theorem dX8_init_138 : decode cX8_init 138 = .ok (.iconst 2, 1) := by decide +kernel
theorem dX8_init_139 : decode cX8_init 139 = .ok (.newarray .int, 2) := by decide +kernel
theorem dX8_init_141 : decode cX8_init 141 = .ok (.putfield 64, 3) := by decide +kernel
theorem dX8_init_144 : decode cX8_init 144 = .ok (.aload_n 0, 1) := by decide +kernel
theorem dX8_init_145 : decode cX8_init 145 = .ok (.iconst 0, 1) := by decide +kernel
theorem dX8_init_146 : decode cX8_init 146 = .ok (.putfield 68, 3) := by decide +kernel
theorem dX8_init_149 : decode cX8_init 149 = .ok (.return_, 1) := by decide +kernel
theorem dX8_type_0 : decode cX8_type 0 = .ok (.iload_n 1, 1) := by decide +kernel
theorem dX8_type_1 : decode cX8_type 1 = .ok (.ifCond .lt 10, 3) := by decide +kernel
theorem dX8_type_4 : decode cX8_type 4 = .ok (.iload_n 1, 1) := by decide +kernel
theorem dX8_type_5 : decode cX8_type 5 = .ok (.sipush 255, 3) := by decide +kernel
theorem dX8_type_8 : decode cX8_type 8 = .ok (.if_icmp .le 5, 3) := by decide +kernel
theorem dX8_type_11 : decode cX8_type 11 = .ok (.iconst (-1), 1) := by decide +kernel
theorem dX8_type_12 : decode cX8_type 12 = .ok (.ireturn, 1) := by decide +kernel
theorem dX8_type_13 : decode cX8_type 13 = .ok (.aload_n 0, 1) := by decide +kernel
theorem dX8_type_14 : decode cX8_type 14 = .ok (.getfield 12, 3) := by decide +kernel
theorem dX8_type_17 : decode cX8_type 17 = .ok (.getfield 72, 3) := by decide +kernel
theorem dX8_type_20 : decode cX8_type 20 = .ok (.sipush 150, 3) := by decide +kernel
theorem dX8_type_23 : decode cX8_type 23 = .ok (.if_icmp .lt 6, 3) := by decide +kernel
theorem dX8_type_26 : decode cX8_type 26 = .ok (.bipush (-3), 2) := by decide +kernel
theorem dX8_type_28 : decode cX8_type 28 = .ok (.ireturn, 1) := by decide +kernel
theorem dX8_type_29 : decode cX8_type 29 = .ok (.aload_n 0, 1) := by decide +kernel
theorem dX8_type_30 : decode cX8_type 30 = .ok (.getfield 12, 3) := by decide +kernel
theorem dX8_type_33 : decode cX8_type 33 = .ok (.getfield 75, 3) := by decide +kernel
theorem dX8_type_36 : decode cX8_type 36 = .ok (.aload_n 0, 1) := by decide +kernel
theorem dX8_type_37 : decode cX8_type 37 = .ok (.getfield 12, 3) := by decide +kernel
theorem dX8_type_40 : decode cX8_type 40 = .ok (.getfield 72, 3) := by decide +kernel
theorem dX8_type_43 : decode cX8_type 43 = .ok (.iload_n 1, 1) := by decide +kernel
theorem dX8_type_44 : decode cX8_type 44 = .ok (.iastore, 1) := by decide +kernel
theorem dX8_type_45 : decode cX8_type 45 = .ok (.aload_n 0, 1) := by decide +kernel
theorem dX8_type_46 : decode cX8_type 46 = .ok (.getfield 12, 3) := by decide +kernel
theorem dX8_type_49 : decode cX8_type 49 = .ok (.dup, 1) := by decide +kernel
theorem dX8_type_50 : decode cX8_type 50 = .ok (.getfield 72, 3) := by decide +kernel
theorem dX8_type_53 : decode cX8_type 53 = .ok (.iconst 1, 1) := by decide +kernel
theorem dX8_type_54 : decode cX8_type 54 = .ok (.iadd, 1) := by decide +kernel
theorem dX8_type_55 : decode cX8_type 55 = .ok (.putfield 72, 3) := by decide +kernel
theorem dX8_type_58 : decode cX8_type 58 = .ok (.aload_n 0, 1) := by decide +kernel
theorem dX8_type_59 : decode cX8_type 59 = .ok (.getfield 12, 3) := by decide +kernel
theorem dX8_type_62 : decode cX8_type 62 = .ok (.getfield 72, 3) := by decide +kernel
theorem dX8_type_65 : decode cX8_type 65 = .ok (.ireturn, 1) := by decide +kernel
theorem dX8_clear_0 : decode cX8_clear 0 = .ok (.aload_n 0, 1) := by decide +kernel
theorem dX8_clear_1 : decode cX8_clear 1 = .ok (.getfield 12, 3) := by decide +kernel
theorem dX8_clear_4 : decode cX8_clear 4 = .ok (.getfield 72, 3) := by decide +kernel
theorem dX8_clear_7 : decode cX8_clear 7 = .ok (.istore_n 1, 1) := by decide +kernel
theorem dX8_clear_8 : decode cX8_clear 8 = .ok (.aload_n 0, 1) := by decide +kernel
theorem dX8_clear_9 : decode cX8_clear 9 = .ok (.getfield 12, 3) := by decide +kernel
theorem dX8_clear_12 : decode cX8_clear 12 = .ok (.iconst 0, 1) := by decide +kernel
theorem dX8_clear_13 : decode cX8_clear 13 = .ok (.putfield 72, 3) := by decide +kernel
theorem dX8_clear_16 : decode cX8_clear 16 = .ok (.iload_n 1, 1) := by decide +kernel
theorem dX8_clear_17 : decode cX8_clear 17 = .ok (.ireturn, 1) := by decide +kernel
theorem dX8_program_0 : decode cX8_program 0 = .ok (.aload_n 0, 1) := by decide +kernel
theorem dX8_program_1 : decode cX8_program 1 = .ok (.getfield 12, 3) := by decide +kernel
theorem dX8_program_4 : decode cX8_program 4 = .ok (.aload_n 0, 1) := by decide +kernel
theorem dX8_program_5 : decode cX8_program 5 = .ok (.getfield 23, 3) := by decide +kernel
theorem dX8_program_8 : decode cX8_program 8 = .ok (.invokestatic 78, 3) := by decide +kernel
theorem dX8_program_11 : decode cX8_program 11 = .ok (.istore_n 1, 1) := by decide +kernel
theorem dX8_program_12 : decode cX8_program 12 = .ok (.iload_n 1, 1) := by decide +kernel
theorem dX8_program_13 : decode cX8_program 13 = .ok (.iconst (-1), 1) := by decide +kernel
theorem dX8_program_14 : decode cX8_program 14 = .ok (.if_icmp .eq 8, 3) := by decide +kernel
theorem dX8_program_17 : decode cX8_program 17 = .ok (.bipush (-10), 2) := by decide +kernel
theorem dX8_program_19 : decode cX8_program 19 = .ok (.iload_n 1, 1) := by decide +kernel
theorem dX8_program_20 : decode cX8_program 20 = .ok (.isub, 1) := by decide +kernel
theorem dX8_program_21 : decode cX8_program 21 = .ok (.ireturn, 1) := by decide +kernel
theorem dX8_program_22 : decode cX8_program 22 = .ok (.aload_n 0, 1) := by decide +kernel
theorem dX8_program_23 : decode cX8_program 23 = .ok (.getfield 19, 3) := by decide +kernel
theorem dX8_program_26 : decode cX8_program 26 = .ok (.astore_n 2, 1) := by decide +kernel
theorem dX8_program_27 : decode cX8_program 27 = .ok (.aload_n 0, 1) := by decide +kernel
theorem dX8_program_28 : decode cX8_program 28 = .ok (.aload_n 0, 1) := by decide +kernel
theorem dX8_program_29 : decode cX8_program 29 = .ok (.getfield 23, 3) := by decide +kernel
theorem dX8_program_32 : decode cX8_program 32 = .ok (.putfield 19, 3) := by decide +kernel
theorem dX8_program_35 : decode cX8_program 35 = .ok (.aload_n 0, 1) := by decide +kernel
theorem dX8_program_36 : decode cX8_program 36 = .ok (.aload_n 2, 1) := by decide +kernel
theorem dX8_program_37 : decode cX8_program 37 = .ok (.putfield 23, 3) := by decide +kernel
theorem dX8_program_40 : decode cX8_program 40 = .ok (.aload_n 0, 1) := by decide +kernel
theorem dX8_program_41 : decode cX8_program 41 = .ok (.getfield 12, 3) := by decide +kernel
theorem dX8_program_44 : decode cX8_program 44 = .ok (.iconst 0, 1) := by decide +kernel
theorem dX8_program_45 : decode cX8_program 45 = .ok (.putfield 72, 3) := by decide +kernel
theorem dX8_program_48 : decode cX8_program 48 = .ok (.aload_n 0, 1) := by decide +kernel
theorem dX8_program_49 : decode cX8_program 49 = .ok (.getfield 29, 3) := by decide +kernel
theorem dX8_program_52 : decode cX8_program 52 = .ok (.aload_n 0, 1) := by decide +kernel
theorem dX8_program_53 : decode cX8_program 53 = .ok (.getfield 19, 3) := by decide +kernel
theorem dX8_program_56 : decode cX8_program 56 = .ok (.invokevirtual 84, 3) := by decide +kernel
theorem dX8_program_59 : decode cX8_program 59 = .ok (.aload_n 0, 1) := by decide +kernel
theorem dX8_program_60 : decode cX8_program 60 = .ok (.getfield 56, 3) := by decide +kernel
theorem dX8_program_63 : decode cX8_program 63 = .ok (.iconst 0, 1) := by decide +kernel
theorem dX8_program_64 : decode cX8_program 64 = .ok (.putfield 88, 3) := by decide +kernel
theorem dX8_program_67 : decode cX8_program 67 = .ok (.aload_n 0, 1) := by decide +kernel
theorem dX8_program_68 : decode cX8_program 68 = .ok (.getfield 64, 3) := by decide +kernel
theorem dX8_program_71 : decode cX8_program 71 = .ok (.iconst 0, 1) := by decide +kernel
theorem dX8_program_72 : decode cX8_program 72 = .ok (.invokestatic 91, 3) := by decide +kernel
theorem dX8_program_75 : decode cX8_program 75 = .ok (.aload_n 0, 1) := by decide +kernel
theorem dX8_program_76 : decode cX8_program 76 = .ok (.invokevirtual 97, 3) := by decide +kernel
theorem dX8_program_79 : decode cX8_program 79 = .ok (.aload_n 0, 1) := by decide +kernel
theorem dX8_program_80 : decode cX8_program 80 = .ok (.getfield 19, 3) := by decide +kernel
theorem dX8_program_83 : decode cX8_program 83 = .ok (.getfield 100, 3) := by decide +kernel
theorem dX8_program_86 : decode cX8_program 86 = .ok (.ireturn, 1) := by decide +kernel
theorem dX8_name_0 : decode cX8_name 0 = .ok (.aload_n 0, 1) := by decide +kernel
theorem dX8_name_1 : decode cX8_name 1 = .ok (.getfield 19, 3) := by decide +kernel
theorem dX8_name_4 : decode cX8_name 4 = .ok (.iload_n 1, 1) := by decide +kernel
theorem dX8_name_5 : decode cX8_name 5 = .ok (.invokevirtual 103, 3) := by decide +kernel
theorem dX8_name_8 : decode cX8_name 8 = .ok (.ifCond .eq 13, 3) := by decide +kernel
theorem dX8_name_11 : decode cX8_name 11 = .ok (.iload_n 2, 1) := by decide +kernel
theorem dX8_name_12 : decode cX8_name 12 = .ok (.ifCond .lt 9, 3) := by decide +kernel
theorem dX8_name_15 : decode cX8_name 15 = .ok (.iload_n 2, 1) := by decide +kernel
theorem dX8_name_16 : decode cX8_name 16 = .ok (.bipush 7, 2) := by decide +kernel
theorem dX8_name_18 : decode cX8_name 18 = .ok (.if_icmp .le 5, 3) := by decide +kernel
theorem dX8_name_21 : decode cX8_name 21 = .ok (.iconst (-1), 1) := by decide +kernel
theorem dX8_name_22 : decode cX8_name 22 = .ok (.ireturn, 1) := by decide +kernel
theorem dX8_name_23 : decode cX8_name 23 = .ok (.iload_n 2, 1) := by decide +kernel
theorem dX8_name_24 : decode cX8_name 24 = .ok (.tableswitch 139 0 6 #[44, 54, 64, 99, 109, 119, 129], 44) := by decide +kernel
theorem dX8_name_68 : decode cX8_name 68 = .ok (.aload_n 0, 1) := by decide +kernel
theorem dX8_name_69 : decode cX8_name 69 = .ok (.getfield 19, 3) := by decide +kernel
theorem dX8_name_72 : decode cX8_name 72 = .ok (.getfield 107, 3) := by decide +kernel
theorem dX8_name_75 : decode cX8_name 75 = .ok (.iload_n 1, 1) := by decide +kernel
theorem dX8_name_76 : decode cX8_name 76 = .ok (.iaload, 1) := by decide +kernel
theorem dX8_name_77 : decode cX8_name 77 = .ok (.ireturn, 1) := by decide +kernel
theorem dX8_name_78 : decode cX8_name 78 = .ok (.aload_n 0, 1) := by decide +kernel
theorem dX8_name_79 : decode cX8_name 79 = .ok (.getfield 19, 3) := by decide +kernel
theorem dX8_name_82 : decode cX8_name 82 = .ok (.getfield 110, 3) := by decide +kernel
theorem dX8_name_85 : decode cX8_name 85 = .ok (.iload_n 1, 1) := by decide +kernel
theorem dX8_name_86 : decode cX8_name 86 = .ok (.iaload, 1) := by decide +kernel
theorem dX8_name_87 : decode cX8_name 87 = .ok (.ireturn, 1) := by decide +kernel
theorem dX8_name_88 : decode cX8_name 88 = .ok (.aload_n 0, 1) := by decide +kernel
theorem dX8_name_89 : decode cX8_name 89 = .ok (.getfield 19, 3) := by decide +kernel
theorem dX8_name_92 : decode cX8_name 92 = .ok (.getfield 110, 3) := by decide +kernel
theorem dX8_name_95 : decode cX8_name 95 = .ok (.iload_n 1, 1) := by decide +kernel
theorem dX8_name_96 : decode cX8_name 96 = .ok (.iaload, 1) := by decide +kernel
theorem dX8_name_97 : decode cX8_name 97 = .ok (.iconst 2, 1) := by decide +kernel
theorem dX8_name_98 : decode cX8_name 98 = .ok (.if_icmp .ne 15, 3) := by decide +kernel
theorem dX8_name_101 : decode cX8_name 101 = .ok (.aload_n 0, 1) := by decide +kernel
theorem dX8_name_102 : decode cX8_name 102 = .ok (.getfield 19, 3) := by decide +kernel
theorem dX8_name_105 : decode cX8_name 105 = .ok (.getfield 113, 3) := by decide +kernel
theorem dX8_name_108 : decode cX8_name 108 = .ok (.iload_n 1, 1) := by decide +kernel
theorem dX8_name_109 : decode cX8_name 109 = .ok (.iaload, 1) := by decide +kernel
theorem dX8_name_110 : decode cX8_name 110 = .ok (.goto 12, 3) := by decide +kernel
theorem dX8_name_113 : decode cX8_name 113 = .ok (.aload_n 0, 1) := by decide +kernel
theorem dX8_name_114 : decode cX8_name 114 = .ok (.getfield 19, 3) := by decide +kernel
theorem dX8_name_117 : decode cX8_name 117 = .ok (.getfield 116, 3) := by decide +kernel
theorem dX8_name_120 : decode cX8_name 120 = .ok (.iload_n 1, 1) := by decide +kernel
theorem dX8_name_121 : decode cX8_name 121 = .ok (.iaload, 1) := by decide +kernel
theorem dX8_name_122 : decode cX8_name 122 = .ok (.ireturn, 1) := by decide +kernel
theorem dX8_name_123 : decode cX8_name 123 = .ok (.aload_n 0, 1) := by decide +kernel
theorem dX8_name_124 : decode cX8_name 124 = .ok (.getfield 19, 3) := by decide +kernel
theorem dX8_name_127 : decode cX8_name 127 = .ok (.getfield 119, 3) := by decide +kernel
theorem dX8_name_130 : decode cX8_name 130 = .ok (.iload_n 1, 1) := by decide +kernel
theorem dX8_name_131 : decode cX8_name 131 = .ok (.iaload, 1) := by decide +kernel
theorem dX8_name_132 : decode cX8_name 132 = .ok (.ireturn, 1) := by decide +kernel
theorem dX8_name_133 : decode cX8_name 133 = .ok (.aload_n 0, 1) := by decide +kernel
theorem dX8_name_134 : decode cX8_name 134 = .ok (.getfield 19, 3) := by decide +kernel
theorem dX8_name_137 : decode cX8_name 137 = .ok (.getfield 122, 3) := by decide +kernel
theorem dX8_name_140 : decode cX8_name 140 = .ok (.iload_n 1, 1) := by decide +kernel
theorem dX8_name_141 : decode cX8_name 141 = .ok (.iaload, 1) := by decide +kernel
theorem dX8_name_142 : decode cX8_name 142 = .ok (.ireturn, 1) := by decide +kernel
theorem dX8_name_143 : decode cX8_name 143 = .ok (.aload_n 0, 1) := by decide +kernel
theorem dX8_name_144 : decode cX8_name 144 = .ok (.getfield 29, 3) := by decide +kernel
theorem dX8_name_147 : decode cX8_name 147 = .ok (.getfield 125, 3) := by decide +kernel
theorem dX8_name_150 : decode cX8_name 150 = .ok (.iload_n 1, 1) := by decide +kernel
theorem dX8_name_151 : decode cX8_name 151 = .ok (.iaload, 1) := by decide +kernel
theorem dX8_name_152 : decode cX8_name 152 = .ok (.ireturn, 1) := by decide +kernel
theorem dX8_name_153 : decode cX8_name 153 = .ok (.aload_n 0, 1) := by decide +kernel
theorem dX8_name_154 : decode cX8_name 154 = .ok (.getfield 36, 3) := by decide +kernel
theorem dX8_name_157 : decode cX8_name 157 = .ok (.getfield 128, 3) := by decide +kernel
theorem dX8_name_160 : decode cX8_name 160 = .ok (.iload_n 1, 1) := by decide +kernel
theorem dX8_name_161 : decode cX8_name 161 = .ok (.iaload, 1) := by decide +kernel
theorem dX8_name_162 : decode cX8_name 162 = .ok (.ireturn, 1) := by decide +kernel
theorem dX8_name_163 : decode cX8_name 163 = .ok (.aload_n 0, 1) := by decide +kernel
theorem dX8_name_164 : decode cX8_name 164 = .ok (.getfield 40, 3) := by decide +kernel
theorem dX8_name_167 : decode cX8_name 167 = .ok (.getfield 128, 3) := by decide +kernel
theorem dX8_name_170 : decode cX8_name 170 = .ok (.iload_n 1, 1) := by decide +kernel
theorem dX8_name_171 : decode cX8_name 171 = .ok (.iaload, 1) := by decide +kernel
theorem dX8_name_172 : decode cX8_name 172 = .ok (.ireturn, 1) := by decide +kernel
theorem dX8_found_0 : decode cX8_found 0 = .ok (.aload_n 0, 1) := by decide +kernel
theorem dX8_found_1 : decode cX8_found 1 = .ok (.getfield 19, 3) := by decide +kernel
theorem dX8_found_4 : decode cX8_found 4 = .ok (.iload_n 1, 1) := by decide +kernel
theorem dX8_found_5 : decode cX8_found 5 = .ok (.invokevirtual 103, 3) := by decide +kernel
theorem dX8_found_8 : decode cX8_found 8 = .ok (.ifCond .ne 5, 3) := by decide +kernel
theorem dX8_found_11 : decode cX8_found 11 = .ok (.iconst (-1), 1) := by decide +kernel
theorem dX8_found_12 : decode cX8_found 12 = .ok (.ireturn, 1) := by decide +kernel
theorem dX8_found_13 : decode cX8_found 13 = .ok (.aload_n 0, 1) := by decide +kernel
theorem dX8_found_14 : decode cX8_found 14 = .ok (.getfield 36, 3) := by decide +kernel
theorem dX8_found_17 : decode cX8_found 17 = .ok (.getfield 128, 3) := by decide +kernel
theorem dX8_found_20 : decode cX8_found 20 = .ok (.iload_n 1, 1) := by decide +kernel
theorem dX8_found_21 : decode cX8_found 21 = .ok (.iaload, 1) := by decide +kernel
theorem dX8_found_22 : decode cX8_found 22 = .ok (.iconst 1, 1) := by decide +kernel
theorem dX8_found_23 : decode cX8_found 23 = .ok (.if_icmp .eq 6, 3) := by decide +kernel
theorem dX8_found_26 : decode cX8_found 26 = .ok (.bipush (-2), 2) := by decide +kernel
theorem dX8_found_28 : decode cX8_found 28 = .ok (.ireturn, 1) := by decide +kernel
theorem dX8_found_29 : decode cX8_found 29 = .ok (.aload_n 0, 1) := by decide +kernel
theorem dX8_found_30 : decode cX8_found 30 = .ok (.aload_n 0, 1) := by decide +kernel
theorem dX8_found_31 : decode cX8_found 31 = .ok (.getfield 36, 3) := by decide +kernel
theorem dX8_found_34 : decode cX8_found 34 = .ok (.getfield 131, 3) := by decide +kernel
theorem dX8_found_37 : decode cX8_found 37 = .ok (.iload_n 1, 1) := by decide +kernel
theorem dX8_found_38 : decode cX8_found 38 = .ok (.iaload, 1) := by decide +kernel
theorem dX8_found_39 : decode cX8_found 39 = .ok (.putfield 68, 3) := by decide +kernel
theorem dX8_found_42 : decode cX8_found 42 = .ok (.iconst 1, 1) := by decide +kernel
theorem dX8_found_43 : decode cX8_found 43 = .ok (.ireturn, 1) := by decide +kernel
theorem dX8_block_0 : decode cX8_block 0 = .ok (.aload_n 0, 1) := by decide +kernel
theorem dX8_block_1 : decode cX8_block 1 = .ok (.getfield 19, 3) := by decide +kernel
theorem dX8_block_4 : decode cX8_block 4 = .ok (.iload_n 1, 1) := by decide +kernel
theorem dX8_block_5 : decode cX8_block 5 = .ok (.invokevirtual 134, 3) := by decide +kernel
theorem dX8_block_8 : decode cX8_block 8 = .ok (.ifCond .eq 13, 3) := by decide +kernel
theorem dX8_block_11 : decode cX8_block 11 = .ok (.iload_n 2, 1) := by decide +kernel
theorem dX8_block_12 : decode cX8_block 12 = .ok (.ifCond .lt 9, 3) := by decide +kernel
theorem dX8_block_15 : decode cX8_block 15 = .ok (.iload_n 2, 1) := by decide +kernel
theorem dX8_block_16 : decode cX8_block 16 = .ok (.bipush 8, 2) := by decide +kernel
theorem dX8_block_18 : decode cX8_block 18 = .ok (.if_icmp .le 5, 3) := by decide +kernel
theorem dX8_block_21 : decode cX8_block 21 = .ok (.iconst (-1), 1) := by decide +kernel
theorem dX8_block_22 : decode cX8_block 22 = .ok (.ireturn, 1) := by decide +kernel
theorem dX8_block_23 : decode cX8_block 23 = .ok (.iload_n 2, 1) := by decide +kernel
theorem dX8_block_24 : decode cX8_block 24 = .ok (.tableswitch 140 0 7 #[48, 58, 68, 78, 88, 100, 114, 126], 48) := by decide +kernel
theorem dX8_block_72 : decode cX8_block 72 = .ok (.aload_n 0, 1) := by decide +kernel
theorem dX8_block_73 : decode cX8_block 73 = .ok (.getfield 36, 3) := by decide +kernel
theorem dX8_block_76 : decode cX8_block 76 = .ok (.getfield 137, 3) := by decide +kernel
theorem dX8_block_79 : decode cX8_block 79 = .ok (.iload_n 1, 1) := by decide +kernel
theorem dX8_block_80 : decode cX8_block 80 = .ok (.iaload, 1) := by decide +kernel
theorem dX8_block_81 : decode cX8_block 81 = .ok (.ireturn, 1) := by decide +kernel
theorem dX8_block_82 : decode cX8_block 82 = .ok (.aload_n 0, 1) := by decide +kernel
theorem dX8_block_83 : decode cX8_block 83 = .ok (.getfield 19, 3) := by decide +kernel
theorem dX8_block_86 : decode cX8_block 86 = .ok (.getfield 140, 3) := by decide +kernel
theorem dX8_block_89 : decode cX8_block 89 = .ok (.iload_n 1, 1) := by decide +kernel
theorem dX8_block_90 : decode cX8_block 90 = .ok (.iaload, 1) := by decide +kernel
theorem dX8_block_91 : decode cX8_block 91 = .ok (.ireturn, 1) := by decide +kernel
theorem dX8_block_92 : decode cX8_block 92 = .ok (.aload_n 0, 1) := by decide +kernel
theorem dX8_block_93 : decode cX8_block 93 = .ok (.getfield 19, 3) := by decide +kernel
theorem dX8_block_96 : decode cX8_block 96 = .ok (.getfield 142, 3) := by decide +kernel
theorem dX8_block_99 : decode cX8_block 99 = .ok (.iload_n 1, 1) := by decide +kernel
theorem dX8_block_100 : decode cX8_block 100 = .ok (.iaload, 1) := by decide +kernel
theorem dX8_block_101 : decode cX8_block 101 = .ok (.ireturn, 1) := by decide +kernel
theorem dX8_block_102 : decode cX8_block 102 = .ok (.aload_n 0, 1) := by decide +kernel
theorem dX8_block_103 : decode cX8_block 103 = .ok (.getfield 19, 3) := by decide +kernel
theorem dX8_block_106 : decode cX8_block 106 = .ok (.getfield 145, 3) := by decide +kernel
theorem dX8_block_109 : decode cX8_block 109 = .ok (.iload_n 1, 1) := by decide +kernel
theorem dX8_block_110 : decode cX8_block 110 = .ok (.iaload, 1) := by decide +kernel
theorem dX8_block_111 : decode cX8_block 111 = .ok (.ireturn, 1) := by decide +kernel
theorem dX8_block_112 : decode cX8_block 112 = .ok (.aload_n 0, 1) := by decide +kernel
theorem dX8_block_113 : decode cX8_block 113 = .ok (.getfield 29, 3) := by decide +kernel
theorem dX8_block_116 : decode cX8_block 116 = .ok (.getfield 148, 3) := by decide +kernel
theorem dX8_block_119 : decode cX8_block 119 = .ok (.iconst 2, 1) := by decide +kernel
theorem dX8_block_120 : decode cX8_block 120 = .ok (.iload_n 1, 1) := by decide +kernel
theorem dX8_block_121 : decode cX8_block 121 = .ok (.imul, 1) := by decide +kernel
theorem dX8_block_122 : decode cX8_block 122 = .ok (.iaload, 1) := by decide +kernel
theorem dX8_block_123 : decode cX8_block 123 = .ok (.ireturn, 1) := by decide +kernel
theorem dX8_block_124 : decode cX8_block 124 = .ok (.aload_n 0, 1) := by decide +kernel
theorem dX8_block_125 : decode cX8_block 125 = .ok (.getfield 29, 3) := by decide +kernel
theorem dX8_block_128 : decode cX8_block 128 = .ok (.getfield 148, 3) := by decide +kernel
theorem dX8_block_131 : decode cX8_block 131 = .ok (.iconst 2, 1) := by decide +kernel
theorem dX8_block_132 : decode cX8_block 132 = .ok (.iload_n 1, 1) := by decide +kernel
theorem dX8_block_133 : decode cX8_block 133 = .ok (.imul, 1) := by decide +kernel
theorem dX8_block_134 : decode cX8_block 134 = .ok (.iconst 1, 1) := by decide +kernel
theorem dX8_block_135 : decode cX8_block 135 = .ok (.iadd, 1) := by decide +kernel
theorem dX8_block_136 : decode cX8_block 136 = .ok (.iaload, 1) := by decide +kernel
theorem dX8_block_137 : decode cX8_block 137 = .ok (.ireturn, 1) := by decide +kernel
theorem dX8_block_138 : decode cX8_block 138 = .ok (.aload_n 0, 1) := by decide +kernel
theorem dX8_block_139 : decode cX8_block 139 = .ok (.getfield 36, 3) := by decide +kernel
theorem dX8_block_142 : decode cX8_block 142 = .ok (.getfield 151, 3) := by decide +kernel
theorem dX8_block_145 : decode cX8_block 145 = .ok (.iconst 2, 1) := by decide +kernel
theorem dX8_block_146 : decode cX8_block 146 = .ok (.iload_n 1, 1) := by decide +kernel
theorem dX8_block_147 : decode cX8_block 147 = .ok (.imul, 1) := by decide +kernel
theorem dX8_block_148 : decode cX8_block 148 = .ok (.iaload, 1) := by decide +kernel
theorem dX8_block_149 : decode cX8_block 149 = .ok (.ireturn, 1) := by decide +kernel
theorem dX8_block_150 : decode cX8_block 150 = .ok (.aload_n 0, 1) := by decide +kernel
theorem dX8_block_151 : decode cX8_block 151 = .ok (.getfield 36, 3) := by decide +kernel
theorem dX8_block_154 : decode cX8_block 154 = .ok (.getfield 151, 3) := by decide +kernel
theorem dX8_block_157 : decode cX8_block 157 = .ok (.iconst 2, 1) := by decide +kernel
theorem dX8_block_158 : decode cX8_block 158 = .ok (.iload_n 1, 1) := by decide +kernel
theorem dX8_block_159 : decode cX8_block 159 = .ok (.imul, 1) := by decide +kernel
theorem dX8_block_160 : decode cX8_block 160 = .ok (.iconst 1, 1) := by decide +kernel
theorem dX8_block_161 : decode cX8_block 161 = .ok (.iadd, 1) := by decide +kernel
theorem dX8_block_162 : decode cX8_block 162 = .ok (.iaload, 1) := by decide +kernel
theorem dX8_block_163 : decode cX8_block 163 = .ok (.ireturn, 1) := by decide +kernel
theorem dX8_block_164 : decode cX8_block 164 = .ok (.aload_n 0, 1) := by decide +kernel
theorem dX8_block_165 : decode cX8_block 165 = .ok (.getfield 19, 3) := by decide +kernel
theorem dX8_block_168 : decode cX8_block 168 = .ok (.getfield 154, 3) := by decide +kernel
theorem dX8_block_171 : decode cX8_block 171 = .ok (.iload_n 1, 1) := by decide +kernel
theorem dX8_block_172 : decode cX8_block 172 = .ok (.iaload, 1) := by decide +kernel
theorem dX8_block_173 : decode cX8_block 173 = .ok (.ireturn, 1) := by decide +kernel
theorem dX8_knows_0 : decode cX8_knows 0 = .ok (.aload_n 0, 1) := by decide +kernel
theorem dX8_knows_1 : decode cX8_knows 1 = .ok (.getfield 19, 3) := by decide +kernel
theorem dX8_knows_4 : decode cX8_knows 4 = .ok (.iload_n 1, 1) := by decide +kernel
theorem dX8_knows_5 : decode cX8_knows 5 = .ok (.iconst 1, 1) := by decide +kernel
theorem dX8_knows_6 : decode cX8_knows 6 = .ok (.invokevirtual 157, 3) := by decide +kernel
theorem dX8_knows_9 : decode cX8_knows 9 = .ok (.ifCond .ne 5, 3) := by decide +kernel
theorem dX8_knows_12 : decode cX8_knows 12 = .ok (.iconst (-1), 1) := by decide +kernel
theorem dX8_knows_13 : decode cX8_knows 13 = .ok (.ireturn, 1) := by decide +kernel
theorem dX8_knows_14 : decode cX8_knows 14 = .ok (.aload_n 0, 1) := by decide +kernel
theorem dX8_knows_15 : decode cX8_knows 15 = .ok (.getfield 56, 3) := by decide +kernel
theorem dX8_knows_18 : decode cX8_knows 18 = .ok (.iconst 0, 1) := by decide +kernel
theorem dX8_knows_19 : decode cX8_knows 19 = .ok (.iload_n 1, 1) := by decide +kernel
theorem dX8_knows_20 : decode cX8_knows 20 = .ok (.aload_n 0, 1) := by decide +kernel
theorem dX8_knows_21 : decode cX8_knows 21 = .ok (.getfield 29, 3) := by decide +kernel
theorem dX8_knows_24 : decode cX8_knows 24 = .ok (.invokevirtual 161, 3) := by decide +kernel
theorem dX8_knows_27 : decode cX8_knows 27 = .ok (.aload_n 0, 1) := by decide +kernel
theorem dX8_knows_28 : decode cX8_knows 28 = .ok (.getfield 29, 3) := by decide +kernel
theorem dX8_knows_31 : decode cX8_knows 31 = .ok (.getfield 125, 3) := by decide +kernel
theorem dX8_knows_34 : decode cX8_knows 34 = .ok (.iload_n 1, 1) := by decide +kernel
theorem dX8_knows_35 : decode cX8_knows 35 = .ok (.iconst 1, 1) := by decide +kernel
theorem dX8_knows_36 : decode cX8_knows 36 = .ok (.iastore, 1) := by decide +kernel
theorem dX8_knows_37 : decode cX8_knows 37 = .ok (.aload_n 0, 1) := by decide +kernel
theorem dX8_knows_38 : decode cX8_knows 38 = .ok (.getfield 29, 3) := by decide +kernel
theorem dX8_knows_41 : decode cX8_knows 41 = .ok (.getfield 165, 3) := by decide +kernel
theorem dX8_knows_44 : decode cX8_knows 44 = .ok (.iload_n 1, 1) := by decide +kernel
theorem dX8_knows_45 : decode cX8_knows 45 = .ok (.iload_n 2, 1) := by decide +kernel
theorem dX8_knows_46 : decode cX8_knows 46 = .ok (.iastore, 1) := by decide +kernel
theorem dX8_knows_47 : decode cX8_knows 47 = .ok (.aload_n 0, 1) := by decide +kernel
theorem dX8_knows_48 : decode cX8_knows 48 = .ok (.invokevirtual 97, 3) := by decide +kernel
theorem dX8_knows_51 : decode cX8_knows 51 = .ok (.aload_n 0, 1) := by decide +kernel
theorem dX8_knows_52 : decode cX8_knows 52 = .ok (.getfield 36, 3) := by decide +kernel
theorem dX8_knows_55 : decode cX8_knows 55 = .ok (.iconst 1, 1) := by decide +kernel
theorem dX8_knows_56 : decode cX8_knows 56 = .ok (.aload_n 0, 1) := by decide +kernel
theorem dX8_knows_57 : decode cX8_knows 57 = .ok (.getfield 19, 3) := by decide +kernel
theorem dX8_knows_60 : decode cX8_knows 60 = .ok (.invokevirtual 168, 3) := by decide +kernel
theorem dX8_knows_63 : decode cX8_knows 63 = .ok (.ireturn, 1) := by decide +kernel
theorem dX8_forgets_0 : decode cX8_forgets 0 = .ok (.aload_n 0, 1) := by decide +kernel
theorem dX8_forgets_1 : decode cX8_forgets 1 = .ok (.getfield 19, 3) := by decide +kernel
theorem dX8_forgets_4 : decode cX8_forgets 4 = .ok (.iload_n 1, 1) := by decide +kernel
theorem dX8_forgets_5 : decode cX8_forgets 5 = .ok (.iconst 1, 1) := by decide +kernel
theorem dX8_forgets_6 : decode cX8_forgets 6 = .ok (.invokevirtual 157, 3) := by decide +kernel
theorem dX8_forgets_9 : decode cX8_forgets 9 = .ok (.ifCond .ne 5, 3) := by decide +kernel
theorem dX8_forgets_12 : decode cX8_forgets 12 = .ok (.iconst (-1), 1) := by decide +kernel
theorem dX8_forgets_13 : decode cX8_forgets 13 = .ok (.ireturn, 1) := by decide +kernel
theorem dX8_forgets_14 : decode cX8_forgets 14 = .ok (.aload_n 0, 1) := by decide +kernel
theorem dX8_forgets_15 : decode cX8_forgets 15 = .ok (.getfield 29, 3) := by decide +kernel
theorem dX8_forgets_18 : decode cX8_forgets 18 = .ok (.getfield 125, 3) := by decide +kernel
theorem dX8_forgets_21 : decode cX8_forgets 21 = .ok (.iload_n 1, 1) := by decide +kernel
theorem dX8_forgets_22 : decode cX8_forgets 22 = .ok (.iaload, 1) := by decide +kernel
theorem dX8_forgets_23 : decode cX8_forgets 23 = .ok (.ifCond .ne 6, 3) := by decide +kernel
theorem dX8_forgets_26 : decode cX8_forgets 26 = .ok (.bipush (-2), 2) := by decide +kernel
theorem dX8_forgets_28 : decode cX8_forgets 28 = .ok (.ireturn, 1) := by decide +kernel
theorem dX8_forgets_29 : decode cX8_forgets 29 = .ok (.aload_n 0, 1) := by decide +kernel
theorem dX8_forgets_30 : decode cX8_forgets 30 = .ok (.getfield 56, 3) := by decide +kernel
theorem dX8_forgets_33 : decode cX8_forgets 33 = .ok (.iconst 0, 1) := by decide +kernel
theorem dX8_forgets_34 : decode cX8_forgets 34 = .ok (.iload_n 1, 1) := by decide +kernel
theorem dX8_forgets_35 : decode cX8_forgets 35 = .ok (.aload_n 0, 1) := by decide +kernel
theorem dX8_forgets_36 : decode cX8_forgets 36 = .ok (.getfield 29, 3) := by decide +kernel
theorem dX8_forgets_39 : decode cX8_forgets 39 = .ok (.invokevirtual 161, 3) := by decide +kernel
theorem dX8_forgets_42 : decode cX8_forgets 42 = .ok (.aload_n 0, 1) := by decide +kernel
theorem dX8_forgets_43 : decode cX8_forgets 43 = .ok (.getfield 29, 3) := by decide +kernel
theorem dX8_forgets_46 : decode cX8_forgets 46 = .ok (.getfield 125, 3) := by decide +kernel
theorem dX8_forgets_49 : decode cX8_forgets 49 = .ok (.iload_n 1, 1) := by decide +kernel
theorem dX8_forgets_50 : decode cX8_forgets 50 = .ok (.iconst 0, 1) := by decide +kernel
theorem dX8_forgets_51 : decode cX8_forgets 51 = .ok (.iastore, 1) := by decide +kernel
theorem dX8_forgets_52 : decode cX8_forgets 52 = .ok (.aload_n 0, 1) := by decide +kernel
theorem dX8_forgets_53 : decode cX8_forgets 53 = .ok (.invokevirtual 97, 3) := by decide +kernel
theorem dX8_forgets_56 : decode cX8_forgets 56 = .ok (.aload_n 0, 1) := by decide +kernel
theorem dX8_forgets_57 : decode cX8_forgets 57 = .ok (.getfield 36, 3) := by decide +kernel
theorem dX8_forgets_60 : decode cX8_forgets 60 = .ok (.iconst 1, 1) := by decide +kernel
theorem dX8_forgets_61 : decode cX8_forgets 61 = .ok (.aload_n 0, 1) := by decide +kernel
theorem dX8_forgets_62 : decode cX8_forgets 62 = .ok (.getfield 19, 3) := by decide +kernel
theorem dX8_forgets_65 : decode cX8_forgets 65 = .ok (.invokevirtual 168, 3) := by decide +kernel
theorem dX8_forgets_68 : decode cX8_forgets 68 = .ok (.ireturn, 1) := by decide +kernel
theorem dX8_gives_0 : decode cX8_gives 0 = .ok (.aload_n 0, 1) := by decide +kernel
theorem dX8_gives_1 : decode cX8_gives 1 = .ok (.getfield 19, 3) := by decide +kernel
theorem dX8_gives_4 : decode cX8_gives 4 = .ok (.iload_n 1, 1) := by decide +kernel
theorem dX8_gives_5 : decode cX8_gives 5 = .ok (.iconst 1, 1) := by decide +kernel
theorem dX8_gives_6 : decode cX8_gives 6 = .ok (.invokevirtual 157, 3) := by decide +kernel
theorem dX8_gives_9 : decode cX8_gives 9 = .ok (.ifCond .ne 5, 3) := by decide +kernel
theorem dX8_gives_12 : decode cX8_gives 12 = .ok (.iconst (-1), 1) := by decide +kernel
theorem dX8_gives_13 : decode cX8_gives 13 = .ok (.ireturn, 1) := by decide +kernel
theorem dX8_gives_14 : decode cX8_gives 14 = .ok (.aload_n 0, 1) := by decide +kernel
theorem dX8_gives_15 : decode cX8_gives 15 = .ok (.getfield 56, 3) := by decide +kernel
theorem dX8_gives_18 : decode cX8_gives 18 = .ok (.iconst 1, 1) := by decide +kernel
theorem dX8_gives_19 : decode cX8_gives 19 = .ok (.iload_n 1, 1) := by decide +kernel
theorem dX8_gives_20 : decode cX8_gives 20 = .ok (.aload_n 0, 1) := by decide +kernel
theorem dX8_gives_21 : decode cX8_gives 21 = .ok (.getfield 29, 3) := by decide +kernel
theorem dX8_gives_24 : decode cX8_gives 24 = .ok (.invokevirtual 161, 3) := by decide +kernel
theorem dX8_gives_27 : decode cX8_gives 27 = .ok (.aload_n 0, 1) := by decide +kernel
theorem dX8_gives_28 : decode cX8_gives 28 = .ok (.aload_n 0, 1) := by decide +kernel
theorem dX8_gives_29 : decode cX8_gives 29 = .ok (.getfield 29, 3) := by decide +kernel
theorem dX8_gives_32 : decode cX8_gives 32 = .ok (.getfield 172, 3) := by decide +kernel
theorem dX8_gives_35 : decode cX8_gives 35 = .ok (.iload_n 1, 1) := by decide +kernel
theorem dX8_gives_36 : decode cX8_gives 36 = .ok (.iaload, 1) := by decide +kernel
theorem dX8_gives_37 : decode cX8_gives 37 = .ok (.putfield 68, 3) := by decide +kernel
theorem dX8_gives_40 : decode cX8_gives 40 = .ok (.aload_n 0, 1) := by decide +kernel
theorem dX8_gives_41 : decode cX8_gives 41 = .ok (.getfield 29, 3) := by decide +kernel
theorem dX8_gives_44 : decode cX8_gives 44 = .ok (.getfield 172, 3) := by decide +kernel
theorem dX8_gives_47 : decode cX8_gives 47 = .ok (.iload_n 1, 1) := by decide +kernel
theorem dX8_gives_48 : decode cX8_gives 48 = .ok (.iload_n 2, 1) := by decide +kernel
theorem dX8_gives_49 : decode cX8_gives 49 = .ok (.iastore, 1) := by decide +kernel
theorem dX8_gives_50 : decode cX8_gives 50 = .ok (.aload_n 0, 1) := by decide +kernel
theorem dX8_gives_51 : decode cX8_gives 51 = .ok (.invokevirtual 97, 3) := by decide +kernel
theorem dX8_gives_54 : decode cX8_gives 54 = .ok (.iconst 1, 1) := by decide +kernel
theorem dX8_gives_55 : decode cX8_gives 55 = .ok (.ireturn, 1) := by decide +kernel
theorem dX8_patches_0 : decode cX8_patches 0 = .ok (.aload_n 0, 1) := by decide +kernel
theorem dX8_patches_1 : decode cX8_patches 1 = .ok (.getfield 19, 3) := by decide +kernel
theorem dX8_patches_4 : decode cX8_patches 4 = .ok (.iload_n 1, 1) := by decide +kernel
theorem dX8_patches_5 : decode cX8_patches 5 = .ok (.iconst 0, 1) := by decide +kernel
theorem dX8_patches_6 : decode cX8_patches 6 = .ok (.invokevirtual 157, 3) := by decide +kernel
theorem dX8_patches_9 : decode cX8_patches 9 = .ok (.ifCond .eq 14, 3) := by decide +kernel
theorem dX8_patches_12 : decode cX8_patches 12 = .ok (.iload_n 2, 1) := by decide +kernel
theorem dX8_patches_13 : decode cX8_patches 13 = .ok (.ifCond .lt 10, 3) := by decide +kernel
theorem dX8_patches_16 : decode cX8_patches 16 = .ok (.iload_n 2, 1) := by decide +kernel
theorem dX8_patches_17 : decode cX8_patches 17 = .ok (.sipush 999, 3) := by decide +kernel
theorem dX8_patches_20 : decode cX8_patches 20 = .ok (.if_icmp .le 5, 3) := by decide +kernel
theorem dX8_patches_23 : decode cX8_patches 23 = .ok (.iconst (-1), 1) := by decide +kernel
theorem dX8_patches_24 : decode cX8_patches 24 = .ok (.ireturn, 1) := by decide +kernel
theorem dX8_patches_25 : decode cX8_patches 25 = .ok (.aload_n 0, 1) := by decide +kernel
theorem dX8_patches_26 : decode cX8_patches 26 = .ok (.getfield 29, 3) := by decide +kernel
theorem dX8_patches_29 : decode cX8_patches 29 = .ok (.getfield 175, 3) := by decide +kernel
theorem dX8_patches_32 : decode cX8_patches 32 = .ok (.iload_n 1, 1) := by decide +kernel
theorem dX8_patches_33 : decode cX8_patches 33 = .ok (.iaload, 1) := by decide +kernel
theorem dX8_patches_34 : decode cX8_patches 34 = .ok (.istore_n 3, 1) := by decide +kernel
theorem dX8_patches_35 : decode cX8_patches 35 = .ok (.iload_n 3, 1) := by decide +kernel
theorem dX8_patches_36 : decode cX8_patches 36 = .ok (.iload_n 2, 1) := by decide +kernel
theorem dX8_patches_37 : decode cX8_patches 37 = .ok (.if_icmp .ne 6, 3) := by decide +kernel
theorem dX8_patches_40 : decode cX8_patches 40 = .ok (.bipush (-2), 2) := by decide +kernel
theorem dX8_patches_42 : decode cX8_patches 42 = .ok (.ireturn, 1) := by decide +kernel
theorem dX8_patches_43 : decode cX8_patches 43 = .ok (.aload_n 0, 1) := by decide +kernel
theorem dX8_patches_44 : decode cX8_patches 44 = .ok (.getfield 56, 3) := by decide +kernel
theorem dX8_patches_47 : decode cX8_patches 47 = .ok (.iconst 2, 1) := by decide +kernel
theorem dX8_patches_48 : decode cX8_patches 48 = .ok (.iload_n 1, 1) := by decide +kernel
theorem dX8_patches_49 : decode cX8_patches 49 = .ok (.aload_n 0, 1) := by decide +kernel
theorem dX8_patches_50 : decode cX8_patches 50 = .ok (.getfield 29, 3) := by decide +kernel
theorem dX8_patches_53 : decode cX8_patches 53 = .ok (.invokevirtual 161, 3) := by decide +kernel
theorem dX8_patches_56 : decode cX8_patches 56 = .ok (.aload_n 0, 1) := by decide +kernel
theorem dX8_patches_57 : decode cX8_patches 57 = .ok (.getfield 29, 3) := by decide +kernel
theorem dX8_patches_60 : decode cX8_patches 60 = .ok (.getfield 175, 3) := by decide +kernel
theorem dX8_patches_63 : decode cX8_patches 63 = .ok (.iload_n 1, 1) := by decide +kernel
theorem dX8_patches_64 : decode cX8_patches 64 = .ok (.iload_n 2, 1) := by decide +kernel
theorem dX8_patches_65 : decode cX8_patches 65 = .ok (.iastore, 1) := by decide +kernel
theorem dX8_patches_66 : decode cX8_patches 66 = .ok (.aload_n 0, 1) := by decide +kernel
theorem dX8_patches_67 : decode cX8_patches 67 = .ok (.invokevirtual 97, 3) := by decide +kernel
theorem dX8_patches_70 : decode cX8_patches 70 = .ok (.iload_n 3, 1) := by decide +kernel
theorem dX8_patches_71 : decode cX8_patches 71 = .ok (.ireturn, 1) := by decide +kernel
theorem dX8_turned_0 : decode cX8_turned 0 = .ok (.aload_n 0, 1) := by decide +kernel
theorem dX8_turned_1 : decode cX8_turned 1 = .ok (.getfield 19, 3) := by decide +kernel
theorem dX8_turned_4 : decode cX8_turned 4 = .ok (.iload_n 1, 1) := by decide +kernel
theorem dX8_turned_5 : decode cX8_turned 5 = .ok (.invokevirtual 134, 3) := by decide +kernel
theorem dX8_turned_8 : decode cX8_turned 8 = .ok (.ifCond .ne 5, 3) := by decide +kernel
theorem dX8_turned_11 : decode cX8_turned 11 = .ok (.iconst (-1), 1) := by decide +kernel
theorem dX8_turned_12 : decode cX8_turned 12 = .ok (.ireturn, 1) := by decide +kernel
theorem dX8_turned_13 : decode cX8_turned 13 = .ok (.aload_n 0, 1) := by decide +kernel
theorem dX8_turned_14 : decode cX8_turned 14 = .ok (.getfield 19, 3) := by decide +kernel
theorem dX8_turned_17 : decode cX8_turned 17 = .ok (.getfield 142, 3) := by decide +kernel
theorem dX8_turned_20 : decode cX8_turned 20 = .ok (.iload_n 1, 1) := by decide +kernel
theorem dX8_turned_21 : decode cX8_turned 21 = .ok (.iaload, 1) := by decide +kernel
theorem dX8_turned_22 : decode cX8_turned 22 = .ok (.iconst 1, 1) := by decide +kernel
theorem dX8_turned_23 : decode cX8_turned 23 = .ok (.if_icmp .eq 6, 3) := by decide +kernel
theorem dX8_turned_26 : decode cX8_turned 26 = .ok (.bipush (-2), 2) := by decide +kernel
theorem dX8_turned_28 : decode cX8_turned 28 = .ok (.ireturn, 1) := by decide +kernel
theorem dX8_turned_29 : decode cX8_turned 29 = .ok (.aload_n 0, 1) := by decide +kernel
theorem dX8_turned_30 : decode cX8_turned 30 = .ok (.getfield 56, 3) := by decide +kernel
theorem dX8_turned_33 : decode cX8_turned 33 = .ok (.iconst 3, 1) := by decide +kernel
theorem dX8_turned_34 : decode cX8_turned 34 = .ok (.iload_n 1, 1) := by decide +kernel
theorem dX8_turned_35 : decode cX8_turned 35 = .ok (.aload_n 0, 1) := by decide +kernel
theorem dX8_turned_36 : decode cX8_turned 36 = .ok (.getfield 29, 3) := by decide +kernel
theorem dX8_turned_39 : decode cX8_turned 39 = .ok (.invokevirtual 161, 3) := by decide +kernel
theorem dX8_turned_42 : decode cX8_turned 42 = .ok (.aload_n 0, 1) := by decide +kernel
theorem dX8_turned_43 : decode cX8_turned 43 = .ok (.getfield 29, 3) := by decide +kernel
theorem dX8_turned_46 : decode cX8_turned 46 = .ok (.iload_n 1, 1) := by decide +kernel
theorem dX8_turned_47 : decode cX8_turned 47 = .ok (.invokevirtual 178, 3) := by decide +kernel
theorem dX8_turned_50 : decode cX8_turned 50 = .ok (.aload_n 0, 1) := by decide +kernel
theorem dX8_turned_51 : decode cX8_turned 51 = .ok (.invokevirtual 97, 3) := by decide +kernel
theorem dX8_turned_54 : decode cX8_turned 54 = .ok (.aload_n 0, 1) := by decide +kernel
theorem dX8_turned_55 : decode cX8_turned 55 = .ok (.getfield 36, 3) := by decide +kernel
theorem dX8_turned_58 : decode cX8_turned 58 = .ok (.aload_n 0, 1) := by decide +kernel
theorem dX8_turned_59 : decode cX8_turned 59 = .ok (.getfield 19, 3) := by decide +kernel
theorem dX8_turned_62 : decode cX8_turned 62 = .ok (.invokevirtual 182, 3) := by decide +kernel
theorem dX8_turned_65 : decode cX8_turned 65 = .ok (.ireturn, 1) := by decide +kernel
theorem dX8_undo_0 : decode cX8_undo 0 = .ok (.aload_n 0, 1) := by decide +kernel
theorem dX8_undo_1 : decode cX8_undo 1 = .ok (.getfield 56, 3) := by decide +kernel
theorem dX8_undo_4 : decode cX8_undo 4 = .ok (.getfield 88, 3) := by decide +kernel
theorem dX8_undo_7 : decode cX8_undo 7 = .ok (.ifCond .ne 6, 3) := by decide +kernel
theorem dX8_undo_10 : decode cX8_undo 10 = .ok (.bipush (-2), 2) := by decide +kernel
theorem dX8_undo_12 : decode cX8_undo 12 = .ok (.ireturn, 1) := by decide +kernel
theorem dX8_undo_13 : decode cX8_undo 13 = .ok (.aload_n 0, 1) := by decide +kernel
theorem dX8_undo_14 : decode cX8_undo 14 = .ok (.getfield 56, 3) := by decide +kernel
theorem dX8_undo_17 : decode cX8_undo 17 = .ok (.aload_n 0, 1) := by decide +kernel
theorem dX8_undo_18 : decode cX8_undo 18 = .ok (.getfield 29, 3) := by decide +kernel
theorem dX8_undo_21 : decode cX8_undo 21 = .ok (.invokevirtual 186, 3) := by decide +kernel
theorem dX8_undo_24 : decode cX8_undo 24 = .ok (.aload_n 0, 1) := by decide +kernel
theorem dX8_undo_25 : decode cX8_undo 25 = .ok (.invokevirtual 97, 3) := by decide +kernel
theorem dX8_undo_28 : decode cX8_undo 28 = .ok (.aload_n 0, 1) := by decide +kernel
theorem dX8_undo_29 : decode cX8_undo 29 = .ok (.getfield 56, 3) := by decide +kernel
theorem dX8_undo_32 : decode cX8_undo 32 = .ok (.getfield 88, 3) := by decide +kernel
theorem dX8_undo_35 : decode cX8_undo 35 = .ok (.ireturn, 1) := by decide +kernel
theorem dX8_run_0 : decode cX8_run 0 = .ok (.aload_n 0, 1) := by decide +kernel
theorem dX8_run_1 : decode cX8_run 1 = .ok (.getfield 19, 3) := by decide +kernel
theorem dX8_run_4 : decode cX8_run 4 = .ok (.getfield 190, 3) := by decide +kernel
theorem dX8_run_7 : decode cX8_run 7 = .ok (.ifCond .ne 6, 3) := by decide +kernel
theorem dX8_run_10 : decode cX8_run 10 = .ok (.bipush (-2), 2) := by decide +kernel
theorem dX8_run_12 : decode cX8_run 12 = .ok (.ireturn, 1) := by decide +kernel
theorem dX8_run_13 : decode cX8_run 13 = .ok (.aload_n 0, 1) := by decide +kernel
theorem dX8_run_14 : decode cX8_run 14 = .ok (.aload_n 0, 1) := by decide +kernel
theorem dX8_run_15 : decode cX8_run 15 = .ok (.getfield 49, 3) := by decide +kernel
theorem dX8_run_18 : decode cX8_run 18 = .ok (.getfield 193, 3) := by decide +kernel
theorem dX8_run_21 : decode cX8_run 21 = .ok (.putfield 68, 3) := by decide +kernel
theorem dX8_run_24 : decode cX8_run 24 = .ok (.aload_n 0, 1) := by decide +kernel
theorem dX8_run_25 : decode cX8_run 25 = .ok (.getfield 49, 3) := by decide +kernel
theorem dX8_run_28 : decode cX8_run 28 = .ok (.getfield 196, 3) := by decide +kernel
theorem dX8_run_31 : decode cX8_run 31 = .ok (.ireturn, 1) := by decide +kernel
theorem dX8_visits_0 : decode cX8_visits 0 = .ok (.aload_n 0, 1) := by decide +kernel
theorem dX8_visits_1 : decode cX8_visits 1 = .ok (.getfield 19, 3) := by decide +kernel
theorem dX8_visits_4 : decode cX8_visits 4 = .ok (.iload_n 1, 1) := by decide +kernel
theorem dX8_visits_5 : decode cX8_visits 5 = .ok (.invokevirtual 134, 3) := by decide +kernel
theorem dX8_visits_8 : decode cX8_visits 8 = .ok (.ifCond .eq 15, 3) := by decide +kernel
theorem dX8_visits_11 : decode cX8_visits 11 = .ok (.aload_n 0, 1) := by decide +kernel
theorem dX8_visits_12 : decode cX8_visits 12 = .ok (.getfield 49, 3) := by decide +kernel
theorem dX8_visits_15 : decode cX8_visits 15 = .ok (.getfield 199, 3) := by decide +kernel
theorem dX8_visits_18 : decode cX8_visits 18 = .ok (.iload_n 1, 1) := by decide +kernel
theorem dX8_visits_19 : decode cX8_visits 19 = .ok (.iaload, 1) := by decide +kernel
theorem dX8_visits_20 : decode cX8_visits 20 = .ok (.goto 4, 3) := by decide +kernel
theorem dX8_visits_23 : decode cX8_visits 23 = .ok (.iconst (-1), 1) := by decide +kernel
theorem dX8_visits_24 : decode cX8_visits 24 = .ok (.ireturn, 1) := by decide +kernel
theorem dX8_last_0 : decode cX8_last 0 = .ok (.aload_n 0, 1) := by decide +kernel
theorem dX8_last_1 : decode cX8_last 1 = .ok (.getfield 19, 3) := by decide +kernel
theorem dX8_last_4 : decode cX8_last 4 = .ok (.iload_n 1, 1) := by decide +kernel
theorem dX8_last_5 : decode cX8_last 5 = .ok (.invokevirtual 103, 3) := by decide +kernel
theorem dX8_last_8 : decode cX8_last 8 = .ok (.ifCond .ne 5, 3) := by decide +kernel
theorem dX8_last_11 : decode cX8_last 11 = .ok (.iconst (-1), 1) := by decide +kernel
theorem dX8_last_12 : decode cX8_last 12 = .ok (.ireturn, 1) := by decide +kernel
theorem dX8_last_13 : decode cX8_last 13 = .ok (.aload_n 0, 1) := by decide +kernel
theorem dX8_last_14 : decode cX8_last 14 = .ok (.aload_n 0, 1) := by decide +kernel
theorem dX8_last_15 : decode cX8_last 15 = .ok (.getfield 49, 3) := by decide +kernel
theorem dX8_last_18 : decode cX8_last 18 = .ok (.getfield 202, 3) := by decide +kernel
theorem dX8_last_21 : decode cX8_last 21 = .ok (.iload_n 1, 1) := by decide +kernel
theorem dX8_last_22 : decode cX8_last 22 = .ok (.iaload, 1) := by decide +kernel
theorem dX8_last_23 : decode cX8_last 23 = .ok (.putfield 68, 3) := by decide +kernel
theorem dX8_last_26 : decode cX8_last 26 = .ok (.iconst 1, 1) := by decide +kernel
theorem dX8_last_27 : decode cX8_last 27 = .ok (.ireturn, 1) := by decide +kernel
theorem dX8_count_0 : decode cX8_count 0 = .ok (.iload_n 1, 1) := by decide +kernel
theorem dX8_count_1 : decode cX8_count 1 = .ok (.tableswitch 205 0 12 #[67, 75, 83, 91, 103, 111, 124, 137, 149, 161, 173, 189, 197], 67) := by decide +kernel
theorem dX8_count_68 : decode cX8_count 68 = .ok (.aload_n 0, 1) := by decide +kernel
theorem dX8_count_69 : decode cX8_count 69 = .ok (.getfield 19, 3) := by decide +kernel
theorem dX8_count_72 : decode cX8_count 72 = .ok (.getfield 100, 3) := by decide +kernel
theorem dX8_count_75 : decode cX8_count 75 = .ok (.ireturn, 1) := by decide +kernel
theorem dX8_count_76 : decode cX8_count 76 = .ok (.aload_n 0, 1) := by decide +kernel
theorem dX8_count_77 : decode cX8_count 77 = .ok (.getfield 19, 3) := by decide +kernel
theorem dX8_count_80 : decode cX8_count 80 = .ok (.getfield 190, 3) := by decide +kernel
theorem dX8_count_83 : decode cX8_count 83 = .ok (.ireturn, 1) := by decide +kernel
theorem dX8_count_84 : decode cX8_count 84 = .ok (.aload_n 0, 1) := by decide +kernel
theorem dX8_count_85 : decode cX8_count 85 = .ok (.getfield 19, 3) := by decide +kernel
theorem dX8_count_88 : decode cX8_count 88 = .ok (.invokevirtual 203, 3) := by decide +kernel
theorem dX8_count_91 : decode cX8_count 91 = .ok (.ireturn, 1) := by decide +kernel
theorem dX8_count_92 : decode cX8_count 92 = .ok (.aload_n 0, 1) := by decide +kernel
theorem dX8_count_93 : decode cX8_count 93 = .ok (.getfield 36, 3) := by decide +kernel
theorem dX8_count_96 : decode cX8_count 96 = .ok (.aload_n 0, 1) := by decide +kernel
theorem dX8_count_97 : decode cX8_count 97 = .ok (.getfield 19, 3) := by decide +kernel
theorem dX8_count_100 : decode cX8_count 100 = .ok (.invokevirtual 182, 3) := by decide +kernel
theorem dX8_count_103 : decode cX8_count 103 = .ok (.ireturn, 1) := by decide +kernel
theorem dX8_count_104 : decode cX8_count 104 = .ok (.aload_n 0, 1) := by decide +kernel
theorem dX8_count_105 : decode cX8_count 105 = .ok (.getfield 36, 3) := by decide +kernel
theorem dX8_count_108 : decode cX8_count 108 = .ok (.invokevirtual 207, 3) := by decide +kernel
theorem dX8_count_111 : decode cX8_count 111 = .ok (.ireturn, 1) := by decide +kernel
theorem dX8_count_112 : decode cX8_count 112 = .ok (.aload_n 0, 1) := by decide +kernel
theorem dX8_count_113 : decode cX8_count 113 = .ok (.getfield 36, 3) := by decide +kernel
theorem dX8_count_116 : decode cX8_count 116 = .ok (.iconst 1, 1) := by decide +kernel
theorem dX8_count_117 : decode cX8_count 117 = .ok (.aload_n 0, 1) := by decide +kernel
theorem dX8_count_118 : decode cX8_count 118 = .ok (.getfield 19, 3) := by decide +kernel
theorem dX8_count_121 : decode cX8_count 121 = .ok (.invokevirtual 168, 3) := by decide +kernel
theorem dX8_count_124 : decode cX8_count 124 = .ok (.ireturn, 1) := by decide +kernel
theorem dX8_count_125 : decode cX8_count 125 = .ok (.aload_n 0, 1) := by decide +kernel
theorem dX8_count_126 : decode cX8_count 126 = .ok (.getfield 36, 3) := by decide +kernel
theorem dX8_count_129 : decode cX8_count 129 = .ok (.iconst 0, 1) := by decide +kernel
theorem dX8_count_130 : decode cX8_count 130 = .ok (.aload_n 0, 1) := by decide +kernel
theorem dX8_count_131 : decode cX8_count 131 = .ok (.getfield 19, 3) := by decide +kernel
theorem dX8_count_134 : decode cX8_count 134 = .ok (.invokevirtual 168, 3) := by decide +kernel
theorem dX8_count_137 : decode cX8_count 137 = .ok (.ireturn, 1) := by decide +kernel
theorem dX8_count_138 : decode cX8_count 138 = .ok (.aload_n 0, 1) := by decide +kernel
theorem dX8_count_139 : decode cX8_count 139 = .ok (.getfield 36, 3) := by decide +kernel
theorem dX8_count_142 : decode cX8_count 142 = .ok (.aload_n 0, 1) := by decide +kernel
theorem dX8_count_143 : decode cX8_count 143 = .ok (.getfield 19, 3) := by decide +kernel
theorem dX8_count_146 : decode cX8_count 146 = .ok (.invokevirtual 210, 3) := by decide +kernel
theorem dX8_count_149 : decode cX8_count 149 = .ok (.ireturn, 1) := by decide +kernel
theorem dX8_count_150 : decode cX8_count 150 = .ok (.aload_n 0, 1) := by decide +kernel
theorem dX8_count_151 : decode cX8_count 151 = .ok (.getfield 36, 3) := by decide +kernel
theorem dX8_count_154 : decode cX8_count 154 = .ok (.aload_n 0, 1) := by decide +kernel
theorem dX8_count_155 : decode cX8_count 155 = .ok (.getfield 19, 3) := by decide +kernel
theorem dX8_count_158 : decode cX8_count 158 = .ok (.invokevirtual 213, 3) := by decide +kernel
theorem dX8_count_161 : decode cX8_count 161 = .ok (.ireturn, 1) := by decide +kernel
theorem dX8_count_162 : decode cX8_count 162 = .ok (.aload_n 0, 1) := by decide +kernel
theorem dX8_count_163 : decode cX8_count 163 = .ok (.getfield 36, 3) := by decide +kernel
theorem dX8_count_166 : decode cX8_count 166 = .ok (.aload_n 0, 1) := by decide +kernel
theorem dX8_count_167 : decode cX8_count 167 = .ok (.getfield 19, 3) := by decide +kernel
theorem dX8_count_170 : decode cX8_count 170 = .ok (.invokevirtual 216, 3) := by decide +kernel
theorem dX8_count_173 : decode cX8_count 173 = .ok (.ireturn, 1) := by decide +kernel
theorem dX8_count_174 : decode cX8_count 174 = .ok (.aload_n 0, 1) := by decide +kernel
theorem dX8_count_175 : decode cX8_count 175 = .ok (.getfield 36, 3) := by decide +kernel
theorem dX8_count_178 : decode cX8_count 178 = .ok (.aload_n 0, 1) := by decide +kernel
theorem dX8_count_179 : decode cX8_count 179 = .ok (.getfield 40, 3) := by decide +kernel
theorem dX8_count_182 : decode cX8_count 182 = .ok (.aload_n 0, 1) := by decide +kernel
theorem dX8_count_183 : decode cX8_count 183 = .ok (.getfield 19, 3) := by decide +kernel
theorem dX8_count_186 : decode cX8_count 186 = .ok (.invokevirtual 219, 3) := by decide +kernel
theorem dX8_count_189 : decode cX8_count 189 = .ok (.ireturn, 1) := by decide +kernel
theorem dX8_count_190 : decode cX8_count 190 = .ok (.aload_n 0, 1) := by decide +kernel
theorem dX8_count_191 : decode cX8_count 191 = .ok (.getfield 56, 3) := by decide +kernel
theorem dX8_count_194 : decode cX8_count 194 = .ok (.getfield 88, 3) := by decide +kernel
theorem dX8_count_197 : decode cX8_count 197 = .ok (.ireturn, 1) := by decide +kernel
theorem dX8_count_198 : decode cX8_count 198 = .ok (.aload_n 0, 1) := by decide +kernel
theorem dX8_count_199 : decode cX8_count 199 = .ok (.getfield 12, 3) := by decide +kernel
theorem dX8_count_202 : decode cX8_count 202 = .ok (.getfield 72, 3) := by decide +kernel
theorem dX8_count_205 : decode cX8_count 205 = .ok (.ireturn, 1) := by decide +kernel
theorem dX8_count_206 : decode cX8_count 206 = .ok (.iconst (-1), 1) := by decide +kernel
theorem dX8_count_207 : decode cX8_count 207 = .ok (.ireturn, 1) := by decide +kernel
theorem dX8_best_0 : decode cX8_best 0 = .ok (.iload_n 1, 1) := by decide +kernel
theorem dX8_best_1 : decode cX8_best 1 = .ok (.ifCond .lt 8, 3) := by decide +kernel
theorem dX8_best_4 : decode cX8_best 4 = .ok (.iload_n 1, 1) := by decide +kernel
theorem dX8_best_5 : decode cX8_best 5 = .ok (.iconst 1, 1) := by decide +kernel
theorem dX8_best_6 : decode cX8_best 6 = .ok (.if_icmp .le 5, 3) := by decide +kernel
theorem dX8_best_9 : decode cX8_best 9 = .ok (.iconst (-1), 1) := by decide +kernel
theorem dX8_best_10 : decode cX8_best 10 = .ok (.ireturn, 1) := by decide +kernel
theorem dX8_best_11 : decode cX8_best 11 = .ok (.bipush (-9), 2) := by decide +kernel
theorem dX8_best_13 : decode cX8_best 13 = .ok (.istore_n 2, 1) := by decide +kernel
theorem dX8_best_14 : decode cX8_best 14 = .ok (.bipush (-9), 2) := by decide +kernel
theorem dX8_best_16 : decode cX8_best 16 = .ok (.istore_n 3, 1) := by decide +kernel
theorem dX8_best_17 : decode cX8_best 17 = .ok (.aload_n 0, 1) := by decide +kernel
theorem dX8_best_18 : decode cX8_best 18 = .ok (.getfield 36, 3) := by decide +kernel
theorem dX8_best_21 : decode cX8_best 21 = .ok (.iconst 2, 1) := by decide +kernel
theorem dX8_best_22 : decode cX8_best 22 = .ok (.aload_n 0, 1) := by decide +kernel
theorem dX8_best_23 : decode cX8_best 23 = .ok (.getfield 19, 3) := by decide +kernel
theorem dX8_best_26 : decode cX8_best 26 = .ok (.invokevirtual 168, 3) := by decide +kernel
theorem dX8_best_29 : decode cX8_best 29 = .ok (.istore 4, 2) := by decide +kernel
theorem dX8_best_31 : decode cX8_best 31 = .ok (.iconst 0, 1) := by decide +kernel
theorem dX8_best_32 : decode cX8_best 32 = .ok (.istore 5, 2) := by decide +kernel
theorem dX8_best_34 : decode cX8_best 34 = .ok (.iload 5, 2) := by decide +kernel
theorem dX8_best_36 : decode cX8_best 36 = .ok (.aload_n 0, 1) := by decide +kernel
theorem dX8_best_37 : decode cX8_best 37 = .ok (.getfield 19, 3) := by decide +kernel
theorem dX8_best_40 : decode cX8_best 40 = .ok (.getfield 100, 3) := by decide +kernel
theorem dX8_best_43 : decode cX8_best 43 = .ok (.if_icmp .ge 93, 3) := by decide +kernel
theorem dX8_best_46 : decode cX8_best 46 = .ok (.aload_n 0, 1) := by decide +kernel
theorem dX8_best_47 : decode cX8_best 47 = .ok (.getfield 19, 3) := by decide +kernel
theorem dX8_best_50 : decode cX8_best 50 = .ok (.getfield 110, 3) := by decide +kernel
theorem dX8_best_53 : decode cX8_best 53 = .ok (.iload 5, 2) := by decide +kernel
theorem dX8_best_55 : decode cX8_best 55 = .ok (.iaload, 1) := by decide +kernel
theorem dX8_best_56 : decode cX8_best 56 = .ok (.iconst 1, 1) := by decide +kernel
theorem dX8_best_57 : decode cX8_best 57 = .ok (.if_icmp .ne 73, 3) := by decide +kernel
theorem dX8_best_60 : decode cX8_best 60 = .ok (.aload_n 0, 1) := by decide +kernel
theorem dX8_best_61 : decode cX8_best 61 = .ok (.getfield 29, 3) := by decide +kernel
theorem dX8_best_64 : decode cX8_best 64 = .ok (.getfield 125, 3) := by decide +kernel
theorem dX8_best_67 : decode cX8_best 67 = .ok (.iload 5, 2) := by decide +kernel
theorem dX8_best_69 : decode cX8_best 69 = .ok (.iaload, 1) := by decide +kernel
theorem dX8_best_70 : decode cX8_best 70 = .ok (.iconst 1, 1) := by decide +kernel
theorem dX8_best_71 : decode cX8_best 71 = .ok (.if_icmp .ne 6, 3) := by decide +kernel
theorem dX8_best_74 : decode cX8_best 74 = .ok (.goto 56, 3) := by decide +kernel
theorem dX8_best_77 : decode cX8_best 77 = .ok (.aload_n 0, 1) := by decide +kernel
theorem dX8_best_78 : decode cX8_best 78 = .ok (.getfield 43, 3) := by decide +kernel
theorem dX8_best_81 : decode cX8_best 81 = .ok (.aload_n 0, 1) := by decide +kernel
theorem dX8_best_82 : decode cX8_best 82 = .ok (.getfield 19, 3) := by decide +kernel
theorem dX8_best_85 : decode cX8_best 85 = .ok (.aload_n 0, 1) := by decide +kernel
theorem dX8_best_86 : decode cX8_best 86 = .ok (.getfield 29, 3) := by decide +kernel
theorem dX8_best_89 : decode cX8_best 89 = .ok (.iconst 0, 1) := by decide +kernel
theorem dX8_best_90 : decode cX8_best 90 = .ok (.iload 5, 2) := by decide +kernel
theorem dX8_best_92 : decode cX8_best 92 = .ok (.invokevirtual 223, 3) := by decide +kernel
theorem dX8_best_95 : decode cX8_best 95 = .ok (.iload 4, 2) := by decide +kernel
theorem dX8_best_97 : decode cX8_best 97 = .ok (.aload_n 0, 1) := by decide +kernel
theorem dX8_best_98 : decode cX8_best 98 = .ok (.getfield 43, 3) := by decide +kernel
theorem dX8_best_101 : decode cX8_best 101 = .ok (.iconst 2, 1) := by decide +kernel
theorem dX8_best_102 : decode cX8_best 102 = .ok (.aload_n 0, 1) := by decide +kernel
theorem dX8_best_103 : decode cX8_best 103 = .ok (.getfield 19, 3) := by decide +kernel
theorem dX8_best_106 : decode cX8_best 106 = .ok (.invokevirtual 168, 3) := by decide +kernel
theorem dX8_best_109 : decode cX8_best 109 = .ok (.isub, 1) := by decide +kernel
theorem dX8_best_110 : decode cX8_best 110 = .ok (.istore 6, 2) := by decide +kernel
theorem dX8_best_112 : decode cX8_best 112 = .ok (.iload_n 2, 1) := by decide +kernel
theorem dX8_best_113 : decode cX8_best 113 = .ok (.bipush (-9), 2) := by decide +kernel
theorem dX8_best_115 : decode cX8_best 115 = .ok (.if_icmp .eq 9, 3) := by decide +kernel
theorem dX8_best_118 : decode cX8_best 118 = .ok (.iload 6, 2) := by decide +kernel
theorem dX8_best_120 : decode cX8_best 120 = .ok (.iload_n 3, 1) := by decide +kernel
theorem dX8_best_121 : decode cX8_best 121 = .ok (.if_icmp .le 9, 3) := by decide +kernel
theorem dX8_best_124 : decode cX8_best 124 = .ok (.iload 5, 2) := by decide +kernel
theorem dX8_best_126 : decode cX8_best 126 = .ok (.istore_n 2, 1) := by decide +kernel
theorem dX8_best_127 : decode cX8_best 127 = .ok (.iload 6, 2) := by decide +kernel
theorem dX8_best_129 : decode cX8_best 129 = .ok (.istore_n 3, 1) := by decide +kernel
theorem dX8_best_130 : decode cX8_best 130 = .ok (.iinc 5 1, 3) := by decide +kernel
theorem dX8_best_133 : decode cX8_best 133 = .ok (.goto (-99), 3) := by decide +kernel
theorem dX8_best_136 : decode cX8_best 136 = .ok (.iload_n 1, 1) := by decide +kernel
theorem dX8_best_137 : decode cX8_best 137 = .ok (.ifCond .ne 7, 3) := by decide +kernel
theorem dX8_best_140 : decode cX8_best 140 = .ok (.iload_n 2, 1) := by decide +kernel
theorem dX8_best_141 : decode cX8_best 141 = .ok (.goto 4, 3) := by decide +kernel
theorem dX8_best_144 : decode cX8_best 144 = .ok (.iload_n 3, 1) := by decide +kernel
theorem dX8_best_145 : decode cX8_best 145 = .ok (.ireturn, 1) := by decide +kernel
theorem dX8_keep_0 : decode cX8_keep 0 = .ok (.iload_n 1, 1) := by decide +kernel
theorem dX8_keep_1 : decode cX8_keep 1 = .ok (.ifCond .lt 8, 3) := by decide +kernel
theorem dX8_keep_4 : decode cX8_keep 4 = .ok (.iload_n 1, 1) := by decide +kernel
theorem dX8_keep_5 : decode cX8_keep 5 = .ok (.iconst 2, 1) := by decide +kernel
theorem dX8_keep_6 : decode cX8_keep 6 = .ok (.if_icmp .lt 5, 3) := by decide +kernel
theorem dX8_keep_9 : decode cX8_keep 9 = .ok (.iconst (-1), 1) := by decide +kernel
theorem dX8_keep_10 : decode cX8_keep 10 = .ok (.ireturn, 1) := by decide +kernel
theorem dX8_keep_11 : decode cX8_keep 11 = .ok (.aload_n 0, 1) := by decide +kernel
theorem dX8_keep_12 : decode cX8_keep 12 = .ok (.getfield 60, 3) := by decide +kernel
theorem dX8_keep_15 : decode cX8_keep 15 = .ok (.iload_n 1, 1) := by decide +kernel
theorem dX8_keep_16 : decode cX8_keep 16 = .ok (.aaload, 1) := by decide +kernel
theorem dX8_keep_17 : decode cX8_keep 17 = .ok (.aload_n 0, 1) := by decide +kernel
theorem dX8_keep_18 : decode cX8_keep 18 = .ok (.getfield 29, 3) := by decide +kernel
theorem dX8_keep_21 : decode cX8_keep 21 = .ok (.invokevirtual 227, 3) := by decide +kernel
theorem dX8_keep_24 : decode cX8_keep 24 = .ok (.aload_n 0, 1) := by decide +kernel
theorem dX8_keep_25 : decode cX8_keep 25 = .ok (.getfield 64, 3) := by decide +kernel
theorem dX8_keep_28 : decode cX8_keep 28 = .ok (.iload_n 1, 1) := by decide +kernel
theorem dX8_keep_29 : decode cX8_keep 29 = .ok (.iconst 1, 1) := by decide +kernel
theorem dX8_keep_30 : decode cX8_keep 30 = .ok (.iastore, 1) := by decide +kernel
theorem dX8_keep_31 : decode cX8_keep 31 = .ok (.aload_n 0, 1) := by decide +kernel
theorem dX8_keep_32 : decode cX8_keep 32 = .ok (.getfield 19, 3) := by decide +kernel
theorem dX8_keep_35 : decode cX8_keep 35 = .ok (.getfield 100, 3) := by decide +kernel
theorem dX8_keep_38 : decode cX8_keep 38 = .ok (.ireturn, 1) := by decide +kernel
theorem dX8_back_0 : decode cX8_back 0 = .ok (.iload_n 1, 1) := by decide +kernel
theorem dX8_back_1 : decode cX8_back 1 = .ok (.ifCond .lt 8, 3) := by decide +kernel
theorem dX8_back_4 : decode cX8_back 4 = .ok (.iload_n 1, 1) := by decide +kernel
theorem dX8_back_5 : decode cX8_back 5 = .ok (.iconst 2, 1) := by decide +kernel
theorem dX8_back_6 : decode cX8_back 6 = .ok (.if_icmp .lt 5, 3) := by decide +kernel
theorem dX8_back_9 : decode cX8_back 9 = .ok (.iconst (-1), 1) := by decide +kernel
theorem dX8_back_10 : decode cX8_back 10 = .ok (.ireturn, 1) := by decide +kernel
theorem dX8_back_11 : decode cX8_back 11 = .ok (.aload_n 0, 1) := by decide +kernel
theorem dX8_back_12 : decode cX8_back 12 = .ok (.getfield 64, 3) := by decide +kernel
theorem dX8_back_15 : decode cX8_back 15 = .ok (.iload_n 1, 1) := by decide +kernel
theorem dX8_back_16 : decode cX8_back 16 = .ok (.iaload, 1) := by decide +kernel
theorem dX8_back_17 : decode cX8_back 17 = .ok (.ifCond .ne 6, 3) := by decide +kernel
theorem dX8_back_20 : decode cX8_back 20 = .ok (.bipush (-2), 2) := by decide +kernel
theorem dX8_back_22 : decode cX8_back 22 = .ok (.ireturn, 1) := by decide +kernel
theorem dX8_back_23 : decode cX8_back 23 = .ok (.aload_n 0, 1) := by decide +kernel
theorem dX8_back_24 : decode cX8_back 24 = .ok (.getfield 29, 3) := by decide +kernel
theorem dX8_back_27 : decode cX8_back 27 = .ok (.aload_n 0, 1) := by decide +kernel
theorem dX8_back_28 : decode cX8_back 28 = .ok (.getfield 60, 3) := by decide +kernel
theorem dX8_back_31 : decode cX8_back 31 = .ok (.iload_n 1, 1) := by decide +kernel
theorem dX8_back_32 : decode cX8_back 32 = .ok (.aaload, 1) := by decide +kernel
theorem dX8_back_33 : decode cX8_back 33 = .ok (.invokevirtual 227, 3) := by decide +kernel
theorem dX8_back_36 : decode cX8_back 36 = .ok (.aload_n 0, 1) := by decide +kernel
theorem dX8_back_37 : decode cX8_back 37 = .ok (.getfield 56, 3) := by decide +kernel
theorem dX8_back_40 : decode cX8_back 40 = .ok (.iconst 0, 1) := by decide +kernel
theorem dX8_back_41 : decode cX8_back 41 = .ok (.putfield 88, 3) := by decide +kernel
theorem dX8_back_44 : decode cX8_back 44 = .ok (.aload_n 0, 1) := by decide +kernel
theorem dX8_back_45 : decode cX8_back 45 = .ok (.invokevirtual 97, 3) := by decide +kernel
theorem dX8_back_48 : decode cX8_back 48 = .ok (.aload_n 0, 1) := by decide +kernel
theorem dX8_back_49 : decode cX8_back 49 = .ok (.getfield 19, 3) := by decide +kernel
theorem dX8_back_52 : decode cX8_back 52 = .ok (.getfield 100, 3) := by decide +kernel
theorem dX8_back_55 : decode cX8_back 55 = .ok (.ireturn, 1) := by decide +kernel
theorem dX8_asked_0 : decode cX8_asked 0 = .ok (.aload_n 0, 1) := by decide +kernel
theorem dX8_asked_1 : decode cX8_asked 1 = .ok (.getfield 68, 3) := by decide +kernel
theorem dX8_asked_4 : decode cX8_asked 4 = .ok (.ireturn, 1) := by decide +kernel
theorem dX8_settle_0 : decode cX8_settle 0 = .ok (.aload_n 0, 1) := by decide +kernel
theorem dX8_settle_1 : decode cX8_settle 1 = .ok (.getfield 36, 3) := by decide +kernel
theorem dX8_settle_4 : decode cX8_settle 4 = .ok (.aload_n 0, 1) := by decide +kernel
theorem dX8_settle_5 : decode cX8_settle 5 = .ok (.getfield 19, 3) := by decide +kernel
theorem dX8_settle_8 : decode cX8_settle 8 = .ok (.aload_n 0, 1) := by decide +kernel
theorem dX8_settle_9 : decode cX8_settle 9 = .ok (.getfield 29, 3) := by decide +kernel
theorem dX8_settle_12 : decode cX8_settle 12 = .ok (.iconst 0, 1) := by decide +kernel
theorem dX8_settle_13 : decode cX8_settle 13 = .ok (.bipush (-9), 2) := by decide +kernel
theorem dX8_settle_15 : decode cX8_settle 15 = .ok (.invokevirtual 223, 3) := by decide +kernel
theorem dX8_settle_18 : decode cX8_settle 18 = .ok (.aload_n 0, 1) := by decide +kernel
theorem dX8_settle_19 : decode cX8_settle 19 = .ok (.getfield 40, 3) := by decide +kernel
theorem dX8_settle_22 : decode cX8_settle 22 = .ok (.aload_n 0, 1) := by decide +kernel
theorem dX8_settle_23 : decode cX8_settle 23 = .ok (.getfield 19, 3) := by decide +kernel
theorem dX8_settle_26 : decode cX8_settle 26 = .ok (.aload_n 0, 1) := by decide +kernel
theorem dX8_settle_27 : decode cX8_settle 27 = .ok (.getfield 29, 3) := by decide +kernel
theorem dX8_settle_30 : decode cX8_settle 30 = .ok (.iconst 1, 1) := by decide +kernel
theorem dX8_settle_31 : decode cX8_settle 31 = .ok (.bipush (-9), 2) := by decide +kernel
theorem dX8_settle_33 : decode cX8_settle 33 = .ok (.invokevirtual 223, 3) := by decide +kernel
theorem dX8_settle_36 : decode cX8_settle 36 = .ok (.aload_n 0, 1) := by decide +kernel
theorem dX8_settle_37 : decode cX8_settle 37 = .ok (.getfield 49, 3) := by decide +kernel
theorem dX8_settle_40 : decode cX8_settle 40 = .ok (.aload_n 0, 1) := by decide +kernel
theorem dX8_settle_41 : decode cX8_settle 41 = .ok (.getfield 19, 3) := by decide +kernel
theorem dX8_settle_44 : decode cX8_settle 44 = .ok (.aload_n 0, 1) := by decide +kernel
theorem dX8_settle_45 : decode cX8_settle 45 = .ok (.getfield 29, 3) := by decide +kernel
theorem dX8_settle_48 : decode cX8_settle 48 = .ok (.invokevirtual 230, 3) := by decide +kernel
theorem dX8_settle_51 : decode cX8_settle 51 = .ok (.return_, 1) := by decide +kernel
theorem dX9_init_0 : decode cX9_init 0 = .ok (.aload_n 0, 1) := by decide +kernel
theorem dX9_init_1 : decode cX9_init 1 = .ok (.invokespecial 1, 3) := by decide +kernel
theorem dX9_init_4 : decode cX9_init 4 = .ok (.aload_n 0, 1) := by decide +kernel
theorem dX9_init_5 : decode cX9_init 5 = .ok (.sipush 150, 3) := by decide +kernel
theorem dX9_init_8 : decode cX9_init 8 = .ok (.newarray .int, 2) := by decide +kernel
theorem dX9_init_10 : decode cX9_init 10 = .ok (.putfield 7, 3) := by decide +kernel
theorem dX9_init_13 : decode cX9_init 13 = .ok (.aload_n 0, 1) := by decide +kernel
theorem dX9_init_14 : decode cX9_init 14 = .ok (.bipush 24, 2) := by decide +kernel
theorem dX9_init_16 : decode cX9_init 16 = .ok (.newarray .int, 2) := by decide +kernel
theorem dX9_init_18 : decode cX9_init 18 = .ok (.putfield 13, 3) := by decide +kernel
theorem dX9_init_21 : decode cX9_init 21 = .ok (.aload_n 0, 1) := by decide +kernel
theorem dX9_init_22 : decode cX9_init 22 = .ok (.bipush 24, 2) := by decide +kernel
theorem dX9_init_24 : decode cX9_init 24 = .ok (.newarray .int, 2) := by decide +kernel
theorem dX9_init_26 : decode cX9_init 26 = .ok (.putfield 16, 3) := by decide +kernel
theorem dX9_init_29 : decode cX9_init 29 = .ok (.aload_n 0, 1) := by decide +kernel
theorem dX9_init_30 : decode cX9_init 30 = .ok (.bipush 24, 2) := by decide +kernel
theorem dX9_init_32 : decode cX9_init 32 = .ok (.newarray .int, 2) := by decide +kernel
theorem dX9_init_34 : decode cX9_init 34 = .ok (.putfield 19, 3) := by decide +kernel
theorem dX9_init_37 : decode cX9_init 37 = .ok (.aload_n 0, 1) := by decide +kernel
theorem dX9_init_38 : decode cX9_init 38 = .ok (.bipush 24, 2) := by decide +kernel
theorem dX9_init_40 : decode cX9_init 40 = .ok (.newarray .int, 2) := by decide +kernel
theorem dX9_init_42 : decode cX9_init 42 = .ok (.putfield 22, 3) := by decide +kernel
theorem dX9_init_45 : decode cX9_init 45 = .ok (.aload_n 0, 1) := by decide +kernel
theorem dX9_init_46 : decode cX9_init 46 = .ok (.bipush 24, 2) := by decide +kernel
theorem dX9_init_48 : decode cX9_init 48 = .ok (.newarray .int, 2) := by decide +kernel
theorem dX9_init_50 : decode cX9_init 50 = .ok (.putfield 25, 3) := by decide +kernel
theorem dX9_init_53 : decode cX9_init 53 = .ok (.aload_n 0, 1) := by decide +kernel
theorem dX9_init_54 : decode cX9_init 54 = .ok (.bipush 24, 2) := by decide +kernel
theorem dX9_init_56 : decode cX9_init 56 = .ok (.newarray .int, 2) := by decide +kernel
theorem dX9_init_58 : decode cX9_init 58 = .ok (.putfield 28, 3) := by decide +kernel
theorem dX9_init_61 : decode cX9_init 61 = .ok (.aload_n 0, 1) := by decide +kernel
theorem dX9_init_62 : decode cX9_init 62 = .ok (.bipush 72, 2) := by decide +kernel
theorem dX9_init_64 : decode cX9_init 64 = .ok (.newarray .int, 2) := by decide +kernel
theorem dX9_init_66 : decode cX9_init 66 = .ok (.putfield 31, 3) := by decide +kernel
theorem dX9_init_69 : decode cX9_init 69 = .ok (.aload_n 0, 1) := by decide +kernel
theorem dX9_init_70 : decode cX9_init 70 = .ok (.bipush 72, 2) := by decide +kernel
theorem dX9_init_72 : decode cX9_init 72 = .ok (.newarray .int, 2) := by decide +kernel
theorem dX9_init_74 : decode cX9_init 74 = .ok (.putfield 34, 3) := by decide +kernel
theorem dX9_init_77 : decode cX9_init 77 = .ok (.aload_n 0, 1) := by decide +kernel
theorem dX9_init_78 : decode cX9_init 78 = .ok (.bipush 9, 2) := by decide +kernel
theorem dX9_init_80 : decode cX9_init 80 = .ok (.newarray .int, 2) := by decide +kernel
theorem dX9_init_82 : decode cX9_init 82 = .ok (.putfield 37, 3) := by decide +kernel
theorem dX9_init_85 : decode cX9_init 85 = .ok (.aload_n 0, 1) := by decide +kernel
theorem dX9_init_86 : decode cX9_init 86 = .ok (.bipush 8, 2) := by decide +kernel
theorem dX9_init_88 : decode cX9_init 88 = .ok (.newarray .int, 2) := by decide +kernel
theorem dX9_init_90 : decode cX9_init 90 = .ok (.putfield 40, 3) := by decide +kernel
theorem dX9_init_93 : decode cX9_init 93 = .ok (.aload_n 0, 1) := by decide +kernel
end
section
theorem dX9_init_94 : decode cX9_init 94 = .ok (.bipush 8, 2) := by decide +kernel
theorem dX9_init_96 : decode cX9_init 96 = .ok (.newarray .int, 2) := by decide +kernel
theorem dX9_init_98 : decode cX9_init 98 = .ok (.putfield 43, 3) := by decide +kernel
theorem dX9_init_101 : decode cX9_init 101 = .ok (.aload_n 0, 1) := by decide +kernel
theorem dX9_init_102 : decode cX9_init 102 = .ok (.bipush 8, 2) := by decide +kernel
theorem dX9_init_104 : decode cX9_init 104 = .ok (.newarray .int, 2) := by decide +kernel
theorem dX9_init_106 : decode cX9_init 106 = .ok (.putfield 46, 3) := by decide +kernel
theorem dX9_init_109 : decode cX9_init 109 = .ok (.aload_n 0, 1) := by decide +kernel
theorem dX9_init_110 : decode cX9_init 110 = .ok (.bipush 112, 2) := by decide +kernel
theorem dX9_init_112 : decode cX9_init 112 = .ok (.newarray .int, 2) := by decide +kernel
theorem dX9_init_114 : decode cX9_init 114 = .ok (.putfield 49, 3) := by decide +kernel
theorem dX9_init_117 : decode cX9_init 117 = .ok (.aload_n 0, 1) := by decide +kernel
theorem dX9_init_118 : decode cX9_init 118 = .ok (.sipush 1120, 3) := by decide +kernel
theorem dX9_init_121 : decode cX9_init 121 = .ok (.newarray .int, 2) := by decide +kernel
theorem dX9_init_123 : decode cX9_init 123 = .ok (.putfield 52, 3) := by decide +kernel
theorem dX9_init_126 : decode cX9_init 126 = .ok (.aload_n 0, 1) := by decide +kernel
theorem dX9_init_127 : decode cX9_init 127 = .ok (.sipush 224, 3) := by decide +kernel
theorem dX9_init_130 : decode cX9_init 130 = .ok (.newarray .int, 2) := by decide +kernel
theorem dX9_init_132 : decode cX9_init 132 = .ok (.putfield 55, 3) := by decide +kernel
theorem dX9_init_135 : decode cX9_init 135 = .ok (.aload_n 0, 1) := by decide +kernel
theorem dX9_init_136 : decode cX9_init 136 = .ok (.iconst 2, 1) := by decide +kernel
theorem dX9_init_137 : decode cX9_init 137 = .ok (.newarray .boolean, 2) := by decide +kernel
theorem dX9_init_139 : decode cX9_init 139 = .ok (.putfield 58, 3) := by decide +kernel
theorem dX9_init_142 : decode cX9_init 142 = .ok (.aload_n 0, 1) := by decide +kernel
theorem dX9_init_143 : decode cX9_init 143 = .ok (.bipush 24, 2) := by decide +kernel
theorem dX9_init_145 : decode cX9_init 145 = .ok (.newarray .int, 2) := by decide +kernel
theorem dX9_init_147 : decode cX9_init 147 = .ok (.putfield 62, 3) := by decide +kernel
theorem dX9_init_150 : decode cX9_init 150 = .ok (.aload_n 0, 1) := by decide +kernel
theorem dX9_init_151 : decode cX9_init 151 = .ok (.bipush 24, 2) := by decide +kernel
theorem dX9_init_153 : decode cX9_init 153 = .ok (.newarray .int, 2) := by decide +kernel
theorem dX9_init_155 : decode cX9_init 155 = .ok (.putfield 65, 3) := by decide +kernel
theorem dX9_init_158 : decode cX9_init 158 = .ok (.aload_n 0, 1) := by decide +kernel
theorem dX9_init_159 : decode cX9_init 159 = .ok (.bipush 24, 2) := by decide +kernel
theorem dX9_init_161 : decode cX9_init 161 = .ok (.newarray .int, 2) := by decide +kernel
theorem dX9_init_163 : decode cX9_init 163 = .ok (.putfield 68, 3) := by decide +kernel
theorem dX9_init_166 : decode cX9_init 166 = .ok (.aload_n 0, 1) := by decide +kernel
theorem dX9_init_167 : decode cX9_init 167 = .ok (.bipush 24, 2) := by decide +kernel
theorem dX9_init_169 : decode cX9_init 169 = .ok (.newarray .int, 2) := by decide +kernel
theorem dX9_init_171 : decode cX9_init 171 = .ok (.putfield 71, 3) := by decide +kernel
theorem dX9_init_174 : decode cX9_init 174 = .ok (.aload_n 0, 1) := by decide +kernel
theorem dX9_init_175 : decode cX9_init 175 = .ok (.bipush 24, 2) := by decide +kernel
theorem dX9_init_177 : decode cX9_init 177 = .ok (.newarray .int, 2) := by decide +kernel
theorem dX9_init_179 : decode cX9_init 179 = .ok (.putfield 74, 3) := by decide +kernel
theorem dX9_init_182 : decode cX9_init 182 = .ok (.aload_n 0, 1) := by decide +kernel
theorem dX9_init_183 : decode cX9_init 183 = .ok (.bipush 24, 2) := by decide +kernel
theorem dX9_init_185 : decode cX9_init 185 = .ok (.newarray .int, 2) := by decide +kernel
theorem dX9_init_187 : decode cX9_init 187 = .ok (.putfield 77, 3) := by decide +kernel
theorem dX9_init_190 : decode cX9_init 190 = .ok (.aload_n 0, 1) := by decide +kernel
theorem dX9_init_191 : decode cX9_init 191 = .ok (.bipush 72, 2) := by decide +kernel
theorem dX9_init_193 : decode cX9_init 193 = .ok (.newarray .int, 2) := by decide +kernel
theorem dX9_init_195 : decode cX9_init 195 = .ok (.putfield 80, 3) := by decide +kernel
theorem dX9_init_198 : decode cX9_init 198 = .ok (.aload_n 0, 1) := by decide +kernel
theorem dX9_init_199 : decode cX9_init 199 = .ok (.bipush 72, 2) := by decide +kernel
theorem dX9_init_201 : decode cX9_init 201 = .ok (.newarray .int, 2) := by decide +kernel
theorem dX9_init_203 : decode cX9_init 203 = .ok (.putfield 83, 3) := by decide +kernel
theorem dX9_init_206 : decode cX9_init 206 = .ok (.aload_n 0, 1) := by decide +kernel
theorem dX9_init_207 : decode cX9_init 207 = .ok (.bipush 9, 2) := by decide +kernel
theorem dX9_init_209 : decode cX9_init 209 = .ok (.newarray .int, 2) := by decide +kernel
theorem dX9_init_211 : decode cX9_init 211 = .ok (.putfield 86, 3) := by decide +kernel
theorem dX9_init_214 : decode cX9_init 214 = .ok (.aload_n 0, 1) := by decide +kernel
theorem dX9_init_215 : decode cX9_init 215 = .ok (.bipush 8, 2) := by decide +kernel
theorem dX9_init_217 : decode cX9_init 217 = .ok (.newarray .int, 2) := by decide +kernel
theorem dX9_init_219 : decode cX9_init 219 = .ok (.putfield 89, 3) := by decide +kernel
theorem dX9_init_222 : decode cX9_init 222 = .ok (.aload_n 0, 1) := by decide +kernel
theorem dX9_init_223 : decode cX9_init 223 = .ok (.bipush 8, 2) := by decide +kernel
theorem dX9_init_225 : decode cX9_init 225 = .ok (.newarray .int, 2) := by decide +kernel
theorem dX9_init_227 : decode cX9_init 227 = .ok (.putfield 92, 3) := by decide +kernel
theorem dX9_init_230 : decode cX9_init 230 = .ok (.aload_n 0, 1) := by decide +kernel
theorem dX9_init_231 : decode cX9_init 231 = .ok (.bipush 112, 2) := by decide +kernel
theorem dX9_init_233 : decode cX9_init 233 = .ok (.newarray .int, 2) := by decide +kernel
theorem dX9_init_235 : decode cX9_init 235 = .ok (.putfield 95, 3) := by decide +kernel
theorem dX9_init_238 : decode cX9_init 238 = .ok (.aload_n 0, 1) := by decide +kernel
theorem dX9_init_239 : decode cX9_init 239 = .ok (.bipush 8, 2) := by decide +kernel
theorem dX9_init_241 : decode cX9_init 241 = .ok (.newarray .int, 2) := by decide +kernel
theorem dX9_init_243 : decode cX9_init 243 = .ok (.putfield 98, 3) := by decide +kernel
theorem dX9_init_246 : decode cX9_init 246 = .ok (.aload_n 0, 1) := by decide +kernel
theorem dX9_init_247 : decode cX9_init 247 = .ok (.bipush 24, 2) := by decide +kernel
theorem dX9_init_249 : decode cX9_init 249 = .ok (.newarray .int, 2) := by decide +kernel
theorem dX9_init_251 : decode cX9_init 251 = .ok (.putfield 101, 3) := by decide +kernel
theorem dX9_init_254 : decode cX9_init 254 = .ok (.aload_n 0, 1) := by decide +kernel
theorem dX9_init_255 : decode cX9_init 255 = .ok (.bipush 24, 2) := by decide +kernel
theorem dX9_init_257 : decode cX9_init 257 = .ok (.newarray .int, 2) := by decide +kernel
theorem dX9_init_259 : decode cX9_init 259 = .ok (.putfield 104, 3) := by decide +kernel
theorem dX9_init_262 : decode cX9_init 262 = .ok (.aload_n 0, 1) := by decide +kernel
theorem dX9_init_263 : decode cX9_init 263 = .ok (.bipush 8, 2) := by decide +kernel
theorem dX9_init_265 : decode cX9_init 265 = .ok (.newarray .boolean, 2) := by decide +kernel
theorem dX9_init_267 : decode cX9_init 267 = .ok (.putfield 107, 3) := by decide +kernel
theorem dX9_init_270 : decode cX9_init 270 = .ok (.aload_n 0, 1) := by decide +kernel
theorem dX9_init_271 : decode cX9_init 271 = .ok (.bipush 24, 2) := by decide +kernel
theorem dX9_init_273 : decode cX9_init 273 = .ok (.newarray .int, 2) := by decide +kernel
theorem dX9_init_275 : decode cX9_init 275 = .ok (.putfield 110, 3) := by decide +kernel
theorem dX9_init_278 : decode cX9_init 278 = .ok (.aload_n 0, 1) := by decide +kernel
theorem dX9_init_279 : decode cX9_init 279 = .ok (.bipush 24, 2) := by decide +kernel
theorem dX9_init_281 : decode cX9_init 281 = .ok (.newarray .int, 2) := by decide +kernel
theorem dX9_init_283 : decode cX9_init 283 = .ok (.putfield 113, 3) := by decide +kernel
theorem dX9_init_286 : decode cX9_init 286 = .ok (.aload_n 0, 1) := by decide +kernel
theorem dX9_init_287 : decode cX9_init 287 = .ok (.bipush 24, 2) := by decide +kernel
theorem dX9_init_289 : decode cX9_init 289 = .ok (.newarray .int, 2) := by decide +kernel
theorem dX9_init_291 : decode cX9_init 291 = .ok (.putfield 116, 3) := by decide +kernel
theorem dX9_init_294 : decode cX9_init 294 = .ok (.aload_n 0, 1) := by decide +kernel
theorem dX9_init_295 : decode cX9_init 295 = .ok (.bipush 8, 2) := by decide +kernel
theorem dX9_init_297 : decode cX9_init 297 = .ok (.newarray .int, 2) := by decide +kernel
theorem dX9_init_299 : decode cX9_init 299 = .ok (.putfield 119, 3) := by decide +kernel
theorem dX9_init_302 : decode cX9_init 302 = .ok (.return_, 1) := by decide +kernel
theorem dX9_in_0 : decode cX9_in 0 = .ok (.iload_n 0, 1) := by decide +kernel
theorem dX9_in_1 : decode cX9_in 1 = .ok (.iload_n 1, 1) := by decide +kernel
theorem dX9_in_2 : decode cX9_in 2 = .ok (.if_icmp .lt 12, 3) := by decide +kernel
theorem dX9_in_5 : decode cX9_in 5 = .ok (.iload_n 0, 1) := by decide +kernel
theorem dX9_in_6 : decode cX9_in 6 = .ok (.iload_n 2, 1) := by decide +kernel
theorem dX9_in_7 : decode cX9_in 7 = .ok (.if_icmp .gt 7, 3) := by decide +kernel
theorem dX9_in_10 : decode cX9_in 10 = .ok (.iconst 1, 1) := by decide +kernel
theorem dX9_in_11 : decode cX9_in 11 = .ok (.goto 4, 3) := by decide +kernel
theorem dX9_in_14 : decode cX9_in 14 = .ok (.iconst 0, 1) := by decide +kernel
theorem dX9_in_15 : decode cX9_in 15 = .ok (.ireturn, 1) := by decide +kernel
theorem dX9_has_0 : decode cX9_has 0 = .ok (.iload_n 0, 1) := by decide +kernel
theorem dX9_has_1 : decode cX9_has 1 = .ok (.iload_n 1, 1) := by decide +kernel
theorem dX9_has_2 : decode cX9_has 2 = .ok (.ishr, 1) := by decide +kernel
theorem dX9_has_3 : decode cX9_has 3 = .ok (.iconst 1, 1) := by decide +kernel
theorem dX9_has_4 : decode cX9_has 4 = .ok (.iand, 1) := by decide +kernel
theorem dX9_has_5 : decode cX9_has 5 = .ok (.iconst 1, 1) := by decide +kernel
theorem dX9_has_6 : decode cX9_has 6 = .ok (.if_icmp .ne 7, 3) := by decide +kernel
theorem dX9_has_9 : decode cX9_has 9 = .ok (.iconst 1, 1) := by decide +kernel
theorem dX9_has_10 : decode cX9_has 10 = .ok (.goto 4, 3) := by decide +kernel
theorem dX9_has_13 : decode cX9_has 13 = .ok (.iconst 0, 1) := by decide +kernel
theorem dX9_has_14 : decode cX9_has 14 = .ok (.ireturn, 1) := by decide +kernel
theorem dX9_bring_0 : decode cX9_bring 0 = .ok (.iconst 0, 1) := by decide +kernel
theorem dX9_bring_1 : decode cX9_bring 1 = .ok (.istore 5, 2) := by decide +kernel
theorem dX9_bring_3 : decode cX9_bring 3 = .ok (.iload 5, 2) := by decide +kernel
theorem dX9_bring_5 : decode cX9_bring 5 = .ok (.iload 4, 2) := by decide +kernel
theorem dX9_bring_7 : decode cX9_bring 7 = .ok (.if_icmp .ge 21, 3) := by decide +kernel
theorem dX9_bring_10 : decode cX9_bring 10 = .ok (.aload_n 2, 1) := by decide +kernel
theorem dX9_bring_11 : decode cX9_bring 11 = .ok (.iload_n 3, 1) := by decide +kernel
theorem dX9_bring_12 : decode cX9_bring 12 = .ok (.iload 5, 2) := by decide +kernel
theorem dX9_bring_14 : decode cX9_bring 14 = .ok (.iadd, 1) := by decide +kernel
theorem dX9_bring_15 : decode cX9_bring 15 = .ok (.aload_n 0, 1) := by decide +kernel
theorem dX9_bring_16 : decode cX9_bring 16 = .ok (.iload_n 1, 1) := by decide +kernel
theorem dX9_bring_17 : decode cX9_bring 17 = .ok (.iload 5, 2) := by decide +kernel
theorem dX9_bring_19 : decode cX9_bring 19 = .ok (.iadd, 1) := by decide +kernel
theorem dX9_bring_20 : decode cX9_bring 20 = .ok (.iaload, 1) := by decide +kernel
theorem dX9_bring_21 : decode cX9_bring 21 = .ok (.iastore, 1) := by decide +kernel
theorem dX9_bring_22 : decode cX9_bring 22 = .ok (.iinc 5 1, 3) := by decide +kernel
theorem dX9_bring_25 : decode cX9_bring 25 = .ok (.goto (-22), 3) := by decide +kernel
theorem dX9_bring_28 : decode cX9_bring 28 = .ok (.return_, 1) := by decide +kernel
theorem dX9_isName_0 : decode cX9_isName 0 = .ok (.iload_n 1, 1) := by decide +kernel
theorem dX9_isName_1 : decode cX9_isName 1 = .ok (.iconst 0, 1) := by decide +kernel
theorem dX9_isName_2 : decode cX9_isName 2 = .ok (.aload_n 0, 1) := by decide +kernel
theorem dX9_isName_3 : decode cX9_isName 3 = .ok (.getfield 122, 3) := by decide +kernel
theorem dX9_isName_6 : decode cX9_isName 6 = .ok (.iconst 1, 1) := by decide +kernel
theorem dX9_isName_7 : decode cX9_isName 7 = .ok (.isub, 1) := by decide +kernel
theorem dX9_isName_8 : decode cX9_isName 8 = .ok (.invokestatic 126, 3) := by decide +kernel
theorem dX9_isName_11 : decode cX9_isName 11 = .ok (.ireturn, 1) := by decide +kernel
theorem dX9_isBlock_0 : decode cX9_isBlock 0 = .ok (.iload_n 1, 1) := by decide +kernel
theorem dX9_isBlock_1 : decode cX9_isBlock 1 = .ok (.iconst 0, 1) := by decide +kernel
theorem dX9_isBlock_2 : decode cX9_isBlock 2 = .ok (.aload_n 0, 1) := by decide +kernel
theorem dX9_isBlock_3 : decode cX9_isBlock 3 = .ok (.getfield 130, 3) := by decide +kernel
theorem dX9_isBlock_6 : decode cX9_isBlock 6 = .ok (.iconst 1, 1) := by decide +kernel
theorem dX9_isBlock_7 : decode cX9_isBlock 7 = .ok (.isub, 1) := by decide +kernel
theorem dX9_isBlock_8 : decode cX9_isBlock 8 = .ok (.invokestatic 126, 3) := by decide +kernel
theorem dX9_isBlock_11 : decode cX9_isBlock 11 = .ok (.ireturn, 1) := by decide +kernel
theorem dX9_type_0 : decode cX9_type 0 = .ok (.iload_n 1, 1) := by decide +kernel
theorem dX9_type_1 : decode cX9_type 1 = .ok (.iconst 0, 1) := by decide +kernel
theorem dX9_type_2 : decode cX9_type 2 = .ok (.sipush 255, 3) := by decide +kernel
theorem dX9_type_5 : decode cX9_type 5 = .ok (.invokestatic 126, 3) := by decide +kernel
theorem dX9_type_8 : decode cX9_type 8 = .ok (.ifCond .ne 5, 3) := by decide +kernel
theorem dX9_type_11 : decode cX9_type 11 = .ok (.iconst (-1), 1) := by decide +kernel
theorem dX9_type_12 : decode cX9_type 12 = .ok (.ireturn, 1) := by decide +kernel
theorem dX9_type_13 : decode cX9_type 13 = .ok (.aload_n 0, 1) := by decide +kernel
theorem dX9_type_14 : decode cX9_type 14 = .ok (.getfield 133, 3) := by decide +kernel
theorem dX9_type_17 : decode cX9_type 17 = .ok (.sipush 150, 3) := by decide +kernel
theorem dX9_type_20 : decode cX9_type 20 = .ok (.if_icmp .ne 6, 3) := by decide +kernel
theorem dX9_type_23 : decode cX9_type 23 = .ok (.bipush (-3), 2) := by decide +kernel
theorem dX9_type_25 : decode cX9_type 25 = .ok (.ireturn, 1) := by decide +kernel
theorem dX9_type_26 : decode cX9_type 26 = .ok (.aload_n 0, 1) := by decide +kernel
theorem dX9_type_27 : decode cX9_type 27 = .ok (.getfield 7, 3) := by decide +kernel
theorem dX9_type_30 : decode cX9_type 30 = .ok (.aload_n 0, 1) := by decide +kernel
theorem dX9_type_31 : decode cX9_type 31 = .ok (.getfield 133, 3) := by decide +kernel
theorem dX9_type_34 : decode cX9_type 34 = .ok (.iload_n 1, 1) := by decide +kernel
theorem dX9_type_35 : decode cX9_type 35 = .ok (.iastore, 1) := by decide +kernel
theorem dX9_type_36 : decode cX9_type 36 = .ok (.aload_n 0, 1) := by decide +kernel
theorem dX9_type_37 : decode cX9_type 37 = .ok (.dup, 1) := by decide +kernel
theorem dX9_type_38 : decode cX9_type 38 = .ok (.getfield 133, 3) := by decide +kernel
theorem dX9_type_41 : decode cX9_type 41 = .ok (.iconst 1, 1) := by decide +kernel
theorem dX9_type_42 : decode cX9_type 42 = .ok (.iadd, 1) := by decide +kernel
theorem dX9_type_43 : decode cX9_type 43 = .ok (.putfield 133, 3) := by decide +kernel
theorem dX9_type_46 : decode cX9_type 46 = .ok (.aload_n 0, 1) := by decide +kernel
theorem dX9_type_47 : decode cX9_type 47 = .ok (.getfield 133, 3) := by decide +kernel
theorem dX9_type_50 : decode cX9_type 50 = .ok (.ireturn, 1) := by decide +kernel
theorem dX9_clear_0 : decode cX9_clear 0 = .ok (.aload_n 0, 1) := by decide +kernel
theorem dX9_clear_1 : decode cX9_clear 1 = .ok (.getfield 133, 3) := by decide +kernel
theorem dX9_clear_4 : decode cX9_clear 4 = .ok (.istore_n 1, 1) := by decide +kernel
theorem dX9_clear_5 : decode cX9_clear 5 = .ok (.aload_n 0, 1) := by decide +kernel
theorem dX9_clear_6 : decode cX9_clear 6 = .ok (.iconst 0, 1) := by decide +kernel
theorem dX9_clear_7 : decode cX9_clear 7 = .ok (.putfield 133, 3) := by decide +kernel
theorem dX9_clear_10 : decode cX9_clear 10 = .ok (.iload_n 1, 1) := by decide +kernel
theorem dX9_clear_11 : decode cX9_clear 11 = .ok (.ireturn, 1) := by decide +kernel
theorem dX9_here_0 : decode cX9_here 0 = .ok (.aload_n 0, 1) := by decide +kernel
theorem dX9_here_1 : decode cX9_here 1 = .ok (.getfield 136, 3) := by decide +kernel
theorem dX9_here_4 : decode cX9_here 4 = .ok (.aload_n 0, 1) := by decide +kernel
theorem dX9_here_5 : decode cX9_here 5 = .ok (.getfield 133, 3) := by decide +kernel
theorem dX9_here_8 : decode cX9_here 8 = .ok (.if_icmp .ge 30, 3) := by decide +kernel
theorem dX9_here_11 : decode cX9_here 11 = .ok (.aload_n 0, 1) := by decide +kernel
theorem dX9_here_12 : decode cX9_here 12 = .ok (.getfield 7, 3) := by decide +kernel
theorem dX9_here_15 : decode cX9_here 15 = .ok (.aload_n 0, 1) := by decide +kernel
theorem dX9_here_16 : decode cX9_here 16 = .ok (.getfield 136, 3) := by decide +kernel
theorem dX9_here_19 : decode cX9_here 19 = .ok (.iaload, 1) := by decide +kernel
theorem dX9_here_20 : decode cX9_here 20 = .ok (.bipush 32, 2) := by decide +kernel
theorem dX9_here_22 : decode cX9_here 22 = .ok (.if_icmp .ne 16, 3) := by decide +kernel
theorem dX9_here_25 : decode cX9_here 25 = .ok (.aload_n 0, 1) := by decide +kernel
theorem dX9_here_26 : decode cX9_here 26 = .ok (.dup, 1) := by decide +kernel
theorem dX9_here_27 : decode cX9_here 27 = .ok (.getfield 136, 3) := by decide +kernel
theorem dX9_here_30 : decode cX9_here 30 = .ok (.iconst 1, 1) := by decide +kernel
theorem dX9_here_31 : decode cX9_here 31 = .ok (.iadd, 1) := by decide +kernel
theorem dX9_here_32 : decode cX9_here 32 = .ok (.putfield 136, 3) := by decide +kernel
theorem dX9_here_35 : decode cX9_here 35 = .ok (.goto (-35), 3) := by decide +kernel
theorem dX9_here_38 : decode cX9_here 38 = .ok (.aload_n 0, 1) := by decide +kernel
theorem dX9_here_39 : decode cX9_here 39 = .ok (.getfield 136, 3) := by decide +kernel
theorem dX9_here_42 : decode cX9_here 42 = .ok (.aload_n 0, 1) := by decide +kernel
theorem dX9_here_43 : decode cX9_here 43 = .ok (.getfield 133, 3) := by decide +kernel
theorem dX9_here_46 : decode cX9_here 46 = .ok (.if_icmp .ge 15, 3) := by decide +kernel
theorem dX9_here_49 : decode cX9_here 49 = .ok (.aload_n 0, 1) := by decide +kernel
theorem dX9_here_50 : decode cX9_here 50 = .ok (.getfield 7, 3) := by decide +kernel
theorem dX9_here_53 : decode cX9_here 53 = .ok (.aload_n 0, 1) := by decide +kernel
theorem dX9_here_54 : decode cX9_here 54 = .ok (.getfield 136, 3) := by decide +kernel
theorem dX9_here_57 : decode cX9_here 57 = .ok (.iaload, 1) := by decide +kernel
theorem dX9_here_58 : decode cX9_here 58 = .ok (.goto 4, 3) := by decide +kernel
theorem dX9_here_61 : decode cX9_here 61 = .ok (.iconst (-1), 1) := by decide +kernel
theorem dX9_here_62 : decode cX9_here 62 = .ok (.ireturn, 1) := by decide +kernel
theorem dX9_numeral_0 : decode cX9_numeral 0 = .ok (.aload_n 0, 1) := by decide +kernel
theorem dX9_numeral_1 : decode cX9_numeral 1 = .ok (.getfield 139, 3) := by decide +kernel
theorem dX9_numeral_4 : decode cX9_numeral 4 = .ok (.ifCond .eq 5, 3) := by decide +kernel
theorem dX9_numeral_7 : decode cX9_numeral 7 = .ok (.iconst 0, 1) := by decide +kernel
theorem dX9_numeral_8 : decode cX9_numeral 8 = .ok (.ireturn, 1) := by decide +kernel
theorem dX9_numeral_9 : decode cX9_numeral 9 = .ok (.aload_n 0, 1) := by decide +kernel
theorem dX9_numeral_10 : decode cX9_numeral 10 = .ok (.invokevirtual 143, 3) := by decide +kernel
theorem dX9_numeral_13 : decode cX9_numeral 13 = .ok (.pop, 1) := by decide +kernel
theorem dX9_numeral_14 : decode cX9_numeral 14 = .ok (.iconst 0, 1) := by decide +kernel
theorem dX9_numeral_15 : decode cX9_numeral 15 = .ok (.istore_n 2, 1) := by decide +kernel
theorem dX9_numeral_16 : decode cX9_numeral 16 = .ok (.iconst 0, 1) := by decide +kernel
theorem dX9_numeral_17 : decode cX9_numeral 17 = .ok (.istore_n 3, 1) := by decide +kernel
theorem dX9_numeral_18 : decode cX9_numeral 18 = .ok (.aload_n 0, 1) := by decide +kernel
theorem dX9_numeral_19 : decode cX9_numeral 19 = .ok (.getfield 136, 3) := by decide +kernel
theorem dX9_numeral_22 : decode cX9_numeral 22 = .ok (.iload_n 2, 1) := by decide +kernel
theorem dX9_numeral_23 : decode cX9_numeral 23 = .ok (.iadd, 1) := by decide +kernel
theorem dX9_numeral_24 : decode cX9_numeral 24 = .ok (.aload_n 0, 1) := by decide +kernel
theorem dX9_numeral_25 : decode cX9_numeral 25 = .ok (.getfield 133, 3) := by decide +kernel
theorem dX9_numeral_28 : decode cX9_numeral 28 = .ok (.if_icmp .ge 59, 3) := by decide +kernel
theorem dX9_numeral_31 : decode cX9_numeral 31 = .ok (.aload_n 0, 1) := by decide +kernel
theorem dX9_numeral_32 : decode cX9_numeral 32 = .ok (.getfield 7, 3) := by decide +kernel
theorem dX9_numeral_35 : decode cX9_numeral 35 = .ok (.aload_n 0, 1) := by decide +kernel
theorem dX9_numeral_36 : decode cX9_numeral 36 = .ok (.getfield 136, 3) := by decide +kernel
theorem dX9_numeral_39 : decode cX9_numeral 39 = .ok (.iload_n 2, 1) := by decide +kernel
theorem dX9_numeral_40 : decode cX9_numeral 40 = .ok (.iadd, 1) := by decide +kernel
theorem dX9_numeral_41 : decode cX9_numeral 41 = .ok (.iaload, 1) := by decide +kernel
theorem dX9_numeral_42 : decode cX9_numeral 42 = .ok (.bipush 48, 2) := by decide +kernel
theorem dX9_numeral_44 : decode cX9_numeral 44 = .ok (.bipush 57, 2) := by decide +kernel
theorem dX9_numeral_46 : decode cX9_numeral 46 = .ok (.invokestatic 126, 3) := by decide +kernel
theorem dX9_numeral_49 : decode cX9_numeral 49 = .ok (.ifCond .eq 38, 3) := by decide +kernel
theorem dX9_numeral_52 : decode cX9_numeral 52 = .ok (.iload_n 2, 1) := by decide +kernel
theorem dX9_numeral_53 : decode cX9_numeral 53 = .ok (.iconst 4, 1) := by decide +kernel
theorem dX9_numeral_54 : decode cX9_numeral 54 = .ok (.if_icmp .ge 25, 3) := by decide +kernel
theorem dX9_numeral_57 : decode cX9_numeral 57 = .ok (.bipush 10, 2) := by decide +kernel
theorem dX9_numeral_59 : decode cX9_numeral 59 = .ok (.iload_n 3, 1) := by decide +kernel
theorem dX9_numeral_60 : decode cX9_numeral 60 = .ok (.imul, 1) := by decide +kernel
theorem dX9_numeral_61 : decode cX9_numeral 61 = .ok (.aload_n 0, 1) := by decide +kernel
theorem dX9_numeral_62 : decode cX9_numeral 62 = .ok (.getfield 7, 3) := by decide +kernel
theorem dX9_numeral_65 : decode cX9_numeral 65 = .ok (.aload_n 0, 1) := by decide +kernel
theorem dX9_numeral_66 : decode cX9_numeral 66 = .ok (.getfield 136, 3) := by decide +kernel
theorem dX9_numeral_69 : decode cX9_numeral 69 = .ok (.iload_n 2, 1) := by decide +kernel
theorem dX9_numeral_70 : decode cX9_numeral 70 = .ok (.iadd, 1) := by decide +kernel
theorem dX9_numeral_71 : decode cX9_numeral 71 = .ok (.iaload, 1) := by decide +kernel
theorem dX9_numeral_72 : decode cX9_numeral 72 = .ok (.iadd, 1) := by decide +kernel
theorem dX9_numeral_73 : decode cX9_numeral 73 = .ok (.bipush 48, 2) := by decide +kernel
theorem dX9_numeral_75 : decode cX9_numeral 75 = .ok (.isub, 1) := by decide +kernel
theorem dX9_numeral_76 : decode cX9_numeral 76 = .ok (.goto 4, 3) := by decide +kernel
theorem dX9_numeral_79 : decode cX9_numeral 79 = .ok (.iload_n 3, 1) := by decide +kernel
theorem dX9_numeral_80 : decode cX9_numeral 80 = .ok (.istore_n 3, 1) := by decide +kernel
theorem dX9_numeral_81 : decode cX9_numeral 81 = .ok (.iinc 2 1, 3) := by decide +kernel
theorem dX9_numeral_84 : decode cX9_numeral 84 = .ok (.goto (-66), 3) := by decide +kernel
theorem dX9_numeral_87 : decode cX9_numeral 87 = .ok (.aload_n 0, 1) := by decide +kernel
theorem dX9_numeral_88 : decode cX9_numeral 88 = .ok (.iload_n 2, 1) := by decide +kernel
theorem dX9_numeral_89 : decode cX9_numeral 89 = .ok (.iconst 1, 1) := by decide +kernel
theorem dX9_numeral_90 : decode cX9_numeral 90 = .ok (.iconst 3, 1) := by decide +kernel
theorem dX9_numeral_91 : decode cX9_numeral 91 = .ok (.invokestatic 126, 3) := by decide +kernel
theorem dX9_numeral_94 : decode cX9_numeral 94 = .ok (.ifCond .eq 27, 3) := by decide +kernel
theorem dX9_numeral_97 : decode cX9_numeral 97 = .ok (.iload_n 2, 1) := by decide +kernel
theorem dX9_numeral_98 : decode cX9_numeral 98 = .ok (.iconst 1, 1) := by decide +kernel
theorem dX9_numeral_99 : decode cX9_numeral 99 = .ok (.if_icmp .le 17, 3) := by decide +kernel
theorem dX9_numeral_102 : decode cX9_numeral 102 = .ok (.aload_n 0, 1) := by decide +kernel
theorem dX9_numeral_103 : decode cX9_numeral 103 = .ok (.getfield 7, 3) := by decide +kernel
theorem dX9_numeral_106 : decode cX9_numeral 106 = .ok (.aload_n 0, 1) := by decide +kernel
theorem dX9_numeral_107 : decode cX9_numeral 107 = .ok (.getfield 136, 3) := by decide +kernel
theorem dX9_numeral_110 : decode cX9_numeral 110 = .ok (.iaload, 1) := by decide +kernel
theorem dX9_numeral_111 : decode cX9_numeral 111 = .ok (.bipush 48, 2) := by decide +kernel
theorem dX9_numeral_113 : decode cX9_numeral 113 = .ok (.if_icmp .eq 8, 3) := by decide +kernel
theorem dX9_numeral_116 : decode cX9_numeral 116 = .ok (.iload_n 3, 1) := by decide +kernel
theorem dX9_numeral_117 : decode cX9_numeral 117 = .ok (.iload_n 1, 1) := by decide +kernel
theorem dX9_numeral_118 : decode cX9_numeral 118 = .ok (.if_icmp .le 7, 3) := by decide +kernel
theorem dX9_numeral_121 : decode cX9_numeral 121 = .ok (.iconst 1, 1) := by decide +kernel
theorem dX9_numeral_122 : decode cX9_numeral 122 = .ok (.goto 4, 3) := by decide +kernel
theorem dX9_numeral_125 : decode cX9_numeral 125 = .ok (.iconst 0, 1) := by decide +kernel
theorem dX9_numeral_126 : decode cX9_numeral 126 = .ok (.putfield 139, 3) := by decide +kernel
theorem dX9_numeral_129 : decode cX9_numeral 129 = .ok (.aload_n 0, 1) := by decide +kernel
theorem dX9_numeral_130 : decode cX9_numeral 130 = .ok (.dup, 1) := by decide +kernel
theorem dX9_numeral_131 : decode cX9_numeral 131 = .ok (.getfield 136, 3) := by decide +kernel
theorem dX9_numeral_134 : decode cX9_numeral 134 = .ok (.aload_n 0, 1) := by decide +kernel
theorem dX9_numeral_135 : decode cX9_numeral 135 = .ok (.getfield 139, 3) := by decide +kernel
theorem dX9_numeral_138 : decode cX9_numeral 138 = .ok (.ifCond .eq 7, 3) := by decide +kernel
theorem dX9_numeral_141 : decode cX9_numeral 141 = .ok (.iconst 0, 1) := by decide +kernel
theorem dX9_numeral_142 : decode cX9_numeral 142 = .ok (.goto 4, 3) := by decide +kernel
theorem dX9_numeral_145 : decode cX9_numeral 145 = .ok (.iload_n 2, 1) := by decide +kernel
theorem dX9_numeral_146 : decode cX9_numeral 146 = .ok (.iadd, 1) := by decide +kernel
theorem dX9_numeral_147 : decode cX9_numeral 147 = .ok (.putfield 136, 3) := by decide +kernel
theorem dX9_numeral_150 : decode cX9_numeral 150 = .ok (.iload_n 3, 1) := by decide +kernel
theorem dX9_numeral_151 : decode cX9_numeral 151 = .ok (.ireturn, 1) := by decide +kernel
theorem dX9_closes_0 : decode cX9_closes 0 = .ok (.aload_n 0, 1) := by decide +kernel
theorem dX9_closes_1 : decode cX9_closes 1 = .ok (.getfield 139, 3) := by decide +kernel
theorem dX9_closes_4 : decode cX9_closes 4 = .ok (.ifCond .ne 42, 3) := by decide +kernel
theorem dX9_closes_7 : decode cX9_closes 7 = .ok (.aload_n 0, 1) := by decide +kernel
theorem dX9_closes_8 : decode cX9_closes 8 = .ok (.aload_n 0, 1) := by decide +kernel
theorem dX9_closes_9 : decode cX9_closes 9 = .ok (.invokevirtual 143, 3) := by decide +kernel
theorem dX9_closes_12 : decode cX9_closes 12 = .ok (.bipush 59, 2) := by decide +kernel
theorem dX9_closes_14 : decode cX9_closes 14 = .ok (.if_icmp .eq 7, 3) := by decide +kernel
theorem dX9_closes_17 : decode cX9_closes 17 = .ok (.iconst 1, 1) := by decide +kernel
theorem dX9_closes_18 : decode cX9_closes 18 = .ok (.goto 4, 3) := by decide +kernel
theorem dX9_closes_21 : decode cX9_closes 21 = .ok (.iconst 0, 1) := by decide +kernel
theorem dX9_closes_22 : decode cX9_closes 22 = .ok (.putfield 139, 3) := by decide +kernel
theorem dX9_closes_25 : decode cX9_closes 25 = .ok (.aload_n 0, 1) := by decide +kernel
theorem dX9_closes_26 : decode cX9_closes 26 = .ok (.dup, 1) := by decide +kernel
theorem dX9_closes_27 : decode cX9_closes 27 = .ok (.getfield 136, 3) := by decide +kernel
theorem dX9_closes_30 : decode cX9_closes 30 = .ok (.aload_n 0, 1) := by decide +kernel
theorem dX9_closes_31 : decode cX9_closes 31 = .ok (.getfield 139, 3) := by decide +kernel
theorem dX9_closes_34 : decode cX9_closes 34 = .ok (.ifCond .eq 7, 3) := by decide +kernel
theorem dX9_closes_37 : decode cX9_closes 37 = .ok (.iconst 0, 1) := by decide +kernel
theorem dX9_closes_38 : decode cX9_closes 38 = .ok (.goto 4, 3) := by decide +kernel
theorem dX9_closes_41 : decode cX9_closes 41 = .ok (.iconst 1, 1) := by decide +kernel
theorem dX9_closes_42 : decode cX9_closes 42 = .ok (.iadd, 1) := by decide +kernel
theorem dX9_closes_43 : decode cX9_closes 43 = .ok (.putfield 136, 3) := by decide +kernel
theorem dX9_closes_46 : decode cX9_closes 46 = .ok (.return_, 1) := by decide +kernel
theorem dX9_isSign_0 : decode cX9_isSign 0 = .ok (.iload_n 0, 1) := by decide +kernel
theorem dX9_isSign_1 : decode cX9_isSign 1 = .ok (.lookupswitch 85 #[(37, 83), (38, 83), (42, 83), (43, 83), (45, 83), (47, 83), (60, 83), (61, 83), (94, 83)], 83) := by decide +kernel
theorem dX9_isSign_84 : decode cX9_isSign 84 = .ok (.iconst 1, 1) := by decide +kernel
theorem dX9_isSign_85 : decode cX9_isSign 85 = .ok (.ireturn, 1) := by decide +kernel
theorem dX9_isSign_86 : decode cX9_isSign 86 = .ok (.iconst 0, 1) := by decide +kernel
theorem dX9_isSign_87 : decode cX9_isSign 87 = .ok (.ireturn, 1) := by decide +kernel
theorem dX9_onlyJoins_0 : decode cX9_onlyJoins 0 = .ok (.iconst 1, 1) := by decide +kernel
theorem dX9_onlyJoins_1 : decode cX9_onlyJoins 1 = .ok (.istore_n 1, 1) := by decide +kernel
theorem dX9_onlyJoins_2 : decode cX9_onlyJoins 2 = .ok (.aload_n 0, 1) := by decide +kernel
theorem dX9_onlyJoins_3 : decode cX9_onlyJoins 3 = .ok (.getfield 86, 3) := by decide +kernel
theorem dX9_onlyJoins_6 : decode cX9_onlyJoins 6 = .ok (.aload_n 0, 1) := by decide +kernel
theorem dX9_onlyJoins_7 : decode cX9_onlyJoins 7 = .ok (.getfield 147, 3) := by decide +kernel
theorem dX9_onlyJoins_10 : decode cX9_onlyJoins 10 = .ok (.iconst 1, 1) := by decide +kernel
theorem dX9_onlyJoins_11 : decode cX9_onlyJoins 11 = .ok (.isub, 1) := by decide +kernel
theorem dX9_onlyJoins_12 : decode cX9_onlyJoins 12 = .ok (.iaload, 1) := by decide +kernel
theorem dX9_onlyJoins_13 : decode cX9_onlyJoins 13 = .ok (.istore_n 2, 1) := by decide +kernel
theorem dX9_onlyJoins_14 : decode cX9_onlyJoins 14 = .ok (.iload_n 2, 1) := by decide +kernel
theorem dX9_onlyJoins_15 : decode cX9_onlyJoins 15 = .ok (.aload_n 0, 1) := by decide +kernel
theorem dX9_onlyJoins_16 : decode cX9_onlyJoins 16 = .ok (.getfield 150, 3) := by decide +kernel
theorem dX9_onlyJoins_19 : decode cX9_onlyJoins 19 = .ok (.if_icmp .ge 29, 3) := by decide +kernel
theorem dX9_onlyJoins_22 : decode cX9_onlyJoins 22 = .ok (.iload_n 1, 1) := by decide +kernel
theorem dX9_onlyJoins_23 : decode cX9_onlyJoins 23 = .ok (.ifCond .eq 17, 3) := by decide +kernel
theorem dX9_onlyJoins_26 : decode cX9_onlyJoins 26 = .ok (.aload_n 0, 1) := by decide +kernel
theorem dX9_onlyJoins_27 : decode cX9_onlyJoins 27 = .ok (.getfield 62, 3) := by decide +kernel
theorem dX9_onlyJoins_30 : decode cX9_onlyJoins 30 = .ok (.iload_n 2, 1) := by decide +kernel
theorem dX9_onlyJoins_31 : decode cX9_onlyJoins 31 = .ok (.iaload, 1) := by decide +kernel
theorem dX9_onlyJoins_32 : decode cX9_onlyJoins 32 = .ok (.iconst 3, 1) := by decide +kernel
theorem dX9_onlyJoins_33 : decode cX9_onlyJoins 33 = .ok (.if_icmp .ne 7, 3) := by decide +kernel
theorem dX9_onlyJoins_36 : decode cX9_onlyJoins 36 = .ok (.iconst 1, 1) := by decide +kernel
theorem dX9_onlyJoins_37 : decode cX9_onlyJoins 37 = .ok (.goto 4, 3) := by decide +kernel
theorem dX9_onlyJoins_40 : decode cX9_onlyJoins 40 = .ok (.iconst 0, 1) := by decide +kernel
theorem dX9_onlyJoins_41 : decode cX9_onlyJoins 41 = .ok (.istore_n 1, 1) := by decide +kernel
theorem dX9_onlyJoins_42 : decode cX9_onlyJoins 42 = .ok (.iinc 2 1, 3) := by decide +kernel
theorem dX9_onlyJoins_45 : decode cX9_onlyJoins 45 = .ok (.goto (-31), 3) := by decide +kernel
theorem dX9_onlyJoins_48 : decode cX9_onlyJoins 48 = .ok (.iload_n 1, 1) := by decide +kernel
theorem dX9_onlyJoins_49 : decode cX9_onlyJoins 49 = .ok (.ireturn, 1) := by decide +kernel
theorem dX9_startsName_0 : decode cX9_startsName 0 = .ok (.aload_n 0, 1) := by decide +kernel
theorem dX9_startsName_1 : decode cX9_startsName 1 = .ok (.getfield 62, 3) := by decide +kernel
theorem dX9_startsName_4 : decode cX9_startsName 4 = .ok (.aload_n 0, 1) := by decide +kernel
theorem dX9_startsName_5 : decode cX9_startsName 5 = .ok (.getfield 150, 3) := by decide +kernel
theorem dX9_startsName_8 : decode cX9_startsName 8 = .ok (.iload_n 1, 1) := by decide +kernel
theorem dX9_startsName_9 : decode cX9_startsName 9 = .ok (.iastore, 1) := by decide +kernel
theorem dX9_startsName_10 : decode cX9_startsName 10 = .ok (.aload_n 0, 1) := by decide +kernel
theorem dX9_startsName_11 : decode cX9_startsName 11 = .ok (.getfield 65, 3) := by decide +kernel
theorem dX9_startsName_14 : decode cX9_startsName 14 = .ok (.aload_n 0, 1) := by decide +kernel
theorem dX9_startsName_15 : decode cX9_startsName 15 = .ok (.getfield 150, 3) := by decide +kernel
theorem dX9_startsName_18 : decode cX9_startsName 18 = .ok (.aload_n 0, 1) := by decide +kernel
theorem dX9_startsName_19 : decode cX9_startsName 19 = .ok (.getfield 147, 3) := by decide +kernel
theorem dX9_startsName_22 : decode cX9_startsName 22 = .ok (.iconst 1, 1) := by decide +kernel
theorem dX9_startsName_23 : decode cX9_startsName 23 = .ok (.isub, 1) := by decide +kernel
theorem dX9_startsName_24 : decode cX9_startsName 24 = .ok (.iastore, 1) := by decide +kernel
theorem dX9_startsName_25 : decode cX9_startsName 25 = .ok (.aload_n 0, 1) := by decide +kernel
theorem dX9_startsName_26 : decode cX9_startsName 26 = .ok (.getfield 68, 3) := by decide +kernel
theorem dX9_startsName_29 : decode cX9_startsName 29 = .ok (.aload_n 0, 1) := by decide +kernel
theorem dX9_startsName_30 : decode cX9_startsName 30 = .ok (.getfield 150, 3) := by decide +kernel
theorem dX9_startsName_33 : decode cX9_startsName 33 = .ok (.iconst 0, 1) := by decide +kernel
theorem dX9_startsName_34 : decode cX9_startsName 34 = .ok (.iastore, 1) := by decide +kernel
theorem dX9_startsName_35 : decode cX9_startsName 35 = .ok (.aload_n 0, 1) := by decide +kernel
theorem dX9_startsName_36 : decode cX9_startsName 36 = .ok (.getfield 77, 3) := by decide +kernel
theorem dX9_startsName_39 : decode cX9_startsName 39 = .ok (.aload_n 0, 1) := by decide +kernel
theorem dX9_startsName_40 : decode cX9_startsName 40 = .ok (.getfield 150, 3) := by decide +kernel
theorem dX9_startsName_43 : decode cX9_startsName 43 = .ok (.iconst 0, 1) := by decide +kernel
theorem dX9_startsName_44 : decode cX9_startsName 44 = .ok (.iastore, 1) := by decide +kernel
theorem dX9_startsName_45 : decode cX9_startsName 45 = .ok (.aload_n 0, 1) := by decide +kernel
theorem dX9_startsName_46 : decode cX9_startsName 46 = .ok (.dup, 1) := by decide +kernel
theorem dX9_startsName_47 : decode cX9_startsName 47 = .ok (.getfield 150, 3) := by decide +kernel
theorem dX9_startsName_50 : decode cX9_startsName 50 = .ok (.iconst 1, 1) := by decide +kernel
theorem dX9_startsName_51 : decode cX9_startsName 51 = .ok (.iadd, 1) := by decide +kernel
theorem dX9_startsName_52 : decode cX9_startsName 52 = .ok (.putfield 150, 3) := by decide +kernel
theorem dX9_startsName_55 : decode cX9_startsName 55 = .ok (.return_, 1) := by decide +kernel
theorem dX9_readsOperation_0 : decode cX9_readsOperation 0 = .ok (.aload_n 0, 1) := by decide +kernel
theorem dX9_readsOperation_1 : decode cX9_readsOperation 1 = .ok (.getfield 150, 3) := by decide +kernel
theorem dX9_readsOperation_4 : decode cX9_readsOperation 4 = .ok (.istore_n 1, 1) := by decide +kernel
theorem dX9_readsOperation_5 : decode cX9_readsOperation 5 = .ok (.aload_n 0, 1) := by decide +kernel
theorem dX9_readsOperation_6 : decode cX9_readsOperation 6 = .ok (.iconst 2, 1) := by decide +kernel
theorem dX9_readsOperation_7 : decode cX9_readsOperation 7 = .ok (.invokevirtual 153, 3) := by decide +kernel
theorem dX9_readsOperation_10 : decode cX9_readsOperation 10 = .ok (.aload_n 0, 1) := by decide +kernel
theorem dX9_readsOperation_11 : decode cX9_readsOperation 11 = .ok (.getfield 71, 3) := by decide +kernel
theorem dX9_readsOperation_14 : decode cX9_readsOperation 14 = .ok (.iload_n 1, 1) := by decide +kernel
theorem dX9_readsOperation_15 : decode cX9_readsOperation 15 = .ok (.aload_n 0, 1) := by decide +kernel
theorem dX9_readsOperation_16 : decode cX9_readsOperation 16 = .ok (.bipush 23, 2) := by decide +kernel
theorem dX9_readsOperation_18 : decode cX9_readsOperation 18 = .ok (.invokevirtual 157, 3) := by decide +kernel
theorem dX9_readsOperation_21 : decode cX9_readsOperation 21 = .ok (.iastore, 1) := by decide +kernel
theorem dX9_readsOperation_22 : decode cX9_readsOperation 22 = .ok (.aload_n 0, 1) := by decide +kernel
theorem dX9_readsOperation_23 : decode cX9_readsOperation 23 = .ok (.getfield 139, 3) := by decide +kernel
theorem dX9_readsOperation_26 : decode cX9_readsOperation 26 = .ok (.ifCond .ne 53, 3) := by decide +kernel
theorem dX9_readsOperation_29 : decode cX9_readsOperation 29 = .ok (.aload_n 0, 1) := by decide +kernel
theorem dX9_readsOperation_30 : decode cX9_readsOperation 30 = .ok (.aload_n 0, 1) := by decide +kernel
theorem dX9_readsOperation_31 : decode cX9_readsOperation 31 = .ok (.invokevirtual 143, 3) := by decide +kernel
theorem dX9_readsOperation_34 : decode cX9_readsOperation 34 = .ok (.invokestatic 161, 3) := by decide +kernel
theorem dX9_readsOperation_37 : decode cX9_readsOperation 37 = .ok (.ifCond .ne 7, 3) := by decide +kernel
theorem dX9_readsOperation_40 : decode cX9_readsOperation 40 = .ok (.iconst 1, 1) := by decide +kernel
theorem dX9_readsOperation_41 : decode cX9_readsOperation 41 = .ok (.goto 4, 3) := by decide +kernel
theorem dX9_readsOperation_44 : decode cX9_readsOperation 44 = .ok (.iconst 0, 1) := by decide +kernel
theorem dX9_readsOperation_45 : decode cX9_readsOperation 45 = .ok (.putfield 139, 3) := by decide +kernel
theorem dX9_readsOperation_48 : decode cX9_readsOperation 48 = .ok (.aload_n 0, 1) := by decide +kernel
theorem dX9_readsOperation_49 : decode cX9_readsOperation 49 = .ok (.getfield 68, 3) := by decide +kernel
theorem dX9_readsOperation_52 : decode cX9_readsOperation 52 = .ok (.iload_n 1, 1) := by decide +kernel
theorem dX9_readsOperation_53 : decode cX9_readsOperation 53 = .ok (.aload_n 0, 1) := by decide +kernel
theorem dX9_readsOperation_54 : decode cX9_readsOperation 54 = .ok (.invokevirtual 143, 3) := by decide +kernel
theorem dX9_readsOperation_57 : decode cX9_readsOperation 57 = .ok (.iastore, 1) := by decide +kernel
theorem dX9_readsOperation_58 : decode cX9_readsOperation 58 = .ok (.aload_n 0, 1) := by decide +kernel
theorem dX9_readsOperation_59 : decode cX9_readsOperation 59 = .ok (.dup, 1) := by decide +kernel
theorem dX9_readsOperation_60 : decode cX9_readsOperation 60 = .ok (.getfield 136, 3) := by decide +kernel
theorem dX9_readsOperation_63 : decode cX9_readsOperation 63 = .ok (.aload_n 0, 1) := by decide +kernel
theorem dX9_readsOperation_64 : decode cX9_readsOperation 64 = .ok (.getfield 139, 3) := by decide +kernel
theorem dX9_readsOperation_67 : decode cX9_readsOperation 67 = .ok (.ifCond .eq 7, 3) := by decide +kernel
theorem dX9_readsOperation_70 : decode cX9_readsOperation 70 = .ok (.iconst 0, 1) := by decide +kernel
theorem dX9_readsOperation_71 : decode cX9_readsOperation 71 = .ok (.goto 4, 3) := by decide +kernel
theorem dX9_readsOperation_74 : decode cX9_readsOperation 74 = .ok (.iconst 1, 1) := by decide +kernel
theorem dX9_readsOperation_75 : decode cX9_readsOperation 75 = .ok (.iadd, 1) := by decide +kernel
theorem dX9_readsOperation_76 : decode cX9_readsOperation 76 = .ok (.putfield 136, 3) := by decide +kernel
theorem dX9_readsOperation_79 : decode cX9_readsOperation 79 = .ok (.aload_n 0, 1) := by decide +kernel
theorem dX9_readsOperation_80 : decode cX9_readsOperation 80 = .ok (.getfield 74, 3) := by decide +kernel
theorem dX9_readsOperation_83 : decode cX9_readsOperation 83 = .ok (.iload_n 1, 1) := by decide +kernel
theorem dX9_readsOperation_84 : decode cX9_readsOperation 84 = .ok (.aload_n 0, 1) := by decide +kernel
theorem dX9_readsOperation_85 : decode cX9_readsOperation 85 = .ok (.bipush 23, 2) := by decide +kernel
theorem dX9_readsOperation_87 : decode cX9_readsOperation 87 = .ok (.invokevirtual 157, 3) := by decide +kernel
theorem dX9_readsOperation_90 : decode cX9_readsOperation 90 = .ok (.iastore, 1) := by decide +kernel
theorem dX9_readsOperation_91 : decode cX9_readsOperation 91 = .ok (.aload_n 0, 1) := by decide +kernel
theorem dX9_readsOperation_92 : decode cX9_readsOperation 92 = .ok (.invokevirtual 165, 3) := by decide +kernel
theorem dX9_readsOperation_95 : decode cX9_readsOperation 95 = .ok (.return_, 1) := by decide +kernel
theorem dX9_readsJoin_0 : decode cX9_readsJoin 0 = .ok (.aload_n 0, 1) := by decide +kernel
theorem dX9_readsJoin_1 : decode cX9_readsJoin 1 = .ok (.getfield 150, 3) := by decide +kernel
theorem dX9_readsJoin_4 : decode cX9_readsJoin 4 = .ok (.istore_n 1, 1) := by decide +kernel
theorem dX9_readsJoin_5 : decode cX9_readsJoin 5 = .ok (.aload_n 0, 1) := by decide +kernel
theorem dX9_readsJoin_6 : decode cX9_readsJoin 6 = .ok (.iconst 3, 1) := by decide +kernel
theorem dX9_readsJoin_7 : decode cX9_readsJoin 7 = .ok (.invokevirtual 153, 3) := by decide +kernel
theorem dX9_readsJoin_10 : decode cX9_readsJoin 10 = .ok (.iconst 1, 1) := by decide +kernel
theorem dX9_readsJoin_11 : decode cX9_readsJoin 11 = .ok (.istore_n 2, 1) := by decide +kernel
theorem dX9_readsJoin_12 : decode cX9_readsJoin 12 = .ok (.iload_n 2, 1) := by decide +kernel
theorem dX9_readsJoin_13 : decode cX9_readsJoin 13 = .ok (.ifCond .eq 185, 3) := by decide +kernel
theorem dX9_readsJoin_16 : decode cX9_readsJoin 16 = .ok (.iconst 3, 1) := by decide +kernel
theorem dX9_readsJoin_17 : decode cX9_readsJoin 17 = .ok (.iload_n 1, 1) := by decide +kernel
theorem dX9_readsJoin_18 : decode cX9_readsJoin 18 = .ok (.imul, 1) := by decide +kernel
theorem dX9_readsJoin_19 : decode cX9_readsJoin 19 = .ok (.aload_n 0, 1) := by decide +kernel
theorem dX9_readsJoin_20 : decode cX9_readsJoin 20 = .ok (.getfield 77, 3) := by decide +kernel
theorem dX9_readsJoin_23 : decode cX9_readsJoin 23 = .ok (.iload_n 1, 1) := by decide +kernel
theorem dX9_readsJoin_24 : decode cX9_readsJoin 24 = .ok (.iaload, 1) := by decide +kernel
theorem dX9_readsJoin_25 : decode cX9_readsJoin 25 = .ok (.iadd, 1) := by decide +kernel
theorem dX9_readsJoin_26 : decode cX9_readsJoin 26 = .ok (.istore_n 3, 1) := by decide +kernel
theorem dX9_readsJoin_27 : decode cX9_readsJoin 27 = .ok (.iconst (-1), 1) := by decide +kernel
theorem dX9_readsJoin_28 : decode cX9_readsJoin 28 = .ok (.istore 4, 2) := by decide +kernel
theorem dX9_readsJoin_30 : decode cX9_readsJoin 30 = .ok (.aload_n 0, 1) := by decide +kernel
theorem dX9_readsJoin_31 : decode cX9_readsJoin 31 = .ok (.getfield 139, 3) := by decide +kernel
theorem dX9_readsJoin_34 : decode cX9_readsJoin 34 = .ok (.ifCond .ne 14, 3) := by decide +kernel
theorem dX9_readsJoin_37 : decode cX9_readsJoin 37 = .ok (.aload_n 0, 1) := by decide +kernel
theorem dX9_readsJoin_38 : decode cX9_readsJoin 38 = .ok (.invokevirtual 143, 3) := by decide +kernel
theorem dX9_readsJoin_41 : decode cX9_readsJoin 41 = .ok (.pop, 1) := by decide +kernel
theorem dX9_readsJoin_42 : decode cX9_readsJoin 42 = .ok (.aload_n 0, 1) := by decide +kernel
theorem dX9_readsJoin_43 : decode cX9_readsJoin 43 = .ok (.getfield 136, 3) := by decide +kernel
theorem dX9_readsJoin_46 : decode cX9_readsJoin 46 = .ok (.istore 4, 2) := by decide +kernel
theorem dX9_readsJoin_48 : decode cX9_readsJoin 48 = .ok (.aload_n 0, 1) := by decide +kernel
theorem dX9_readsJoin_49 : decode cX9_readsJoin 49 = .ok (.bipush 7, 2) := by decide +kernel
theorem dX9_readsJoin_51 : decode cX9_readsJoin 51 = .ok (.invokevirtual 157, 3) := by decide +kernel
theorem dX9_readsJoin_54 : decode cX9_readsJoin 54 = .ok (.istore 5, 2) := by decide +kernel
theorem dX9_readsJoin_56 : decode cX9_readsJoin 56 = .ok (.iconst 0, 1) := by decide +kernel
theorem dX9_readsJoin_57 : decode cX9_readsJoin 57 = .ok (.istore 6, 2) := by decide +kernel
theorem dX9_readsJoin_59 : decode cX9_readsJoin 59 = .ok (.iload 6, 2) := by decide +kernel
theorem dX9_readsJoin_61 : decode cX9_readsJoin 61 = .ok (.aload_n 0, 1) := by decide +kernel
theorem dX9_readsJoin_62 : decode cX9_readsJoin 62 = .ok (.getfield 77, 3) := by decide +kernel
theorem dX9_readsJoin_65 : decode cX9_readsJoin 65 = .ok (.iload_n 1, 1) := by decide +kernel
theorem dX9_readsJoin_66 : decode cX9_readsJoin 66 = .ok (.iaload, 1) := by decide +kernel
theorem dX9_readsJoin_67 : decode cX9_readsJoin 67 = .ok (.if_icmp .ge 61, 3) := by decide +kernel
theorem dX9_readsJoin_70 : decode cX9_readsJoin 70 = .ok (.aload_n 0, 1) := by decide +kernel
theorem dX9_readsJoin_71 : decode cX9_readsJoin 71 = .ok (.getfield 139, 3) := by decide +kernel
theorem dX9_readsJoin_74 : decode cX9_readsJoin 74 = .ok (.ifCond .ne 54, 3) := by decide +kernel
theorem dX9_readsJoin_77 : decode cX9_readsJoin 77 = .ok (.aload_n 0, 1) := by decide +kernel
theorem dX9_readsJoin_78 : decode cX9_readsJoin 78 = .ok (.aload_n 0, 1) := by decide +kernel
theorem dX9_readsJoin_79 : decode cX9_readsJoin 79 = .ok (.getfield 80, 3) := by decide +kernel
theorem dX9_readsJoin_82 : decode cX9_readsJoin 82 = .ok (.iconst 3, 1) := by decide +kernel
theorem dX9_readsJoin_83 : decode cX9_readsJoin 83 = .ok (.iload_n 1, 1) := by decide +kernel
theorem dX9_readsJoin_84 : decode cX9_readsJoin 84 = .ok (.imul, 1) := by decide +kernel
theorem dX9_readsJoin_85 : decode cX9_readsJoin 85 = .ok (.iload 6, 2) := by decide +kernel
theorem dX9_readsJoin_87 : decode cX9_readsJoin 87 = .ok (.iadd, 1) := by decide +kernel
theorem dX9_readsJoin_88 : decode cX9_readsJoin 88 = .ok (.iaload, 1) := by decide +kernel
theorem dX9_readsJoin_89 : decode cX9_readsJoin 89 = .ok (.iload 5, 2) := by decide +kernel
theorem dX9_readsJoin_91 : decode cX9_readsJoin 91 = .ok (.if_icmp .ne 7, 3) := by decide +kernel
theorem dX9_readsJoin_94 : decode cX9_readsJoin 94 = .ok (.iconst 1, 1) := by decide +kernel
theorem dX9_readsJoin_95 : decode cX9_readsJoin 95 = .ok (.goto 4, 3) := by decide +kernel
theorem dX9_readsJoin_98 : decode cX9_readsJoin 98 = .ok (.iconst 0, 1) := by decide +kernel
theorem dX9_readsJoin_99 : decode cX9_readsJoin 99 = .ok (.putfield 139, 3) := by decide +kernel
theorem dX9_readsJoin_102 : decode cX9_readsJoin 102 = .ok (.aload_n 0, 1) := by decide +kernel
theorem dX9_readsJoin_103 : decode cX9_readsJoin 103 = .ok (.aload_n 0, 1) := by decide +kernel
theorem dX9_readsJoin_104 : decode cX9_readsJoin 104 = .ok (.getfield 139, 3) := by decide +kernel
theorem dX9_readsJoin_107 : decode cX9_readsJoin 107 = .ok (.ifCond .eq 8, 3) := by decide +kernel
theorem dX9_readsJoin_110 : decode cX9_readsJoin 110 = .ok (.iload 4, 2) := by decide +kernel
theorem dX9_readsJoin_112 : decode cX9_readsJoin 112 = .ok (.goto 7, 3) := by decide +kernel
theorem dX9_readsJoin_115 : decode cX9_readsJoin 115 = .ok (.aload_n 0, 1) := by decide +kernel
theorem dX9_readsJoin_116 : decode cX9_readsJoin 116 = .ok (.getfield 136, 3) := by decide +kernel
theorem dX9_readsJoin_119 : decode cX9_readsJoin 119 = .ok (.putfield 136, 3) := by decide +kernel
theorem dX9_readsJoin_122 : decode cX9_readsJoin 122 = .ok (.iinc 6 1, 3) := by decide +kernel
theorem dX9_readsJoin_125 : decode cX9_readsJoin 125 = .ok (.goto (-66), 3) := by decide +kernel
theorem dX9_readsJoin_128 : decode cX9_readsJoin 128 = .ok (.aload_n 0, 1) := by decide +kernel
theorem dX9_readsJoin_129 : decode cX9_readsJoin 129 = .ok (.getfield 80, 3) := by decide +kernel
theorem dX9_readsJoin_132 : decode cX9_readsJoin 132 = .ok (.iload_n 3, 1) := by decide +kernel
theorem dX9_readsJoin_133 : decode cX9_readsJoin 133 = .ok (.iload 5, 2) := by decide +kernel
theorem dX9_readsJoin_135 : decode cX9_readsJoin 135 = .ok (.iastore, 1) := by decide +kernel
theorem dX9_readsJoin_136 : decode cX9_readsJoin 136 = .ok (.aload_n 0, 1) := by decide +kernel
theorem dX9_readsJoin_137 : decode cX9_readsJoin 137 = .ok (.getfield 83, 3) := by decide +kernel
theorem dX9_readsJoin_140 : decode cX9_readsJoin 140 = .ok (.iload_n 3, 1) := by decide +kernel
theorem dX9_readsJoin_141 : decode cX9_readsJoin 141 = .ok (.aload_n 0, 1) := by decide +kernel
theorem dX9_readsJoin_142 : decode cX9_readsJoin 142 = .ok (.bipush 23, 2) := by decide +kernel
theorem dX9_readsJoin_144 : decode cX9_readsJoin 144 = .ok (.invokevirtual 157, 3) := by decide +kernel
theorem dX9_readsJoin_147 : decode cX9_readsJoin 147 = .ok (.iastore, 1) := by decide +kernel
theorem dX9_readsJoin_148 : decode cX9_readsJoin 148 = .ok (.aload_n 0, 1) := by decide +kernel
theorem dX9_readsJoin_149 : decode cX9_readsJoin 149 = .ok (.getfield 77, 3) := by decide +kernel
theorem dX9_readsJoin_152 : decode cX9_readsJoin 152 = .ok (.iload_n 1, 1) := by decide +kernel
theorem dX9_readsJoin_153 : decode cX9_readsJoin 153 = .ok (.dup2, 1) := by decide +kernel
theorem dX9_readsJoin_154 : decode cX9_readsJoin 154 = .ok (.iaload, 1) := by decide +kernel
theorem dX9_readsJoin_155 : decode cX9_readsJoin 155 = .ok (.iconst 1, 1) := by decide +kernel
theorem dX9_readsJoin_156 : decode cX9_readsJoin 156 = .ok (.iadd, 1) := by decide +kernel
theorem dX9_readsJoin_157 : decode cX9_readsJoin 157 = .ok (.iastore, 1) := by decide +kernel
theorem dX9_readsJoin_158 : decode cX9_readsJoin 158 = .ok (.aload_n 0, 1) := by decide +kernel
theorem dX9_readsJoin_159 : decode cX9_readsJoin 159 = .ok (.getfield 139, 3) := by decide +kernel
theorem dX9_readsJoin_162 : decode cX9_readsJoin 162 = .ok (.ifCond .ne 31, 3) := by decide +kernel
theorem dX9_readsJoin_165 : decode cX9_readsJoin 165 = .ok (.aload_n 0, 1) := by decide +kernel
theorem dX9_readsJoin_166 : decode cX9_readsJoin 166 = .ok (.getfield 77, 3) := by decide +kernel
theorem dX9_readsJoin_169 : decode cX9_readsJoin 169 = .ok (.iload_n 1, 1) := by decide +kernel
theorem dX9_readsJoin_170 : decode cX9_readsJoin 170 = .ok (.iaload, 1) := by decide +kernel
theorem dX9_readsJoin_171 : decode cX9_readsJoin 171 = .ok (.iconst 3, 1) := by decide +kernel
theorem dX9_readsJoin_172 : decode cX9_readsJoin 172 = .ok (.if_icmp .ge 21, 3) := by decide +kernel
theorem dX9_readsJoin_175 : decode cX9_readsJoin 175 = .ok (.aload_n 0, 1) := by decide +kernel
theorem dX9_readsJoin_176 : decode cX9_readsJoin 176 = .ok (.invokevirtual 143, 3) := by decide +kernel
theorem dX9_readsJoin_179 : decode cX9_readsJoin 179 = .ok (.bipush 48, 2) := by decide +kernel
theorem dX9_readsJoin_181 : decode cX9_readsJoin 181 = .ok (.bipush 57, 2) := by decide +kernel
theorem dX9_readsJoin_183 : decode cX9_readsJoin 183 = .ok (.invokestatic 126, 3) := by decide +kernel
theorem dX9_readsJoin_186 : decode cX9_readsJoin 186 = .ok (.ifCond .eq 7, 3) := by decide +kernel
theorem dX9_readsJoin_189 : decode cX9_readsJoin 189 = .ok (.iconst 1, 1) := by decide +kernel
theorem dX9_readsJoin_190 : decode cX9_readsJoin 190 = .ok (.goto 4, 3) := by decide +kernel
theorem dX9_readsJoin_193 : decode cX9_readsJoin 193 = .ok (.iconst 0, 1) := by decide +kernel
theorem dX9_readsJoin_194 : decode cX9_readsJoin 194 = .ok (.istore_n 2, 1) := by decide +kernel
theorem dX9_readsJoin_195 : decode cX9_readsJoin 195 = .ok (.goto (-183), 3) := by decide +kernel
theorem dX9_readsJoin_198 : decode cX9_readsJoin 198 = .ok (.aload_n 0, 1) := by decide +kernel
theorem dX9_readsJoin_199 : decode cX9_readsJoin 199 = .ok (.invokevirtual 165, 3) := by decide +kernel
theorem dX9_readsJoin_202 : decode cX9_readsJoin 202 = .ok (.return_, 1) := by decide +kernel
theorem dX9_readsEnd_0 : decode cX9_readsEnd 0 = .ok (.aload_n 0, 1) := by decide +kernel
theorem dX9_readsEnd_1 : decode cX9_readsEnd 1 = .ok (.getfield 147, 3) := by decide +kernel
theorem dX9_readsEnd_4 : decode cX9_readsEnd 4 = .ok (.iconst 1, 1) := by decide +kernel
theorem dX9_readsEnd_5 : decode cX9_readsEnd 5 = .ok (.isub, 1) := by decide +kernel
theorem dX9_readsEnd_6 : decode cX9_readsEnd 6 = .ok (.istore_n 2, 1) := by decide +kernel
theorem dX9_readsEnd_7 : decode cX9_readsEnd 7 = .ok (.aload_n 0, 1) := by decide +kernel
theorem dX9_readsEnd_8 : decode cX9_readsEnd 8 = .ok (.getfield 89, 3) := by decide +kernel
theorem dX9_readsEnd_11 : decode cX9_readsEnd 11 = .ok (.iload_n 2, 1) := by decide +kernel
theorem dX9_readsEnd_12 : decode cX9_readsEnd 12 = .ok (.iload_n 1, 1) := by decide +kernel
theorem dX9_readsEnd_13 : decode cX9_readsEnd 13 = .ok (.bipush 103, 2) := by decide +kernel
theorem dX9_readsEnd_15 : decode cX9_readsEnd 15 = .ok (.if_icmp .ne 7, 3) := by decide +kernel
theorem dX9_readsEnd_18 : decode cX9_readsEnd 18 = .ok (.iconst 0, 1) := by decide +kernel
theorem dX9_readsEnd_19 : decode cX9_readsEnd 19 = .ok (.goto 14, 3) := by decide +kernel
theorem dX9_readsEnd_22 : decode cX9_readsEnd 22 = .ok (.iload_n 1, 1) := by decide +kernel
theorem dX9_readsEnd_23 : decode cX9_readsEnd 23 = .ok (.bipush 113, 2) := by decide +kernel
theorem dX9_readsEnd_25 : decode cX9_readsEnd 25 = .ok (.if_icmp .ne 7, 3) := by decide +kernel
theorem dX9_readsEnd_28 : decode cX9_readsEnd 28 = .ok (.iconst 1, 1) := by decide +kernel
theorem dX9_readsEnd_29 : decode cX9_readsEnd 29 = .ok (.goto 4, 3) := by decide +kernel
theorem dX9_readsEnd_32 : decode cX9_readsEnd 32 = .ok (.iconst 2, 1) := by decide +kernel
theorem dX9_readsEnd_33 : decode cX9_readsEnd 33 = .ok (.iastore, 1) := by decide +kernel
theorem dX9_readsEnd_34 : decode cX9_readsEnd 34 = .ok (.aload_n 0, 1) := by decide +kernel
theorem dX9_readsEnd_35 : decode cX9_readsEnd 35 = .ok (.getfield 92, 3) := by decide +kernel
theorem dX9_readsEnd_38 : decode cX9_readsEnd 38 = .ok (.iload_n 2, 1) := by decide +kernel
theorem dX9_readsEnd_39 : decode cX9_readsEnd 39 = .ok (.iload_n 1, 1) := by decide +kernel
theorem dX9_readsEnd_40 : decode cX9_readsEnd 40 = .ok (.bipush 103, 2) := by decide +kernel
theorem dX9_readsEnd_42 : decode cX9_readsEnd 42 = .ok (.if_icmp .ne 8, 3) := by decide +kernel
theorem dX9_readsEnd_45 : decode cX9_readsEnd 45 = .ok (.bipush (-9), 2) := by decide +kernel
theorem dX9_readsEnd_47 : decode cX9_readsEnd 47 = .ok (.goto 9, 3) := by decide +kernel
theorem dX9_readsEnd_50 : decode cX9_readsEnd 50 = .ok (.aload_n 0, 1) := by decide +kernel
theorem dX9_readsEnd_51 : decode cX9_readsEnd 51 = .ok (.bipush 23, 2) := by decide +kernel
theorem dX9_readsEnd_53 : decode cX9_readsEnd 53 = .ok (.invokevirtual 157, 3) := by decide +kernel
theorem dX9_readsEnd_56 : decode cX9_readsEnd 56 = .ok (.iastore, 1) := by decide +kernel
theorem dX9_readsEnd_57 : decode cX9_readsEnd 57 = .ok (.aload_n 0, 1) := by decide +kernel
theorem dX9_readsEnd_58 : decode cX9_readsEnd 58 = .ok (.getfield 95, 3) := by decide +kernel
theorem dX9_readsEnd_61 : decode cX9_readsEnd 61 = .ok (.bipush 96, 2) := by decide +kernel
theorem dX9_readsEnd_63 : decode cX9_readsEnd 63 = .ok (.iconst 2, 1) := by decide +kernel
theorem dX9_readsEnd_64 : decode cX9_readsEnd 64 = .ok (.iload_n 2, 1) := by decide +kernel
theorem dX9_readsEnd_65 : decode cX9_readsEnd 65 = .ok (.imul, 1) := by decide +kernel
theorem dX9_readsEnd_66 : decode cX9_readsEnd 66 = .ok (.iadd, 1) := by decide +kernel
theorem dX9_readsEnd_67 : decode cX9_readsEnd 67 = .ok (.iload_n 1, 1) := by decide +kernel
theorem dX9_readsEnd_68 : decode cX9_readsEnd 68 = .ok (.bipush 122, 2) := by decide +kernel
theorem dX9_readsEnd_70 : decode cX9_readsEnd 70 = .ok (.if_icmp .ne 8, 3) := by decide +kernel
theorem dX9_readsEnd_73 : decode cX9_readsEnd 73 = .ok (.bipush (-9), 2) := by decide +kernel
theorem dX9_readsEnd_75 : decode cX9_readsEnd 75 = .ok (.goto 9, 3) := by decide +kernel
theorem dX9_readsEnd_78 : decode cX9_readsEnd 78 = .ok (.aload_n 0, 1) := by decide +kernel
theorem dX9_readsEnd_79 : decode cX9_readsEnd 79 = .ok (.bipush 7, 2) := by decide +kernel
theorem dX9_readsEnd_81 : decode cX9_readsEnd 81 = .ok (.invokevirtual 157, 3) := by decide +kernel
theorem dX9_readsEnd_84 : decode cX9_readsEnd 84 = .ok (.iastore, 1) := by decide +kernel
theorem dX9_readsEnd_85 : decode cX9_readsEnd 85 = .ok (.aload_n 0, 1) := by decide +kernel
theorem dX9_readsEnd_86 : decode cX9_readsEnd 86 = .ok (.getfield 95, 3) := by decide +kernel
theorem dX9_readsEnd_89 : decode cX9_readsEnd 89 = .ok (.bipush 96, 2) := by decide +kernel
theorem dX9_readsEnd_91 : decode cX9_readsEnd 91 = .ok (.iconst 2, 1) := by decide +kernel
theorem dX9_readsEnd_92 : decode cX9_readsEnd 92 = .ok (.iload_n 2, 1) := by decide +kernel
theorem dX9_readsEnd_93 : decode cX9_readsEnd 93 = .ok (.imul, 1) := by decide +kernel
theorem dX9_readsEnd_94 : decode cX9_readsEnd 94 = .ok (.iadd, 1) := by decide +kernel
theorem dX9_readsEnd_95 : decode cX9_readsEnd 95 = .ok (.iconst 1, 1) := by decide +kernel
theorem dX9_readsEnd_96 : decode cX9_readsEnd 96 = .ok (.iadd, 1) := by decide +kernel
theorem dX9_readsEnd_97 : decode cX9_readsEnd 97 = .ok (.bipush (-9), 2) := by decide +kernel
theorem dX9_readsEnd_99 : decode cX9_readsEnd 99 = .ok (.iastore, 1) := by decide +kernel
theorem dX9_readsEnd_100 : decode cX9_readsEnd 100 = .ok (.iload_n 1, 1) := by decide +kernel
theorem dX9_readsEnd_101 : decode cX9_readsEnd 101 = .ok (.bipush 113, 2) := by decide +kernel
theorem dX9_readsEnd_103 : decode cX9_readsEnd 103 = .ok (.if_icmp .ne 76, 3) := by decide +kernel
theorem dX9_readsEnd_106 : decode cX9_readsEnd 106 = .ok (.aload_n 0, 1) := by decide +kernel
theorem dX9_readsEnd_107 : decode cX9_readsEnd 107 = .ok (.getfield 139, 3) := by decide +kernel
theorem dX9_readsEnd_110 : decode cX9_readsEnd 110 = .ok (.ifCond .ne 69, 3) := by decide +kernel
theorem dX9_readsEnd_113 : decode cX9_readsEnd 113 = .ok (.aload_n 0, 1) := by decide +kernel
theorem dX9_readsEnd_114 : decode cX9_readsEnd 114 = .ok (.invokevirtual 143, 3) := by decide +kernel
theorem dX9_readsEnd_117 : decode cX9_readsEnd 117 = .ok (.pop, 1) := by decide +kernel
theorem dX9_readsEnd_118 : decode cX9_readsEnd 118 = .ok (.aload_n 0, 1) := by decide +kernel
theorem dX9_readsEnd_119 : decode cX9_readsEnd 119 = .ok (.getfield 136, 3) := by decide +kernel
theorem dX9_readsEnd_122 : decode cX9_readsEnd 122 = .ok (.istore_n 3, 1) := by decide +kernel
theorem dX9_readsEnd_123 : decode cX9_readsEnd 123 = .ok (.aload_n 0, 1) := by decide +kernel
theorem dX9_readsEnd_124 : decode cX9_readsEnd 124 = .ok (.bipush 7, 2) := by decide +kernel
theorem dX9_readsEnd_126 : decode cX9_readsEnd 126 = .ok (.invokevirtual 157, 3) := by decide +kernel
theorem dX9_readsEnd_129 : decode cX9_readsEnd 129 = .ok (.istore 4, 2) := by decide +kernel
theorem dX9_readsEnd_131 : decode cX9_readsEnd 131 = .ok (.aload_n 0, 1) := by decide +kernel
theorem dX9_readsEnd_132 : decode cX9_readsEnd 132 = .ok (.getfield 139, 3) := by decide +kernel
theorem dX9_readsEnd_135 : decode cX9_readsEnd 135 = .ok (.ifCond .ne 29, 3) := by decide +kernel
theorem dX9_readsEnd_138 : decode cX9_readsEnd 138 = .ok (.iload 4, 2) := by decide +kernel
theorem dX9_readsEnd_140 : decode cX9_readsEnd 140 = .ok (.aload_n 0, 1) := by decide +kernel
theorem dX9_readsEnd_141 : decode cX9_readsEnd 141 = .ok (.getfield 95, 3) := by decide +kernel
theorem dX9_readsEnd_144 : decode cX9_readsEnd 144 = .ok (.bipush 96, 2) := by decide +kernel
theorem dX9_readsEnd_146 : decode cX9_readsEnd 146 = .ok (.iconst 2, 1) := by decide +kernel
theorem dX9_readsEnd_147 : decode cX9_readsEnd 147 = .ok (.iload_n 2, 1) := by decide +kernel
theorem dX9_readsEnd_148 : decode cX9_readsEnd 148 = .ok (.imul, 1) := by decide +kernel
theorem dX9_readsEnd_149 : decode cX9_readsEnd 149 = .ok (.iadd, 1) := by decide +kernel
theorem dX9_readsEnd_150 : decode cX9_readsEnd 150 = .ok (.iaload, 1) := by decide +kernel
theorem dX9_readsEnd_151 : decode cX9_readsEnd 151 = .ok (.if_icmp .ne 13, 3) := by decide +kernel
theorem dX9_readsEnd_154 : decode cX9_readsEnd 154 = .ok (.aload_n 0, 1) := by decide +kernel
theorem dX9_readsEnd_155 : decode cX9_readsEnd 155 = .ok (.iconst 1, 1) := by decide +kernel
theorem dX9_readsEnd_156 : decode cX9_readsEnd 156 = .ok (.putfield 139, 3) := by decide +kernel
theorem dX9_readsEnd_159 : decode cX9_readsEnd 159 = .ok (.aload_n 0, 1) := by decide +kernel
theorem dX9_readsEnd_160 : decode cX9_readsEnd 160 = .ok (.iload_n 3, 1) := by decide +kernel
theorem dX9_readsEnd_161 : decode cX9_readsEnd 161 = .ok (.putfield 136, 3) := by decide +kernel
theorem dX9_readsEnd_164 : decode cX9_readsEnd 164 = .ok (.aload_n 0, 1) := by decide +kernel
theorem dX9_readsEnd_165 : decode cX9_readsEnd 165 = .ok (.getfield 95, 3) := by decide +kernel
theorem dX9_readsEnd_168 : decode cX9_readsEnd 168 = .ok (.bipush 96, 2) := by decide +kernel
theorem dX9_readsEnd_170 : decode cX9_readsEnd 170 = .ok (.iconst 2, 1) := by decide +kernel
theorem dX9_readsEnd_171 : decode cX9_readsEnd 171 = .ok (.iload_n 2, 1) := by decide +kernel
theorem dX9_readsEnd_172 : decode cX9_readsEnd 172 = .ok (.imul, 1) := by decide +kernel
theorem dX9_readsEnd_173 : decode cX9_readsEnd 173 = .ok (.iadd, 1) := by decide +kernel
theorem dX9_readsEnd_174 : decode cX9_readsEnd 174 = .ok (.iconst 1, 1) := by decide +kernel
theorem dX9_readsEnd_175 : decode cX9_readsEnd 175 = .ok (.iadd, 1) := by decide +kernel
theorem dX9_readsEnd_176 : decode cX9_readsEnd 176 = .ok (.iload 4, 2) := by decide +kernel
theorem dX9_readsEnd_178 : decode cX9_readsEnd 178 = .ok (.iastore, 1) := by decide +kernel
theorem dX9_readsEnd_179 : decode cX9_readsEnd 179 = .ok (.aload_n 0, 1) := by decide +kernel
theorem dX9_readsEnd_180 : decode cX9_readsEnd 180 = .ok (.iconst 0, 1) := by decide +kernel
theorem dX9_readsEnd_181 : decode cX9_readsEnd 181 = .ok (.putfield 168, 3) := by decide +kernel
theorem dX9_readsEnd_184 : decode cX9_readsEnd 184 = .ok (.aload_n 0, 1) := by decide +kernel
theorem dX9_readsEnd_185 : decode cX9_readsEnd 185 = .ok (.invokevirtual 165, 3) := by decide +kernel
theorem dX9_readsEnd_188 : decode cX9_readsEnd 188 = .ok (.return_, 1) := by decide +kernel
theorem dX9_mayBegin_0 : decode cX9_mayBegin 0 = .ok (.aload_n 0, 1) := by decide +kernel
theorem dX9_mayBegin_1 : decode cX9_mayBegin 1 = .ok (.getfield 136, 3) := by decide +kernel
theorem dX9_mayBegin_4 : decode cX9_mayBegin 4 = .ok (.iconst 1, 1) := by decide +kernel
theorem dX9_mayBegin_5 : decode cX9_mayBegin 5 = .ok (.iadd, 1) := by decide +kernel
theorem dX9_mayBegin_6 : decode cX9_mayBegin 6 = .ok (.aload_n 0, 1) := by decide +kernel
theorem dX9_mayBegin_7 : decode cX9_mayBegin 7 = .ok (.getfield 133, 3) := by decide +kernel
theorem dX9_mayBegin_10 : decode cX9_mayBegin 10 = .ok (.if_icmp .ge 24, 3) := by decide +kernel
theorem dX9_mayBegin_13 : decode cX9_mayBegin 13 = .ok (.aload_n 0, 1) := by decide +kernel
theorem dX9_mayBegin_14 : decode cX9_mayBegin 14 = .ok (.getfield 7, 3) := by decide +kernel
theorem dX9_mayBegin_17 : decode cX9_mayBegin 17 = .ok (.aload_n 0, 1) := by decide +kernel
theorem dX9_mayBegin_18 : decode cX9_mayBegin 18 = .ok (.getfield 136, 3) := by decide +kernel
theorem dX9_mayBegin_21 : decode cX9_mayBegin 21 = .ok (.iconst 1, 1) := by decide +kernel
theorem dX9_mayBegin_22 : decode cX9_mayBegin 22 = .ok (.iadd, 1) := by decide +kernel
theorem dX9_mayBegin_23 : decode cX9_mayBegin 23 = .ok (.iaload, 1) := by decide +kernel
theorem dX9_mayBegin_24 : decode cX9_mayBegin 24 = .ok (.bipush 97, 2) := by decide +kernel
theorem dX9_mayBegin_26 : decode cX9_mayBegin 26 = .ok (.bipush 122, 2) := by decide +kernel
theorem dX9_mayBegin_28 : decode cX9_mayBegin 28 = .ok (.invokestatic 126, 3) := by decide +kernel
theorem dX9_mayBegin_31 : decode cX9_mayBegin 31 = .ok (.ifCond .ne 7, 3) := by decide +kernel
theorem dX9_mayBegin_34 : decode cX9_mayBegin 34 = .ok (.iconst 1, 1) := by decide +kernel
theorem dX9_mayBegin_35 : decode cX9_mayBegin 35 = .ok (.goto 4, 3) := by decide +kernel
theorem dX9_mayBegin_38 : decode cX9_mayBegin 38 = .ok (.iconst 0, 1) := by decide +kernel
theorem dX9_mayBegin_39 : decode cX9_mayBegin 39 = .ok (.istore_n 2, 1) := by decide +kernel
theorem dX9_mayBegin_40 : decode cX9_mayBegin 40 = .ok (.iload_n 1, 1) := by decide +kernel
theorem dX9_mayBegin_41 : decode cX9_mayBegin 41 = .ok (.tableswitch 225 98 122 #[115, 225, 225, 225, 225, 208, 225, 141, 167, 141, 225, 225, 225, 141, 225, 208, 225, 225, 225, 225, 225, 225, 225, 225, 208], 115) := by decide +kernel
theorem dX9_mayBegin_156 : decode cX9_mayBegin 156 = .ok (.iload_n 2, 1) := by decide +kernel
theorem dX9_mayBegin_157 : decode cX9_mayBegin 157 = .ok (.ifCond .eq 23, 3) := by decide +kernel
theorem dX9_mayBegin_160 : decode cX9_mayBegin 160 = .ok (.aload_n 0, 1) := by decide +kernel
theorem dX9_mayBegin_161 : decode cX9_mayBegin 161 = .ok (.getfield 168, 3) := by decide +kernel
theorem dX9_mayBegin_164 : decode cX9_mayBegin 164 = .ok (.ifCond .ne 16, 3) := by decide +kernel
theorem dX9_mayBegin_167 : decode cX9_mayBegin 167 = .ok (.aload_n 0, 1) := by decide +kernel
theorem dX9_mayBegin_168 : decode cX9_mayBegin 168 = .ok (.getfield 147, 3) := by decide +kernel
theorem dX9_mayBegin_171 : decode cX9_mayBegin 171 = .ok (.bipush 8, 2) := by decide +kernel
theorem dX9_mayBegin_173 : decode cX9_mayBegin 173 = .ok (.if_icmp .ge 7, 3) := by decide +kernel
theorem dX9_mayBegin_176 : decode cX9_mayBegin 176 = .ok (.iconst 1, 1) := by decide +kernel
theorem dX9_mayBegin_177 : decode cX9_mayBegin 177 = .ok (.goto 4, 3) := by decide +kernel
theorem dX9_mayBegin_180 : decode cX9_mayBegin 180 = .ok (.iconst 0, 1) := by decide +kernel
theorem dX9_mayBegin_181 : decode cX9_mayBegin 181 = .ok (.ireturn, 1) := by decide +kernel
theorem dX9_mayBegin_182 : decode cX9_mayBegin 182 = .ok (.iload_n 2, 1) := by decide +kernel
theorem dX9_mayBegin_183 : decode cX9_mayBegin 183 = .ok (.ifCond .eq 23, 3) := by decide +kernel
theorem dX9_mayBegin_186 : decode cX9_mayBegin 186 = .ok (.aload_n 0, 1) := by decide +kernel
theorem dX9_mayBegin_187 : decode cX9_mayBegin 187 = .ok (.getfield 168, 3) := by decide +kernel
theorem dX9_mayBegin_190 : decode cX9_mayBegin 190 = .ok (.ifCond .eq 16, 3) := by decide +kernel
theorem dX9_mayBegin_193 : decode cX9_mayBegin 193 = .ok (.aload_n 0, 1) := by decide +kernel
theorem dX9_mayBegin_194 : decode cX9_mayBegin 194 = .ok (.getfield 150, 3) := by decide +kernel
theorem dX9_mayBegin_197 : decode cX9_mayBegin 197 = .ok (.bipush 24, 2) := by decide +kernel
theorem dX9_mayBegin_199 : decode cX9_mayBegin 199 = .ok (.if_icmp .ge 7, 3) := by decide +kernel
theorem dX9_mayBegin_202 : decode cX9_mayBegin 202 = .ok (.iconst 1, 1) := by decide +kernel
theorem dX9_mayBegin_203 : decode cX9_mayBegin 203 = .ok (.goto 4, 3) := by decide +kernel
theorem dX9_mayBegin_206 : decode cX9_mayBegin 206 = .ok (.iconst 0, 1) := by decide +kernel
theorem dX9_mayBegin_207 : decode cX9_mayBegin 207 = .ok (.ireturn, 1) := by decide +kernel
theorem dX9_mayBegin_208 : decode cX9_mayBegin 208 = .ok (.iload_n 2, 1) := by decide +kernel
theorem dX9_mayBegin_209 : decode cX9_mayBegin 209 = .ok (.ifCond .eq 38, 3) := by decide +kernel
theorem dX9_mayBegin_212 : decode cX9_mayBegin 212 = .ok (.aload_n 0, 1) := by decide +kernel
theorem dX9_mayBegin_213 : decode cX9_mayBegin 213 = .ok (.getfield 168, 3) := by decide +kernel
theorem dX9_mayBegin_216 : decode cX9_mayBegin 216 = .ok (.ifCond .eq 31, 3) := by decide +kernel
theorem dX9_mayBegin_219 : decode cX9_mayBegin 219 = .ok (.aload_n 0, 1) := by decide +kernel
theorem dX9_mayBegin_220 : decode cX9_mayBegin 220 = .ok (.getfield 150, 3) := by decide +kernel
theorem dX9_mayBegin_223 : decode cX9_mayBegin 223 = .ok (.bipush 24, 2) := by decide +kernel
theorem dX9_mayBegin_225 : decode cX9_mayBegin 225 = .ok (.if_icmp .ge 22, 3) := by decide +kernel
theorem dX9_mayBegin_228 : decode cX9_mayBegin 228 = .ok (.aload_n 0, 1) := by decide +kernel
theorem dX9_mayBegin_229 : decode cX9_mayBegin 229 = .ok (.getfield 147, 3) := by decide +kernel
theorem dX9_mayBegin_232 : decode cX9_mayBegin 232 = .ok (.iconst 1, 1) := by decide +kernel
theorem dX9_mayBegin_233 : decode cX9_mayBegin 233 = .ok (.if_icmp .le 14, 3) := by decide +kernel
theorem dX9_mayBegin_236 : decode cX9_mayBegin 236 = .ok (.aload_n 0, 1) := by decide +kernel
theorem dX9_mayBegin_237 : decode cX9_mayBegin 237 = .ok (.invokevirtual 171, 3) := by decide +kernel
theorem dX9_mayBegin_240 : decode cX9_mayBegin 240 = .ok (.ifCond .eq 7, 3) := by decide +kernel
theorem dX9_mayBegin_243 : decode cX9_mayBegin 243 = .ok (.iconst 1, 1) := by decide +kernel
theorem dX9_mayBegin_244 : decode cX9_mayBegin 244 = .ok (.goto 4, 3) := by decide +kernel
theorem dX9_mayBegin_247 : decode cX9_mayBegin 247 = .ok (.iconst 0, 1) := by decide +kernel
theorem dX9_mayBegin_248 : decode cX9_mayBegin 248 = .ok (.ireturn, 1) := by decide +kernel
theorem dX9_mayBegin_249 : decode cX9_mayBegin 249 = .ok (.iload_n 2, 1) := by decide +kernel
theorem dX9_mayBegin_250 : decode cX9_mayBegin 250 = .ok (.ifCond .eq 14, 3) := by decide +kernel
theorem dX9_mayBegin_253 : decode cX9_mayBegin 253 = .ok (.aload_n 0, 1) := by decide +kernel
theorem dX9_mayBegin_254 : decode cX9_mayBegin 254 = .ok (.getfield 168, 3) := by decide +kernel
theorem dX9_mayBegin_257 : decode cX9_mayBegin 257 = .ok (.ifCond .eq 7, 3) := by decide +kernel
theorem dX9_mayBegin_260 : decode cX9_mayBegin 260 = .ok (.iconst 1, 1) := by decide +kernel
theorem dX9_mayBegin_261 : decode cX9_mayBegin 261 = .ok (.goto 4, 3) := by decide +kernel
theorem dX9_mayBegin_264 : decode cX9_mayBegin 264 = .ok (.iconst 0, 1) := by decide +kernel
theorem dX9_mayBegin_265 : decode cX9_mayBegin 265 = .ok (.ireturn, 1) := by decide +kernel
theorem dX9_mayBegin_266 : decode cX9_mayBegin 266 = .ok (.iconst 0, 1) := by decide +kernel
theorem dX9_mayBegin_267 : decode cX9_mayBegin 267 = .ok (.ireturn, 1) := by decide +kernel
theorem dX9_readsItem_0 : decode cX9_readsItem 0 = .ok (.aload_n 0, 1) := by decide +kernel
theorem dX9_readsItem_1 : decode cX9_readsItem 1 = .ok (.invokevirtual 143, 3) := by decide +kernel
theorem dX9_readsItem_4 : decode cX9_readsItem 4 = .ok (.istore_n 1, 1) := by decide +kernel
theorem dX9_readsItem_5 : decode cX9_readsItem 5 = .ok (.aload_n 0, 1) := by decide +kernel
theorem dX9_readsItem_6 : decode cX9_readsItem 6 = .ok (.aload_n 0, 1) := by decide +kernel
theorem dX9_readsItem_7 : decode cX9_readsItem 7 = .ok (.iload_n 1, 1) := by decide +kernel
theorem dX9_readsItem_8 : decode cX9_readsItem 8 = .ok (.invokevirtual 175, 3) := by decide +kernel
theorem dX9_readsItem_11 : decode cX9_readsItem 11 = .ok (.ifCond .ne 7, 3) := by decide +kernel
theorem dX9_readsItem_14 : decode cX9_readsItem 14 = .ok (.iconst 1, 1) := by decide +kernel
theorem dX9_readsItem_15 : decode cX9_readsItem 15 = .ok (.goto 4, 3) := by decide +kernel
theorem dX9_readsItem_18 : decode cX9_readsItem 18 = .ok (.iconst 0, 1) := by decide +kernel
theorem dX9_readsItem_19 : decode cX9_readsItem 19 = .ok (.putfield 139, 3) := by decide +kernel
theorem dX9_readsItem_22 : decode cX9_readsItem 22 = .ok (.aload_n 0, 1) := by decide +kernel
theorem dX9_readsItem_23 : decode cX9_readsItem 23 = .ok (.getfield 139, 3) := by decide +kernel
theorem dX9_readsItem_26 : decode cX9_readsItem 26 = .ok (.ifCond .eq 4, 3) := by decide +kernel
theorem dX9_readsItem_29 : decode cX9_readsItem 29 = .ok (.return_, 1) := by decide +kernel
theorem dX9_readsItem_30 : decode cX9_readsItem 30 = .ok (.aload_n 0, 1) := by decide +kernel
theorem dX9_readsItem_31 : decode cX9_readsItem 31 = .ok (.dup, 1) := by decide +kernel
theorem dX9_readsItem_32 : decode cX9_readsItem 32 = .ok (.getfield 136, 3) := by decide +kernel
theorem dX9_readsItem_35 : decode cX9_readsItem 35 = .ok (.iconst 1, 1) := by decide +kernel
theorem dX9_readsItem_36 : decode cX9_readsItem 36 = .ok (.iadd, 1) := by decide +kernel
theorem dX9_readsItem_37 : decode cX9_readsItem 37 = .ok (.putfield 136, 3) := by decide +kernel
theorem dX9_readsItem_40 : decode cX9_readsItem 40 = .ok (.iload_n 1, 1) := by decide +kernel
theorem dX9_readsItem_41 : decode cX9_readsItem 41 = .ok (.tableswitch 165 98 111 #[71, 165, 165, 165, 165, 165, 165, 139, 158, 106, 165, 165, 165, 151], 71) := by decide +kernel
theorem dX9_readsItem_112 : decode cX9_readsItem 112 = .ok (.aload_n 0, 1) := by decide +kernel
theorem dX9_readsItem_113 : decode cX9_readsItem 113 = .ok (.getfield 86, 3) := by decide +kernel
theorem dX9_readsItem_116 : decode cX9_readsItem 116 = .ok (.aload_n 0, 1) := by decide +kernel
theorem dX9_readsItem_117 : decode cX9_readsItem 117 = .ok (.getfield 147, 3) := by decide +kernel
theorem dX9_readsItem_120 : decode cX9_readsItem 120 = .ok (.aload_n 0, 1) := by decide +kernel
theorem dX9_readsItem_121 : decode cX9_readsItem 121 = .ok (.getfield 150, 3) := by decide +kernel
theorem dX9_readsItem_124 : decode cX9_readsItem 124 = .ok (.iastore, 1) := by decide +kernel
theorem dX9_readsItem_125 : decode cX9_readsItem 125 = .ok (.aload_n 0, 1) := by decide +kernel
theorem dX9_readsItem_126 : decode cX9_readsItem 126 = .ok (.dup, 1) := by decide +kernel
theorem dX9_readsItem_127 : decode cX9_readsItem 127 = .ok (.getfield 147, 3) := by decide +kernel
theorem dX9_readsItem_130 : decode cX9_readsItem 130 = .ok (.iconst 1, 1) := by decide +kernel
theorem dX9_readsItem_131 : decode cX9_readsItem 131 = .ok (.iadd, 1) := by decide +kernel
theorem dX9_readsItem_132 : decode cX9_readsItem 132 = .ok (.putfield 147, 3) := by decide +kernel
theorem dX9_readsItem_135 : decode cX9_readsItem 135 = .ok (.aload_n 0, 1) := by decide +kernel
theorem dX9_readsItem_136 : decode cX9_readsItem 136 = .ok (.iconst 1, 1) := by decide +kernel
theorem dX9_readsItem_137 : decode cX9_readsItem 137 = .ok (.putfield 168, 3) := by decide +kernel
theorem dX9_readsItem_140 : decode cX9_readsItem 140 = .ok (.aload_n 0, 1) := by decide +kernel
theorem dX9_readsItem_141 : decode cX9_readsItem 141 = .ok (.invokevirtual 165, 3) := by decide +kernel
theorem dX9_readsItem_144 : decode cX9_readsItem 144 = .ok (.goto 67, 3) := by decide +kernel
theorem dX9_readsItem_147 : decode cX9_readsItem 147 = .ok (.aload_n 0, 1) := by decide +kernel
theorem dX9_readsItem_148 : decode cX9_readsItem 148 = .ok (.iconst 0, 1) := by decide +kernel
theorem dX9_readsItem_149 : decode cX9_readsItem 149 = .ok (.invokevirtual 153, 3) := by decide +kernel
theorem dX9_readsItem_152 : decode cX9_readsItem 152 = .ok (.aload_n 0, 1) := by decide +kernel
theorem dX9_readsItem_153 : decode cX9_readsItem 153 = .ok (.getfield 95, 3) := by decide +kernel
theorem dX9_readsItem_156 : decode cX9_readsItem 156 = .ok (.bipush 72, 2) := by decide +kernel
theorem dX9_readsItem_158 : decode cX9_readsItem 158 = .ok (.aload_n 0, 1) := by decide +kernel
theorem dX9_readsItem_159 : decode cX9_readsItem 159 = .ok (.getfield 150, 3) := by decide +kernel
theorem dX9_readsItem_162 : decode cX9_readsItem 162 = .ok (.iadd, 1) := by decide +kernel
theorem dX9_readsItem_163 : decode cX9_readsItem 163 = .ok (.iconst 1, 1) := by decide +kernel
theorem dX9_readsItem_164 : decode cX9_readsItem 164 = .ok (.isub, 1) := by decide +kernel
theorem dX9_readsItem_165 : decode cX9_readsItem 165 = .ok (.aload_n 0, 1) := by decide +kernel
theorem dX9_readsItem_166 : decode cX9_readsItem 166 = .ok (.sipush 999, 3) := by decide +kernel
theorem dX9_readsItem_169 : decode cX9_readsItem 169 = .ok (.invokevirtual 157, 3) := by decide +kernel
theorem dX9_readsItem_172 : decode cX9_readsItem 172 = .ok (.iastore, 1) := by decide +kernel
theorem dX9_readsItem_173 : decode cX9_readsItem 173 = .ok (.aload_n 0, 1) := by decide +kernel
theorem dX9_readsItem_174 : decode cX9_readsItem 174 = .ok (.invokevirtual 165, 3) := by decide +kernel
theorem dX9_readsItem_177 : decode cX9_readsItem 177 = .ok (.goto 34, 3) := by decide +kernel
theorem dX9_readsItem_180 : decode cX9_readsItem 180 = .ok (.aload_n 0, 1) := by decide +kernel
theorem dX9_readsItem_181 : decode cX9_readsItem 181 = .ok (.iconst 1, 1) := by decide +kernel
theorem dX9_readsItem_182 : decode cX9_readsItem 182 = .ok (.invokevirtual 153, 3) := by decide +kernel
theorem dX9_readsItem_185 : decode cX9_readsItem 185 = .ok (.aload_n 0, 1) := by decide +kernel
theorem dX9_readsItem_186 : decode cX9_readsItem 186 = .ok (.invokevirtual 165, 3) := by decide +kernel
theorem dX9_readsItem_189 : decode cX9_readsItem 189 = .ok (.goto 22, 3) := by decide +kernel
theorem dX9_readsItem_192 : decode cX9_readsItem 192 = .ok (.aload_n 0, 1) := by decide +kernel
theorem dX9_readsItem_193 : decode cX9_readsItem 193 = .ok (.invokevirtual 178, 3) := by decide +kernel
theorem dX9_readsItem_196 : decode cX9_readsItem 196 = .ok (.goto 15, 3) := by decide +kernel
theorem dX9_readsItem_199 : decode cX9_readsItem 199 = .ok (.aload_n 0, 1) := by decide +kernel
theorem dX9_readsItem_200 : decode cX9_readsItem 200 = .ok (.invokevirtual 181, 3) := by decide +kernel
theorem dX9_readsItem_203 : decode cX9_readsItem 203 = .ok (.goto 8, 3) := by decide +kernel
theorem dX9_readsItem_206 : decode cX9_readsItem 206 = .ok (.aload_n 0, 1) := by decide +kernel
theorem dX9_readsItem_207 : decode cX9_readsItem 207 = .ok (.iload_n 1, 1) := by decide +kernel
theorem dX9_readsItem_208 : decode cX9_readsItem 208 = .ok (.invokevirtual 184, 3) := by decide +kernel
theorem dX9_readsItem_211 : decode cX9_readsItem 211 = .ok (.return_, 1) := by decide +kernel
theorem dX9_goesTo_0 : decode cX9_goesTo 0 = .ok (.aload_n 0, 1) := by decide +kernel
theorem dX9_goesTo_1 : decode cX9_goesTo 1 = .ok (.getfield 95, 3) := by decide +kernel
theorem dX9_goesTo_4 : decode cX9_goesTo 4 = .ok (.bipush 96, 2) := by decide +kernel
theorem dX9_goesTo_6 : decode cX9_goesTo 6 = .ok (.iconst 2, 1) := by decide +kernel
theorem dX9_goesTo_7 : decode cX9_goesTo 7 = .ok (.iload_n 1, 1) := by decide +kernel
theorem dX9_goesTo_8 : decode cX9_goesTo 8 = .ok (.imul, 1) := by decide +kernel
theorem dX9_goesTo_9 : decode cX9_goesTo 9 = .ok (.iadd, 1) := by decide +kernel
theorem dX9_goesTo_10 : decode cX9_goesTo 10 = .ok (.iaload, 1) := by decide +kernel
theorem dX9_goesTo_11 : decode cX9_goesTo 11 = .ok (.iload_n 2, 1) := by decide +kernel
theorem dX9_goesTo_12 : decode cX9_goesTo 12 = .ok (.if_icmp .eq 20, 3) := by decide +kernel
theorem dX9_goesTo_15 : decode cX9_goesTo 15 = .ok (.aload_n 0, 1) := by decide +kernel
theorem dX9_goesTo_16 : decode cX9_goesTo 16 = .ok (.getfield 95, 3) := by decide +kernel
theorem dX9_goesTo_19 : decode cX9_goesTo 19 = .ok (.bipush 96, 2) := by decide +kernel
theorem dX9_goesTo_21 : decode cX9_goesTo 21 = .ok (.iconst 2, 1) := by decide +kernel
theorem dX9_goesTo_22 : decode cX9_goesTo 22 = .ok (.iload_n 1, 1) := by decide +kernel
theorem dX9_goesTo_23 : decode cX9_goesTo 23 = .ok (.imul, 1) := by decide +kernel
theorem dX9_goesTo_24 : decode cX9_goesTo 24 = .ok (.iadd, 1) := by decide +kernel
theorem dX9_goesTo_25 : decode cX9_goesTo 25 = .ok (.iconst 1, 1) := by decide +kernel
theorem dX9_goesTo_26 : decode cX9_goesTo 26 = .ok (.iadd, 1) := by decide +kernel
theorem dX9_goesTo_27 : decode cX9_goesTo 27 = .ok (.iaload, 1) := by decide +kernel
theorem dX9_goesTo_28 : decode cX9_goesTo 28 = .ok (.iload_n 2, 1) := by decide +kernel
theorem dX9_goesTo_29 : decode cX9_goesTo 29 = .ok (.if_icmp .ne 7, 3) := by decide +kernel
theorem dX9_goesTo_32 : decode cX9_goesTo 32 = .ok (.iconst 1, 1) := by decide +kernel
theorem dX9_goesTo_33 : decode cX9_goesTo 33 = .ok (.goto 4, 3) := by decide +kernel
theorem dX9_goesTo_36 : decode cX9_goesTo 36 = .ok (.iconst 0, 1) := by decide +kernel
theorem dX9_goesTo_37 : decode cX9_goesTo 37 = .ok (.ireturn, 1) := by decide +kernel
theorem dX9_laysBefore_0 : decode cX9_laysBefore 0 = .ok (.iconst 1, 1) := by decide +kernel
theorem dX9_laysBefore_1 : decode cX9_laysBefore 1 = .ok (.aload_n 0, 1) := by decide +kernel
theorem dX9_laysBefore_2 : decode cX9_laysBefore 2 = .ok (.getfield 147, 3) := by decide +kernel
theorem dX9_laysBefore_5 : decode cX9_laysBefore 5 = .ok (.ishl, 1) := by decide +kernel
theorem dX9_laysBefore_6 : decode cX9_laysBefore 6 = .ok (.iconst 1, 1) := by decide +kernel
theorem dX9_laysBefore_7 : decode cX9_laysBefore 7 = .ok (.isub, 1) := by decide +kernel
theorem dX9_laysBefore_8 : decode cX9_laysBefore 8 = .ok (.istore_n 1, 1) := by decide +kernel
theorem dX9_laysBefore_9 : decode cX9_laysBefore 9 = .ok (.iconst 0, 1) := by decide +kernel
theorem dX9_laysBefore_10 : decode cX9_laysBefore 10 = .ok (.istore_n 2, 1) := by decide +kernel
theorem dX9_laysBefore_11 : decode cX9_laysBefore 11 = .ok (.iload_n 2, 1) := by decide +kernel
theorem dX9_laysBefore_12 : decode cX9_laysBefore 12 = .ok (.aload_n 0, 1) := by decide +kernel
theorem dX9_laysBefore_13 : decode cX9_laysBefore 13 = .ok (.getfield 147, 3) := by decide +kernel
theorem dX9_laysBefore_16 : decode cX9_laysBefore 16 = .ok (.if_icmp .ge 24, 3) := by decide +kernel
theorem dX9_laysBefore_19 : decode cX9_laysBefore 19 = .ok (.aload_n 0, 1) := by decide +kernel
theorem dX9_laysBefore_20 : decode cX9_laysBefore 20 = .ok (.getfield 98, 3) := by decide +kernel
theorem dX9_laysBefore_23 : decode cX9_laysBefore 23 = .ok (.iload_n 2, 1) := by decide +kernel
theorem dX9_laysBefore_24 : decode cX9_laysBefore 24 = .ok (.iload_n 2, 1) := by decide +kernel
theorem dX9_laysBefore_25 : decode cX9_laysBefore 25 = .ok (.ifCond .ne 7, 3) := by decide +kernel
theorem dX9_laysBefore_28 : decode cX9_laysBefore 28 = .ok (.iconst 1, 1) := by decide +kernel
theorem dX9_laysBefore_29 : decode cX9_laysBefore 29 = .ok (.goto 4, 3) := by decide +kernel
theorem dX9_laysBefore_32 : decode cX9_laysBefore 32 = .ok (.iload_n 1, 1) := by decide +kernel
theorem dX9_laysBefore_33 : decode cX9_laysBefore 33 = .ok (.iastore, 1) := by decide +kernel
theorem dX9_laysBefore_34 : decode cX9_laysBefore 34 = .ok (.iinc 2 1, 3) := by decide +kernel
theorem dX9_laysBefore_37 : decode cX9_laysBefore 37 = .ok (.goto (-26), 3) := by decide +kernel
theorem dX9_laysBefore_40 : decode cX9_laysBefore 40 = .ok (.iconst 1, 1) := by decide +kernel
theorem dX9_laysBefore_41 : decode cX9_laysBefore 41 = .ok (.istore_n 2, 1) := by decide +kernel
theorem dX9_laysBefore_42 : decode cX9_laysBefore 42 = .ok (.iload_n 2, 1) := by decide +kernel
theorem dX9_laysBefore_43 : decode cX9_laysBefore 43 = .ok (.ifCond .eq 108, 3) := by decide +kernel
theorem dX9_laysBefore_46 : decode cX9_laysBefore 46 = .ok (.iconst 0, 1) := by decide +kernel
theorem dX9_laysBefore_47 : decode cX9_laysBefore 47 = .ok (.istore_n 2, 1) := by decide +kernel
theorem dX9_laysBefore_48 : decode cX9_laysBefore 48 = .ok (.iconst 1, 1) := by decide +kernel
theorem dX9_laysBefore_49 : decode cX9_laysBefore 49 = .ok (.istore_n 3, 1) := by decide +kernel
theorem dX9_laysBefore_50 : decode cX9_laysBefore 50 = .ok (.iload_n 3, 1) := by decide +kernel
theorem dX9_laysBefore_51 : decode cX9_laysBefore 51 = .ok (.aload_n 0, 1) := by decide +kernel
theorem dX9_laysBefore_52 : decode cX9_laysBefore 52 = .ok (.getfield 147, 3) := by decide +kernel
theorem dX9_laysBefore_55 : decode cX9_laysBefore 55 = .ok (.if_icmp .ge 93, 3) := by decide +kernel
theorem dX9_laysBefore_58 : decode cX9_laysBefore 58 = .ok (.iload_n 1, 1) := by decide +kernel
theorem dX9_laysBefore_59 : decode cX9_laysBefore 59 = .ok (.istore 4, 2) := by decide +kernel
theorem dX9_laysBefore_61 : decode cX9_laysBefore 61 = .ok (.iconst 0, 1) := by decide +kernel
theorem dX9_laysBefore_62 : decode cX9_laysBefore 62 = .ok (.istore 5, 2) := by decide +kernel
theorem dX9_laysBefore_64 : decode cX9_laysBefore 64 = .ok (.iload 5, 2) := by decide +kernel
theorem dX9_laysBefore_66 : decode cX9_laysBefore 66 = .ok (.aload_n 0, 1) := by decide +kernel
theorem dX9_laysBefore_67 : decode cX9_laysBefore 67 = .ok (.getfield 147, 3) := by decide +kernel
theorem dX9_laysBefore_70 : decode cX9_laysBefore 70 = .ok (.if_icmp .ge 35, 3) := by decide +kernel
theorem dX9_laysBefore_73 : decode cX9_laysBefore 73 = .ok (.iload 4, 2) := by decide +kernel
theorem dX9_laysBefore_75 : decode cX9_laysBefore 75 = .ok (.aload_n 0, 1) := by decide +kernel
theorem dX9_laysBefore_76 : decode cX9_laysBefore 76 = .ok (.iload 5, 2) := by decide +kernel
theorem dX9_laysBefore_78 : decode cX9_laysBefore 78 = .ok (.iload_n 3, 1) := by decide +kernel
theorem dX9_laysBefore_79 : decode cX9_laysBefore 79 = .ok (.invokevirtual 187, 3) := by decide +kernel
theorem dX9_laysBefore_82 : decode cX9_laysBefore 82 = .ok (.ifCond .eq 13, 3) := by decide +kernel
theorem dX9_laysBefore_85 : decode cX9_laysBefore 85 = .ok (.aload_n 0, 1) := by decide +kernel
theorem dX9_laysBefore_86 : decode cX9_laysBefore 86 = .ok (.getfield 98, 3) := by decide +kernel
theorem dX9_laysBefore_89 : decode cX9_laysBefore 89 = .ok (.iload 5, 2) := by decide +kernel
theorem dX9_laysBefore_91 : decode cX9_laysBefore 91 = .ok (.iaload, 1) := by decide +kernel
theorem dX9_laysBefore_92 : decode cX9_laysBefore 92 = .ok (.goto 4, 3) := by decide +kernel
theorem dX9_laysBefore_95 : decode cX9_laysBefore 95 = .ok (.iload_n 1, 1) := by decide +kernel
theorem dX9_laysBefore_96 : decode cX9_laysBefore 96 = .ok (.iand, 1) := by decide +kernel
theorem dX9_laysBefore_97 : decode cX9_laysBefore 97 = .ok (.istore 4, 2) := by decide +kernel
theorem dX9_laysBefore_99 : decode cX9_laysBefore 99 = .ok (.iinc 5 1, 3) := by decide +kernel
theorem dX9_laysBefore_102 : decode cX9_laysBefore 102 = .ok (.goto (-38), 3) := by decide +kernel
theorem dX9_laysBefore_105 : decode cX9_laysBefore 105 = .ok (.iload 4, 2) := by decide +kernel
theorem dX9_laysBefore_107 : decode cX9_laysBefore 107 = .ok (.iconst 1, 1) := by decide +kernel
theorem dX9_laysBefore_108 : decode cX9_laysBefore 108 = .ok (.iload_n 3, 1) := by decide +kernel
theorem dX9_laysBefore_109 : decode cX9_laysBefore 109 = .ok (.ishl, 1) := by decide +kernel
theorem dX9_laysBefore_110 : decode cX9_laysBefore 110 = .ok (.ior, 1) := by decide +kernel
theorem dX9_laysBefore_111 : decode cX9_laysBefore 111 = .ok (.istore 4, 2) := by decide +kernel
theorem dX9_laysBefore_113 : decode cX9_laysBefore 113 = .ok (.iload_n 2, 1) := by decide +kernel
theorem dX9_laysBefore_114 : decode cX9_laysBefore 114 = .ok (.ifCond .ne 14, 3) := by decide +kernel
theorem dX9_laysBefore_117 : decode cX9_laysBefore 117 = .ok (.iload 4, 2) := by decide +kernel
theorem dX9_laysBefore_119 : decode cX9_laysBefore 119 = .ok (.aload_n 0, 1) := by decide +kernel
theorem dX9_laysBefore_120 : decode cX9_laysBefore 120 = .ok (.getfield 98, 3) := by decide +kernel
theorem dX9_laysBefore_123 : decode cX9_laysBefore 123 = .ok (.iload_n 3, 1) := by decide +kernel
theorem dX9_laysBefore_124 : decode cX9_laysBefore 124 = .ok (.iaload, 1) := by decide +kernel
theorem dX9_laysBefore_125 : decode cX9_laysBefore 125 = .ok (.if_icmp .eq 7, 3) := by decide +kernel
theorem dX9_laysBefore_128 : decode cX9_laysBefore 128 = .ok (.iconst 1, 1) := by decide +kernel
theorem dX9_laysBefore_129 : decode cX9_laysBefore 129 = .ok (.goto 4, 3) := by decide +kernel
theorem dX9_laysBefore_132 : decode cX9_laysBefore 132 = .ok (.iconst 0, 1) := by decide +kernel
theorem dX9_laysBefore_133 : decode cX9_laysBefore 133 = .ok (.istore_n 2, 1) := by decide +kernel
theorem dX9_laysBefore_134 : decode cX9_laysBefore 134 = .ok (.aload_n 0, 1) := by decide +kernel
theorem dX9_laysBefore_135 : decode cX9_laysBefore 135 = .ok (.getfield 98, 3) := by decide +kernel
theorem dX9_laysBefore_138 : decode cX9_laysBefore 138 = .ok (.iload_n 3, 1) := by decide +kernel
theorem dX9_laysBefore_139 : decode cX9_laysBefore 139 = .ok (.iload 4, 2) := by decide +kernel
theorem dX9_laysBefore_141 : decode cX9_laysBefore 141 = .ok (.iastore, 1) := by decide +kernel
theorem dX9_laysBefore_142 : decode cX9_laysBefore 142 = .ok (.iinc 3 1, 3) := by decide +kernel
theorem dX9_laysBefore_145 : decode cX9_laysBefore 145 = .ok (.goto (-95), 3) := by decide +kernel
theorem dX9_laysBefore_148 : decode cX9_laysBefore 148 = .ok (.goto (-106), 3) := by decide +kernel
theorem dX9_laysBefore_151 : decode cX9_laysBefore 151 = .ok (.return_, 1) := by decide +kernel
theorem dX9_isBefore_0 : decode cX9_isBefore 0 = .ok (.iload_n 1, 1) := by decide +kernel
theorem dX9_isBefore_1 : decode cX9_isBefore 1 = .ok (.aload_n 0, 1) := by decide +kernel
theorem dX9_isBefore_2 : decode cX9_isBefore 2 = .ok (.getfield 150, 3) := by decide +kernel
theorem dX9_isBefore_5 : decode cX9_isBefore 5 = .ok (.if_icmp .ge 40, 3) := by decide +kernel
theorem dX9_isBefore_8 : decode cX9_isBefore 8 = .ok (.aload_n 0, 1) := by decide +kernel
theorem dX9_isBefore_9 : decode cX9_isBefore 9 = .ok (.getfield 98, 3) := by decide +kernel
theorem dX9_isBefore_12 : decode cX9_isBefore 12 = .ok (.iload_n 2, 1) := by decide +kernel
theorem dX9_isBefore_13 : decode cX9_isBefore 13 = .ok (.iaload, 1) := by decide +kernel
theorem dX9_isBefore_14 : decode cX9_isBefore 14 = .ok (.aload_n 0, 1) := by decide +kernel
theorem dX9_isBefore_15 : decode cX9_isBefore 15 = .ok (.getfield 65, 3) := by decide +kernel
theorem dX9_isBefore_18 : decode cX9_isBefore 18 = .ok (.iload_n 1, 1) := by decide +kernel
theorem dX9_isBefore_19 : decode cX9_isBefore 19 = .ok (.iaload, 1) := by decide +kernel
theorem dX9_isBefore_20 : decode cX9_isBefore 20 = .ok (.invokestatic 191, 3) := by decide +kernel
theorem dX9_isBefore_23 : decode cX9_isBefore 23 = .ok (.ifCond .eq 22, 3) := by decide +kernel
theorem dX9_isBefore_26 : decode cX9_isBefore 26 = .ok (.aload_n 0, 1) := by decide +kernel
theorem dX9_isBefore_27 : decode cX9_isBefore 27 = .ok (.getfield 65, 3) := by decide +kernel
theorem dX9_isBefore_30 : decode cX9_isBefore 30 = .ok (.iload_n 1, 1) := by decide +kernel
theorem dX9_isBefore_31 : decode cX9_isBefore 31 = .ok (.iaload, 1) := by decide +kernel
theorem dX9_isBefore_32 : decode cX9_isBefore 32 = .ok (.iload_n 2, 1) := by decide +kernel
theorem dX9_isBefore_33 : decode cX9_isBefore 33 = .ok (.if_icmp .ne 8, 3) := by decide +kernel
theorem dX9_isBefore_36 : decode cX9_isBefore 36 = .ok (.iload_n 1, 1) := by decide +kernel
theorem dX9_isBefore_37 : decode cX9_isBefore 37 = .ok (.iload_n 3, 1) := by decide +kernel
theorem dX9_isBefore_38 : decode cX9_isBefore 38 = .ok (.if_icmp .ge 7, 3) := by decide +kernel
theorem dX9_isBefore_41 : decode cX9_isBefore 41 = .ok (.iconst 1, 1) := by decide +kernel
theorem dX9_isBefore_42 : decode cX9_isBefore 42 = .ok (.goto 4, 3) := by decide +kernel
theorem dX9_isBefore_45 : decode cX9_isBefore 45 = .ok (.iconst 0, 1) := by decide +kernel
theorem dX9_isBefore_46 : decode cX9_isBefore 46 = .ok (.ireturn, 1) := by decide +kernel
theorem dX9_isJoined_0 : decode cX9_isJoined 0 = .ok (.aload_n 0, 1) := by decide +kernel
theorem dX9_isJoined_1 : decode cX9_isJoined 1 = .ok (.getfield 65, 3) := by decide +kernel
theorem dX9_isJoined_4 : decode cX9_isJoined 4 = .ok (.iload_n 1, 1) := by decide +kernel
theorem dX9_isJoined_5 : decode cX9_isJoined 5 = .ok (.iaload, 1) := by decide +kernel
theorem dX9_isJoined_6 : decode cX9_isJoined 6 = .ok (.istore_n 2, 1) := by decide +kernel
theorem dX9_isJoined_7 : decode cX9_isJoined 7 = .ok (.iconst 0, 1) := by decide +kernel
theorem dX9_isJoined_8 : decode cX9_isJoined 8 = .ok (.istore_n 3, 1) := by decide +kernel
theorem dX9_isJoined_9 : decode cX9_isJoined 9 = .ok (.iconst 1, 1) := by decide +kernel
theorem dX9_isJoined_10 : decode cX9_isJoined 10 = .ok (.istore 4, 2) := by decide +kernel
theorem dX9_isJoined_12 : decode cX9_isJoined 12 = .ok (.iconst 0, 1) := by decide +kernel
theorem dX9_isJoined_13 : decode cX9_isJoined 13 = .ok (.istore 5, 2) := by decide +kernel
theorem dX9_isJoined_15 : decode cX9_isJoined 15 = .ok (.iload 5, 2) := by decide +kernel
theorem dX9_isJoined_17 : decode cX9_isJoined 17 = .ok (.aload_n 0, 1) := by decide +kernel
theorem dX9_isJoined_18 : decode cX9_isJoined 18 = .ok (.getfield 77, 3) := by decide +kernel
theorem dX9_isJoined_21 : decode cX9_isJoined 21 = .ok (.iload_n 1, 1) := by decide +kernel
theorem dX9_isJoined_22 : decode cX9_isJoined 22 = .ok (.iaload, 1) := by decide +kernel
theorem dX9_isJoined_23 : decode cX9_isJoined 23 = .ok (.if_icmp .ge 82, 3) := by decide +kernel
theorem dX9_isJoined_26 : decode cX9_isJoined 26 = .ok (.aload_n 0, 1) := by decide +kernel
theorem dX9_isJoined_27 : decode cX9_isJoined 27 = .ok (.getfield 80, 3) := by decide +kernel
theorem dX9_isJoined_30 : decode cX9_isJoined 30 = .ok (.iconst 3, 1) := by decide +kernel
theorem dX9_isJoined_31 : decode cX9_isJoined 31 = .ok (.iload_n 1, 1) := by decide +kernel
theorem dX9_isJoined_32 : decode cX9_isJoined 32 = .ok (.imul, 1) := by decide +kernel
theorem dX9_isJoined_33 : decode cX9_isJoined 33 = .ok (.iload 5, 2) := by decide +kernel
theorem dX9_isJoined_35 : decode cX9_isJoined 35 = .ok (.iadd, 1) := by decide +kernel
theorem dX9_isJoined_36 : decode cX9_isJoined 36 = .ok (.iaload, 1) := by decide +kernel
theorem dX9_isJoined_37 : decode cX9_isJoined 37 = .ok (.istore 6, 2) := by decide +kernel
theorem dX9_isJoined_39 : decode cX9_isJoined 39 = .ok (.iload 4, 2) := by decide +kernel
theorem dX9_isJoined_41 : decode cX9_isJoined 41 = .ok (.ifCond .eq 48, 3) := by decide +kernel
theorem dX9_isJoined_44 : decode cX9_isJoined 44 = .ok (.iload 6, 2) := by decide +kernel
theorem dX9_isJoined_46 : decode cX9_isJoined 46 = .ok (.aload_n 0, 1) := by decide +kernel
theorem dX9_isJoined_47 : decode cX9_isJoined 47 = .ok (.getfield 147, 3) := by decide +kernel
theorem dX9_isJoined_50 : decode cX9_isJoined 50 = .ok (.if_icmp .ge 39, 3) := by decide +kernel
theorem dX9_isJoined_53 : decode cX9_isJoined 53 = .ok (.aload_n 0, 1) := by decide +kernel
theorem dX9_isJoined_54 : decode cX9_isJoined 54 = .ok (.iload 6, 2) := by decide +kernel
theorem dX9_isJoined_56 : decode cX9_isJoined 56 = .ok (.iload_n 2, 1) := by decide +kernel
theorem dX9_isJoined_57 : decode cX9_isJoined 57 = .ok (.invokevirtual 187, 3) := by decide +kernel
theorem dX9_isJoined_60 : decode cX9_isJoined 60 = .ok (.ifCond .eq 29, 3) := by decide +kernel
theorem dX9_isJoined_63 : decode cX9_isJoined 63 = .ok (.aload_n 0, 1) := by decide +kernel
theorem dX9_isJoined_64 : decode cX9_isJoined 64 = .ok (.aload_n 0, 1) := by decide +kernel
theorem dX9_isJoined_65 : decode cX9_isJoined 65 = .ok (.getfield 83, 3) := by decide +kernel
theorem dX9_isJoined_68 : decode cX9_isJoined 68 = .ok (.iconst 3, 1) := by decide +kernel
theorem dX9_isJoined_69 : decode cX9_isJoined 69 = .ok (.iload_n 1, 1) := by decide +kernel
theorem dX9_isJoined_70 : decode cX9_isJoined 70 = .ok (.imul, 1) := by decide +kernel
theorem dX9_isJoined_71 : decode cX9_isJoined 71 = .ok (.iload 5, 2) := by decide +kernel
theorem dX9_isJoined_73 : decode cX9_isJoined 73 = .ok (.iadd, 1) := by decide +kernel
theorem dX9_isJoined_74 : decode cX9_isJoined 74 = .ok (.iaload, 1) := by decide +kernel
theorem dX9_isJoined_75 : decode cX9_isJoined 75 = .ok (.iload 6, 2) := by decide +kernel
theorem dX9_isJoined_77 : decode cX9_isJoined 77 = .ok (.bipush 24, 2) := by decide +kernel
theorem dX9_isJoined_79 : decode cX9_isJoined 79 = .ok (.invokevirtual 194, 3) := by decide +kernel
theorem dX9_isJoined_82 : decode cX9_isJoined 82 = .ok (.ifCond .eq 7, 3) := by decide +kernel
theorem dX9_isJoined_85 : decode cX9_isJoined 85 = .ok (.iconst 1, 1) := by decide +kernel
theorem dX9_isJoined_86 : decode cX9_isJoined 86 = .ok (.goto 4, 3) := by decide +kernel
theorem dX9_isJoined_89 : decode cX9_isJoined 89 = .ok (.iconst 0, 1) := by decide +kernel
theorem dX9_isJoined_90 : decode cX9_isJoined 90 = .ok (.istore 4, 2) := by decide +kernel
theorem dX9_isJoined_92 : decode cX9_isJoined 92 = .ok (.iload_n 3, 1) := by decide +kernel
theorem dX9_isJoined_93 : decode cX9_isJoined 93 = .ok (.iconst 1, 1) := by decide +kernel
theorem dX9_isJoined_94 : decode cX9_isJoined 94 = .ok (.iload 6, 2) := by decide +kernel
theorem dX9_isJoined_96 : decode cX9_isJoined 96 = .ok (.ishl, 1) := by decide +kernel
theorem dX9_isJoined_97 : decode cX9_isJoined 97 = .ok (.ior, 1) := by decide +kernel
theorem dX9_isJoined_98 : decode cX9_isJoined 98 = .ok (.istore_n 3, 1) := by decide +kernel
theorem dX9_isJoined_99 : decode cX9_isJoined 99 = .ok (.iinc 5 1, 3) := by decide +kernel
theorem dX9_isJoined_102 : decode cX9_isJoined 102 = .ok (.goto (-87), 3) := by decide +kernel
theorem dX9_isJoined_105 : decode cX9_isJoined 105 = .ok (.iconst 0, 1) := by decide +kernel
theorem dX9_isJoined_106 : decode cX9_isJoined 106 = .ok (.istore 5, 2) := by decide +kernel
theorem dX9_isJoined_108 : decode cX9_isJoined 108 = .ok (.iload 5, 2) := by decide +kernel
theorem dX9_isJoined_110 : decode cX9_isJoined 110 = .ok (.aload_n 0, 1) := by decide +kernel
theorem dX9_isJoined_111 : decode cX9_isJoined 111 = .ok (.getfield 147, 3) := by decide +kernel
theorem dX9_isJoined_114 : decode cX9_isJoined 114 = .ok (.if_icmp .ge 40, 3) := by decide +kernel
theorem dX9_isJoined_117 : decode cX9_isJoined 117 = .ok (.iload 4, 2) := by decide +kernel
theorem dX9_isJoined_119 : decode cX9_isJoined 119 = .ok (.ifCond .eq 26, 3) := by decide +kernel
theorem dX9_isJoined_122 : decode cX9_isJoined 122 = .ok (.aload_n 0, 1) := by decide +kernel
theorem dX9_isJoined_123 : decode cX9_isJoined 123 = .ok (.iload 5, 2) := by decide +kernel
theorem dX9_isJoined_125 : decode cX9_isJoined 125 = .ok (.iload_n 2, 1) := by decide +kernel
theorem dX9_isJoined_126 : decode cX9_isJoined 126 = .ok (.invokevirtual 187, 3) := by decide +kernel
theorem dX9_isJoined_129 : decode cX9_isJoined 129 = .ok (.ifCond .eq 12, 3) := by decide +kernel
theorem dX9_isJoined_132 : decode cX9_isJoined 132 = .ok (.iload_n 3, 1) := by decide +kernel
theorem dX9_isJoined_133 : decode cX9_isJoined 133 = .ok (.iload 5, 2) := by decide +kernel
theorem dX9_isJoined_135 : decode cX9_isJoined 135 = .ok (.invokestatic 191, 3) := by decide +kernel
theorem dX9_isJoined_138 : decode cX9_isJoined 138 = .ok (.ifCond .eq 7, 3) := by decide +kernel
theorem dX9_isJoined_141 : decode cX9_isJoined 141 = .ok (.iconst 1, 1) := by decide +kernel
theorem dX9_isJoined_142 : decode cX9_isJoined 142 = .ok (.goto 4, 3) := by decide +kernel
theorem dX9_isJoined_145 : decode cX9_isJoined 145 = .ok (.iconst 0, 1) := by decide +kernel
theorem dX9_isJoined_146 : decode cX9_isJoined 146 = .ok (.istore 4, 2) := by decide +kernel
theorem dX9_isJoined_148 : decode cX9_isJoined 148 = .ok (.iinc 5 1, 3) := by decide +kernel
theorem dX9_isJoined_151 : decode cX9_isJoined 151 = .ok (.goto (-43), 3) := by decide +kernel
theorem dX9_isJoined_154 : decode cX9_isJoined 154 = .ok (.iload 4, 2) := by decide +kernel
theorem dX9_isJoined_156 : decode cX9_isJoined 156 = .ok (.ireturn, 1) := by decide +kernel
theorem dX9_isStrict_0 : decode cX9_isStrict 0 = .ok (.iconst 0, 1) := by decide +kernel
theorem dX9_isStrict_1 : decode cX9_isStrict 1 = .ok (.istore_n 1, 1) := by decide +kernel
theorem dX9_isStrict_2 : decode cX9_isStrict 2 = .ok (.iload_n 1, 1) := by decide +kernel
theorem dX9_isStrict_3 : decode cX9_isStrict 3 = .ok (.aload_n 0, 1) := by decide +kernel
theorem dX9_isStrict_4 : decode cX9_isStrict 4 = .ok (.getfield 147, 3) := by decide +kernel
theorem dX9_isStrict_7 : decode cX9_isStrict 7 = .ok (.if_icmp .ge 50, 3) := by decide +kernel
theorem dX9_isStrict_10 : decode cX9_isStrict 10 = .ok (.iconst 0, 1) := by decide +kernel
theorem dX9_isStrict_11 : decode cX9_isStrict 11 = .ok (.istore_n 2, 1) := by decide +kernel
theorem dX9_isStrict_12 : decode cX9_isStrict 12 = .ok (.iload_n 2, 1) := by decide +kernel
theorem dX9_isStrict_13 : decode cX9_isStrict 13 = .ok (.iconst 2, 1) := by decide +kernel
theorem dX9_isStrict_14 : decode cX9_isStrict 14 = .ok (.if_icmp .ge 37, 3) := by decide +kernel
theorem dX9_isStrict_17 : decode cX9_isStrict 17 = .ok (.aload_n 0, 1) := by decide +kernel
theorem dX9_isStrict_18 : decode cX9_isStrict 18 = .ok (.getfield 95, 3) := by decide +kernel
theorem dX9_isStrict_21 : decode cX9_isStrict 21 = .ok (.bipush 96, 2) := by decide +kernel
theorem dX9_isStrict_23 : decode cX9_isStrict 23 = .ok (.iconst 2, 1) := by decide +kernel
theorem dX9_isStrict_24 : decode cX9_isStrict 24 = .ok (.iload_n 1, 1) := by decide +kernel
theorem dX9_isStrict_25 : decode cX9_isStrict 25 = .ok (.imul, 1) := by decide +kernel
theorem dX9_isStrict_26 : decode cX9_isStrict 26 = .ok (.iadd, 1) := by decide +kernel
theorem dX9_isStrict_27 : decode cX9_isStrict 27 = .ok (.iload_n 2, 1) := by decide +kernel
theorem dX9_isStrict_28 : decode cX9_isStrict 28 = .ok (.iadd, 1) := by decide +kernel
theorem dX9_isStrict_29 : decode cX9_isStrict 29 = .ok (.iaload, 1) := by decide +kernel
theorem dX9_isStrict_30 : decode cX9_isStrict 30 = .ok (.istore_n 3, 1) := by decide +kernel
theorem dX9_isStrict_31 : decode cX9_isStrict 31 = .ok (.iload_n 3, 1) := by decide +kernel
theorem dX9_isStrict_32 : decode cX9_isStrict 32 = .ok (.ifCond .eq 11, 3) := by decide +kernel
theorem dX9_isStrict_35 : decode cX9_isStrict 35 = .ok (.iload_n 3, 1) := by decide +kernel
theorem dX9_isStrict_36 : decode cX9_isStrict 36 = .ok (.aload_n 0, 1) := by decide +kernel
theorem dX9_isStrict_37 : decode cX9_isStrict 37 = .ok (.getfield 147, 3) := by decide +kernel
theorem dX9_isStrict_40 : decode cX9_isStrict 40 = .ok (.if_icmp .lt 5, 3) := by decide +kernel
theorem dX9_isStrict_43 : decode cX9_isStrict 43 = .ok (.iconst 0, 1) := by decide +kernel
theorem dX9_isStrict_44 : decode cX9_isStrict 44 = .ok (.ireturn, 1) := by decide +kernel
theorem dX9_isStrict_45 : decode cX9_isStrict 45 = .ok (.iinc 2 1, 3) := by decide +kernel
theorem dX9_isStrict_48 : decode cX9_isStrict 48 = .ok (.goto (-36), 3) := by decide +kernel
theorem dX9_isStrict_51 : decode cX9_isStrict 51 = .ok (.iinc 1 1, 3) := by decide +kernel
theorem dX9_isStrict_54 : decode cX9_isStrict 54 = .ok (.goto (-52), 3) := by decide +kernel
theorem dX9_isStrict_57 : decode cX9_isStrict 57 = .ok (.aload_n 0, 1) := by decide +kernel
theorem dX9_isStrict_58 : decode cX9_isStrict 58 = .ok (.invokevirtual 197, 3) := by decide +kernel
theorem dX9_isStrict_61 : decode cX9_isStrict 61 = .ok (.iconst 1, 1) := by decide +kernel
theorem dX9_isStrict_62 : decode cX9_isStrict 62 = .ok (.istore_n 1, 1) := by decide +kernel
theorem dX9_isStrict_63 : decode cX9_isStrict 63 = .ok (.iconst 0, 1) := by decide +kernel
theorem dX9_isStrict_64 : decode cX9_isStrict 64 = .ok (.istore_n 2, 1) := by decide +kernel
theorem dX9_isStrict_65 : decode cX9_isStrict 65 = .ok (.iload_n 2, 1) := by decide +kernel
theorem dX9_isStrict_66 : decode cX9_isStrict 66 = .ok (.aload_n 0, 1) := by decide +kernel
theorem dX9_isStrict_67 : decode cX9_isStrict 67 = .ok (.getfield 147, 3) := by decide +kernel
theorem dX9_isStrict_70 : decode cX9_isStrict 70 = .ok (.if_icmp .ge 44, 3) := by decide +kernel
theorem dX9_isStrict_73 : decode cX9_isStrict 73 = .ok (.iload_n 1, 1) := by decide +kernel
theorem dX9_isStrict_74 : decode cX9_isStrict 74 = .ok (.ifCond .eq 32, 3) := by decide +kernel
theorem dX9_isStrict_77 : decode cX9_isStrict 77 = .ok (.aload_n 0, 1) := by decide +kernel
theorem dX9_isStrict_78 : decode cX9_isStrict 78 = .ok (.getfield 89, 3) := by decide +kernel
theorem dX9_isStrict_81 : decode cX9_isStrict 81 = .ok (.iload_n 2, 1) := by decide +kernel
theorem dX9_isStrict_82 : decode cX9_isStrict 82 = .ok (.iaload, 1) := by decide +kernel
theorem dX9_isStrict_83 : decode cX9_isStrict 83 = .ok (.ifCond .eq 19, 3) := by decide +kernel
theorem dX9_isStrict_86 : decode cX9_isStrict 86 = .ok (.aload_n 0, 1) := by decide +kernel
theorem dX9_isStrict_87 : decode cX9_isStrict 87 = .ok (.aload_n 0, 1) := by decide +kernel
theorem dX9_isStrict_88 : decode cX9_isStrict 88 = .ok (.getfield 92, 3) := by decide +kernel
theorem dX9_isStrict_91 : decode cX9_isStrict 91 = .ok (.iload_n 2, 1) := by decide +kernel
theorem dX9_isStrict_92 : decode cX9_isStrict 92 = .ok (.iaload, 1) := by decide +kernel
theorem dX9_isStrict_93 : decode cX9_isStrict 93 = .ok (.iload_n 2, 1) := by decide +kernel
theorem dX9_isStrict_94 : decode cX9_isStrict 94 = .ok (.bipush 24, 2) := by decide +kernel
theorem dX9_isStrict_96 : decode cX9_isStrict 96 = .ok (.invokevirtual 194, 3) := by decide +kernel
theorem dX9_isStrict_99 : decode cX9_isStrict 99 = .ok (.ifCond .eq 7, 3) := by decide +kernel
theorem dX9_isStrict_102 : decode cX9_isStrict 102 = .ok (.iconst 1, 1) := by decide +kernel
theorem dX9_isStrict_103 : decode cX9_isStrict 103 = .ok (.goto 4, 3) := by decide +kernel
theorem dX9_isStrict_106 : decode cX9_isStrict 106 = .ok (.iconst 0, 1) := by decide +kernel
theorem dX9_isStrict_107 : decode cX9_isStrict 107 = .ok (.istore_n 1, 1) := by decide +kernel
theorem dX9_isStrict_108 : decode cX9_isStrict 108 = .ok (.iinc 2 1, 3) := by decide +kernel
theorem dX9_isStrict_111 : decode cX9_isStrict 111 = .ok (.goto (-46), 3) := by decide +kernel
theorem dX9_isStrict_114 : decode cX9_isStrict 114 = .ok (.iconst 0, 1) := by decide +kernel
theorem dX9_isStrict_115 : decode cX9_isStrict 115 = .ok (.istore_n 2, 1) := by decide +kernel
theorem dX9_isStrict_116 : decode cX9_isStrict 116 = .ok (.iload_n 2, 1) := by decide +kernel
theorem dX9_isStrict_117 : decode cX9_isStrict 117 = .ok (.aload_n 0, 1) := by decide +kernel
theorem dX9_isStrict_118 : decode cX9_isStrict 118 = .ok (.getfield 150, 3) := by decide +kernel
theorem dX9_isStrict_121 : decode cX9_isStrict 121 = .ok (.if_icmp .ge 84, 3) := by decide +kernel
theorem dX9_isStrict_124 : decode cX9_isStrict 124 = .ok (.iload_n 1, 1) := by decide +kernel
theorem dX9_isStrict_125 : decode cX9_isStrict 125 = .ok (.ifCond .eq 80, 3) := by decide +kernel
theorem dX9_isStrict_128 : decode cX9_isStrict 128 = .ok (.aload_n 0, 1) := by decide +kernel
theorem dX9_isStrict_129 : decode cX9_isStrict 129 = .ok (.getfield 65, 3) := by decide +kernel
theorem dX9_isStrict_132 : decode cX9_isStrict 132 = .ok (.iload_n 2, 1) := by decide +kernel
theorem dX9_isStrict_133 : decode cX9_isStrict 133 = .ok (.iaload, 1) := by decide +kernel
theorem dX9_isStrict_134 : decode cX9_isStrict 134 = .ok (.istore_n 3, 1) := by decide +kernel
theorem dX9_isStrict_135 : decode cX9_isStrict 135 = .ok (.aload_n 0, 1) := by decide +kernel
theorem dX9_isStrict_136 : decode cX9_isStrict 136 = .ok (.getfield 62, 3) := by decide +kernel
theorem dX9_isStrict_139 : decode cX9_isStrict 139 = .ok (.iload_n 2, 1) := by decide +kernel
theorem dX9_isStrict_140 : decode cX9_isStrict 140 = .ok (.iaload, 1) := by decide +kernel
theorem dX9_isStrict_141 : decode cX9_isStrict 141 = .ok (.iconst 3, 1) := by decide +kernel
theorem dX9_isStrict_142 : decode cX9_isStrict 142 = .ok (.if_icmp .ne 11, 3) := by decide +kernel
theorem dX9_isStrict_145 : decode cX9_isStrict 145 = .ok (.aload_n 0, 1) := by decide +kernel
theorem dX9_isStrict_146 : decode cX9_isStrict 146 = .ok (.iload_n 2, 1) := by decide +kernel
theorem dX9_isStrict_147 : decode cX9_isStrict 147 = .ok (.invokevirtual 200, 3) := by decide +kernel
theorem dX9_isStrict_150 : decode cX9_isStrict 150 = .ok (.goto 48, 3) := by decide +kernel
theorem dX9_isStrict_153 : decode cX9_isStrict 153 = .ok (.aload_n 0, 1) := by decide +kernel
theorem dX9_isStrict_154 : decode cX9_isStrict 154 = .ok (.getfield 62, 3) := by decide +kernel
theorem dX9_isStrict_157 : decode cX9_isStrict 157 = .ok (.iload_n 2, 1) := by decide +kernel
theorem dX9_isStrict_158 : decode cX9_isStrict 158 = .ok (.iaload, 1) := by decide +kernel
theorem dX9_isStrict_159 : decode cX9_isStrict 159 = .ok (.iconst 2, 1) := by decide +kernel
theorem dX9_isStrict_160 : decode cX9_isStrict 160 = .ok (.if_icmp .ne 33, 3) := by decide +kernel
theorem dX9_isStrict_163 : decode cX9_isStrict 163 = .ok (.aload_n 0, 1) := by decide +kernel
theorem dX9_isStrict_164 : decode cX9_isStrict 164 = .ok (.aload_n 0, 1) := by decide +kernel
theorem dX9_isStrict_165 : decode cX9_isStrict 165 = .ok (.getfield 71, 3) := by decide +kernel
theorem dX9_isStrict_168 : decode cX9_isStrict 168 = .ok (.iload_n 2, 1) := by decide +kernel
theorem dX9_isStrict_169 : decode cX9_isStrict 169 = .ok (.iaload, 1) := by decide +kernel
theorem dX9_isStrict_170 : decode cX9_isStrict 170 = .ok (.iload_n 3, 1) := by decide +kernel
theorem dX9_isStrict_171 : decode cX9_isStrict 171 = .ok (.iload_n 2, 1) := by decide +kernel
theorem dX9_isStrict_172 : decode cX9_isStrict 172 = .ok (.invokevirtual 194, 3) := by decide +kernel
theorem dX9_isStrict_175 : decode cX9_isStrict 175 = .ok (.ifCond .eq 22, 3) := by decide +kernel
theorem dX9_isStrict_178 : decode cX9_isStrict 178 = .ok (.aload_n 0, 1) := by decide +kernel
theorem dX9_isStrict_179 : decode cX9_isStrict 179 = .ok (.aload_n 0, 1) := by decide +kernel
theorem dX9_isStrict_180 : decode cX9_isStrict 180 = .ok (.getfield 74, 3) := by decide +kernel
theorem dX9_isStrict_183 : decode cX9_isStrict 183 = .ok (.iload_n 2, 1) := by decide +kernel
theorem dX9_isStrict_184 : decode cX9_isStrict 184 = .ok (.iaload, 1) := by decide +kernel
theorem dX9_isStrict_185 : decode cX9_isStrict 185 = .ok (.iload_n 3, 1) := by decide +kernel
theorem dX9_isStrict_186 : decode cX9_isStrict 186 = .ok (.iload_n 2, 1) := by decide +kernel
theorem dX9_isStrict_187 : decode cX9_isStrict 187 = .ok (.invokevirtual 194, 3) := by decide +kernel
theorem dX9_isStrict_190 : decode cX9_isStrict 190 = .ok (.ifCond .eq 7, 3) := by decide +kernel
theorem dX9_isStrict_193 : decode cX9_isStrict 193 = .ok (.iconst 1, 1) := by decide +kernel
theorem dX9_isStrict_194 : decode cX9_isStrict 194 = .ok (.goto 4, 3) := by decide +kernel
theorem dX9_isStrict_197 : decode cX9_isStrict 197 = .ok (.iconst 0, 1) := by decide +kernel
theorem dX9_isStrict_198 : decode cX9_isStrict 198 = .ok (.istore_n 1, 1) := by decide +kernel
theorem dX9_isStrict_199 : decode cX9_isStrict 199 = .ok (.iinc 2 1, 3) := by decide +kernel
theorem dX9_isStrict_202 : decode cX9_isStrict 202 = .ok (.goto (-86), 3) := by decide +kernel
theorem dX9_isStrict_205 : decode cX9_isStrict 205 = .ok (.iload_n 1, 1) := by decide +kernel
theorem dX9_isStrict_206 : decode cX9_isStrict 206 = .ok (.ireturn, 1) := by decide +kernel
theorem dX9_startsReading_0 : decode cX9_startsReading 0 = .ok (.aload_n 0, 1) := by decide +kernel
theorem dX9_startsReading_1 : decode cX9_startsReading 1 = .ok (.iconst 0, 1) := by decide +kernel
theorem dX9_startsReading_2 : decode cX9_startsReading 2 = .ok (.putfield 136, 3) := by decide +kernel
theorem dX9_startsReading_5 : decode cX9_startsReading 5 = .ok (.aload_n 0, 1) := by decide +kernel
theorem dX9_startsReading_6 : decode cX9_startsReading 6 = .ok (.iconst 0, 1) := by decide +kernel
theorem dX9_startsReading_7 : decode cX9_startsReading 7 = .ok (.putfield 139, 3) := by decide +kernel
theorem dX9_startsReading_10 : decode cX9_startsReading 10 = .ok (.aload_n 0, 1) := by decide +kernel
theorem dX9_startsReading_11 : decode cX9_startsReading 11 = .ok (.iconst 0, 1) := by decide +kernel
theorem dX9_startsReading_12 : decode cX9_startsReading 12 = .ok (.putfield 150, 3) := by decide +kernel
end
section
theorem dX9_startsReading_15 : decode cX9_startsReading 15 = .ok (.aload_n 0, 1) := by decide +kernel
theorem dX9_startsReading_16 : decode cX9_startsReading 16 = .ok (.iconst 0, 1) := by decide +kernel
theorem dX9_startsReading_17 : decode cX9_startsReading 17 = .ok (.putfield 147, 3) := by decide +kernel
theorem dX9_startsReading_20 : decode cX9_startsReading 20 = .ok (.aload_n 0, 1) := by decide +kernel
theorem dX9_startsReading_21 : decode cX9_startsReading 21 = .ok (.iconst 0, 1) := by decide +kernel
theorem dX9_startsReading_22 : decode cX9_startsReading 22 = .ok (.putfield 168, 3) := by decide +kernel
theorem dX9_startsReading_25 : decode cX9_startsReading 25 = .ok (.iconst 0, 1) := by decide +kernel
theorem dX9_startsReading_26 : decode cX9_startsReading 26 = .ok (.istore_n 1, 1) := by decide +kernel
theorem dX9_startsReading_27 : decode cX9_startsReading 27 = .ok (.iload_n 1, 1) := by decide +kernel
theorem dX9_startsReading_28 : decode cX9_startsReading 28 = .ok (.bipush 112, 2) := by decide +kernel
theorem dX9_startsReading_30 : decode cX9_startsReading 30 = .ok (.if_icmp .ge 16, 3) := by decide +kernel
theorem dX9_startsReading_33 : decode cX9_startsReading 33 = .ok (.aload_n 0, 1) := by decide +kernel
theorem dX9_startsReading_34 : decode cX9_startsReading 34 = .ok (.getfield 95, 3) := by decide +kernel
theorem dX9_startsReading_37 : decode cX9_startsReading 37 = .ok (.iload_n 1, 1) := by decide +kernel
theorem dX9_startsReading_38 : decode cX9_startsReading 38 = .ok (.iconst 0, 1) := by decide +kernel
theorem dX9_startsReading_39 : decode cX9_startsReading 39 = .ok (.iastore, 1) := by decide +kernel
theorem dX9_startsReading_40 : decode cX9_startsReading 40 = .ok (.iinc 1 1, 3) := by decide +kernel
theorem dX9_startsReading_43 : decode cX9_startsReading 43 = .ok (.goto (-16), 3) := by decide +kernel
theorem dX9_startsReading_46 : decode cX9_startsReading 46 = .ok (.return_, 1) := by decide +kernel
theorem dX9_program_0 : decode cX9_program 0 = .ok (.aload_n 0, 1) := by decide +kernel
theorem dX9_program_1 : decode cX9_program 1 = .ok (.invokevirtual 203, 3) := by decide +kernel
theorem dX9_program_4 : decode cX9_program 4 = .ok (.aload_n 0, 1) := by decide +kernel
theorem dX9_program_5 : decode cX9_program 5 = .ok (.getfield 139, 3) := by decide +kernel
theorem dX9_program_8 : decode cX9_program 8 = .ok (.ifCond .ne 17, 3) := by decide +kernel
theorem dX9_program_11 : decode cX9_program 11 = .ok (.aload_n 0, 1) := by decide +kernel
theorem dX9_program_12 : decode cX9_program 12 = .ok (.invokevirtual 143, 3) := by decide +kernel
theorem dX9_program_15 : decode cX9_program 15 = .ok (.ifCond .lt 10, 3) := by decide +kernel
theorem dX9_program_18 : decode cX9_program 18 = .ok (.aload_n 0, 1) := by decide +kernel
theorem dX9_program_19 : decode cX9_program 19 = .ok (.invokevirtual 206, 3) := by decide +kernel
theorem dX9_program_22 : decode cX9_program 22 = .ok (.goto (-18), 3) := by decide +kernel
theorem dX9_program_25 : decode cX9_program 25 = .ok (.aload_n 0, 1) := by decide +kernel
theorem dX9_program_26 : decode cX9_program 26 = .ok (.getfield 139, 3) := by decide +kernel
theorem dX9_program_29 : decode cX9_program 29 = .ok (.ifCond .ne 37, 3) := by decide +kernel
theorem dX9_program_32 : decode cX9_program 32 = .ok (.aload_n 0, 1) := by decide +kernel
theorem dX9_program_33 : decode cX9_program 33 = .ok (.getfield 168, 3) := by decide +kernel
theorem dX9_program_36 : decode cX9_program 36 = .ok (.ifCond .ne 17, 3) := by decide +kernel
theorem dX9_program_39 : decode cX9_program 39 = .ok (.aload_n 0, 1) := by decide +kernel
theorem dX9_program_40 : decode cX9_program 40 = .ok (.getfield 147, 3) := by decide +kernel
theorem dX9_program_43 : decode cX9_program 43 = .ok (.ifCond .eq 10, 3) := by decide +kernel
theorem dX9_program_46 : decode cX9_program 46 = .ok (.aload_n 0, 1) := by decide +kernel
theorem dX9_program_47 : decode cX9_program 47 = .ok (.invokevirtual 209, 3) := by decide +kernel
theorem dX9_program_50 : decode cX9_program 50 = .ok (.ifCond .ne 16, 3) := by decide +kernel
theorem dX9_program_53 : decode cX9_program 53 = .ok (.aload_n 0, 1) := by decide +kernel
theorem dX9_program_54 : decode cX9_program 54 = .ok (.iconst 1, 1) := by decide +kernel
theorem dX9_program_55 : decode cX9_program 55 = .ok (.putfield 139, 3) := by decide +kernel
theorem dX9_program_58 : decode cX9_program 58 = .ok (.aload_n 0, 1) := by decide +kernel
theorem dX9_program_59 : decode cX9_program 59 = .ok (.aload_n 0, 1) := by decide +kernel
theorem dX9_program_60 : decode cX9_program 60 = .ok (.getfield 133, 3) := by decide +kernel
theorem dX9_program_63 : decode cX9_program 63 = .ok (.putfield 136, 3) := by decide +kernel
theorem dX9_program_66 : decode cX9_program 66 = .ok (.aload_n 0, 1) := by decide +kernel
theorem dX9_program_67 : decode cX9_program 67 = .ok (.getfield 139, 3) := by decide +kernel
theorem dX9_program_70 : decode cX9_program 70 = .ok (.ifCond .eq 11, 3) := by decide +kernel
theorem dX9_program_73 : decode cX9_program 73 = .ok (.bipush (-10), 2) := by decide +kernel
theorem dX9_program_75 : decode cX9_program 75 = .ok (.aload_n 0, 1) := by decide +kernel
theorem dX9_program_76 : decode cX9_program 76 = .ok (.getfield 136, 3) := by decide +kernel
theorem dX9_program_79 : decode cX9_program 79 = .ok (.isub, 1) := by decide +kernel
theorem dX9_program_80 : decode cX9_program 80 = .ok (.ireturn, 1) := by decide +kernel
theorem dX9_program_81 : decode cX9_program 81 = .ok (.aload_n 0, 1) := by decide +kernel
theorem dX9_program_82 : decode cX9_program 82 = .ok (.getfield 86, 3) := by decide +kernel
theorem dX9_program_85 : decode cX9_program 85 = .ok (.aload_n 0, 1) := by decide +kernel
theorem dX9_program_86 : decode cX9_program 86 = .ok (.getfield 147, 3) := by decide +kernel
theorem dX9_program_89 : decode cX9_program 89 = .ok (.aload_n 0, 1) := by decide +kernel
theorem dX9_program_90 : decode cX9_program 90 = .ok (.getfield 150, 3) := by decide +kernel
theorem dX9_program_93 : decode cX9_program 93 = .ok (.iastore, 1) := by decide +kernel
theorem dX9_program_94 : decode cX9_program 94 = .ok (.aload_n 0, 1) := by decide +kernel
theorem dX9_program_95 : decode cX9_program 95 = .ok (.iconst 0, 1) := by decide +kernel
theorem dX9_program_96 : decode cX9_program 96 = .ok (.putfield 133, 3) := by decide +kernel
theorem dX9_program_99 : decode cX9_program 99 = .ok (.aload_n 0, 1) := by decide +kernel
theorem dX9_program_100 : decode cX9_program 100 = .ok (.aload_n 0, 1) := by decide +kernel
theorem dX9_program_101 : decode cX9_program 101 = .ok (.getfield 150, 3) := by decide +kernel
theorem dX9_program_104 : decode cX9_program 104 = .ok (.putfield 122, 3) := by decide +kernel
theorem dX9_program_107 : decode cX9_program 107 = .ok (.aload_n 0, 1) := by decide +kernel
theorem dX9_program_108 : decode cX9_program 108 = .ok (.aload_n 0, 1) := by decide +kernel
theorem dX9_program_109 : decode cX9_program 109 = .ok (.getfield 147, 3) := by decide +kernel
theorem dX9_program_112 : decode cX9_program 112 = .ok (.putfield 130, 3) := by decide +kernel
theorem dX9_program_115 : decode cX9_program 115 = .ok (.aload_n 0, 1) := by decide +kernel
theorem dX9_program_116 : decode cX9_program 116 = .ok (.getfield 62, 3) := by decide +kernel
theorem dX9_program_119 : decode cX9_program 119 = .ok (.iconst 0, 1) := by decide +kernel
theorem dX9_program_120 : decode cX9_program 120 = .ok (.aload_n 0, 1) := by decide +kernel
theorem dX9_program_121 : decode cX9_program 121 = .ok (.getfield 13, 3) := by decide +kernel
theorem dX9_program_124 : decode cX9_program 124 = .ok (.iconst 0, 1) := by decide +kernel
theorem dX9_program_125 : decode cX9_program 125 = .ok (.bipush 24, 2) := by decide +kernel
theorem dX9_program_127 : decode cX9_program 127 = .ok (.invokestatic 212, 3) := by decide +kernel
theorem dX9_program_130 : decode cX9_program 130 = .ok (.aload_n 0, 1) := by decide +kernel
theorem dX9_program_131 : decode cX9_program 131 = .ok (.getfield 65, 3) := by decide +kernel
theorem dX9_program_134 : decode cX9_program 134 = .ok (.iconst 0, 1) := by decide +kernel
theorem dX9_program_135 : decode cX9_program 135 = .ok (.aload_n 0, 1) := by decide +kernel
theorem dX9_program_136 : decode cX9_program 136 = .ok (.getfield 16, 3) := by decide +kernel
theorem dX9_program_139 : decode cX9_program 139 = .ok (.iconst 0, 1) := by decide +kernel
theorem dX9_program_140 : decode cX9_program 140 = .ok (.bipush 24, 2) := by decide +kernel
theorem dX9_program_142 : decode cX9_program 142 = .ok (.invokestatic 212, 3) := by decide +kernel
theorem dX9_program_145 : decode cX9_program 145 = .ok (.aload_n 0, 1) := by decide +kernel
theorem dX9_program_146 : decode cX9_program 146 = .ok (.getfield 68, 3) := by decide +kernel
theorem dX9_program_149 : decode cX9_program 149 = .ok (.iconst 0, 1) := by decide +kernel
theorem dX9_program_150 : decode cX9_program 150 = .ok (.aload_n 0, 1) := by decide +kernel
theorem dX9_program_151 : decode cX9_program 151 = .ok (.getfield 19, 3) := by decide +kernel
theorem dX9_program_154 : decode cX9_program 154 = .ok (.iconst 0, 1) := by decide +kernel
theorem dX9_program_155 : decode cX9_program 155 = .ok (.bipush 24, 2) := by decide +kernel
theorem dX9_program_157 : decode cX9_program 157 = .ok (.invokestatic 212, 3) := by decide +kernel
theorem dX9_program_160 : decode cX9_program 160 = .ok (.aload_n 0, 1) := by decide +kernel
theorem dX9_program_161 : decode cX9_program 161 = .ok (.getfield 71, 3) := by decide +kernel
theorem dX9_program_164 : decode cX9_program 164 = .ok (.iconst 0, 1) := by decide +kernel
theorem dX9_program_165 : decode cX9_program 165 = .ok (.aload_n 0, 1) := by decide +kernel
theorem dX9_program_166 : decode cX9_program 166 = .ok (.getfield 22, 3) := by decide +kernel
theorem dX9_program_169 : decode cX9_program 169 = .ok (.iconst 0, 1) := by decide +kernel
theorem dX9_program_170 : decode cX9_program 170 = .ok (.bipush 24, 2) := by decide +kernel
theorem dX9_program_172 : decode cX9_program 172 = .ok (.invokestatic 212, 3) := by decide +kernel
theorem dX9_program_175 : decode cX9_program 175 = .ok (.aload_n 0, 1) := by decide +kernel
theorem dX9_program_176 : decode cX9_program 176 = .ok (.getfield 74, 3) := by decide +kernel
theorem dX9_program_179 : decode cX9_program 179 = .ok (.iconst 0, 1) := by decide +kernel
theorem dX9_program_180 : decode cX9_program 180 = .ok (.aload_n 0, 1) := by decide +kernel
theorem dX9_program_181 : decode cX9_program 181 = .ok (.getfield 25, 3) := by decide +kernel
theorem dX9_program_184 : decode cX9_program 184 = .ok (.iconst 0, 1) := by decide +kernel
theorem dX9_program_185 : decode cX9_program 185 = .ok (.bipush 24, 2) := by decide +kernel
theorem dX9_program_187 : decode cX9_program 187 = .ok (.invokestatic 212, 3) := by decide +kernel
theorem dX9_program_190 : decode cX9_program 190 = .ok (.aload_n 0, 1) := by decide +kernel
theorem dX9_program_191 : decode cX9_program 191 = .ok (.getfield 77, 3) := by decide +kernel
theorem dX9_program_194 : decode cX9_program 194 = .ok (.iconst 0, 1) := by decide +kernel
theorem dX9_program_195 : decode cX9_program 195 = .ok (.aload_n 0, 1) := by decide +kernel
theorem dX9_program_196 : decode cX9_program 196 = .ok (.getfield 28, 3) := by decide +kernel
theorem dX9_program_199 : decode cX9_program 199 = .ok (.iconst 0, 1) := by decide +kernel
theorem dX9_program_200 : decode cX9_program 200 = .ok (.bipush 24, 2) := by decide +kernel
theorem dX9_program_202 : decode cX9_program 202 = .ok (.invokestatic 212, 3) := by decide +kernel
theorem dX9_program_205 : decode cX9_program 205 = .ok (.aload_n 0, 1) := by decide +kernel
theorem dX9_program_206 : decode cX9_program 206 = .ok (.getfield 80, 3) := by decide +kernel
theorem dX9_program_209 : decode cX9_program 209 = .ok (.iconst 0, 1) := by decide +kernel
theorem dX9_program_210 : decode cX9_program 210 = .ok (.aload_n 0, 1) := by decide +kernel
theorem dX9_program_211 : decode cX9_program 211 = .ok (.getfield 31, 3) := by decide +kernel
theorem dX9_program_214 : decode cX9_program 214 = .ok (.iconst 0, 1) := by decide +kernel
theorem dX9_program_215 : decode cX9_program 215 = .ok (.bipush 72, 2) := by decide +kernel
theorem dX9_program_217 : decode cX9_program 217 = .ok (.invokestatic 212, 3) := by decide +kernel
theorem dX9_program_220 : decode cX9_program 220 = .ok (.aload_n 0, 1) := by decide +kernel
theorem dX9_program_221 : decode cX9_program 221 = .ok (.getfield 83, 3) := by decide +kernel
theorem dX9_program_224 : decode cX9_program 224 = .ok (.iconst 0, 1) := by decide +kernel
theorem dX9_program_225 : decode cX9_program 225 = .ok (.aload_n 0, 1) := by decide +kernel
theorem dX9_program_226 : decode cX9_program 226 = .ok (.getfield 34, 3) := by decide +kernel
theorem dX9_program_229 : decode cX9_program 229 = .ok (.iconst 0, 1) := by decide +kernel
theorem dX9_program_230 : decode cX9_program 230 = .ok (.bipush 72, 2) := by decide +kernel
theorem dX9_program_232 : decode cX9_program 232 = .ok (.invokestatic 212, 3) := by decide +kernel
theorem dX9_program_235 : decode cX9_program 235 = .ok (.aload_n 0, 1) := by decide +kernel
theorem dX9_program_236 : decode cX9_program 236 = .ok (.getfield 86, 3) := by decide +kernel
theorem dX9_program_239 : decode cX9_program 239 = .ok (.iconst 0, 1) := by decide +kernel
theorem dX9_program_240 : decode cX9_program 240 = .ok (.aload_n 0, 1) := by decide +kernel
theorem dX9_program_241 : decode cX9_program 241 = .ok (.getfield 37, 3) := by decide +kernel
theorem dX9_program_244 : decode cX9_program 244 = .ok (.iconst 0, 1) := by decide +kernel
theorem dX9_program_245 : decode cX9_program 245 = .ok (.bipush 9, 2) := by decide +kernel
theorem dX9_program_247 : decode cX9_program 247 = .ok (.invokestatic 212, 3) := by decide +kernel
theorem dX9_program_250 : decode cX9_program 250 = .ok (.aload_n 0, 1) := by decide +kernel
theorem dX9_program_251 : decode cX9_program 251 = .ok (.getfield 89, 3) := by decide +kernel
theorem dX9_program_254 : decode cX9_program 254 = .ok (.iconst 0, 1) := by decide +kernel
theorem dX9_program_255 : decode cX9_program 255 = .ok (.aload_n 0, 1) := by decide +kernel
theorem dX9_program_256 : decode cX9_program 256 = .ok (.getfield 40, 3) := by decide +kernel
theorem dX9_program_259 : decode cX9_program 259 = .ok (.iconst 0, 1) := by decide +kernel
theorem dX9_program_260 : decode cX9_program 260 = .ok (.bipush 8, 2) := by decide +kernel
theorem dX9_program_262 : decode cX9_program 262 = .ok (.invokestatic 212, 3) := by decide +kernel
theorem dX9_program_265 : decode cX9_program 265 = .ok (.aload_n 0, 1) := by decide +kernel
theorem dX9_program_266 : decode cX9_program 266 = .ok (.getfield 92, 3) := by decide +kernel
theorem dX9_program_269 : decode cX9_program 269 = .ok (.iconst 0, 1) := by decide +kernel
theorem dX9_program_270 : decode cX9_program 270 = .ok (.aload_n 0, 1) := by decide +kernel
theorem dX9_program_271 : decode cX9_program 271 = .ok (.getfield 43, 3) := by decide +kernel
theorem dX9_program_274 : decode cX9_program 274 = .ok (.iconst 0, 1) := by decide +kernel
theorem dX9_program_275 : decode cX9_program 275 = .ok (.bipush 8, 2) := by decide +kernel
theorem dX9_program_277 : decode cX9_program 277 = .ok (.invokestatic 212, 3) := by decide +kernel
theorem dX9_program_280 : decode cX9_program 280 = .ok (.aload_n 0, 1) := by decide +kernel
theorem dX9_program_281 : decode cX9_program 281 = .ok (.getfield 98, 3) := by decide +kernel
theorem dX9_program_284 : decode cX9_program 284 = .ok (.iconst 0, 1) := by decide +kernel
theorem dX9_program_285 : decode cX9_program 285 = .ok (.aload_n 0, 1) := by decide +kernel
theorem dX9_program_286 : decode cX9_program 286 = .ok (.getfield 46, 3) := by decide +kernel
theorem dX9_program_289 : decode cX9_program 289 = .ok (.iconst 0, 1) := by decide +kernel
theorem dX9_program_290 : decode cX9_program 290 = .ok (.bipush 8, 2) := by decide +kernel
theorem dX9_program_292 : decode cX9_program 292 = .ok (.invokestatic 212, 3) := by decide +kernel
theorem dX9_program_295 : decode cX9_program 295 = .ok (.aload_n 0, 1) := by decide +kernel
theorem dX9_program_296 : decode cX9_program 296 = .ok (.getfield 95, 3) := by decide +kernel
theorem dX9_program_299 : decode cX9_program 299 = .ok (.iconst 0, 1) := by decide +kernel
theorem dX9_program_300 : decode cX9_program 300 = .ok (.aload_n 0, 1) := by decide +kernel
theorem dX9_program_301 : decode cX9_program 301 = .ok (.getfield 49, 3) := by decide +kernel
theorem dX9_program_304 : decode cX9_program 304 = .ok (.iconst 0, 1) := by decide +kernel
theorem dX9_program_305 : decode cX9_program 305 = .ok (.bipush 112, 2) := by decide +kernel
theorem dX9_program_307 : decode cX9_program 307 = .ok (.invokestatic 212, 3) := by decide +kernel
theorem dX9_program_310 : decode cX9_program 310 = .ok (.aload_n 0, 1) := by decide +kernel
theorem dX9_program_311 : decode cX9_program 311 = .ok (.iconst 0, 1) := by decide +kernel
theorem dX9_program_312 : decode cX9_program 312 = .ok (.putfield 216, 3) := by decide +kernel
theorem dX9_program_315 : decode cX9_program 315 = .ok (.aload_n 0, 1) := by decide +kernel
theorem dX9_program_316 : decode cX9_program 316 = .ok (.getfield 58, 3) := by decide +kernel
theorem dX9_program_319 : decode cX9_program 319 = .ok (.iconst 0, 1) := by decide +kernel
theorem dX9_program_320 : decode cX9_program 320 = .ok (.iconst 0, 1) := by decide +kernel
theorem dX9_program_321 : decode cX9_program 321 = .ok (.bastore, 1) := by decide +kernel
theorem dX9_program_322 : decode cX9_program 322 = .ok (.aload_n 0, 1) := by decide +kernel
theorem dX9_program_323 : decode cX9_program 323 = .ok (.getfield 58, 3) := by decide +kernel
theorem dX9_program_326 : decode cX9_program 326 = .ok (.iconst 1, 1) := by decide +kernel
theorem dX9_program_327 : decode cX9_program 327 = .ok (.iconst 0, 1) := by decide +kernel
theorem dX9_program_328 : decode cX9_program 328 = .ok (.bastore, 1) := by decide +kernel
theorem dX9_program_329 : decode cX9_program 329 = .ok (.aload_n 0, 1) := by decide +kernel
theorem dX9_program_330 : decode cX9_program 330 = .ok (.getfield 122, 3) := by decide +kernel
theorem dX9_program_333 : decode cX9_program 333 = .ok (.ireturn, 1) := by decide +kernel
theorem dX9_doneBy_0 : decode cX9_doneBy 0 = .ok (.aload_n 0, 1) := by decide +kernel
theorem dX9_doneBy_1 : decode cX9_doneBy 1 = .ok (.iload_n 1, 1) := by decide +kernel
theorem dX9_doneBy_2 : decode cX9_doneBy 2 = .ok (.bipush 47, 2) := by decide +kernel
theorem dX9_doneBy_4 : decode cX9_doneBy 4 = .ok (.if_icmp .eq 9, 3) := by decide +kernel
theorem dX9_doneBy_7 : decode cX9_doneBy 7 = .ok (.iload_n 1, 1) := by decide +kernel
theorem dX9_doneBy_8 : decode cX9_doneBy 8 = .ok (.bipush 37, 2) := by decide +kernel
theorem dX9_doneBy_10 : decode cX9_doneBy 10 = .ok (.if_icmp .ne 11, 3) := by decide +kernel
theorem dX9_doneBy_13 : decode cX9_doneBy 13 = .ok (.iload_n 3, 1) := by decide +kernel
theorem dX9_doneBy_14 : decode cX9_doneBy 14 = .ok (.ifCond .ne 7, 3) := by decide +kernel
theorem dX9_doneBy_17 : decode cX9_doneBy 17 = .ok (.iconst 1, 1) := by decide +kernel
theorem dX9_doneBy_18 : decode cX9_doneBy 18 = .ok (.goto 4, 3) := by decide +kernel
theorem dX9_doneBy_21 : decode cX9_doneBy 21 = .ok (.iconst 0, 1) := by decide +kernel
theorem dX9_doneBy_22 : decode cX9_doneBy 22 = .ok (.putfield 219, 3) := by decide +kernel
theorem dX9_doneBy_25 : decode cX9_doneBy 25 = .ok (.iload_n 1, 1) := by decide +kernel
theorem dX9_doneBy_26 : decode cX9_doneBy 26 = .ok (.lookupswitch 129 #[(37, 98), (38, 110), (42, 82), (43, 74), (45, 78), (47, 86), (60, 118), (94, 114)], 74) := by decide +kernel
theorem dX9_doneBy_100 : decode cX9_doneBy 100 = .ok (.iload_n 2, 1) := by decide +kernel
theorem dX9_doneBy_101 : decode cX9_doneBy 101 = .ok (.iload_n 3, 1) := by decide +kernel
theorem dX9_doneBy_102 : decode cX9_doneBy 102 = .ok (.iadd, 1) := by decide +kernel
theorem dX9_doneBy_103 : decode cX9_doneBy 103 = .ok (.ireturn, 1) := by decide +kernel
theorem dX9_doneBy_104 : decode cX9_doneBy 104 = .ok (.iload_n 2, 1) := by decide +kernel
theorem dX9_doneBy_105 : decode cX9_doneBy 105 = .ok (.iload_n 3, 1) := by decide +kernel
theorem dX9_doneBy_106 : decode cX9_doneBy 106 = .ok (.isub, 1) := by decide +kernel
theorem dX9_doneBy_107 : decode cX9_doneBy 107 = .ok (.ireturn, 1) := by decide +kernel
theorem dX9_doneBy_108 : decode cX9_doneBy 108 = .ok (.iload_n 2, 1) := by decide +kernel
theorem dX9_doneBy_109 : decode cX9_doneBy 109 = .ok (.iload_n 3, 1) := by decide +kernel
theorem dX9_doneBy_110 : decode cX9_doneBy 110 = .ok (.imul, 1) := by decide +kernel
theorem dX9_doneBy_111 : decode cX9_doneBy 111 = .ok (.ireturn, 1) := by decide +kernel
theorem dX9_doneBy_112 : decode cX9_doneBy 112 = .ok (.iload_n 3, 1) := by decide +kernel
theorem dX9_doneBy_113 : decode cX9_doneBy 113 = .ok (.ifCond .ne 7, 3) := by decide +kernel
theorem dX9_doneBy_116 : decode cX9_doneBy 116 = .ok (.iconst 0, 1) := by decide +kernel
theorem dX9_doneBy_117 : decode cX9_doneBy 117 = .ok (.goto 6, 3) := by decide +kernel
theorem dX9_doneBy_120 : decode cX9_doneBy 120 = .ok (.iload_n 2, 1) := by decide +kernel
theorem dX9_doneBy_121 : decode cX9_doneBy 121 = .ok (.iload_n 3, 1) := by decide +kernel
theorem dX9_doneBy_122 : decode cX9_doneBy 122 = .ok (.idiv, 1) := by decide +kernel
theorem dX9_doneBy_123 : decode cX9_doneBy 123 = .ok (.ireturn, 1) := by decide +kernel
theorem dX9_doneBy_124 : decode cX9_doneBy 124 = .ok (.iload_n 3, 1) := by decide +kernel
theorem dX9_doneBy_125 : decode cX9_doneBy 125 = .ok (.ifCond .ne 7, 3) := by decide +kernel
theorem dX9_doneBy_128 : decode cX9_doneBy 128 = .ok (.iconst 0, 1) := by decide +kernel
theorem dX9_doneBy_129 : decode cX9_doneBy 129 = .ok (.goto 6, 3) := by decide +kernel
theorem dX9_doneBy_132 : decode cX9_doneBy 132 = .ok (.iload_n 2, 1) := by decide +kernel
theorem dX9_doneBy_133 : decode cX9_doneBy 133 = .ok (.iload_n 3, 1) := by decide +kernel
theorem dX9_doneBy_134 : decode cX9_doneBy 134 = .ok (.irem, 1) := by decide +kernel
theorem dX9_doneBy_135 : decode cX9_doneBy 135 = .ok (.ireturn, 1) := by decide +kernel
theorem dX9_doneBy_136 : decode cX9_doneBy 136 = .ok (.iload_n 2, 1) := by decide +kernel
theorem dX9_doneBy_137 : decode cX9_doneBy 137 = .ok (.iload_n 3, 1) := by decide +kernel
theorem dX9_doneBy_138 : decode cX9_doneBy 138 = .ok (.iand, 1) := by decide +kernel
theorem dX9_doneBy_139 : decode cX9_doneBy 139 = .ok (.ireturn, 1) := by decide +kernel
theorem dX9_doneBy_140 : decode cX9_doneBy 140 = .ok (.iload_n 2, 1) := by decide +kernel
theorem dX9_doneBy_141 : decode cX9_doneBy 141 = .ok (.iload_n 3, 1) := by decide +kernel
theorem dX9_doneBy_142 : decode cX9_doneBy 142 = .ok (.ixor, 1) := by decide +kernel
theorem dX9_doneBy_143 : decode cX9_doneBy 143 = .ok (.ireturn, 1) := by decide +kernel
theorem dX9_doneBy_144 : decode cX9_doneBy 144 = .ok (.iload_n 2, 1) := by decide +kernel
theorem dX9_doneBy_145 : decode cX9_doneBy 145 = .ok (.iload_n 3, 1) := by decide +kernel
theorem dX9_doneBy_146 : decode cX9_doneBy 146 = .ok (.if_icmp .ge 7, 3) := by decide +kernel
theorem dX9_doneBy_149 : decode cX9_doneBy 149 = .ok (.iconst 1, 1) := by decide +kernel
theorem dX9_doneBy_150 : decode cX9_doneBy 150 = .ok (.goto 4, 3) := by decide +kernel
theorem dX9_doneBy_153 : decode cX9_doneBy 153 = .ok (.iconst 0, 1) := by decide +kernel
theorem dX9_doneBy_154 : decode cX9_doneBy 154 = .ok (.ireturn, 1) := by decide +kernel
theorem dX9_doneBy_155 : decode cX9_doneBy 155 = .ok (.iload_n 2, 1) := by decide +kernel
theorem dX9_doneBy_156 : decode cX9_doneBy 156 = .ok (.iload_n 3, 1) := by decide +kernel
theorem dX9_doneBy_157 : decode cX9_doneBy 157 = .ok (.if_icmp .ne 7, 3) := by decide +kernel
theorem dX9_doneBy_160 : decode cX9_doneBy 160 = .ok (.iconst 1, 1) := by decide +kernel
theorem dX9_doneBy_161 : decode cX9_doneBy 161 = .ok (.goto 4, 3) := by decide +kernel
theorem dX9_doneBy_164 : decode cX9_doneBy 164 = .ok (.iconst 0, 1) := by decide +kernel
theorem dX9_doneBy_165 : decode cX9_doneBy 165 = .ok (.ireturn, 1) := by decide +kernel
theorem dX9_isEdge_0 : decode cX9_isEdge 0 = .ok (.aload_n 0, 1) := by decide +kernel
theorem dX9_isEdge_1 : decode cX9_isEdge 1 = .ok (.getfield 49, 3) := by decide +kernel
theorem dX9_isEdge_4 : decode cX9_isEdge 4 = .ok (.bipush 96, 2) := by decide +kernel
theorem dX9_isEdge_6 : decode cX9_isEdge 6 = .ok (.iconst 2, 1) := by decide +kernel
theorem dX9_isEdge_7 : decode cX9_isEdge 7 = .ok (.iload_n 1, 1) := by decide +kernel
theorem dX9_isEdge_8 : decode cX9_isEdge 8 = .ok (.imul, 1) := by decide +kernel
theorem dX9_isEdge_9 : decode cX9_isEdge 9 = .ok (.iadd, 1) := by decide +kernel
theorem dX9_isEdge_10 : decode cX9_isEdge 10 = .ok (.iload_n 2, 1) := by decide +kernel
theorem dX9_isEdge_11 : decode cX9_isEdge 11 = .ok (.iadd, 1) := by decide +kernel
theorem dX9_isEdge_12 : decode cX9_isEdge 12 = .ok (.iaload, 1) := by decide +kernel
theorem dX9_isEdge_13 : decode cX9_isEdge 13 = .ok (.bipush (-9), 2) := by decide +kernel
theorem dX9_isEdge_15 : decode cX9_isEdge 15 = .ok (.if_icmp .eq 12, 3) := by decide +kernel
theorem dX9_isEdge_18 : decode cX9_isEdge 18 = .ok (.aload_n 0, 1) := by decide +kernel
theorem dX9_isEdge_19 : decode cX9_isEdge 19 = .ok (.getfield 107, 3) := by decide +kernel
theorem dX9_isEdge_22 : decode cX9_isEdge 22 = .ok (.iload_n 1, 1) := by decide +kernel
theorem dX9_isEdge_23 : decode cX9_isEdge 23 = .ok (.baload, 1) := by decide +kernel
theorem dX9_isEdge_24 : decode cX9_isEdge 24 = .ok (.ifCond .ne 5, 3) := by decide +kernel
theorem dX9_isEdge_27 : decode cX9_isEdge 27 = .ok (.iconst 0, 1) := by decide +kernel
theorem dX9_isEdge_28 : decode cX9_isEdge 28 = .ok (.ireturn, 1) := by decide +kernel
theorem dX9_isEdge_29 : decode cX9_isEdge 29 = .ok (.aload_n 0, 1) := by decide +kernel
theorem dX9_isEdge_30 : decode cX9_isEdge 30 = .ok (.getfield 40, 3) := by decide +kernel
theorem dX9_isEdge_33 : decode cX9_isEdge 33 = .ok (.iload_n 1, 1) := by decide +kernel
theorem dX9_isEdge_34 : decode cX9_isEdge 34 = .ok (.iaload, 1) := by decide +kernel
theorem dX9_isEdge_35 : decode cX9_isEdge 35 = .ok (.ifCond .eq 7, 3) := by decide +kernel
theorem dX9_isEdge_38 : decode cX9_isEdge 38 = .ok (.iload_n 3, 1) := by decide +kernel
theorem dX9_isEdge_39 : decode cX9_isEdge 39 = .ok (.ifCond .eq 5, 3) := by decide +kernel
theorem dX9_isEdge_42 : decode cX9_isEdge 42 = .ok (.iconst 1, 1) := by decide +kernel
theorem dX9_isEdge_43 : decode cX9_isEdge 43 = .ok (.ireturn, 1) := by decide +kernel
theorem dX9_isEdge_44 : decode cX9_isEdge 44 = .ok (.aload_n 0, 1) := by decide +kernel
theorem dX9_isEdge_45 : decode cX9_isEdge 45 = .ok (.getfield 43, 3) := by decide +kernel
theorem dX9_isEdge_48 : decode cX9_isEdge 48 = .ok (.iload_n 1, 1) := by decide +kernel
theorem dX9_isEdge_49 : decode cX9_isEdge 49 = .ok (.iaload, 1) := by decide +kernel
theorem dX9_isEdge_50 : decode cX9_isEdge 50 = .ok (.istore 4, 2) := by decide +kernel
theorem dX9_isEdge_52 : decode cX9_isEdge 52 = .ok (.aload_n 0, 1) := by decide +kernel
theorem dX9_isEdge_53 : decode cX9_isEdge 53 = .ok (.getfield 101, 3) := by decide +kernel
theorem dX9_isEdge_56 : decode cX9_isEdge 56 = .ok (.iload 4, 2) := by decide +kernel
theorem dX9_isEdge_58 : decode cX9_isEdge 58 = .ok (.iaload, 1) := by decide +kernel
theorem dX9_isEdge_59 : decode cX9_isEdge 59 = .ok (.iconst 2, 1) := by decide +kernel
theorem dX9_isEdge_60 : decode cX9_isEdge 60 = .ok (.if_icmp .eq 41, 3) := by decide +kernel
theorem dX9_isEdge_63 : decode cX9_isEdge 63 = .ok (.aload_n 0, 1) := by decide +kernel
theorem dX9_isEdge_64 : decode cX9_isEdge 64 = .ok (.getfield 101, 3) := by decide +kernel
theorem dX9_isEdge_67 : decode cX9_isEdge 67 = .ok (.iload 4, 2) := by decide +kernel
theorem dX9_isEdge_69 : decode cX9_isEdge 69 = .ok (.iaload, 1) := by decide +kernel
theorem dX9_isEdge_70 : decode cX9_isEdge 70 = .ok (.iconst 1, 1) := by decide +kernel
theorem dX9_isEdge_71 : decode cX9_isEdge 71 = .ok (.if_icmp .ne 34, 3) := by decide +kernel
theorem dX9_isEdge_74 : decode cX9_isEdge 74 = .ok (.aload_n 0, 1) := by decide +kernel
theorem dX9_isEdge_75 : decode cX9_isEdge 75 = .ok (.getfield 104, 3) := by decide +kernel
theorem dX9_isEdge_78 : decode cX9_isEdge 78 = .ok (.iload 4, 2) := by decide +kernel
theorem dX9_isEdge_80 : decode cX9_isEdge 80 = .ok (.iaload, 1) := by decide +kernel
theorem dX9_isEdge_81 : decode cX9_isEdge 81 = .ok (.ifCond .eq 7, 3) := by decide +kernel
theorem dX9_isEdge_84 : decode cX9_isEdge 84 = .ok (.iconst 1, 1) := by decide +kernel
theorem dX9_isEdge_85 : decode cX9_isEdge 85 = .ok (.goto 4, 3) := by decide +kernel
theorem dX9_isEdge_88 : decode cX9_isEdge 88 = .ok (.iconst 0, 1) := by decide +kernel
theorem dX9_isEdge_89 : decode cX9_isEdge 89 = .ok (.iload_n 2, 1) := by decide +kernel
theorem dX9_isEdge_90 : decode cX9_isEdge 90 = .ok (.ifCond .ne 7, 3) := by decide +kernel
theorem dX9_isEdge_93 : decode cX9_isEdge 93 = .ok (.iconst 1, 1) := by decide +kernel
theorem dX9_isEdge_94 : decode cX9_isEdge 94 = .ok (.goto 4, 3) := by decide +kernel
theorem dX9_isEdge_97 : decode cX9_isEdge 97 = .ok (.iconst 0, 1) := by decide +kernel
theorem dX9_isEdge_98 : decode cX9_isEdge 98 = .ok (.if_icmp .ne 7, 3) := by decide +kernel
theorem dX9_isEdge_101 : decode cX9_isEdge 101 = .ok (.iconst 1, 1) := by decide +kernel
theorem dX9_isEdge_102 : decode cX9_isEdge 102 = .ok (.goto 4, 3) := by decide +kernel
theorem dX9_isEdge_105 : decode cX9_isEdge 105 = .ok (.iconst 0, 1) := by decide +kernel
theorem dX9_isEdge_106 : decode cX9_isEdge 106 = .ok (.ireturn, 1) := by decide +kernel
theorem dX9_isWay_0 : decode cX9_isWay 0 = .ok (.aload_n 0, 1) := by decide +kernel
theorem dX9_isWay_1 : decode cX9_isWay 1 = .ok (.getfield 49, 3) := by decide +kernel
theorem dX9_isWay_4 : decode cX9_isWay 4 = .ok (.bipush 96, 2) := by decide +kernel
theorem dX9_isWay_6 : decode cX9_isWay 6 = .ok (.iconst 2, 1) := by decide +kernel
theorem dX9_isWay_7 : decode cX9_isWay 7 = .ok (.iload_n 1, 1) := by decide +kernel
theorem dX9_isWay_8 : decode cX9_isWay 8 = .ok (.imul, 1) := by decide +kernel
theorem dX9_isWay_9 : decode cX9_isWay 9 = .ok (.iadd, 1) := by decide +kernel
theorem dX9_isWay_10 : decode cX9_isWay 10 = .ok (.iaload, 1) := by decide +kernel
theorem dX9_isWay_11 : decode cX9_isWay 11 = .ok (.iload_n 2, 1) := by decide +kernel
theorem dX9_isWay_12 : decode cX9_isWay 12 = .ok (.if_icmp .ne 13, 3) := by decide +kernel
theorem dX9_isWay_15 : decode cX9_isWay 15 = .ok (.aload_n 0, 1) := by decide +kernel
theorem dX9_isWay_16 : decode cX9_isWay 16 = .ok (.iload_n 1, 1) := by decide +kernel
theorem dX9_isWay_17 : decode cX9_isWay 17 = .ok (.iconst 0, 1) := by decide +kernel
theorem dX9_isWay_18 : decode cX9_isWay 18 = .ok (.iload_n 3, 1) := by decide +kernel
theorem dX9_isWay_19 : decode cX9_isWay 19 = .ok (.invokevirtual 222, 3) := by decide +kernel
theorem dX9_isWay_22 : decode cX9_isWay 22 = .ok (.ifCond .ne 30, 3) := by decide +kernel
theorem dX9_isWay_25 : decode cX9_isWay 25 = .ok (.aload_n 0, 1) := by decide +kernel
theorem dX9_isWay_26 : decode cX9_isWay 26 = .ok (.getfield 49, 3) := by decide +kernel
theorem dX9_isWay_29 : decode cX9_isWay 29 = .ok (.bipush 96, 2) := by decide +kernel
theorem dX9_isWay_31 : decode cX9_isWay 31 = .ok (.iconst 2, 1) := by decide +kernel
theorem dX9_isWay_32 : decode cX9_isWay 32 = .ok (.iload_n 1, 1) := by decide +kernel
theorem dX9_isWay_33 : decode cX9_isWay 33 = .ok (.imul, 1) := by decide +kernel
theorem dX9_isWay_34 : decode cX9_isWay 34 = .ok (.iadd, 1) := by decide +kernel
theorem dX9_isWay_35 : decode cX9_isWay 35 = .ok (.iconst 1, 1) := by decide +kernel
theorem dX9_isWay_36 : decode cX9_isWay 36 = .ok (.iadd, 1) := by decide +kernel
theorem dX9_isWay_37 : decode cX9_isWay 37 = .ok (.iaload, 1) := by decide +kernel
theorem dX9_isWay_38 : decode cX9_isWay 38 = .ok (.iload_n 2, 1) := by decide +kernel
theorem dX9_isWay_39 : decode cX9_isWay 39 = .ok (.if_icmp .ne 17, 3) := by decide +kernel
theorem dX9_isWay_42 : decode cX9_isWay 42 = .ok (.aload_n 0, 1) := by decide +kernel
theorem dX9_isWay_43 : decode cX9_isWay 43 = .ok (.iload_n 1, 1) := by decide +kernel
theorem dX9_isWay_44 : decode cX9_isWay 44 = .ok (.iconst 1, 1) := by decide +kernel
theorem dX9_isWay_45 : decode cX9_isWay 45 = .ok (.iload_n 3, 1) := by decide +kernel
theorem dX9_isWay_46 : decode cX9_isWay 46 = .ok (.invokevirtual 222, 3) := by decide +kernel
theorem dX9_isWay_49 : decode cX9_isWay 49 = .ok (.ifCond .eq 7, 3) := by decide +kernel
theorem dX9_isWay_52 : decode cX9_isWay 52 = .ok (.iconst 1, 1) := by decide +kernel
theorem dX9_isWay_53 : decode cX9_isWay 53 = .ok (.goto 4, 3) := by decide +kernel
theorem dX9_isWay_56 : decode cX9_isWay 56 = .ok (.iconst 0, 1) := by decide +kernel
theorem dX9_isWay_57 : decode cX9_isWay 57 = .ok (.ireturn, 1) := by decide +kernel
theorem dX9_climbsOperation_0 : decode cX9_climbsOperation 0 = .ok (.aload_n 0, 1) := by decide +kernel
theorem dX9_climbsOperation_1 : decode cX9_climbsOperation 1 = .ok (.getfield 22, 3) := by decide +kernel
theorem dX9_climbsOperation_4 : decode cX9_climbsOperation 4 = .ok (.iload_n 1, 1) := by decide +kernel
theorem dX9_climbsOperation_5 : decode cX9_climbsOperation 5 = .ok (.iaload, 1) := by decide +kernel
theorem dX9_climbsOperation_6 : decode cX9_climbsOperation 6 = .ok (.istore_n 2, 1) := by decide +kernel
theorem dX9_climbsOperation_7 : decode cX9_climbsOperation 7 = .ok (.aload_n 0, 1) := by decide +kernel
theorem dX9_climbsOperation_8 : decode cX9_climbsOperation 8 = .ok (.getfield 25, 3) := by decide +kernel
theorem dX9_climbsOperation_11 : decode cX9_climbsOperation 11 = .ok (.iload_n 1, 1) := by decide +kernel
theorem dX9_climbsOperation_12 : decode cX9_climbsOperation 12 = .ok (.iaload, 1) := by decide +kernel
theorem dX9_climbsOperation_13 : decode cX9_climbsOperation 13 = .ok (.istore_n 3, 1) := by decide +kernel
theorem dX9_climbsOperation_14 : decode cX9_climbsOperation 14 = .ok (.aload_n 0, 1) := by decide +kernel
theorem dX9_climbsOperation_15 : decode cX9_climbsOperation 15 = .ok (.getfield 101, 3) := by decide +kernel
theorem dX9_climbsOperation_18 : decode cX9_climbsOperation 18 = .ok (.iload_n 2, 1) := by decide +kernel
theorem dX9_climbsOperation_19 : decode cX9_climbsOperation 19 = .ok (.iaload, 1) := by decide +kernel
theorem dX9_climbsOperation_20 : decode cX9_climbsOperation 20 = .ok (.ifCond .eq 12, 3) := by decide +kernel
theorem dX9_climbsOperation_23 : decode cX9_climbsOperation 23 = .ok (.aload_n 0, 1) := by decide +kernel
theorem dX9_climbsOperation_24 : decode cX9_climbsOperation 24 = .ok (.getfield 101, 3) := by decide +kernel
theorem dX9_climbsOperation_27 : decode cX9_climbsOperation 27 = .ok (.iload_n 3, 1) := by decide +kernel
theorem dX9_climbsOperation_28 : decode cX9_climbsOperation 28 = .ok (.iaload, 1) := by decide +kernel
theorem dX9_climbsOperation_29 : decode cX9_climbsOperation 29 = .ok (.ifCond .ne 4, 3) := by decide +kernel
theorem dX9_climbsOperation_32 : decode cX9_climbsOperation 32 = .ok (.return_, 1) := by decide +kernel
theorem dX9_climbsOperation_33 : decode cX9_climbsOperation 33 = .ok (.aload_n 0, 1) := by decide +kernel
theorem dX9_climbsOperation_34 : decode cX9_climbsOperation 34 = .ok (.getfield 101, 3) := by decide +kernel
theorem dX9_climbsOperation_37 : decode cX9_climbsOperation 37 = .ok (.iload_n 1, 1) := by decide +kernel
theorem dX9_climbsOperation_38 : decode cX9_climbsOperation 38 = .ok (.iconst 2, 1) := by decide +kernel
theorem dX9_climbsOperation_39 : decode cX9_climbsOperation 39 = .ok (.iastore, 1) := by decide +kernel
theorem dX9_climbsOperation_40 : decode cX9_climbsOperation 40 = .ok (.aload_n 0, 1) := by decide +kernel
theorem dX9_climbsOperation_41 : decode cX9_climbsOperation 41 = .ok (.getfield 101, 3) := by decide +kernel
theorem dX9_climbsOperation_44 : decode cX9_climbsOperation 44 = .ok (.iload_n 2, 1) := by decide +kernel
theorem dX9_climbsOperation_45 : decode cX9_climbsOperation 45 = .ok (.iaload, 1) := by decide +kernel
theorem dX9_climbsOperation_46 : decode cX9_climbsOperation 46 = .ok (.iconst 1, 1) := by decide +kernel
theorem dX9_climbsOperation_47 : decode cX9_climbsOperation 47 = .ok (.if_icmp .ne 59, 3) := by decide +kernel
theorem dX9_climbsOperation_50 : decode cX9_climbsOperation 50 = .ok (.aload_n 0, 1) := by decide +kernel
theorem dX9_climbsOperation_51 : decode cX9_climbsOperation 51 = .ok (.getfield 101, 3) := by decide +kernel
theorem dX9_climbsOperation_54 : decode cX9_climbsOperation 54 = .ok (.iload_n 3, 1) := by decide +kernel
theorem dX9_climbsOperation_55 : decode cX9_climbsOperation 55 = .ok (.iaload, 1) := by decide +kernel
theorem dX9_climbsOperation_56 : decode cX9_climbsOperation 56 = .ok (.iconst 1, 1) := by decide +kernel
theorem dX9_climbsOperation_57 : decode cX9_climbsOperation 57 = .ok (.if_icmp .ne 49, 3) := by decide +kernel
theorem dX9_climbsOperation_60 : decode cX9_climbsOperation 60 = .ok (.aload_n 0, 1) := by decide +kernel
theorem dX9_climbsOperation_61 : decode cX9_climbsOperation 61 = .ok (.getfield 104, 3) := by decide +kernel
theorem dX9_climbsOperation_64 : decode cX9_climbsOperation 64 = .ok (.iload_n 1, 1) := by decide +kernel
theorem dX9_climbsOperation_65 : decode cX9_climbsOperation 65 = .ok (.aload_n 0, 1) := by decide +kernel
theorem dX9_climbsOperation_66 : decode cX9_climbsOperation 66 = .ok (.aload_n 0, 1) := by decide +kernel
theorem dX9_climbsOperation_67 : decode cX9_climbsOperation 67 = .ok (.getfield 19, 3) := by decide +kernel
theorem dX9_climbsOperation_70 : decode cX9_climbsOperation 70 = .ok (.iload_n 1, 1) := by decide +kernel
theorem dX9_climbsOperation_71 : decode cX9_climbsOperation 71 = .ok (.iaload, 1) := by decide +kernel
theorem dX9_climbsOperation_72 : decode cX9_climbsOperation 72 = .ok (.aload_n 0, 1) := by decide +kernel
theorem dX9_climbsOperation_73 : decode cX9_climbsOperation 73 = .ok (.getfield 104, 3) := by decide +kernel
theorem dX9_climbsOperation_76 : decode cX9_climbsOperation 76 = .ok (.iload_n 2, 1) := by decide +kernel
theorem dX9_climbsOperation_77 : decode cX9_climbsOperation 77 = .ok (.iaload, 1) := by decide +kernel
theorem dX9_climbsOperation_78 : decode cX9_climbsOperation 78 = .ok (.aload_n 0, 1) := by decide +kernel
theorem dX9_climbsOperation_79 : decode cX9_climbsOperation 79 = .ok (.getfield 104, 3) := by decide +kernel
theorem dX9_climbsOperation_82 : decode cX9_climbsOperation 82 = .ok (.iload_n 3, 1) := by decide +kernel
theorem dX9_climbsOperation_83 : decode cX9_climbsOperation 83 = .ok (.iaload, 1) := by decide +kernel
theorem dX9_climbsOperation_84 : decode cX9_climbsOperation 84 = .ok (.invokevirtual 226, 3) := by decide +kernel
theorem dX9_climbsOperation_87 : decode cX9_climbsOperation 87 = .ok (.iastore, 1) := by decide +kernel
theorem dX9_climbsOperation_88 : decode cX9_climbsOperation 88 = .ok (.aload_n 0, 1) := by decide +kernel
theorem dX9_climbsOperation_89 : decode cX9_climbsOperation 89 = .ok (.getfield 101, 3) := by decide +kernel
theorem dX9_climbsOperation_92 : decode cX9_climbsOperation 92 = .ok (.iload_n 1, 1) := by decide +kernel
theorem dX9_climbsOperation_93 : decode cX9_climbsOperation 93 = .ok (.aload_n 0, 1) := by decide +kernel
theorem dX9_climbsOperation_94 : decode cX9_climbsOperation 94 = .ok (.getfield 219, 3) := by decide +kernel
theorem dX9_climbsOperation_97 : decode cX9_climbsOperation 97 = .ok (.ifCond .eq 7, 3) := by decide +kernel
theorem dX9_climbsOperation_100 : decode cX9_climbsOperation 100 = .ok (.iconst 2, 1) := by decide +kernel
theorem dX9_climbsOperation_101 : decode cX9_climbsOperation 101 = .ok (.goto 4, 3) := by decide +kernel
theorem dX9_climbsOperation_104 : decode cX9_climbsOperation 104 = .ok (.iconst 1, 1) := by decide +kernel
theorem dX9_climbsOperation_105 : decode cX9_climbsOperation 105 = .ok (.iastore, 1) := by decide +kernel
theorem dX9_climbsOperation_106 : decode cX9_climbsOperation 106 = .ok (.return_, 1) := by decide +kernel
theorem dX9_climbsJoin_0 : decode cX9_climbsJoin 0 = .ok (.iconst 0, 1) := by decide +kernel
theorem dX9_climbsJoin_1 : decode cX9_climbsJoin 1 = .ok (.istore_n 3, 1) := by decide +kernel
theorem dX9_climbsJoin_2 : decode cX9_climbsJoin 2 = .ok (.iload_n 3, 1) := by decide +kernel
theorem dX9_climbsJoin_3 : decode cX9_climbsJoin 3 = .ok (.aload_n 0, 1) := by decide +kernel
theorem dX9_climbsJoin_4 : decode cX9_climbsJoin 4 = .ok (.getfield 28, 3) := by decide +kernel
theorem dX9_climbsJoin_7 : decode cX9_climbsJoin 7 = .ok (.iload_n 1, 1) := by decide +kernel
theorem dX9_climbsJoin_8 : decode cX9_climbsJoin 8 = .ok (.iaload, 1) := by decide +kernel
theorem dX9_climbsJoin_9 : decode cX9_climbsJoin 9 = .ok (.if_icmp .ge 137, 3) := by decide +kernel
theorem dX9_climbsJoin_12 : decode cX9_climbsJoin 12 = .ok (.aload_n 0, 1) := by decide +kernel
theorem dX9_climbsJoin_13 : decode cX9_climbsJoin 13 = .ok (.getfield 34, 3) := by decide +kernel
theorem dX9_climbsJoin_16 : decode cX9_climbsJoin 16 = .ok (.iconst 3, 1) := by decide +kernel
theorem dX9_climbsJoin_17 : decode cX9_climbsJoin 17 = .ok (.iload_n 1, 1) := by decide +kernel
theorem dX9_climbsJoin_18 : decode cX9_climbsJoin 18 = .ok (.imul, 1) := by decide +kernel
theorem dX9_climbsJoin_19 : decode cX9_climbsJoin 19 = .ok (.iload_n 3, 1) := by decide +kernel
theorem dX9_climbsJoin_20 : decode cX9_climbsJoin 20 = .ok (.iadd, 1) := by decide +kernel
theorem dX9_climbsJoin_21 : decode cX9_climbsJoin 21 = .ok (.iaload, 1) := by decide +kernel
theorem dX9_climbsJoin_22 : decode cX9_climbsJoin 22 = .ok (.istore 4, 2) := by decide +kernel
theorem dX9_climbsJoin_24 : decode cX9_climbsJoin 24 = .ok (.aload_n 0, 1) := by decide +kernel
theorem dX9_climbsJoin_25 : decode cX9_climbsJoin 25 = .ok (.aload_n 0, 1) := by decide +kernel
theorem dX9_climbsJoin_26 : decode cX9_climbsJoin 26 = .ok (.getfield 31, 3) := by decide +kernel
theorem dX9_climbsJoin_29 : decode cX9_climbsJoin 29 = .ok (.iconst 3, 1) := by decide +kernel
theorem dX9_climbsJoin_30 : decode cX9_climbsJoin 30 = .ok (.iload_n 1, 1) := by decide +kernel
theorem dX9_climbsJoin_31 : decode cX9_climbsJoin 31 = .ok (.imul, 1) := by decide +kernel
theorem dX9_climbsJoin_32 : decode cX9_climbsJoin 32 = .ok (.iload_n 3, 1) := by decide +kernel
theorem dX9_climbsJoin_33 : decode cX9_climbsJoin 33 = .ok (.iadd, 1) := by decide +kernel
theorem dX9_climbsJoin_34 : decode cX9_climbsJoin 34 = .ok (.iaload, 1) := by decide +kernel
theorem dX9_climbsJoin_35 : decode cX9_climbsJoin 35 = .ok (.aload_n 0, 1) := by decide +kernel
theorem dX9_climbsJoin_36 : decode cX9_climbsJoin 36 = .ok (.getfield 16, 3) := by decide +kernel
theorem dX9_climbsJoin_39 : decode cX9_climbsJoin 39 = .ok (.iload_n 1, 1) := by decide +kernel
theorem dX9_climbsJoin_40 : decode cX9_climbsJoin 40 = .ok (.iaload, 1) := by decide +kernel
theorem dX9_climbsJoin_41 : decode cX9_climbsJoin 41 = .ok (.iload_n 2, 1) := by decide +kernel
theorem dX9_climbsJoin_42 : decode cX9_climbsJoin 42 = .ok (.invokevirtual 230, 3) := by decide +kernel
theorem dX9_climbsJoin_45 : decode cX9_climbsJoin 45 = .ok (.ifCond .eq 95, 3) := by decide +kernel
theorem dX9_climbsJoin_48 : decode cX9_climbsJoin 48 = .ok (.aload_n 0, 1) := by decide +kernel
theorem dX9_climbsJoin_49 : decode cX9_climbsJoin 49 = .ok (.getfield 101, 3) := by decide +kernel
theorem dX9_climbsJoin_52 : decode cX9_climbsJoin 52 = .ok (.iload 4, 2) := by decide +kernel
theorem dX9_climbsJoin_54 : decode cX9_climbsJoin 54 = .ok (.iaload, 1) := by decide +kernel
theorem dX9_climbsJoin_55 : decode cX9_climbsJoin 55 = .ok (.ifCond .eq 85, 3) := by decide +kernel
theorem dX9_climbsJoin_58 : decode cX9_climbsJoin 58 = .ok (.aload_n 0, 1) := by decide +kernel
theorem dX9_climbsJoin_59 : decode cX9_climbsJoin 59 = .ok (.getfield 101, 3) := by decide +kernel
theorem dX9_climbsJoin_62 : decode cX9_climbsJoin 62 = .ok (.iload 4, 2) := by decide +kernel
theorem dX9_climbsJoin_64 : decode cX9_climbsJoin 64 = .ok (.iaload, 1) := by decide +kernel
theorem dX9_climbsJoin_65 : decode cX9_climbsJoin 65 = .ok (.iconst 1, 1) := by decide +kernel
theorem dX9_climbsJoin_66 : decode cX9_climbsJoin 66 = .ok (.if_icmp .ne 42, 3) := by decide +kernel
theorem dX9_climbsJoin_69 : decode cX9_climbsJoin 69 = .ok (.aload_n 0, 1) := by decide +kernel
theorem dX9_climbsJoin_70 : decode cX9_climbsJoin 70 = .ok (.getfield 101, 3) := by decide +kernel
theorem dX9_climbsJoin_73 : decode cX9_climbsJoin 73 = .ok (.iload_n 1, 1) := by decide +kernel
theorem dX9_climbsJoin_74 : decode cX9_climbsJoin 74 = .ok (.iaload, 1) := by decide +kernel
theorem dX9_climbsJoin_75 : decode cX9_climbsJoin 75 = .ok (.ifCond .eq 29, 3) := by decide +kernel
theorem dX9_climbsJoin_78 : decode cX9_climbsJoin 78 = .ok (.aload_n 0, 1) := by decide +kernel
theorem dX9_climbsJoin_79 : decode cX9_climbsJoin 79 = .ok (.getfield 101, 3) := by decide +kernel
theorem dX9_climbsJoin_82 : decode cX9_climbsJoin 82 = .ok (.iload_n 1, 1) := by decide +kernel
theorem dX9_climbsJoin_83 : decode cX9_climbsJoin 83 = .ok (.iaload, 1) := by decide +kernel
theorem dX9_climbsJoin_84 : decode cX9_climbsJoin 84 = .ok (.iconst 1, 1) := by decide +kernel
theorem dX9_climbsJoin_85 : decode cX9_climbsJoin 85 = .ok (.if_icmp .ne 23, 3) := by decide +kernel
theorem dX9_climbsJoin_88 : decode cX9_climbsJoin 88 = .ok (.aload_n 0, 1) := by decide +kernel
theorem dX9_climbsJoin_89 : decode cX9_climbsJoin 89 = .ok (.getfield 104, 3) := by decide +kernel
theorem dX9_climbsJoin_92 : decode cX9_climbsJoin 92 = .ok (.iload_n 1, 1) := by decide +kernel
theorem dX9_climbsJoin_93 : decode cX9_climbsJoin 93 = .ok (.iaload, 1) := by decide +kernel
theorem dX9_climbsJoin_94 : decode cX9_climbsJoin 94 = .ok (.aload_n 0, 1) := by decide +kernel
theorem dX9_climbsJoin_95 : decode cX9_climbsJoin 95 = .ok (.getfield 104, 3) := by decide +kernel
theorem dX9_climbsJoin_98 : decode cX9_climbsJoin 98 = .ok (.iload 4, 2) := by decide +kernel
theorem dX9_climbsJoin_100 : decode cX9_climbsJoin 100 = .ok (.iaload, 1) := by decide +kernel
theorem dX9_climbsJoin_101 : decode cX9_climbsJoin 101 = .ok (.if_icmp .ne 7, 3) := by decide +kernel
theorem dX9_climbsJoin_104 : decode cX9_climbsJoin 104 = .ok (.iconst 1, 1) := by decide +kernel
theorem dX9_climbsJoin_105 : decode cX9_climbsJoin 105 = .ok (.goto 4, 3) := by decide +kernel
theorem dX9_climbsJoin_108 : decode cX9_climbsJoin 108 = .ok (.iconst 0, 1) := by decide +kernel
theorem dX9_climbsJoin_109 : decode cX9_climbsJoin 109 = .ok (.istore 5, 2) := by decide +kernel
theorem dX9_climbsJoin_111 : decode cX9_climbsJoin 111 = .ok (.aload_n 0, 1) := by decide +kernel
theorem dX9_climbsJoin_112 : decode cX9_climbsJoin 112 = .ok (.getfield 101, 3) := by decide +kernel
theorem dX9_climbsJoin_115 : decode cX9_climbsJoin 115 = .ok (.iload_n 1, 1) := by decide +kernel
theorem dX9_climbsJoin_116 : decode cX9_climbsJoin 116 = .ok (.iload 5, 2) := by decide +kernel
theorem dX9_climbsJoin_118 : decode cX9_climbsJoin 118 = .ok (.ifCond .eq 7, 3) := by decide +kernel
theorem dX9_climbsJoin_121 : decode cX9_climbsJoin 121 = .ok (.iconst 1, 1) := by decide +kernel
theorem dX9_climbsJoin_122 : decode cX9_climbsJoin 122 = .ok (.goto 4, 3) := by decide +kernel
theorem dX9_climbsJoin_125 : decode cX9_climbsJoin 125 = .ok (.iconst 2, 1) := by decide +kernel
theorem dX9_climbsJoin_126 : decode cX9_climbsJoin 126 = .ok (.iastore, 1) := by decide +kernel
theorem dX9_climbsJoin_127 : decode cX9_climbsJoin 127 = .ok (.aload_n 0, 1) := by decide +kernel
theorem dX9_climbsJoin_128 : decode cX9_climbsJoin 128 = .ok (.getfield 104, 3) := by decide +kernel
theorem dX9_climbsJoin_131 : decode cX9_climbsJoin 131 = .ok (.iload_n 1, 1) := by decide +kernel
theorem dX9_climbsJoin_132 : decode cX9_climbsJoin 132 = .ok (.aload_n 0, 1) := by decide +kernel
theorem dX9_climbsJoin_133 : decode cX9_climbsJoin 133 = .ok (.getfield 104, 3) := by decide +kernel
theorem dX9_climbsJoin_136 : decode cX9_climbsJoin 136 = .ok (.iload 4, 2) := by decide +kernel
theorem dX9_climbsJoin_138 : decode cX9_climbsJoin 138 = .ok (.iaload, 1) := by decide +kernel
theorem dX9_climbsJoin_139 : decode cX9_climbsJoin 139 = .ok (.iastore, 1) := by decide +kernel
theorem dX9_climbsJoin_140 : decode cX9_climbsJoin 140 = .ok (.iinc 3 1, 3) := by decide +kernel
theorem dX9_climbsJoin_143 : decode cX9_climbsJoin 143 = .ok (.goto (-141), 3) := by decide +kernel
theorem dX9_climbsJoin_146 : decode cX9_climbsJoin 146 = .ok (.return_, 1) := by decide +kernel
theorem dX9_climbs_0 : decode cX9_climbs 0 = .ok (.aload_n 0, 1) := by decide +kernel
theorem dX9_climbs_1 : decode cX9_climbs 1 = .ok (.getfield 13, 3) := by decide +kernel
theorem dX9_climbs_4 : decode cX9_climbs 4 = .ok (.iload_n 1, 1) := by decide +kernel
theorem dX9_climbs_5 : decode cX9_climbs 5 = .ok (.iaload, 1) := by decide +kernel
theorem dX9_climbs_6 : decode cX9_climbs 6 = .ok (.tableswitch 100 0 2 #[26, 51, 92], 26) := by decide +kernel
theorem dX9_climbs_32 : decode cX9_climbs 32 = .ok (.aload_n 0, 1) := by decide +kernel
theorem dX9_climbs_33 : decode cX9_climbs 33 = .ok (.getfield 101, 3) := by decide +kernel
theorem dX9_climbs_36 : decode cX9_climbs 36 = .ok (.iload_n 1, 1) := by decide +kernel
theorem dX9_climbs_37 : decode cX9_climbs 37 = .ok (.iconst 1, 1) := by decide +kernel
theorem dX9_climbs_38 : decode cX9_climbs 38 = .ok (.iastore, 1) := by decide +kernel
theorem dX9_climbs_39 : decode cX9_climbs 39 = .ok (.aload_n 0, 1) := by decide +kernel
theorem dX9_climbs_40 : decode cX9_climbs 40 = .ok (.getfield 104, 3) := by decide +kernel
theorem dX9_climbs_43 : decode cX9_climbs 43 = .ok (.iload_n 1, 1) := by decide +kernel
theorem dX9_climbs_44 : decode cX9_climbs 44 = .ok (.aload_n 0, 1) := by decide +kernel
theorem dX9_climbs_45 : decode cX9_climbs 45 = .ok (.getfield 49, 3) := by decide +kernel
theorem dX9_climbs_48 : decode cX9_climbs 48 = .ok (.bipush 72, 2) := by decide +kernel
theorem dX9_climbs_50 : decode cX9_climbs 50 = .ok (.iload_n 1, 1) := by decide +kernel
theorem dX9_climbs_51 : decode cX9_climbs 51 = .ok (.iadd, 1) := by decide +kernel
theorem dX9_climbs_52 : decode cX9_climbs 52 = .ok (.iaload, 1) := by decide +kernel
theorem dX9_climbs_53 : decode cX9_climbs 53 = .ok (.iastore, 1) := by decide +kernel
theorem dX9_climbs_54 : decode cX9_climbs 54 = .ok (.goto 58, 3) := by decide +kernel
theorem dX9_climbs_57 : decode cX9_climbs 57 = .ok (.aload_n 0, 1) := by decide +kernel
theorem dX9_climbs_58 : decode cX9_climbs 58 = .ok (.getfield 101, 3) := by decide +kernel
theorem dX9_climbs_61 : decode cX9_climbs 61 = .ok (.iload_n 1, 1) := by decide +kernel
theorem dX9_climbs_62 : decode cX9_climbs 62 = .ok (.aload_n 0, 1) := by decide +kernel
theorem dX9_climbs_63 : decode cX9_climbs 63 = .ok (.getfield 49, 3) := by decide +kernel
theorem dX9_climbs_66 : decode cX9_climbs 66 = .ok (.iconst 0, 1) := by decide +kernel
theorem dX9_climbs_67 : decode cX9_climbs 67 = .ok (.iload_n 1, 1) := by decide +kernel
theorem dX9_climbs_68 : decode cX9_climbs 68 = .ok (.iadd, 1) := by decide +kernel
theorem dX9_climbs_69 : decode cX9_climbs 69 = .ok (.iaload, 1) := by decide +kernel
theorem dX9_climbs_70 : decode cX9_climbs 70 = .ok (.iconst 1, 1) := by decide +kernel
theorem dX9_climbs_71 : decode cX9_climbs 71 = .ok (.if_icmp .ne 7, 3) := by decide +kernel
theorem dX9_climbs_74 : decode cX9_climbs 74 = .ok (.iconst 1, 1) := by decide +kernel
theorem dX9_climbs_75 : decode cX9_climbs 75 = .ok (.goto 4, 3) := by decide +kernel
theorem dX9_climbs_78 : decode cX9_climbs 78 = .ok (.iconst 2, 1) := by decide +kernel
theorem dX9_climbs_79 : decode cX9_climbs 79 = .ok (.iastore, 1) := by decide +kernel
theorem dX9_climbs_80 : decode cX9_climbs 80 = .ok (.aload_n 0, 1) := by decide +kernel
theorem dX9_climbs_81 : decode cX9_climbs 81 = .ok (.getfield 104, 3) := by decide +kernel
theorem dX9_climbs_84 : decode cX9_climbs 84 = .ok (.iload_n 1, 1) := by decide +kernel
theorem dX9_climbs_85 : decode cX9_climbs 85 = .ok (.aload_n 0, 1) := by decide +kernel
theorem dX9_climbs_86 : decode cX9_climbs 86 = .ok (.getfield 49, 3) := by decide +kernel
theorem dX9_climbs_89 : decode cX9_climbs 89 = .ok (.bipush 24, 2) := by decide +kernel
theorem dX9_climbs_91 : decode cX9_climbs 91 = .ok (.iload_n 1, 1) := by decide +kernel
theorem dX9_climbs_92 : decode cX9_climbs 92 = .ok (.iadd, 1) := by decide +kernel
theorem dX9_climbs_93 : decode cX9_climbs 93 = .ok (.iaload, 1) := by decide +kernel
theorem dX9_climbs_94 : decode cX9_climbs 94 = .ok (.iastore, 1) := by decide +kernel
theorem dX9_climbs_95 : decode cX9_climbs 95 = .ok (.goto 17, 3) := by decide +kernel
theorem dX9_climbs_98 : decode cX9_climbs 98 = .ok (.aload_n 0, 1) := by decide +kernel
theorem dX9_climbs_99 : decode cX9_climbs 99 = .ok (.iload_n 1, 1) := by decide +kernel
theorem dX9_climbs_100 : decode cX9_climbs 100 = .ok (.invokevirtual 233, 3) := by decide +kernel
theorem dX9_climbs_103 : decode cX9_climbs 103 = .ok (.goto 9, 3) := by decide +kernel
theorem dX9_climbs_106 : decode cX9_climbs 106 = .ok (.aload_n 0, 1) := by decide +kernel
theorem dX9_climbs_107 : decode cX9_climbs 107 = .ok (.iload_n 1, 1) := by decide +kernel
theorem dX9_climbs_108 : decode cX9_climbs 108 = .ok (.iload_n 2, 1) := by decide +kernel
theorem dX9_climbs_109 : decode cX9_climbs 109 = .ok (.invokevirtual 236, 3) := by decide +kernel
theorem dX9_climbs_112 : decode cX9_climbs 112 = .ok (.return_, 1) := by decide +kernel
theorem dX9_finds_0 : decode cX9_finds 0 = .ok (.iconst 0, 1) := by decide +kernel
theorem dX9_finds_1 : decode cX9_finds 1 = .ok (.istore_n 2, 1) := by decide +kernel
theorem dX9_finds_2 : decode cX9_finds 2 = .ok (.iload_n 2, 1) := by decide +kernel
theorem dX9_finds_3 : decode cX9_finds 3 = .ok (.bipush 24, 2) := by decide +kernel
theorem dX9_finds_5 : decode cX9_finds 5 = .ok (.if_icmp .ge 16, 3) := by decide +kernel
theorem dX9_finds_8 : decode cX9_finds 8 = .ok (.aload_n 0, 1) := by decide +kernel
theorem dX9_finds_9 : decode cX9_finds 9 = .ok (.getfield 101, 3) := by decide +kernel
theorem dX9_finds_12 : decode cX9_finds 12 = .ok (.iload_n 2, 1) := by decide +kernel
theorem dX9_finds_13 : decode cX9_finds 13 = .ok (.iconst 0, 1) := by decide +kernel
theorem dX9_finds_14 : decode cX9_finds 14 = .ok (.iastore, 1) := by decide +kernel
theorem dX9_finds_15 : decode cX9_finds 15 = .ok (.iinc 2 1, 3) := by decide +kernel
theorem dX9_finds_18 : decode cX9_finds 18 = .ok (.goto (-16), 3) := by decide +kernel
theorem dX9_finds_21 : decode cX9_finds 21 = .ok (.iconst 0, 1) := by decide +kernel
theorem dX9_finds_22 : decode cX9_finds 22 = .ok (.istore_n 2, 1) := by decide +kernel
theorem dX9_finds_23 : decode cX9_finds 23 = .ok (.iload_n 2, 1) := by decide +kernel
theorem dX9_finds_24 : decode cX9_finds 24 = .ok (.bipush 8, 2) := by decide +kernel
theorem dX9_finds_26 : decode cX9_finds 26 = .ok (.if_icmp .ge 31, 3) := by decide +kernel
theorem dX9_finds_29 : decode cX9_finds 29 = .ok (.aload_n 0, 1) := by decide +kernel
theorem dX9_finds_30 : decode cX9_finds 30 = .ok (.getfield 107, 3) := by decide +kernel
theorem dX9_finds_33 : decode cX9_finds 33 = .ok (.iload_n 2, 1) := by decide +kernel
theorem dX9_finds_34 : decode cX9_finds 34 = .ok (.iload_n 2, 1) := by decide +kernel
theorem dX9_finds_35 : decode cX9_finds 35 = .ok (.ifCond .ne 14, 3) := by decide +kernel
theorem dX9_finds_38 : decode cX9_finds 38 = .ok (.aload_n 0, 1) := by decide +kernel
theorem dX9_finds_39 : decode cX9_finds 39 = .ok (.getfield 130, 3) := by decide +kernel
theorem dX9_finds_42 : decode cX9_finds 42 = .ok (.ifCond .le 7, 3) := by decide +kernel
theorem dX9_finds_45 : decode cX9_finds 45 = .ok (.iconst 1, 1) := by decide +kernel
theorem dX9_finds_46 : decode cX9_finds 46 = .ok (.goto 4, 3) := by decide +kernel
theorem dX9_finds_49 : decode cX9_finds 49 = .ok (.iconst 0, 1) := by decide +kernel
theorem dX9_finds_50 : decode cX9_finds 50 = .ok (.bastore, 1) := by decide +kernel
theorem dX9_finds_51 : decode cX9_finds 51 = .ok (.iinc 2 1, 3) := by decide +kernel
theorem dX9_finds_54 : decode cX9_finds 54 = .ok (.goto (-31), 3) := by decide +kernel
theorem dX9_finds_57 : decode cX9_finds 57 = .ok (.iconst 1, 1) := by decide +kernel
theorem dX9_finds_58 : decode cX9_finds 58 = .ok (.istore_n 2, 1) := by decide +kernel
theorem dX9_finds_59 : decode cX9_finds 59 = .ok (.iload_n 2, 1) := by decide +kernel
theorem dX9_finds_60 : decode cX9_finds 60 = .ok (.ifCond .eq 144, 3) := by decide +kernel
theorem dX9_finds_63 : decode cX9_finds 63 = .ok (.iconst 0, 1) := by decide +kernel
theorem dX9_finds_64 : decode cX9_finds 64 = .ok (.istore_n 2, 1) := by decide +kernel
theorem dX9_finds_65 : decode cX9_finds 65 = .ok (.iconst 0, 1) := by decide +kernel
theorem dX9_finds_66 : decode cX9_finds 66 = .ok (.istore_n 3, 1) := by decide +kernel
theorem dX9_finds_67 : decode cX9_finds 67 = .ok (.iload_n 3, 1) := by decide +kernel
theorem dX9_finds_68 : decode cX9_finds 68 = .ok (.aload_n 0, 1) := by decide +kernel
theorem dX9_finds_69 : decode cX9_finds 69 = .ok (.getfield 122, 3) := by decide +kernel
theorem dX9_finds_72 : decode cX9_finds 72 = .ok (.if_icmp .ge 64, 3) := by decide +kernel
theorem dX9_finds_75 : decode cX9_finds 75 = .ok (.aload_n 0, 1) := by decide +kernel
theorem dX9_finds_76 : decode cX9_finds 76 = .ok (.getfield 101, 3) := by decide +kernel
theorem dX9_finds_79 : decode cX9_finds 79 = .ok (.iload_n 3, 1) := by decide +kernel
theorem dX9_finds_80 : decode cX9_finds 80 = .ok (.iaload, 1) := by decide +kernel
theorem dX9_finds_81 : decode cX9_finds 81 = .ok (.istore 4, 2) := by decide +kernel
theorem dX9_finds_83 : decode cX9_finds 83 = .ok (.aload_n 0, 1) := by decide +kernel
theorem dX9_finds_84 : decode cX9_finds 84 = .ok (.getfield 107, 3) := by decide +kernel
theorem dX9_finds_87 : decode cX9_finds 87 = .ok (.aload_n 0, 1) := by decide +kernel
theorem dX9_finds_88 : decode cX9_finds 88 = .ok (.getfield 16, 3) := by decide +kernel
theorem dX9_finds_91 : decode cX9_finds 91 = .ok (.iload_n 3, 1) := by decide +kernel
theorem dX9_finds_92 : decode cX9_finds 92 = .ok (.iaload, 1) := by decide +kernel
theorem dX9_finds_93 : decode cX9_finds 93 = .ok (.baload, 1) := by decide +kernel
theorem dX9_finds_94 : decode cX9_finds 94 = .ok (.ifCond .eq 15, 3) := by decide +kernel
theorem dX9_finds_97 : decode cX9_finds 97 = .ok (.iload 4, 2) := by decide +kernel
theorem dX9_finds_99 : decode cX9_finds 99 = .ok (.iconst 2, 1) := by decide +kernel
theorem dX9_finds_100 : decode cX9_finds 100 = .ok (.if_icmp .eq 9, 3) := by decide +kernel
theorem dX9_finds_103 : decode cX9_finds 103 = .ok (.aload_n 0, 1) := by decide +kernel
theorem dX9_finds_104 : decode cX9_finds 104 = .ok (.iload_n 3, 1) := by decide +kernel
theorem dX9_finds_105 : decode cX9_finds 105 = .ok (.iload_n 1, 1) := by decide +kernel
theorem dX9_finds_106 : decode cX9_finds 106 = .ok (.invokevirtual 240, 3) := by decide +kernel
theorem dX9_finds_109 : decode cX9_finds 109 = .ok (.iload_n 2, 1) := by decide +kernel
theorem dX9_finds_110 : decode cX9_finds 110 = .ok (.ifCond .ne 14, 3) := by decide +kernel
theorem dX9_finds_113 : decode cX9_finds 113 = .ok (.aload_n 0, 1) := by decide +kernel
theorem dX9_finds_114 : decode cX9_finds 114 = .ok (.getfield 101, 3) := by decide +kernel
theorem dX9_finds_117 : decode cX9_finds 117 = .ok (.iload_n 3, 1) := by decide +kernel
theorem dX9_finds_118 : decode cX9_finds 118 = .ok (.iaload, 1) := by decide +kernel
theorem dX9_finds_119 : decode cX9_finds 119 = .ok (.iload 4, 2) := by decide +kernel
theorem dX9_finds_121 : decode cX9_finds 121 = .ok (.if_icmp .eq 7, 3) := by decide +kernel
theorem dX9_finds_124 : decode cX9_finds 124 = .ok (.iconst 1, 1) := by decide +kernel
theorem dX9_finds_125 : decode cX9_finds 125 = .ok (.goto 4, 3) := by decide +kernel
theorem dX9_finds_128 : decode cX9_finds 128 = .ok (.iconst 0, 1) := by decide +kernel
theorem dX9_finds_129 : decode cX9_finds 129 = .ok (.istore_n 2, 1) := by decide +kernel
theorem dX9_finds_130 : decode cX9_finds 130 = .ok (.iinc 3 1, 3) := by decide +kernel
theorem dX9_finds_133 : decode cX9_finds 133 = .ok (.goto (-66), 3) := by decide +kernel
theorem dX9_finds_136 : decode cX9_finds 136 = .ok (.iconst 0, 1) := by decide +kernel
theorem dX9_finds_137 : decode cX9_finds 137 = .ok (.istore_n 3, 1) := by decide +kernel
theorem dX9_finds_138 : decode cX9_finds 138 = .ok (.iload_n 3, 1) := by decide +kernel
theorem dX9_finds_139 : decode cX9_finds 139 = .ok (.aload_n 0, 1) := by decide +kernel
theorem dX9_finds_140 : decode cX9_finds 140 = .ok (.getfield 130, 3) := by decide +kernel
theorem dX9_finds_143 : decode cX9_finds 143 = .ok (.if_icmp .ge 58, 3) := by decide +kernel
theorem dX9_finds_146 : decode cX9_finds 146 = .ok (.iconst 0, 1) := by decide +kernel
theorem dX9_finds_147 : decode cX9_finds 147 = .ok (.istore 4, 2) := by decide +kernel
theorem dX9_finds_149 : decode cX9_finds 149 = .ok (.iload 4, 2) := by decide +kernel
theorem dX9_finds_151 : decode cX9_finds 151 = .ok (.aload_n 0, 1) := by decide +kernel
theorem dX9_finds_152 : decode cX9_finds 152 = .ok (.getfield 130, 3) := by decide +kernel
theorem dX9_finds_155 : decode cX9_finds 155 = .ok (.if_icmp .ge 40, 3) := by decide +kernel
theorem dX9_finds_158 : decode cX9_finds 158 = .ok (.aload_n 0, 1) := by decide +kernel
theorem dX9_finds_159 : decode cX9_finds 159 = .ok (.getfield 107, 3) := by decide +kernel
theorem dX9_finds_162 : decode cX9_finds 162 = .ok (.iload 4, 2) := by decide +kernel
theorem dX9_finds_164 : decode cX9_finds 164 = .ok (.baload, 1) := by decide +kernel
theorem dX9_finds_165 : decode cX9_finds 165 = .ok (.ifCond .ne 24, 3) := by decide +kernel
theorem dX9_finds_168 : decode cX9_finds 168 = .ok (.aload_n 0, 1) := by decide +kernel
theorem dX9_finds_169 : decode cX9_finds 169 = .ok (.iload_n 3, 1) := by decide +kernel
theorem dX9_finds_170 : decode cX9_finds 170 = .ok (.iload 4, 2) := by decide +kernel
theorem dX9_finds_172 : decode cX9_finds 172 = .ok (.iload_n 1, 1) := by decide +kernel
theorem dX9_finds_173 : decode cX9_finds 173 = .ok (.invokevirtual 230, 3) := by decide +kernel
theorem dX9_finds_176 : decode cX9_finds 176 = .ok (.ifCond .eq 13, 3) := by decide +kernel
theorem dX9_finds_179 : decode cX9_finds 179 = .ok (.aload_n 0, 1) := by decide +kernel
theorem dX9_finds_180 : decode cX9_finds 180 = .ok (.getfield 107, 3) := by decide +kernel
theorem dX9_finds_183 : decode cX9_finds 183 = .ok (.iload 4, 2) := by decide +kernel
theorem dX9_finds_185 : decode cX9_finds 185 = .ok (.iconst 1, 1) := by decide +kernel
theorem dX9_finds_186 : decode cX9_finds 186 = .ok (.bastore, 1) := by decide +kernel
theorem dX9_finds_187 : decode cX9_finds 187 = .ok (.iconst 1, 1) := by decide +kernel
theorem dX9_finds_188 : decode cX9_finds 188 = .ok (.istore_n 2, 1) := by decide +kernel
theorem dX9_finds_189 : decode cX9_finds 189 = .ok (.iinc 4 1, 3) := by decide +kernel
theorem dX9_finds_192 : decode cX9_finds 192 = .ok (.goto (-43), 3) := by decide +kernel
theorem dX9_finds_195 : decode cX9_finds 195 = .ok (.iinc 3 1, 3) := by decide +kernel
theorem dX9_finds_198 : decode cX9_finds 198 = .ok (.goto (-60), 3) := by decide +kernel
theorem dX9_finds_201 : decode cX9_finds 201 = .ok (.goto (-142), 3) := by decide +kernel
theorem dX9_finds_204 : decode cX9_finds 204 = .ok (.return_, 1) := by decide +kernel
theorem dX9_those_0 : decode cX9_those 0 = .ok (.iconst 0, 1) := by decide +kernel
theorem dX9_those_1 : decode cX9_those 1 = .ok (.istore_n 2, 1) := by decide +kernel
theorem dX9_those_2 : decode cX9_those 2 = .ok (.iconst 0, 1) := by decide +kernel
theorem dX9_those_3 : decode cX9_those 3 = .ok (.istore_n 3, 1) := by decide +kernel
theorem dX9_those_4 : decode cX9_those 4 = .ok (.iload_n 3, 1) := by decide +kernel
theorem dX9_those_5 : decode cX9_those 5 = .ok (.aload_n 0, 1) := by decide +kernel
theorem dX9_those_6 : decode cX9_those 6 = .ok (.getfield 122, 3) := by decide +kernel
theorem dX9_those_9 : decode cX9_those 9 = .ok (.if_icmp .ge 27, 3) := by decide +kernel
theorem dX9_those_12 : decode cX9_those 12 = .ok (.iload_n 2, 1) := by decide +kernel
theorem dX9_those_13 : decode cX9_those 13 = .ok (.aload_n 0, 1) := by decide +kernel
theorem dX9_those_14 : decode cX9_those 14 = .ok (.getfield 101, 3) := by decide +kernel
theorem dX9_those_17 : decode cX9_those 17 = .ok (.iload_n 3, 1) := by decide +kernel
theorem dX9_those_18 : decode cX9_those 18 = .ok (.iaload, 1) := by decide +kernel
theorem dX9_those_19 : decode cX9_those 19 = .ok (.iload_n 1, 1) := by decide +kernel
theorem dX9_those_20 : decode cX9_those 20 = .ok (.if_icmp .ne 7, 3) := by decide +kernel
theorem dX9_those_23 : decode cX9_those 23 = .ok (.iconst 1, 1) := by decide +kernel
theorem dX9_those_24 : decode cX9_those 24 = .ok (.goto 4, 3) := by decide +kernel
theorem dX9_those_27 : decode cX9_those 27 = .ok (.iconst 0, 1) := by decide +kernel
theorem dX9_those_28 : decode cX9_those 28 = .ok (.iadd, 1) := by decide +kernel
theorem dX9_those_29 : decode cX9_those 29 = .ok (.istore_n 2, 1) := by decide +kernel
theorem dX9_those_30 : decode cX9_those 30 = .ok (.iinc 3 1, 3) := by decide +kernel
theorem dX9_those_33 : decode cX9_those 33 = .ok (.goto (-29), 3) := by decide +kernel
theorem dX9_those_36 : decode cX9_those 36 = .ok (.iload_n 2, 1) := by decide +kernel
theorem dX9_those_37 : decode cX9_those 37 = .ok (.ireturn, 1) := by decide +kernel
theorem dX9_liveBlocks_0 : decode cX9_liveBlocks 0 = .ok (.iconst 0, 1) := by decide +kernel
theorem dX9_liveBlocks_1 : decode cX9_liveBlocks 1 = .ok (.istore_n 1, 1) := by decide +kernel
theorem dX9_liveBlocks_2 : decode cX9_liveBlocks 2 = .ok (.iconst 0, 1) := by decide +kernel
theorem dX9_liveBlocks_3 : decode cX9_liveBlocks 3 = .ok (.istore_n 2, 1) := by decide +kernel
theorem dX9_liveBlocks_4 : decode cX9_liveBlocks 4 = .ok (.iload_n 2, 1) := by decide +kernel
theorem dX9_liveBlocks_5 : decode cX9_liveBlocks 5 = .ok (.aload_n 0, 1) := by decide +kernel
theorem dX9_liveBlocks_6 : decode cX9_liveBlocks 6 = .ok (.getfield 130, 3) := by decide +kernel
theorem dX9_liveBlocks_9 : decode cX9_liveBlocks 9 = .ok (.if_icmp .ge 26, 3) := by decide +kernel
theorem dX9_liveBlocks_12 : decode cX9_liveBlocks 12 = .ok (.iload_n 1, 1) := by decide +kernel
theorem dX9_liveBlocks_13 : decode cX9_liveBlocks 13 = .ok (.aload_n 0, 1) := by decide +kernel
theorem dX9_liveBlocks_14 : decode cX9_liveBlocks 14 = .ok (.getfield 107, 3) := by decide +kernel
theorem dX9_liveBlocks_17 : decode cX9_liveBlocks 17 = .ok (.iload_n 2, 1) := by decide +kernel
theorem dX9_liveBlocks_18 : decode cX9_liveBlocks 18 = .ok (.baload, 1) := by decide +kernel
theorem dX9_liveBlocks_19 : decode cX9_liveBlocks 19 = .ok (.ifCond .eq 7, 3) := by decide +kernel
theorem dX9_liveBlocks_22 : decode cX9_liveBlocks 22 = .ok (.iconst 1, 1) := by decide +kernel
theorem dX9_liveBlocks_23 : decode cX9_liveBlocks 23 = .ok (.goto 4, 3) := by decide +kernel
theorem dX9_liveBlocks_26 : decode cX9_liveBlocks 26 = .ok (.iconst 0, 1) := by decide +kernel
theorem dX9_liveBlocks_27 : decode cX9_liveBlocks 27 = .ok (.iadd, 1) := by decide +kernel
theorem dX9_liveBlocks_28 : decode cX9_liveBlocks 28 = .ok (.istore_n 1, 1) := by decide +kernel
theorem dX9_liveBlocks_29 : decode cX9_liveBlocks 29 = .ok (.iinc 2 1, 3) := by decide +kernel
theorem dX9_liveBlocks_32 : decode cX9_liveBlocks 32 = .ok (.goto (-28), 3) := by decide +kernel
theorem dX9_liveBlocks_35 : decode cX9_liveBlocks 35 = .ok (.iload_n 1, 1) := by decide +kernel
theorem dX9_liveBlocks_36 : decode cX9_liveBlocks 36 = .ok (.ireturn, 1) := by decide +kernel
theorem dX9_tells_0 : decode cX9_tells 0 = .ok (.aload_n 0, 1) := by decide +kernel
theorem dX9_tells_1 : decode cX9_tells 1 = .ok (.iload_n 1, 1) := by decide +kernel
theorem dX9_tells_2 : decode cX9_tells 2 = .ok (.putfield 243, 3) := by decide +kernel
theorem dX9_tells_5 : decode cX9_tells 5 = .ok (.iload_n 2, 1) := by decide +kernel
theorem dX9_tells_6 : decode cX9_tells 6 = .ok (.ireturn, 1) := by decide +kernel
theorem dX9_name_0 : decode cX9_name 0 = .ok (.aload_n 0, 1) := by decide +kernel
theorem dX9_name_1 : decode cX9_name 1 = .ok (.iload_n 1, 1) := by decide +kernel
theorem dX9_name_2 : decode cX9_name 2 = .ok (.invokevirtual 246, 3) := by decide +kernel
theorem dX9_name_5 : decode cX9_name 5 = .ok (.ifCond .eq 13, 3) := by decide +kernel
theorem dX9_name_8 : decode cX9_name 8 = .ok (.iload_n 2, 1) := by decide +kernel
theorem dX9_name_9 : decode cX9_name 9 = .ok (.iconst 0, 1) := by decide +kernel
theorem dX9_name_10 : decode cX9_name 10 = .ok (.bipush 7, 2) := by decide +kernel
theorem dX9_name_12 : decode cX9_name 12 = .ok (.invokestatic 126, 3) := by decide +kernel
theorem dX9_name_15 : decode cX9_name 15 = .ok (.ifCond .ne 5, 3) := by decide +kernel
theorem dX9_name_18 : decode cX9_name 18 = .ok (.iconst (-1), 1) := by decide +kernel
theorem dX9_name_19 : decode cX9_name 19 = .ok (.ireturn, 1) := by decide +kernel
theorem dX9_name_20 : decode cX9_name 20 = .ok (.aload_n 0, 1) := by decide +kernel
theorem dX9_name_21 : decode cX9_name 21 = .ok (.getfield 13, 3) := by decide +kernel
theorem dX9_name_24 : decode cX9_name 24 = .ok (.iload_n 1, 1) := by decide +kernel
theorem dX9_name_25 : decode cX9_name 25 = .ok (.iaload, 1) := by decide +kernel
theorem dX9_name_26 : decode cX9_name 26 = .ok (.iconst 2, 1) := by decide +kernel
theorem dX9_name_27 : decode cX9_name 27 = .ok (.if_icmp .ne 7, 3) := by decide +kernel
theorem dX9_name_30 : decode cX9_name 30 = .ok (.iconst 1, 1) := by decide +kernel
theorem dX9_name_31 : decode cX9_name 31 = .ok (.goto 4, 3) := by decide +kernel
theorem dX9_name_34 : decode cX9_name 34 = .ok (.iconst 0, 1) := by decide +kernel
theorem dX9_name_35 : decode cX9_name 35 = .ok (.istore_n 3, 1) := by decide +kernel
theorem dX9_name_36 : decode cX9_name 36 = .ok (.iload_n 2, 1) := by decide +kernel
theorem dX9_name_37 : decode cX9_name 37 = .ok (.tableswitch 114 0 5 #[39, 46, 53, 73, 89, 105], 39) := by decide +kernel
theorem dX9_name_76 : decode cX9_name 76 = .ok (.aload_n 0, 1) := by decide +kernel
theorem dX9_name_77 : decode cX9_name 77 = .ok (.getfield 16, 3) := by decide +kernel
theorem dX9_name_80 : decode cX9_name 80 = .ok (.iload_n 1, 1) := by decide +kernel
theorem dX9_name_81 : decode cX9_name 81 = .ok (.iaload, 1) := by decide +kernel
theorem dX9_name_82 : decode cX9_name 82 = .ok (.ireturn, 1) := by decide +kernel
theorem dX9_name_83 : decode cX9_name 83 = .ok (.aload_n 0, 1) := by decide +kernel
theorem dX9_name_84 : decode cX9_name 84 = .ok (.getfield 13, 3) := by decide +kernel
theorem dX9_name_87 : decode cX9_name 87 = .ok (.iload_n 1, 1) := by decide +kernel
theorem dX9_name_88 : decode cX9_name 88 = .ok (.iaload, 1) := by decide +kernel
theorem dX9_name_89 : decode cX9_name 89 = .ok (.ireturn, 1) := by decide +kernel
theorem dX9_name_90 : decode cX9_name 90 = .ok (.iload_n 3, 1) := by decide +kernel
theorem dX9_name_91 : decode cX9_name 91 = .ok (.ifCond .eq 12, 3) := by decide +kernel
theorem dX9_name_94 : decode cX9_name 94 = .ok (.aload_n 0, 1) := by decide +kernel
theorem dX9_name_95 : decode cX9_name 95 = .ok (.getfield 19, 3) := by decide +kernel
theorem dX9_name_98 : decode cX9_name 98 = .ok (.iload_n 1, 1) := by decide +kernel
theorem dX9_name_99 : decode cX9_name 99 = .ok (.iaload, 1) := by decide +kernel
theorem dX9_name_100 : decode cX9_name 100 = .ok (.goto 9, 3) := by decide +kernel
theorem dX9_name_103 : decode cX9_name 103 = .ok (.aload_n 0, 1) := by decide +kernel
theorem dX9_name_104 : decode cX9_name 104 = .ok (.getfield 28, 3) := by decide +kernel
theorem dX9_name_107 : decode cX9_name 107 = .ok (.iload_n 1, 1) := by decide +kernel
theorem dX9_name_108 : decode cX9_name 108 = .ok (.iaload, 1) := by decide +kernel
theorem dX9_name_109 : decode cX9_name 109 = .ok (.ireturn, 1) := by decide +kernel
theorem dX9_name_110 : decode cX9_name 110 = .ok (.iload_n 3, 1) := by decide +kernel
theorem dX9_name_111 : decode cX9_name 111 = .ok (.ifCond .eq 12, 3) := by decide +kernel
theorem dX9_name_114 : decode cX9_name 114 = .ok (.aload_n 0, 1) := by decide +kernel
theorem dX9_name_115 : decode cX9_name 115 = .ok (.getfield 22, 3) := by decide +kernel
theorem dX9_name_118 : decode cX9_name 118 = .ok (.iload_n 1, 1) := by decide +kernel
theorem dX9_name_119 : decode cX9_name 119 = .ok (.iaload, 1) := by decide +kernel
theorem dX9_name_120 : decode cX9_name 120 = .ok (.goto 5, 3) := by decide +kernel
theorem dX9_name_123 : decode cX9_name 123 = .ok (.bipush (-9), 2) := by decide +kernel
theorem dX9_name_125 : decode cX9_name 125 = .ok (.ireturn, 1) := by decide +kernel
theorem dX9_name_126 : decode cX9_name 126 = .ok (.iload_n 3, 1) := by decide +kernel
theorem dX9_name_127 : decode cX9_name 127 = .ok (.ifCond .eq 12, 3) := by decide +kernel
theorem dX9_name_130 : decode cX9_name 130 = .ok (.aload_n 0, 1) := by decide +kernel
theorem dX9_name_131 : decode cX9_name 131 = .ok (.getfield 25, 3) := by decide +kernel
theorem dX9_name_134 : decode cX9_name 134 = .ok (.iload_n 1, 1) := by decide +kernel
theorem dX9_name_135 : decode cX9_name 135 = .ok (.iaload, 1) := by decide +kernel
theorem dX9_name_136 : decode cX9_name 136 = .ok (.goto 5, 3) := by decide +kernel
theorem dX9_name_139 : decode cX9_name 139 = .ok (.bipush (-9), 2) := by decide +kernel
theorem dX9_name_141 : decode cX9_name 141 = .ok (.ireturn, 1) := by decide +kernel
theorem dX9_name_142 : decode cX9_name 142 = .ok (.aload_n 0, 1) := by decide +kernel
theorem dX9_name_143 : decode cX9_name 143 = .ok (.getfield 49, 3) := by decide +kernel
theorem dX9_name_146 : decode cX9_name 146 = .ok (.iconst 0, 1) := by decide +kernel
theorem dX9_name_147 : decode cX9_name 147 = .ok (.iload_n 1, 1) := by decide +kernel
theorem dX9_name_148 : decode cX9_name 148 = .ok (.iadd, 1) := by decide +kernel
theorem dX9_name_149 : decode cX9_name 149 = .ok (.iaload, 1) := by decide +kernel
theorem dX9_name_150 : decode cX9_name 150 = .ok (.ireturn, 1) := by decide +kernel
theorem dX9_name_151 : decode cX9_name 151 = .ok (.aload_n 0, 1) := by decide +kernel
theorem dX9_name_152 : decode cX9_name 152 = .ok (.iload_n 2, 1) := by decide +kernel
theorem dX9_name_153 : decode cX9_name 153 = .ok (.bipush 7, 2) := by decide +kernel
theorem dX9_name_155 : decode cX9_name 155 = .ok (.if_icmp .ne 7, 3) := by decide +kernel
theorem dX9_name_158 : decode cX9_name 158 = .ok (.iconst 1, 1) := by decide +kernel
theorem dX9_name_159 : decode cX9_name 159 = .ok (.goto 4, 3) := by decide +kernel
theorem dX9_name_162 : decode cX9_name 162 = .ok (.iconst 0, 1) := by decide +kernel
theorem dX9_name_163 : decode cX9_name 163 = .ok (.invokevirtual 249, 3) := by decide +kernel
theorem dX9_name_166 : decode cX9_name 166 = .ok (.aload_n 0, 1) := by decide +kernel
theorem dX9_name_167 : decode cX9_name 167 = .ok (.getfield 101, 3) := by decide +kernel
theorem dX9_name_170 : decode cX9_name 170 = .ok (.iload_n 1, 1) := by decide +kernel
theorem dX9_name_171 : decode cX9_name 171 = .ok (.iaload, 1) := by decide +kernel
theorem dX9_name_172 : decode cX9_name 172 = .ok (.ireturn, 1) := by decide +kernel
theorem dX9_found_0 : decode cX9_found 0 = .ok (.aload_n 0, 1) := by decide +kernel
theorem dX9_found_1 : decode cX9_found 1 = .ok (.iload_n 1, 1) := by decide +kernel
theorem dX9_found_2 : decode cX9_found 2 = .ok (.invokevirtual 246, 3) := by decide +kernel
theorem dX9_found_5 : decode cX9_found 5 = .ok (.ifCond .ne 5, 3) := by decide +kernel
theorem dX9_found_8 : decode cX9_found 8 = .ok (.iconst (-1), 1) := by decide +kernel
theorem dX9_found_9 : decode cX9_found 9 = .ok (.ireturn, 1) := by decide +kernel
theorem dX9_found_10 : decode cX9_found 10 = .ok (.aload_n 0, 1) := by decide +kernel
theorem dX9_found_11 : decode cX9_found 11 = .ok (.iconst 0, 1) := by decide +kernel
theorem dX9_found_12 : decode cX9_found 12 = .ok (.invokevirtual 249, 3) := by decide +kernel
theorem dX9_found_15 : decode cX9_found 15 = .ok (.aload_n 0, 1) := by decide +kernel
theorem dX9_found_16 : decode cX9_found 16 = .ok (.getfield 101, 3) := by decide +kernel
theorem dX9_found_19 : decode cX9_found 19 = .ok (.iload_n 1, 1) := by decide +kernel
theorem dX9_found_20 : decode cX9_found 20 = .ok (.iaload, 1) := by decide +kernel
theorem dX9_found_21 : decode cX9_found 21 = .ok (.iconst 1, 1) := by decide +kernel
theorem dX9_found_22 : decode cX9_found 22 = .ok (.if_icmp .ne 17, 3) := by decide +kernel
theorem dX9_found_25 : decode cX9_found 25 = .ok (.aload_n 0, 1) := by decide +kernel
theorem dX9_found_26 : decode cX9_found 26 = .ok (.aload_n 0, 1) := by decide +kernel
theorem dX9_found_27 : decode cX9_found 27 = .ok (.getfield 104, 3) := by decide +kernel
theorem dX9_found_30 : decode cX9_found 30 = .ok (.iload_n 1, 1) := by decide +kernel
theorem dX9_found_31 : decode cX9_found 31 = .ok (.iaload, 1) := by decide +kernel
theorem dX9_found_32 : decode cX9_found 32 = .ok (.iconst 1, 1) := by decide +kernel
theorem dX9_found_33 : decode cX9_found 33 = .ok (.invokevirtual 253, 3) := by decide +kernel
theorem dX9_found_36 : decode cX9_found 36 = .ok (.goto 5, 3) := by decide +kernel
theorem dX9_found_39 : decode cX9_found 39 = .ok (.bipush (-2), 2) := by decide +kernel
theorem dX9_found_41 : decode cX9_found 41 = .ok (.ireturn, 1) := by decide +kernel
theorem dX9_block_0 : decode cX9_block 0 = .ok (.aload_n 0, 1) := by decide +kernel
theorem dX9_block_1 : decode cX9_block 1 = .ok (.iload_n 1, 1) := by decide +kernel
theorem dX9_block_2 : decode cX9_block 2 = .ok (.invokevirtual 257, 3) := by decide +kernel
theorem dX9_block_5 : decode cX9_block 5 = .ok (.ifCond .eq 13, 3) := by decide +kernel
theorem dX9_block_8 : decode cX9_block 8 = .ok (.iload_n 2, 1) := by decide +kernel
theorem dX9_block_9 : decode cX9_block 9 = .ok (.iconst 0, 1) := by decide +kernel
theorem dX9_block_10 : decode cX9_block 10 = .ok (.bipush 8, 2) := by decide +kernel
theorem dX9_block_12 : decode cX9_block 12 = .ok (.invokestatic 126, 3) := by decide +kernel
theorem dX9_block_15 : decode cX9_block 15 = .ok (.ifCond .ne 5, 3) := by decide +kernel
theorem dX9_block_18 : decode cX9_block 18 = .ok (.iconst (-1), 1) := by decide +kernel
theorem dX9_block_19 : decode cX9_block 19 = .ok (.ireturn, 1) := by decide +kernel
theorem dX9_block_20 : decode cX9_block 20 = .ok (.aload_n 0, 1) := by decide +kernel
theorem dX9_block_21 : decode cX9_block 21 = .ok (.iconst 0, 1) := by decide +kernel
theorem dX9_block_22 : decode cX9_block 22 = .ok (.invokevirtual 249, 3) := by decide +kernel
theorem dX9_block_25 : decode cX9_block 25 = .ok (.iload_n 2, 1) := by decide +kernel
theorem dX9_block_26 : decode cX9_block 26 = .ok (.tableswitch 126 0 7 #[46, 61, 77, 84, 91, 91, 107, 107], 46) := by decide +kernel
theorem dX9_block_72 : decode cX9_block 72 = .ok (.aload_n 0, 1) := by decide +kernel
theorem dX9_block_73 : decode cX9_block 73 = .ok (.getfield 107, 3) := by decide +kernel
theorem dX9_block_76 : decode cX9_block 76 = .ok (.iload_n 1, 1) := by decide +kernel
theorem dX9_block_77 : decode cX9_block 77 = .ok (.baload, 1) := by decide +kernel
theorem dX9_block_78 : decode cX9_block 78 = .ok (.ifCond .eq 7, 3) := by decide +kernel
theorem dX9_block_81 : decode cX9_block 81 = .ok (.iconst 1, 1) := by decide +kernel
theorem dX9_block_82 : decode cX9_block 82 = .ok (.goto 4, 3) := by decide +kernel
theorem dX9_block_85 : decode cX9_block 85 = .ok (.iconst 0, 1) := by decide +kernel
theorem dX9_block_86 : decode cX9_block 86 = .ok (.ireturn, 1) := by decide +kernel
theorem dX9_block_87 : decode cX9_block 87 = .ok (.aload_n 0, 1) := by decide +kernel
theorem dX9_block_88 : decode cX9_block 88 = .ok (.getfield 37, 3) := by decide +kernel
theorem dX9_block_91 : decode cX9_block 91 = .ok (.iload_n 1, 1) := by decide +kernel
theorem dX9_block_92 : decode cX9_block 92 = .ok (.iconst 1, 1) := by decide +kernel
theorem dX9_block_93 : decode cX9_block 93 = .ok (.iadd, 1) := by decide +kernel
theorem dX9_block_94 : decode cX9_block 94 = .ok (.iaload, 1) := by decide +kernel
theorem dX9_block_95 : decode cX9_block 95 = .ok (.aload_n 0, 1) := by decide +kernel
theorem dX9_block_96 : decode cX9_block 96 = .ok (.getfield 37, 3) := by decide +kernel
theorem dX9_block_99 : decode cX9_block 99 = .ok (.iload_n 1, 1) := by decide +kernel
theorem dX9_block_100 : decode cX9_block 100 = .ok (.iaload, 1) := by decide +kernel
theorem dX9_block_101 : decode cX9_block 101 = .ok (.isub, 1) := by decide +kernel
theorem dX9_block_102 : decode cX9_block 102 = .ok (.ireturn, 1) := by decide +kernel
theorem dX9_block_103 : decode cX9_block 103 = .ok (.aload_n 0, 1) := by decide +kernel
theorem dX9_block_104 : decode cX9_block 104 = .ok (.getfield 40, 3) := by decide +kernel
theorem dX9_block_107 : decode cX9_block 107 = .ok (.iload_n 1, 1) := by decide +kernel
theorem dX9_block_108 : decode cX9_block 108 = .ok (.iaload, 1) := by decide +kernel
theorem dX9_block_109 : decode cX9_block 109 = .ok (.ireturn, 1) := by decide +kernel
theorem dX9_block_110 : decode cX9_block 110 = .ok (.aload_n 0, 1) := by decide +kernel
theorem dX9_block_111 : decode cX9_block 111 = .ok (.getfield 43, 3) := by decide +kernel
theorem dX9_block_114 : decode cX9_block 114 = .ok (.iload_n 1, 1) := by decide +kernel
theorem dX9_block_115 : decode cX9_block 115 = .ok (.iaload, 1) := by decide +kernel
theorem dX9_block_116 : decode cX9_block 116 = .ok (.ireturn, 1) := by decide +kernel
theorem dX9_block_117 : decode cX9_block 117 = .ok (.aload_n 0, 1) := by decide +kernel
theorem dX9_block_118 : decode cX9_block 118 = .ok (.getfield 49, 3) := by decide +kernel
theorem dX9_block_121 : decode cX9_block 121 = .ok (.bipush 96, 2) := by decide +kernel
theorem dX9_block_123 : decode cX9_block 123 = .ok (.iconst 2, 1) := by decide +kernel
theorem dX9_block_124 : decode cX9_block 124 = .ok (.iload_n 1, 1) := by decide +kernel
theorem dX9_block_125 : decode cX9_block 125 = .ok (.imul, 1) := by decide +kernel
theorem dX9_block_126 : decode cX9_block 126 = .ok (.iadd, 1) := by decide +kernel
theorem dX9_block_127 : decode cX9_block 127 = .ok (.iload_n 2, 1) := by decide +kernel
theorem dX9_block_128 : decode cX9_block 128 = .ok (.iadd, 1) := by decide +kernel
theorem dX9_block_129 : decode cX9_block 129 = .ok (.iconst 4, 1) := by decide +kernel
theorem dX9_block_130 : decode cX9_block 130 = .ok (.isub, 1) := by decide +kernel
theorem dX9_block_131 : decode cX9_block 131 = .ok (.iaload, 1) := by decide +kernel
theorem dX9_block_132 : decode cX9_block 132 = .ok (.ireturn, 1) := by decide +kernel
theorem dX9_block_133 : decode cX9_block 133 = .ok (.aload_n 0, 1) := by decide +kernel
theorem dX9_block_134 : decode cX9_block 134 = .ok (.iload_n 1, 1) := by decide +kernel
theorem dX9_block_135 : decode cX9_block 135 = .ok (.iload_n 2, 1) := by decide +kernel
theorem dX9_block_136 : decode cX9_block 136 = .ok (.bipush 6, 2) := by decide +kernel
theorem dX9_block_138 : decode cX9_block 138 = .ok (.isub, 1) := by decide +kernel
theorem dX9_block_139 : decode cX9_block 139 = .ok (.iconst 0, 1) := by decide +kernel
theorem dX9_block_140 : decode cX9_block 140 = .ok (.invokevirtual 222, 3) := by decide +kernel
theorem dX9_block_143 : decode cX9_block 143 = .ok (.ifCond .eq 7, 3) := by decide +kernel
theorem dX9_block_146 : decode cX9_block 146 = .ok (.iconst 1, 1) := by decide +kernel
theorem dX9_block_147 : decode cX9_block 147 = .ok (.goto 4, 3) := by decide +kernel
theorem dX9_block_150 : decode cX9_block 150 = .ok (.iconst 0, 1) := by decide +kernel
theorem dX9_block_151 : decode cX9_block 151 = .ok (.ireturn, 1) := by decide +kernel
theorem dX9_block_152 : decode cX9_block 152 = .ok (.aload_n 0, 1) := by decide +kernel
theorem dX9_block_153 : decode cX9_block 153 = .ok (.getfield 46, 3) := by decide +kernel
theorem dX9_block_156 : decode cX9_block 156 = .ok (.iload_n 1, 1) := by decide +kernel
theorem dX9_block_157 : decode cX9_block 157 = .ok (.iaload, 1) := by decide +kernel
theorem dX9_block_158 : decode cX9_block 158 = .ok (.ireturn, 1) := by decide +kernel
theorem dX9_notes_0 : decode cX9_notes 0 = .ok (.aload_n 0, 1) := by decide +kernel
theorem dX9_notes_1 : decode cX9_notes 1 = .ok (.getfield 216, 3) := by decide +kernel
theorem dX9_notes_4 : decode cX9_notes 4 = .ok (.bipush 10, 2) := by decide +kernel
theorem dX9_notes_6 : decode cX9_notes 6 = .ok (.if_icmp .ne 30, 3) := by decide +kernel
theorem dX9_notes_9 : decode cX9_notes 9 = .ok (.aload_n 0, 1) := by decide +kernel
theorem dX9_notes_10 : decode cX9_notes 10 = .ok (.getfield 52, 3) := by decide +kernel
theorem dX9_notes_13 : decode cX9_notes 13 = .ok (.bipush 112, 2) := by decide +kernel
theorem dX9_notes_15 : decode cX9_notes 15 = .ok (.aload_n 0, 1) := by decide +kernel
theorem dX9_notes_16 : decode cX9_notes 16 = .ok (.getfield 52, 3) := by decide +kernel
theorem dX9_notes_19 : decode cX9_notes 19 = .ok (.iconst 0, 1) := by decide +kernel
theorem dX9_notes_20 : decode cX9_notes 20 = .ok (.sipush 1008, 3) := by decide +kernel
theorem dX9_notes_23 : decode cX9_notes 23 = .ok (.invokestatic 212, 3) := by decide +kernel
theorem dX9_notes_26 : decode cX9_notes 26 = .ok (.aload_n 0, 1) := by decide +kernel
theorem dX9_notes_27 : decode cX9_notes 27 = .ok (.dup, 1) := by decide +kernel
theorem dX9_notes_28 : decode cX9_notes 28 = .ok (.getfield 216, 3) := by decide +kernel
theorem dX9_notes_31 : decode cX9_notes 31 = .ok (.iconst 1, 1) := by decide +kernel
theorem dX9_notes_32 : decode cX9_notes 32 = .ok (.isub, 1) := by decide +kernel
theorem dX9_notes_33 : decode cX9_notes 33 = .ok (.putfield 216, 3) := by decide +kernel
theorem dX9_notes_36 : decode cX9_notes 36 = .ok (.aload_n 0, 1) := by decide +kernel
theorem dX9_notes_37 : decode cX9_notes 37 = .ok (.getfield 49, 3) := by decide +kernel
theorem dX9_notes_40 : decode cX9_notes 40 = .ok (.iconst 0, 1) := by decide +kernel
theorem dX9_notes_41 : decode cX9_notes 41 = .ok (.aload_n 0, 1) := by decide +kernel
theorem dX9_notes_42 : decode cX9_notes 42 = .ok (.getfield 52, 3) := by decide +kernel
theorem dX9_notes_45 : decode cX9_notes 45 = .ok (.bipush 112, 2) := by decide +kernel
theorem dX9_notes_47 : decode cX9_notes 47 = .ok (.aload_n 0, 1) := by decide +kernel
theorem dX9_notes_48 : decode cX9_notes 48 = .ok (.getfield 216, 3) := by decide +kernel
theorem dX9_notes_51 : decode cX9_notes 51 = .ok (.imul, 1) := by decide +kernel
theorem dX9_notes_52 : decode cX9_notes 52 = .ok (.bipush 112, 2) := by decide +kernel
theorem dX9_notes_54 : decode cX9_notes 54 = .ok (.invokestatic 212, 3) := by decide +kernel
theorem dX9_notes_57 : decode cX9_notes 57 = .ok (.aload_n 0, 1) := by decide +kernel
theorem dX9_notes_58 : decode cX9_notes 58 = .ok (.dup, 1) := by decide +kernel
theorem dX9_notes_59 : decode cX9_notes 59 = .ok (.getfield 216, 3) := by decide +kernel
theorem dX9_notes_62 : decode cX9_notes 62 = .ok (.iconst 1, 1) := by decide +kernel
theorem dX9_notes_63 : decode cX9_notes 63 = .ok (.iadd, 1) := by decide +kernel
theorem dX9_notes_64 : decode cX9_notes 64 = .ok (.putfield 216, 3) := by decide +kernel
theorem dX9_notes_67 : decode cX9_notes 67 = .ok (.return_, 1) := by decide +kernel
theorem dX9_isMade_0 : decode cX9_isMade 0 = .ok (.aload_n 0, 1) := by decide +kernel
theorem dX9_isMade_1 : decode cX9_isMade 1 = .ok (.iload_n 1, 1) := by decide +kernel
theorem dX9_isMade_2 : decode cX9_isMade 2 = .ok (.invokevirtual 246, 3) := by decide +kernel
theorem dX9_isMade_5 : decode cX9_isMade 5 = .ok (.ifCond .eq 17, 3) := by decide +kernel
theorem dX9_isMade_8 : decode cX9_isMade 8 = .ok (.aload_n 0, 1) := by decide +kernel
theorem dX9_isMade_9 : decode cX9_isMade 9 = .ok (.getfield 13, 3) := by decide +kernel
theorem dX9_isMade_12 : decode cX9_isMade 12 = .ok (.iload_n 1, 1) := by decide +kernel
theorem dX9_isMade_13 : decode cX9_isMade 13 = .ok (.iaload, 1) := by decide +kernel
theorem dX9_isMade_14 : decode cX9_isMade 14 = .ok (.iload_n 2, 1) := by decide +kernel
theorem dX9_isMade_15 : decode cX9_isMade 15 = .ok (.if_icmp .ne 7, 3) := by decide +kernel
theorem dX9_isMade_18 : decode cX9_isMade 18 = .ok (.iconst 1, 1) := by decide +kernel
theorem dX9_isMade_19 : decode cX9_isMade 19 = .ok (.goto 4, 3) := by decide +kernel
theorem dX9_isMade_22 : decode cX9_isMade 22 = .ok (.iconst 0, 1) := by decide +kernel
theorem dX9_isMade_23 : decode cX9_isMade 23 = .ok (.ireturn, 1) := by decide +kernel
theorem dX9_knows_0 : decode cX9_knows 0 = .ok (.aload_n 0, 1) := by decide +kernel
theorem dX9_knows_1 : decode cX9_knows 1 = .ok (.iload_n 1, 1) := by decide +kernel
theorem dX9_knows_2 : decode cX9_knows 2 = .ok (.iconst 1, 1) := by decide +kernel
theorem dX9_knows_3 : decode cX9_knows 3 = .ok (.invokevirtual 260, 3) := by decide +kernel
theorem dX9_knows_6 : decode cX9_knows 6 = .ok (.ifCond .ne 5, 3) := by decide +kernel
theorem dX9_knows_9 : decode cX9_knows 9 = .ok (.iconst (-1), 1) := by decide +kernel
theorem dX9_knows_10 : decode cX9_knows 10 = .ok (.ireturn, 1) := by decide +kernel
theorem dX9_knows_11 : decode cX9_knows 11 = .ok (.aload_n 0, 1) := by decide +kernel
theorem dX9_knows_12 : decode cX9_knows 12 = .ok (.invokevirtual 263, 3) := by decide +kernel
theorem dX9_knows_15 : decode cX9_knows 15 = .ok (.aload_n 0, 1) := by decide +kernel
theorem dX9_knows_16 : decode cX9_knows 16 = .ok (.getfield 49, 3) := by decide +kernel
theorem dX9_knows_19 : decode cX9_knows 19 = .ok (.iconst 0, 1) := by decide +kernel
theorem dX9_knows_20 : decode cX9_knows 20 = .ok (.iload_n 1, 1) := by decide +kernel
theorem dX9_knows_21 : decode cX9_knows 21 = .ok (.iadd, 1) := by decide +kernel
theorem dX9_knows_22 : decode cX9_knows 22 = .ok (.iconst 1, 1) := by decide +kernel
theorem dX9_knows_23 : decode cX9_knows 23 = .ok (.iastore, 1) := by decide +kernel
theorem dX9_knows_24 : decode cX9_knows 24 = .ok (.aload_n 0, 1) := by decide +kernel
theorem dX9_knows_25 : decode cX9_knows 25 = .ok (.getfield 49, 3) := by decide +kernel
theorem dX9_knows_28 : decode cX9_knows 28 = .ok (.bipush 24, 2) := by decide +kernel
theorem dX9_knows_30 : decode cX9_knows 30 = .ok (.iload_n 1, 1) := by decide +kernel
theorem dX9_knows_31 : decode cX9_knows 31 = .ok (.iadd, 1) := by decide +kernel
theorem dX9_knows_32 : decode cX9_knows 32 = .ok (.iload_n 2, 1) := by decide +kernel
theorem dX9_knows_33 : decode cX9_knows 33 = .ok (.iastore, 1) := by decide +kernel
theorem dX9_knows_34 : decode cX9_knows 34 = .ok (.aload_n 0, 1) := by decide +kernel
theorem dX9_knows_35 : decode cX9_knows 35 = .ok (.iconst 0, 1) := by decide +kernel
theorem dX9_knows_36 : decode cX9_knows 36 = .ok (.invokevirtual 249, 3) := by decide +kernel
theorem dX9_knows_39 : decode cX9_knows 39 = .ok (.aload_n 0, 1) := by decide +kernel
theorem dX9_knows_40 : decode cX9_knows 40 = .ok (.iconst 1, 1) := by decide +kernel
theorem dX9_knows_41 : decode cX9_knows 41 = .ok (.invokevirtual 266, 3) := by decide +kernel
theorem dX9_knows_44 : decode cX9_knows 44 = .ok (.ireturn, 1) := by decide +kernel
theorem dX9_forgets_0 : decode cX9_forgets 0 = .ok (.aload_n 0, 1) := by decide +kernel
theorem dX9_forgets_1 : decode cX9_forgets 1 = .ok (.iload_n 1, 1) := by decide +kernel
theorem dX9_forgets_2 : decode cX9_forgets 2 = .ok (.iconst 1, 1) := by decide +kernel
theorem dX9_forgets_3 : decode cX9_forgets 3 = .ok (.invokevirtual 260, 3) := by decide +kernel
theorem dX9_forgets_6 : decode cX9_forgets 6 = .ok (.ifCond .ne 5, 3) := by decide +kernel
theorem dX9_forgets_9 : decode cX9_forgets 9 = .ok (.iconst (-1), 1) := by decide +kernel
theorem dX9_forgets_10 : decode cX9_forgets 10 = .ok (.ireturn, 1) := by decide +kernel
theorem dX9_forgets_11 : decode cX9_forgets 11 = .ok (.aload_n 0, 1) := by decide +kernel
theorem dX9_forgets_12 : decode cX9_forgets 12 = .ok (.getfield 49, 3) := by decide +kernel
theorem dX9_forgets_15 : decode cX9_forgets 15 = .ok (.iconst 0, 1) := by decide +kernel
theorem dX9_forgets_16 : decode cX9_forgets 16 = .ok (.iload_n 1, 1) := by decide +kernel
theorem dX9_forgets_17 : decode cX9_forgets 17 = .ok (.iadd, 1) := by decide +kernel
theorem dX9_forgets_18 : decode cX9_forgets 18 = .ok (.iaload, 1) := by decide +kernel
theorem dX9_forgets_19 : decode cX9_forgets 19 = .ok (.ifCond .ne 6, 3) := by decide +kernel
theorem dX9_forgets_22 : decode cX9_forgets 22 = .ok (.bipush (-2), 2) := by decide +kernel
theorem dX9_forgets_24 : decode cX9_forgets 24 = .ok (.ireturn, 1) := by decide +kernel
theorem dX9_forgets_25 : decode cX9_forgets 25 = .ok (.aload_n 0, 1) := by decide +kernel
theorem dX9_forgets_26 : decode cX9_forgets 26 = .ok (.invokevirtual 263, 3) := by decide +kernel
theorem dX9_forgets_29 : decode cX9_forgets 29 = .ok (.aload_n 0, 1) := by decide +kernel
theorem dX9_forgets_30 : decode cX9_forgets 30 = .ok (.getfield 49, 3) := by decide +kernel
theorem dX9_forgets_33 : decode cX9_forgets 33 = .ok (.iconst 0, 1) := by decide +kernel
theorem dX9_forgets_34 : decode cX9_forgets 34 = .ok (.iload_n 1, 1) := by decide +kernel
theorem dX9_forgets_35 : decode cX9_forgets 35 = .ok (.iadd, 1) := by decide +kernel
theorem dX9_forgets_36 : decode cX9_forgets 36 = .ok (.iconst 0, 1) := by decide +kernel
theorem dX9_forgets_37 : decode cX9_forgets 37 = .ok (.iastore, 1) := by decide +kernel
theorem dX9_forgets_38 : decode cX9_forgets 38 = .ok (.aload_n 0, 1) := by decide +kernel
theorem dX9_forgets_39 : decode cX9_forgets 39 = .ok (.iconst 0, 1) := by decide +kernel
theorem dX9_forgets_40 : decode cX9_forgets 40 = .ok (.invokevirtual 249, 3) := by decide +kernel
theorem dX9_forgets_43 : decode cX9_forgets 43 = .ok (.aload_n 0, 1) := by decide +kernel
theorem dX9_forgets_44 : decode cX9_forgets 44 = .ok (.iconst 1, 1) := by decide +kernel
theorem dX9_forgets_45 : decode cX9_forgets 45 = .ok (.invokevirtual 266, 3) := by decide +kernel
theorem dX9_forgets_48 : decode cX9_forgets 48 = .ok (.ireturn, 1) := by decide +kernel
theorem dX9_gives_0 : decode cX9_gives 0 = .ok (.aload_n 0, 1) := by decide +kernel
theorem dX9_gives_1 : decode cX9_gives 1 = .ok (.iload_n 1, 1) := by decide +kernel
theorem dX9_gives_2 : decode cX9_gives 2 = .ok (.iconst 1, 1) := by decide +kernel
theorem dX9_gives_3 : decode cX9_gives 3 = .ok (.invokevirtual 260, 3) := by decide +kernel
theorem dX9_gives_6 : decode cX9_gives 6 = .ok (.ifCond .ne 5, 3) := by decide +kernel
theorem dX9_gives_9 : decode cX9_gives 9 = .ok (.iconst (-1), 1) := by decide +kernel
theorem dX9_gives_10 : decode cX9_gives 10 = .ok (.ireturn, 1) := by decide +kernel
theorem dX9_gives_11 : decode cX9_gives 11 = .ok (.aload_n 0, 1) := by decide +kernel
theorem dX9_gives_12 : decode cX9_gives 12 = .ok (.invokevirtual 263, 3) := by decide +kernel
theorem dX9_gives_15 : decode cX9_gives 15 = .ok (.aload_n 0, 1) := by decide +kernel
theorem dX9_gives_16 : decode cX9_gives 16 = .ok (.getfield 49, 3) := by decide +kernel
theorem dX9_gives_19 : decode cX9_gives 19 = .ok (.bipush 48, 2) := by decide +kernel
theorem dX9_gives_21 : decode cX9_gives 21 = .ok (.iload_n 1, 1) := by decide +kernel
theorem dX9_gives_22 : decode cX9_gives 22 = .ok (.iadd, 1) := by decide +kernel
theorem dX9_gives_23 : decode cX9_gives 23 = .ok (.iaload, 1) := by decide +kernel
theorem dX9_gives_24 : decode cX9_gives 24 = .ok (.istore_n 3, 1) := by decide +kernel
theorem dX9_gives_25 : decode cX9_gives 25 = .ok (.aload_n 0, 1) := by decide +kernel
theorem dX9_gives_26 : decode cX9_gives 26 = .ok (.getfield 49, 3) := by decide +kernel
theorem dX9_gives_29 : decode cX9_gives 29 = .ok (.bipush 48, 2) := by decide +kernel
theorem dX9_gives_31 : decode cX9_gives 31 = .ok (.iload_n 1, 1) := by decide +kernel
theorem dX9_gives_32 : decode cX9_gives 32 = .ok (.iadd, 1) := by decide +kernel
theorem dX9_gives_33 : decode cX9_gives 33 = .ok (.iload_n 2, 1) := by decide +kernel
theorem dX9_gives_34 : decode cX9_gives 34 = .ok (.iastore, 1) := by decide +kernel
theorem dX9_gives_35 : decode cX9_gives 35 = .ok (.aload_n 0, 1) := by decide +kernel
theorem dX9_gives_36 : decode cX9_gives 36 = .ok (.iload_n 3, 1) := by decide +kernel
theorem dX9_gives_37 : decode cX9_gives 37 = .ok (.iconst 1, 1) := by decide +kernel
theorem dX9_gives_38 : decode cX9_gives 38 = .ok (.invokevirtual 253, 3) := by decide +kernel
theorem dX9_gives_41 : decode cX9_gives 41 = .ok (.ireturn, 1) := by decide +kernel
theorem dX9_patches_0 : decode cX9_patches 0 = .ok (.aload_n 0, 1) := by decide +kernel
theorem dX9_patches_1 : decode cX9_patches 1 = .ok (.iload_n 1, 1) := by decide +kernel
theorem dX9_patches_2 : decode cX9_patches 2 = .ok (.iconst 0, 1) := by decide +kernel
theorem dX9_patches_3 : decode cX9_patches 3 = .ok (.invokevirtual 260, 3) := by decide +kernel
theorem dX9_patches_6 : decode cX9_patches 6 = .ok (.ifCond .eq 14, 3) := by decide +kernel
theorem dX9_patches_9 : decode cX9_patches 9 = .ok (.iload_n 2, 1) := by decide +kernel
theorem dX9_patches_10 : decode cX9_patches 10 = .ok (.iconst 0, 1) := by decide +kernel
theorem dX9_patches_11 : decode cX9_patches 11 = .ok (.sipush 999, 3) := by decide +kernel
theorem dX9_patches_14 : decode cX9_patches 14 = .ok (.invokestatic 126, 3) := by decide +kernel
theorem dX9_patches_17 : decode cX9_patches 17 = .ok (.ifCond .ne 5, 3) := by decide +kernel
theorem dX9_patches_20 : decode cX9_patches 20 = .ok (.iconst (-1), 1) := by decide +kernel
theorem dX9_patches_21 : decode cX9_patches 21 = .ok (.ireturn, 1) := by decide +kernel
theorem dX9_patches_22 : decode cX9_patches 22 = .ok (.aload_n 0, 1) := by decide +kernel
theorem dX9_patches_23 : decode cX9_patches 23 = .ok (.getfield 49, 3) := by decide +kernel
theorem dX9_patches_26 : decode cX9_patches 26 = .ok (.bipush 72, 2) := by decide +kernel
theorem dX9_patches_28 : decode cX9_patches 28 = .ok (.iload_n 1, 1) := by decide +kernel
theorem dX9_patches_29 : decode cX9_patches 29 = .ok (.iadd, 1) := by decide +kernel
theorem dX9_patches_30 : decode cX9_patches 30 = .ok (.iaload, 1) := by decide +kernel
theorem dX9_patches_31 : decode cX9_patches 31 = .ok (.istore_n 3, 1) := by decide +kernel
theorem dX9_patches_32 : decode cX9_patches 32 = .ok (.iload_n 3, 1) := by decide +kernel
theorem dX9_patches_33 : decode cX9_patches 33 = .ok (.iload_n 2, 1) := by decide +kernel
theorem dX9_patches_34 : decode cX9_patches 34 = .ok (.if_icmp .ne 6, 3) := by decide +kernel
theorem dX9_patches_37 : decode cX9_patches 37 = .ok (.bipush (-2), 2) := by decide +kernel
theorem dX9_patches_39 : decode cX9_patches 39 = .ok (.ireturn, 1) := by decide +kernel
theorem dX9_patches_40 : decode cX9_patches 40 = .ok (.aload_n 0, 1) := by decide +kernel
theorem dX9_patches_41 : decode cX9_patches 41 = .ok (.invokevirtual 263, 3) := by decide +kernel
theorem dX9_patches_44 : decode cX9_patches 44 = .ok (.aload_n 0, 1) := by decide +kernel
theorem dX9_patches_45 : decode cX9_patches 45 = .ok (.getfield 49, 3) := by decide +kernel
theorem dX9_patches_48 : decode cX9_patches 48 = .ok (.bipush 72, 2) := by decide +kernel
theorem dX9_patches_50 : decode cX9_patches 50 = .ok (.iload_n 1, 1) := by decide +kernel
theorem dX9_patches_51 : decode cX9_patches 51 = .ok (.iadd, 1) := by decide +kernel
theorem dX9_patches_52 : decode cX9_patches 52 = .ok (.iload_n 2, 1) := by decide +kernel
theorem dX9_patches_53 : decode cX9_patches 53 = .ok (.iastore, 1) := by decide +kernel
theorem dX9_patches_54 : decode cX9_patches 54 = .ok (.iload_n 3, 1) := by decide +kernel
theorem dX9_patches_55 : decode cX9_patches 55 = .ok (.ireturn, 1) := by decide +kernel
theorem dX9_turned_0 : decode cX9_turned 0 = .ok (.aload_n 0, 1) := by decide +kernel
theorem dX9_turned_1 : decode cX9_turned 1 = .ok (.iload_n 1, 1) := by decide +kernel
theorem dX9_turned_2 : decode cX9_turned 2 = .ok (.invokevirtual 257, 3) := by decide +kernel
theorem dX9_turned_5 : decode cX9_turned 5 = .ok (.ifCond .ne 5, 3) := by decide +kernel
theorem dX9_turned_8 : decode cX9_turned 8 = .ok (.iconst (-1), 1) := by decide +kernel
theorem dX9_turned_9 : decode cX9_turned 9 = .ok (.ireturn, 1) := by decide +kernel
theorem dX9_turned_10 : decode cX9_turned 10 = .ok (.aload_n 0, 1) := by decide +kernel
theorem dX9_turned_11 : decode cX9_turned 11 = .ok (.getfield 40, 3) := by decide +kernel
theorem dX9_turned_14 : decode cX9_turned 14 = .ok (.iload_n 1, 1) := by decide +kernel
theorem dX9_turned_15 : decode cX9_turned 15 = .ok (.iaload, 1) := by decide +kernel
theorem dX9_turned_16 : decode cX9_turned 16 = .ok (.iconst 1, 1) := by decide +kernel
theorem dX9_turned_17 : decode cX9_turned 17 = .ok (.if_icmp .eq 6, 3) := by decide +kernel
theorem dX9_turned_20 : decode cX9_turned 20 = .ok (.bipush (-2), 2) := by decide +kernel
theorem dX9_turned_22 : decode cX9_turned 22 = .ok (.ireturn, 1) := by decide +kernel
theorem dX9_turned_23 : decode cX9_turned 23 = .ok (.aload_n 0, 1) := by decide +kernel
theorem dX9_turned_24 : decode cX9_turned 24 = .ok (.invokevirtual 263, 3) := by decide +kernel
theorem dX9_turned_27 : decode cX9_turned 27 = .ok (.aload_n 0, 1) := by decide +kernel
theorem dX9_turned_28 : decode cX9_turned 28 = .ok (.getfield 49, 3) := by decide +kernel
theorem dX9_turned_31 : decode cX9_turned 31 = .ok (.bipush 96, 2) := by decide +kernel
theorem dX9_turned_33 : decode cX9_turned 33 = .ok (.iconst 2, 1) := by decide +kernel
theorem dX9_turned_34 : decode cX9_turned 34 = .ok (.iload_n 1, 1) := by decide +kernel
theorem dX9_turned_35 : decode cX9_turned 35 = .ok (.imul, 1) := by decide +kernel
theorem dX9_turned_36 : decode cX9_turned 36 = .ok (.iadd, 1) := by decide +kernel
theorem dX9_turned_37 : decode cX9_turned 37 = .ok (.iaload, 1) := by decide +kernel
theorem dX9_turned_38 : decode cX9_turned 38 = .ok (.istore_n 2, 1) := by decide +kernel
theorem dX9_turned_39 : decode cX9_turned 39 = .ok (.aload_n 0, 1) := by decide +kernel
theorem dX9_turned_40 : decode cX9_turned 40 = .ok (.getfield 49, 3) := by decide +kernel
theorem dX9_turned_43 : decode cX9_turned 43 = .ok (.bipush 96, 2) := by decide +kernel
theorem dX9_turned_45 : decode cX9_turned 45 = .ok (.iconst 2, 1) := by decide +kernel
theorem dX9_turned_46 : decode cX9_turned 46 = .ok (.iload_n 1, 1) := by decide +kernel
theorem dX9_turned_47 : decode cX9_turned 47 = .ok (.imul, 1) := by decide +kernel
theorem dX9_turned_48 : decode cX9_turned 48 = .ok (.iadd, 1) := by decide +kernel
theorem dX9_turned_49 : decode cX9_turned 49 = .ok (.aload_n 0, 1) := by decide +kernel
theorem dX9_turned_50 : decode cX9_turned 50 = .ok (.getfield 49, 3) := by decide +kernel
theorem dX9_turned_53 : decode cX9_turned 53 = .ok (.bipush 96, 2) := by decide +kernel
theorem dX9_turned_55 : decode cX9_turned 55 = .ok (.iconst 2, 1) := by decide +kernel
theorem dX9_turned_56 : decode cX9_turned 56 = .ok (.iload_n 1, 1) := by decide +kernel
theorem dX9_turned_57 : decode cX9_turned 57 = .ok (.imul, 1) := by decide +kernel
theorem dX9_turned_58 : decode cX9_turned 58 = .ok (.iadd, 1) := by decide +kernel
theorem dX9_turned_59 : decode cX9_turned 59 = .ok (.iconst 1, 1) := by decide +kernel
theorem dX9_turned_60 : decode cX9_turned 60 = .ok (.iadd, 1) := by decide +kernel
theorem dX9_turned_61 : decode cX9_turned 61 = .ok (.iaload, 1) := by decide +kernel
theorem dX9_turned_62 : decode cX9_turned 62 = .ok (.iastore, 1) := by decide +kernel
theorem dX9_turned_63 : decode cX9_turned 63 = .ok (.aload_n 0, 1) := by decide +kernel
theorem dX9_turned_64 : decode cX9_turned 64 = .ok (.getfield 49, 3) := by decide +kernel
theorem dX9_turned_67 : decode cX9_turned 67 = .ok (.bipush 96, 2) := by decide +kernel
theorem dX9_turned_69 : decode cX9_turned 69 = .ok (.iconst 2, 1) := by decide +kernel
theorem dX9_turned_70 : decode cX9_turned 70 = .ok (.iload_n 1, 1) := by decide +kernel
theorem dX9_turned_71 : decode cX9_turned 71 = .ok (.imul, 1) := by decide +kernel
theorem dX9_turned_72 : decode cX9_turned 72 = .ok (.iadd, 1) := by decide +kernel
theorem dX9_turned_73 : decode cX9_turned 73 = .ok (.iconst 1, 1) := by decide +kernel
theorem dX9_turned_74 : decode cX9_turned 74 = .ok (.iadd, 1) := by decide +kernel
theorem dX9_turned_75 : decode cX9_turned 75 = .ok (.iload_n 2, 1) := by decide +kernel
theorem dX9_turned_76 : decode cX9_turned 76 = .ok (.iastore, 1) := by decide +kernel
theorem dX9_turned_77 : decode cX9_turned 77 = .ok (.aload_n 0, 1) := by decide +kernel
theorem dX9_turned_78 : decode cX9_turned 78 = .ok (.iconst 0, 1) := by decide +kernel
theorem dX9_turned_79 : decode cX9_turned 79 = .ok (.invokevirtual 249, 3) := by decide +kernel
theorem dX9_turned_82 : decode cX9_turned 82 = .ok (.aload_n 0, 1) := by decide +kernel
theorem dX9_turned_83 : decode cX9_turned 83 = .ok (.invokevirtual 269, 3) := by decide +kernel
theorem dX9_turned_86 : decode cX9_turned 86 = .ok (.ireturn, 1) := by decide +kernel
theorem dX9_undo_0 : decode cX9_undo 0 = .ok (.aload_n 0, 1) := by decide +kernel
theorem dX9_undo_1 : decode cX9_undo 1 = .ok (.getfield 216, 3) := by decide +kernel
theorem dX9_undo_4 : decode cX9_undo 4 = .ok (.ifCond .ne 6, 3) := by decide +kernel
theorem dX9_undo_7 : decode cX9_undo 7 = .ok (.bipush (-2), 2) := by decide +kernel
theorem dX9_undo_9 : decode cX9_undo 9 = .ok (.ireturn, 1) := by decide +kernel
theorem dX9_undo_10 : decode cX9_undo 10 = .ok (.aload_n 0, 1) := by decide +kernel
theorem dX9_undo_11 : decode cX9_undo 11 = .ok (.dup, 1) := by decide +kernel
theorem dX9_undo_12 : decode cX9_undo 12 = .ok (.getfield 216, 3) := by decide +kernel
theorem dX9_undo_15 : decode cX9_undo 15 = .ok (.iconst 1, 1) := by decide +kernel
theorem dX9_undo_16 : decode cX9_undo 16 = .ok (.isub, 1) := by decide +kernel
theorem dX9_undo_17 : decode cX9_undo 17 = .ok (.putfield 216, 3) := by decide +kernel
theorem dX9_undo_20 : decode cX9_undo 20 = .ok (.aload_n 0, 1) := by decide +kernel
theorem dX9_undo_21 : decode cX9_undo 21 = .ok (.getfield 52, 3) := by decide +kernel
theorem dX9_undo_24 : decode cX9_undo 24 = .ok (.bipush 112, 2) := by decide +kernel
theorem dX9_undo_26 : decode cX9_undo 26 = .ok (.aload_n 0, 1) := by decide +kernel
theorem dX9_undo_27 : decode cX9_undo 27 = .ok (.getfield 216, 3) := by decide +kernel
theorem dX9_undo_30 : decode cX9_undo 30 = .ok (.imul, 1) := by decide +kernel
theorem dX9_undo_31 : decode cX9_undo 31 = .ok (.aload_n 0, 1) := by decide +kernel
theorem dX9_undo_32 : decode cX9_undo 32 = .ok (.getfield 49, 3) := by decide +kernel
theorem dX9_undo_35 : decode cX9_undo 35 = .ok (.iconst 0, 1) := by decide +kernel
theorem dX9_undo_36 : decode cX9_undo 36 = .ok (.bipush 112, 2) := by decide +kernel
theorem dX9_undo_38 : decode cX9_undo 38 = .ok (.invokestatic 212, 3) := by decide +kernel
theorem dX9_undo_41 : decode cX9_undo 41 = .ok (.aload_n 0, 1) := by decide +kernel
theorem dX9_undo_42 : decode cX9_undo 42 = .ok (.getfield 216, 3) := by decide +kernel
theorem dX9_undo_45 : decode cX9_undo 45 = .ok (.ireturn, 1) := by decide +kernel
theorem dX9_takes_0 : decode cX9_takes 0 = .ok (.aload_n 0, 1) := by decide +kernel
theorem dX9_takes_1 : decode cX9_takes 1 = .ok (.getfield 37, 3) := by decide +kernel
theorem dX9_takes_4 : decode cX9_takes 4 = .ok (.iload_n 1, 1) := by decide +kernel
theorem dX9_takes_5 : decode cX9_takes 5 = .ok (.iaload, 1) := by decide +kernel
theorem dX9_takes_6 : decode cX9_takes 6 = .ok (.istore_n 3, 1) := by decide +kernel
theorem dX9_takes_7 : decode cX9_takes 7 = .ok (.iload_n 3, 1) := by decide +kernel
theorem dX9_takes_8 : decode cX9_takes 8 = .ok (.aload_n 0, 1) := by decide +kernel
theorem dX9_takes_9 : decode cX9_takes 9 = .ok (.getfield 37, 3) := by decide +kernel
theorem dX9_takes_12 : decode cX9_takes 12 = .ok (.iload_n 1, 1) := by decide +kernel
theorem dX9_takes_13 : decode cX9_takes 13 = .ok (.iconst 1, 1) := by decide +kernel
theorem dX9_takes_14 : decode cX9_takes 14 = .ok (.iadd, 1) := by decide +kernel
theorem dX9_takes_15 : decode cX9_takes 15 = .ok (.iaload, 1) := by decide +kernel
theorem dX9_takes_16 : decode cX9_takes 16 = .ok (.if_icmp .ge 66, 3) := by decide +kernel
theorem dX9_takes_19 : decode cX9_takes 19 = .ok (.iconst 0, 1) := by decide +kernel
theorem dX9_takes_20 : decode cX9_takes 20 = .ok (.istore 4, 2) := by decide +kernel
theorem dX9_takes_22 : decode cX9_takes 22 = .ok (.iload 4, 2) := by decide +kernel
theorem dX9_takes_24 : decode cX9_takes 24 = .ok (.aload_n 0, 1) := by decide +kernel
theorem dX9_takes_25 : decode cX9_takes 25 = .ok (.getfield 28, 3) := by decide +kernel
end
section
theorem dX9_takes_28 : decode cX9_takes 28 = .ok (.iload_n 3, 1) := by decide +kernel
theorem dX9_takes_29 : decode cX9_takes 29 = .ok (.iaload, 1) := by decide +kernel
theorem dX9_takes_30 : decode cX9_takes 30 = .ok (.if_icmp .ge 46, 3) := by decide +kernel
theorem dX9_takes_33 : decode cX9_takes 33 = .ok (.aload_n 0, 1) := by decide +kernel
theorem dX9_takes_34 : decode cX9_takes 34 = .ok (.getfield 31, 3) := by decide +kernel
theorem dX9_takes_37 : decode cX9_takes 37 = .ok (.iconst 3, 1) := by decide +kernel
theorem dX9_takes_38 : decode cX9_takes 38 = .ok (.iload_n 3, 1) := by decide +kernel
theorem dX9_takes_39 : decode cX9_takes 39 = .ok (.imul, 1) := by decide +kernel
theorem dX9_takes_40 : decode cX9_takes 40 = .ok (.iload 4, 2) := by decide +kernel
theorem dX9_takes_42 : decode cX9_takes 42 = .ok (.iadd, 1) := by decide +kernel
theorem dX9_takes_43 : decode cX9_takes 43 = .ok (.iaload, 1) := by decide +kernel
theorem dX9_takes_44 : decode cX9_takes 44 = .ok (.iload_n 2, 1) := by decide +kernel
theorem dX9_takes_45 : decode cX9_takes 45 = .ok (.if_icmp .ne 25, 3) := by decide +kernel
theorem dX9_takes_48 : decode cX9_takes 48 = .ok (.aload_n 0, 1) := by decide +kernel
theorem dX9_takes_49 : decode cX9_takes 49 = .ok (.getfield 116, 3) := by decide +kernel
theorem dX9_takes_52 : decode cX9_takes 52 = .ok (.iload_n 3, 1) := by decide +kernel
theorem dX9_takes_53 : decode cX9_takes 53 = .ok (.aload_n 0, 1) := by decide +kernel
theorem dX9_takes_54 : decode cX9_takes 54 = .ok (.getfield 113, 3) := by decide +kernel
theorem dX9_takes_57 : decode cX9_takes 57 = .ok (.aload_n 0, 1) := by decide +kernel
theorem dX9_takes_58 : decode cX9_takes 58 = .ok (.getfield 34, 3) := by decide +kernel
theorem dX9_takes_61 : decode cX9_takes 61 = .ok (.iconst 3, 1) := by decide +kernel
theorem dX9_takes_62 : decode cX9_takes 62 = .ok (.iload_n 3, 1) := by decide +kernel
theorem dX9_takes_63 : decode cX9_takes 63 = .ok (.imul, 1) := by decide +kernel
theorem dX9_takes_64 : decode cX9_takes 64 = .ok (.iload 4, 2) := by decide +kernel
theorem dX9_takes_66 : decode cX9_takes 66 = .ok (.iadd, 1) := by decide +kernel
theorem dX9_takes_67 : decode cX9_takes 67 = .ok (.iaload, 1) := by decide +kernel
theorem dX9_takes_68 : decode cX9_takes 68 = .ok (.iaload, 1) := by decide +kernel
theorem dX9_takes_69 : decode cX9_takes 69 = .ok (.iastore, 1) := by decide +kernel
theorem dX9_takes_70 : decode cX9_takes 70 = .ok (.iinc 4 1, 3) := by decide +kernel
theorem dX9_takes_73 : decode cX9_takes 73 = .ok (.goto (-51), 3) := by decide +kernel
theorem dX9_takes_76 : decode cX9_takes 76 = .ok (.iinc 3 1, 3) := by decide +kernel
theorem dX9_takes_79 : decode cX9_takes 79 = .ok (.goto (-72), 3) := by decide +kernel
theorem dX9_takes_82 : decode cX9_takes 82 = .ok (.aload_n 0, 1) := by decide +kernel
theorem dX9_takes_83 : decode cX9_takes 83 = .ok (.getfield 37, 3) := by decide +kernel
theorem dX9_takes_86 : decode cX9_takes 86 = .ok (.iload_n 1, 1) := by decide +kernel
theorem dX9_takes_87 : decode cX9_takes 87 = .ok (.iaload, 1) := by decide +kernel
theorem dX9_takes_88 : decode cX9_takes 88 = .ok (.istore_n 3, 1) := by decide +kernel
theorem dX9_takes_89 : decode cX9_takes 89 = .ok (.iload_n 3, 1) := by decide +kernel
theorem dX9_takes_90 : decode cX9_takes 90 = .ok (.aload_n 0, 1) := by decide +kernel
theorem dX9_takes_91 : decode cX9_takes 91 = .ok (.getfield 37, 3) := by decide +kernel
theorem dX9_takes_94 : decode cX9_takes 94 = .ok (.iload_n 1, 1) := by decide +kernel
theorem dX9_takes_95 : decode cX9_takes 95 = .ok (.iconst 1, 1) := by decide +kernel
theorem dX9_takes_96 : decode cX9_takes 96 = .ok (.iadd, 1) := by decide +kernel
theorem dX9_takes_97 : decode cX9_takes 97 = .ok (.iaload, 1) := by decide +kernel
theorem dX9_takes_98 : decode cX9_takes 98 = .ok (.if_icmp .ge 40, 3) := by decide +kernel
theorem dX9_takes_101 : decode cX9_takes 101 = .ok (.aload_n 0, 1) := by decide +kernel
theorem dX9_takes_102 : decode cX9_takes 102 = .ok (.getfield 113, 3) := by decide +kernel
theorem dX9_takes_105 : decode cX9_takes 105 = .ok (.iload_n 3, 1) := by decide +kernel
theorem dX9_takes_106 : decode cX9_takes 106 = .ok (.aload_n 0, 1) := by decide +kernel
theorem dX9_takes_107 : decode cX9_takes 107 = .ok (.getfield 13, 3) := by decide +kernel
theorem dX9_takes_110 : decode cX9_takes 110 = .ok (.iload_n 3, 1) := by decide +kernel
theorem dX9_takes_111 : decode cX9_takes 111 = .ok (.iaload, 1) := by decide +kernel
theorem dX9_takes_112 : decode cX9_takes 112 = .ok (.iconst 3, 1) := by decide +kernel
theorem dX9_takes_113 : decode cX9_takes 113 = .ok (.if_icmp .ne 12, 3) := by decide +kernel
theorem dX9_takes_116 : decode cX9_takes 116 = .ok (.aload_n 0, 1) := by decide +kernel
theorem dX9_takes_117 : decode cX9_takes 117 = .ok (.getfield 116, 3) := by decide +kernel
theorem dX9_takes_120 : decode cX9_takes 120 = .ok (.iload_n 3, 1) := by decide +kernel
theorem dX9_takes_121 : decode cX9_takes 121 = .ok (.iaload, 1) := by decide +kernel
theorem dX9_takes_122 : decode cX9_takes 122 = .ok (.goto 9, 3) := by decide +kernel
theorem dX9_takes_125 : decode cX9_takes 125 = .ok (.aload_n 0, 1) := by decide +kernel
theorem dX9_takes_126 : decode cX9_takes 126 = .ok (.getfield 113, 3) := by decide +kernel
theorem dX9_takes_129 : decode cX9_takes 129 = .ok (.iload_n 3, 1) := by decide +kernel
theorem dX9_takes_130 : decode cX9_takes 130 = .ok (.iaload, 1) := by decide +kernel
theorem dX9_takes_131 : decode cX9_takes 131 = .ok (.iastore, 1) := by decide +kernel
theorem dX9_takes_132 : decode cX9_takes 132 = .ok (.iinc 3 1, 3) := by decide +kernel
theorem dX9_takes_135 : decode cX9_takes 135 = .ok (.goto (-46), 3) := by decide +kernel
theorem dX9_takes_138 : decode cX9_takes 138 = .ok (.return_, 1) := by decide +kernel
theorem dX9_makes_0 : decode cX9_makes 0 = .ok (.aload_n 0, 1) := by decide +kernel
theorem dX9_makes_1 : decode cX9_makes 1 = .ok (.getfield 37, 3) := by decide +kernel
theorem dX9_makes_4 : decode cX9_makes 4 = .ok (.iload_n 1, 1) := by decide +kernel
theorem dX9_makes_5 : decode cX9_makes 5 = .ok (.iaload, 1) := by decide +kernel
theorem dX9_makes_6 : decode cX9_makes 6 = .ok (.istore_n 2, 1) := by decide +kernel
theorem dX9_makes_7 : decode cX9_makes 7 = .ok (.iload_n 2, 1) := by decide +kernel
theorem dX9_makes_8 : decode cX9_makes 8 = .ok (.aload_n 0, 1) := by decide +kernel
theorem dX9_makes_9 : decode cX9_makes 9 = .ok (.getfield 37, 3) := by decide +kernel
theorem dX9_makes_12 : decode cX9_makes 12 = .ok (.iload_n 1, 1) := by decide +kernel
theorem dX9_makes_13 : decode cX9_makes 13 = .ok (.iconst 1, 1) := by decide +kernel
theorem dX9_makes_14 : decode cX9_makes 14 = .ok (.iadd, 1) := by decide +kernel
theorem dX9_makes_15 : decode cX9_makes 15 = .ok (.iaload, 1) := by decide +kernel
theorem dX9_makes_16 : decode cX9_makes 16 = .ok (.if_icmp .ge 147, 3) := by decide +kernel
theorem dX9_makes_19 : decode cX9_makes 19 = .ok (.aload_n 0, 1) := by decide +kernel
theorem dX9_makes_20 : decode cX9_makes 20 = .ok (.getfield 13, 3) := by decide +kernel
theorem dX9_makes_23 : decode cX9_makes 23 = .ok (.iload_n 2, 1) := by decide +kernel
theorem dX9_makes_24 : decode cX9_makes 24 = .ok (.iaload, 1) := by decide +kernel
theorem dX9_makes_25 : decode cX9_makes 25 = .ok (.iconst 2, 1) := by decide +kernel
theorem dX9_makes_26 : decode cX9_makes 26 = .ok (.if_icmp .ne 55, 3) := by decide +kernel
theorem dX9_makes_29 : decode cX9_makes 29 = .ok (.aload_n 0, 1) := by decide +kernel
theorem dX9_makes_30 : decode cX9_makes 30 = .ok (.aload_n 0, 1) := by decide +kernel
theorem dX9_makes_31 : decode cX9_makes 31 = .ok (.getfield 19, 3) := by decide +kernel
theorem dX9_makes_34 : decode cX9_makes 34 = .ok (.iload_n 2, 1) := by decide +kernel
theorem dX9_makes_35 : decode cX9_makes 35 = .ok (.iaload, 1) := by decide +kernel
theorem dX9_makes_36 : decode cX9_makes 36 = .ok (.aload_n 0, 1) := by decide +kernel
theorem dX9_makes_37 : decode cX9_makes 37 = .ok (.getfield 113, 3) := by decide +kernel
theorem dX9_makes_40 : decode cX9_makes 40 = .ok (.aload_n 0, 1) := by decide +kernel
theorem dX9_makes_41 : decode cX9_makes 41 = .ok (.getfield 22, 3) := by decide +kernel
theorem dX9_makes_44 : decode cX9_makes 44 = .ok (.iload_n 2, 1) := by decide +kernel
theorem dX9_makes_45 : decode cX9_makes 45 = .ok (.iaload, 1) := by decide +kernel
theorem dX9_makes_46 : decode cX9_makes 46 = .ok (.iaload, 1) := by decide +kernel
theorem dX9_makes_47 : decode cX9_makes 47 = .ok (.aload_n 0, 1) := by decide +kernel
theorem dX9_makes_48 : decode cX9_makes 48 = .ok (.getfield 113, 3) := by decide +kernel
theorem dX9_makes_51 : decode cX9_makes 51 = .ok (.aload_n 0, 1) := by decide +kernel
theorem dX9_makes_52 : decode cX9_makes 52 = .ok (.getfield 25, 3) := by decide +kernel
theorem dX9_makes_55 : decode cX9_makes 55 = .ok (.iload_n 2, 1) := by decide +kernel
theorem dX9_makes_56 : decode cX9_makes 56 = .ok (.iaload, 1) := by decide +kernel
theorem dX9_makes_57 : decode cX9_makes 57 = .ok (.iaload, 1) := by decide +kernel
theorem dX9_makes_58 : decode cX9_makes 58 = .ok (.invokevirtual 226, 3) := by decide +kernel
theorem dX9_makes_61 : decode cX9_makes 61 = .ok (.istore_n 3, 1) := by decide +kernel
theorem dX9_makes_62 : decode cX9_makes 62 = .ok (.aload_n 0, 1) := by decide +kernel
theorem dX9_makes_63 : decode cX9_makes 63 = .ok (.getfield 219, 3) := by decide +kernel
theorem dX9_makes_66 : decode cX9_makes 66 = .ok (.ifCond .eq 5, 3) := by decide +kernel
theorem dX9_makes_69 : decode cX9_makes 69 = .ok (.iload_n 2, 1) := by decide +kernel
theorem dX9_makes_70 : decode cX9_makes 70 = .ok (.ireturn, 1) := by decide +kernel
theorem dX9_makes_71 : decode cX9_makes 71 = .ok (.aload_n 0, 1) := by decide +kernel
theorem dX9_makes_72 : decode cX9_makes 72 = .ok (.getfield 113, 3) := by decide +kernel
theorem dX9_makes_75 : decode cX9_makes 75 = .ok (.iload_n 2, 1) := by decide +kernel
theorem dX9_makes_76 : decode cX9_makes 76 = .ok (.iload_n 3, 1) := by decide +kernel
theorem dX9_makes_77 : decode cX9_makes 77 = .ok (.iastore, 1) := by decide +kernel
theorem dX9_makes_78 : decode cX9_makes 78 = .ok (.goto 79, 3) := by decide +kernel
theorem dX9_makes_81 : decode cX9_makes 81 = .ok (.aload_n 0, 1) := by decide +kernel
theorem dX9_makes_82 : decode cX9_makes 82 = .ok (.getfield 13, 3) := by decide +kernel
theorem dX9_makes_85 : decode cX9_makes 85 = .ok (.iload_n 2, 1) := by decide +kernel
theorem dX9_makes_86 : decode cX9_makes 86 = .ok (.iaload, 1) := by decide +kernel
theorem dX9_makes_87 : decode cX9_makes 87 = .ok (.ifCond .ne 21, 3) := by decide +kernel
theorem dX9_makes_90 : decode cX9_makes 90 = .ok (.aload_n 0, 1) := by decide +kernel
theorem dX9_makes_91 : decode cX9_makes 91 = .ok (.getfield 113, 3) := by decide +kernel
theorem dX9_makes_94 : decode cX9_makes 94 = .ok (.iload_n 2, 1) := by decide +kernel
theorem dX9_makes_95 : decode cX9_makes 95 = .ok (.aload_n 0, 1) := by decide +kernel
theorem dX9_makes_96 : decode cX9_makes 96 = .ok (.getfield 49, 3) := by decide +kernel
theorem dX9_makes_99 : decode cX9_makes 99 = .ok (.bipush 72, 2) := by decide +kernel
theorem dX9_makes_101 : decode cX9_makes 101 = .ok (.iload_n 2, 1) := by decide +kernel
theorem dX9_makes_102 : decode cX9_makes 102 = .ok (.iadd, 1) := by decide +kernel
theorem dX9_makes_103 : decode cX9_makes 103 = .ok (.iaload, 1) := by decide +kernel
theorem dX9_makes_104 : decode cX9_makes 104 = .ok (.iastore, 1) := by decide +kernel
theorem dX9_makes_105 : decode cX9_makes 105 = .ok (.goto 52, 3) := by decide +kernel
theorem dX9_makes_108 : decode cX9_makes 108 = .ok (.aload_n 0, 1) := by decide +kernel
theorem dX9_makes_109 : decode cX9_makes 109 = .ok (.getfield 13, 3) := by decide +kernel
theorem dX9_makes_112 : decode cX9_makes 112 = .ok (.iload_n 2, 1) := by decide +kernel
theorem dX9_makes_113 : decode cX9_makes 113 = .ok (.iaload, 1) := by decide +kernel
theorem dX9_makes_114 : decode cX9_makes 114 = .ok (.iconst 1, 1) := by decide +kernel
theorem dX9_makes_115 : decode cX9_makes 115 = .ok (.if_icmp .ne 42, 3) := by decide +kernel
theorem dX9_makes_118 : decode cX9_makes 118 = .ok (.aload_n 0, 1) := by decide +kernel
theorem dX9_makes_119 : decode cX9_makes 119 = .ok (.getfield 113, 3) := by decide +kernel
theorem dX9_makes_122 : decode cX9_makes 122 = .ok (.iload_n 2, 1) := by decide +kernel
theorem dX9_makes_123 : decode cX9_makes 123 = .ok (.aload_n 0, 1) := by decide +kernel
theorem dX9_makes_124 : decode cX9_makes 124 = .ok (.getfield 49, 3) := by decide +kernel
theorem dX9_makes_127 : decode cX9_makes 127 = .ok (.iconst 0, 1) := by decide +kernel
theorem dX9_makes_128 : decode cX9_makes 128 = .ok (.iload_n 2, 1) := by decide +kernel
theorem dX9_makes_129 : decode cX9_makes 129 = .ok (.iadd, 1) := by decide +kernel
theorem dX9_makes_130 : decode cX9_makes 130 = .ok (.iaload, 1) := by decide +kernel
theorem dX9_makes_131 : decode cX9_makes 131 = .ok (.iconst 1, 1) := by decide +kernel
theorem dX9_makes_132 : decode cX9_makes 132 = .ok (.if_icmp .ne 15, 3) := by decide +kernel
theorem dX9_makes_135 : decode cX9_makes 135 = .ok (.aload_n 0, 1) := by decide +kernel
theorem dX9_makes_136 : decode cX9_makes 136 = .ok (.getfield 49, 3) := by decide +kernel
theorem dX9_makes_139 : decode cX9_makes 139 = .ok (.bipush 24, 2) := by decide +kernel
theorem dX9_makes_141 : decode cX9_makes 141 = .ok (.iload_n 2, 1) := by decide +kernel
theorem dX9_makes_142 : decode cX9_makes 142 = .ok (.iadd, 1) := by decide +kernel
theorem dX9_makes_143 : decode cX9_makes 143 = .ok (.iaload, 1) := by decide +kernel
theorem dX9_makes_144 : decode cX9_makes 144 = .ok (.goto 12, 3) := by decide +kernel
theorem dX9_makes_147 : decode cX9_makes 147 = .ok (.aload_n 0, 1) := by decide +kernel
theorem dX9_makes_148 : decode cX9_makes 148 = .ok (.getfield 49, 3) := by decide +kernel
theorem dX9_makes_151 : decode cX9_makes 151 = .ok (.bipush 48, 2) := by decide +kernel
theorem dX9_makes_153 : decode cX9_makes 153 = .ok (.iload_n 2, 1) := by decide +kernel
theorem dX9_makes_154 : decode cX9_makes 154 = .ok (.iadd, 1) := by decide +kernel
theorem dX9_makes_155 : decode cX9_makes 155 = .ok (.iaload, 1) := by decide +kernel
theorem dX9_makes_156 : decode cX9_makes 156 = .ok (.iastore, 1) := by decide +kernel
theorem dX9_makes_157 : decode cX9_makes 157 = .ok (.iinc 2 1, 3) := by decide +kernel
theorem dX9_makes_160 : decode cX9_makes 160 = .ok (.goto (-153), 3) := by decide +kernel
theorem dX9_makes_163 : decode cX9_makes 163 = .ok (.bipush (-9), 2) := by decide +kernel
theorem dX9_makes_165 : decode cX9_makes 165 = .ok (.ireturn, 1) := by decide +kernel
theorem dX9_runs_0 : decode cX9_runs 0 = .ok (.iconst 0, 1) := by decide +kernel
theorem dX9_runs_1 : decode cX9_runs 1 = .ok (.istore_n 1, 1) := by decide +kernel
theorem dX9_runs_2 : decode cX9_runs 2 = .ok (.iload_n 1, 1) := by decide +kernel
theorem dX9_runs_3 : decode cX9_runs 3 = .ok (.bipush 24, 2) := by decide +kernel
theorem dX9_runs_5 : decode cX9_runs 5 = .ok (.if_icmp .ge 16, 3) := by decide +kernel
theorem dX9_runs_8 : decode cX9_runs 8 = .ok (.aload_n 0, 1) := by decide +kernel
theorem dX9_runs_9 : decode cX9_runs 9 = .ok (.getfield 113, 3) := by decide +kernel
theorem dX9_runs_12 : decode cX9_runs 12 = .ok (.iload_n 1, 1) := by decide +kernel
theorem dX9_runs_13 : decode cX9_runs 13 = .ok (.iconst 0, 1) := by decide +kernel
theorem dX9_runs_14 : decode cX9_runs 14 = .ok (.iastore, 1) := by decide +kernel
theorem dX9_runs_15 : decode cX9_runs 15 = .ok (.iinc 1 1, 3) := by decide +kernel
theorem dX9_runs_18 : decode cX9_runs 18 = .ok (.goto (-16), 3) := by decide +kernel
theorem dX9_runs_21 : decode cX9_runs 21 = .ok (.iconst 0, 1) := by decide +kernel
theorem dX9_runs_22 : decode cX9_runs 22 = .ok (.istore_n 1, 1) := by decide +kernel
theorem dX9_runs_23 : decode cX9_runs 23 = .ok (.iload_n 1, 1) := by decide +kernel
theorem dX9_runs_24 : decode cX9_runs 24 = .ok (.bipush 8, 2) := by decide +kernel
theorem dX9_runs_26 : decode cX9_runs 26 = .ok (.if_icmp .ge 16, 3) := by decide +kernel
theorem dX9_runs_29 : decode cX9_runs 29 = .ok (.aload_n 0, 1) := by decide +kernel
theorem dX9_runs_30 : decode cX9_runs 30 = .ok (.getfield 119, 3) := by decide +kernel
theorem dX9_runs_33 : decode cX9_runs 33 = .ok (.iload_n 1, 1) := by decide +kernel
theorem dX9_runs_34 : decode cX9_runs 34 = .ok (.iconst 0, 1) := by decide +kernel
theorem dX9_runs_35 : decode cX9_runs 35 = .ok (.iastore, 1) := by decide +kernel
theorem dX9_runs_36 : decode cX9_runs 36 = .ok (.iinc 1 1, 3) := by decide +kernel
theorem dX9_runs_39 : decode cX9_runs 39 = .ok (.goto (-16), 3) := by decide +kernel
theorem dX9_runs_42 : decode cX9_runs 42 = .ok (.bipush (-9), 2) := by decide +kernel
theorem dX9_runs_44 : decode cX9_runs 44 = .ok (.istore_n 1, 1) := by decide +kernel
theorem dX9_runs_45 : decode cX9_runs 45 = .ok (.iconst 0, 1) := by decide +kernel
theorem dX9_runs_46 : decode cX9_runs 46 = .ok (.istore_n 2, 1) := by decide +kernel
theorem dX9_runs_47 : decode cX9_runs 47 = .ok (.aload_n 0, 1) := by decide +kernel
theorem dX9_runs_48 : decode cX9_runs 48 = .ok (.iconst 0, 1) := by decide +kernel
theorem dX9_runs_49 : decode cX9_runs 49 = .ok (.putfield 272, 3) := by decide +kernel
theorem dX9_runs_52 : decode cX9_runs 52 = .ok (.iconst 0, 1) := by decide +kernel
theorem dX9_runs_53 : decode cX9_runs 53 = .ok (.istore_n 3, 1) := by decide +kernel
theorem dX9_runs_54 : decode cX9_runs 54 = .ok (.iload_n 3, 1) := by decide +kernel
theorem dX9_runs_55 : decode cX9_runs 55 = .ok (.bipush 60, 2) := by decide +kernel
theorem dX9_runs_57 : decode cX9_runs 57 = .ok (.if_icmp .ge 118, 3) := by decide +kernel
theorem dX9_runs_60 : decode cX9_runs 60 = .ok (.aload_n 0, 1) := by decide +kernel
theorem dX9_runs_61 : decode cX9_runs 61 = .ok (.getfield 119, 3) := by decide +kernel
theorem dX9_runs_64 : decode cX9_runs 64 = .ok (.iload_n 2, 1) := by decide +kernel
theorem dX9_runs_65 : decode cX9_runs 65 = .ok (.dup2, 1) := by decide +kernel
theorem dX9_runs_66 : decode cX9_runs 66 = .ok (.iaload, 1) := by decide +kernel
theorem dX9_runs_67 : decode cX9_runs 67 = .ok (.iconst 1, 1) := by decide +kernel
theorem dX9_runs_68 : decode cX9_runs 68 = .ok (.iadd, 1) := by decide +kernel
theorem dX9_runs_69 : decode cX9_runs 69 = .ok (.iastore, 1) := by decide +kernel
theorem dX9_runs_70 : decode cX9_runs 70 = .ok (.aload_n 0, 1) := by decide +kernel
theorem dX9_runs_71 : decode cX9_runs 71 = .ok (.iload_n 2, 1) := by decide +kernel
theorem dX9_runs_72 : decode cX9_runs 72 = .ok (.iload_n 1, 1) := by decide +kernel
theorem dX9_runs_73 : decode cX9_runs 73 = .ok (.invokevirtual 275, 3) := by decide +kernel
theorem dX9_runs_76 : decode cX9_runs 76 = .ok (.aload_n 0, 1) := by decide +kernel
theorem dX9_runs_77 : decode cX9_runs 77 = .ok (.iload_n 2, 1) := by decide +kernel
theorem dX9_runs_78 : decode cX9_runs 78 = .ok (.invokevirtual 279, 3) := by decide +kernel
theorem dX9_runs_81 : decode cX9_runs 81 = .ok (.istore 4, 2) := by decide +kernel
theorem dX9_runs_83 : decode cX9_runs 83 = .ok (.iload 4, 2) := by decide +kernel
theorem dX9_runs_85 : decode cX9_runs 85 = .ok (.bipush (-9), 2) := by decide +kernel
theorem dX9_runs_87 : decode cX9_runs 87 = .ok (.if_icmp .eq 11, 3) := by decide +kernel
theorem dX9_runs_90 : decode cX9_runs 90 = .ok (.aload_n 0, 1) := by decide +kernel
theorem dX9_runs_91 : decode cX9_runs 91 = .ok (.iload 4, 2) := by decide +kernel
theorem dX9_runs_93 : decode cX9_runs 93 = .ok (.putfield 272, 3) := by decide +kernel
theorem dX9_runs_96 : decode cX9_runs 96 = .ok (.iconst 1, 1) := by decide +kernel
theorem dX9_runs_97 : decode cX9_runs 97 = .ok (.ireturn, 1) := by decide +kernel
theorem dX9_runs_98 : decode cX9_runs 98 = .ok (.aload_n 0, 1) := by decide +kernel
theorem dX9_runs_99 : decode cX9_runs 99 = .ok (.getfield 40, 3) := by decide +kernel
theorem dX9_runs_102 : decode cX9_runs 102 = .ok (.iload_n 2, 1) := by decide +kernel
theorem dX9_runs_103 : decode cX9_runs 103 = .ok (.iaload, 1) := by decide +kernel
theorem dX9_runs_104 : decode cX9_runs 104 = .ok (.iconst 2, 1) := by decide +kernel
theorem dX9_runs_105 : decode cX9_runs 105 = .ok (.if_icmp .ne 20, 3) := by decide +kernel
theorem dX9_runs_108 : decode cX9_runs 108 = .ok (.aload_n 0, 1) := by decide +kernel
theorem dX9_runs_109 : decode cX9_runs 109 = .ok (.aload_n 0, 1) := by decide +kernel
theorem dX9_runs_110 : decode cX9_runs 110 = .ok (.getfield 113, 3) := by decide +kernel
theorem dX9_runs_113 : decode cX9_runs 113 = .ok (.aload_n 0, 1) := by decide +kernel
theorem dX9_runs_114 : decode cX9_runs 114 = .ok (.getfield 43, 3) := by decide +kernel
theorem dX9_runs_117 : decode cX9_runs 117 = .ok (.iload_n 2, 1) := by decide +kernel
theorem dX9_runs_118 : decode cX9_runs 118 = .ok (.iaload, 1) := by decide +kernel
theorem dX9_runs_119 : decode cX9_runs 119 = .ok (.iaload, 1) := by decide +kernel
theorem dX9_runs_120 : decode cX9_runs 120 = .ok (.putfield 272, 3) := by decide +kernel
theorem dX9_runs_123 : decode cX9_runs 123 = .ok (.iconst 0, 1) := by decide +kernel
theorem dX9_runs_124 : decode cX9_runs 124 = .ok (.ireturn, 1) := by decide +kernel
theorem dX9_runs_125 : decode cX9_runs 125 = .ok (.iload_n 2, 1) := by decide +kernel
theorem dX9_runs_126 : decode cX9_runs 126 = .ok (.istore_n 1, 1) := by decide +kernel
theorem dX9_runs_127 : decode cX9_runs 127 = .ok (.aload_n 0, 1) := by decide +kernel
theorem dX9_runs_128 : decode cX9_runs 128 = .ok (.getfield 49, 3) := by decide +kernel
theorem dX9_runs_131 : decode cX9_runs 131 = .ok (.bipush 96, 2) := by decide +kernel
theorem dX9_runs_133 : decode cX9_runs 133 = .ok (.iconst 2, 1) := by decide +kernel
theorem dX9_runs_134 : decode cX9_runs 134 = .ok (.iload_n 2, 1) := by decide +kernel
theorem dX9_runs_135 : decode cX9_runs 135 = .ok (.imul, 1) := by decide +kernel
theorem dX9_runs_136 : decode cX9_runs 136 = .ok (.iadd, 1) := by decide +kernel
theorem dX9_runs_137 : decode cX9_runs 137 = .ok (.aload_n 0, 1) := by decide +kernel
theorem dX9_runs_138 : decode cX9_runs 138 = .ok (.getfield 40, 3) := by decide +kernel
theorem dX9_runs_141 : decode cX9_runs 141 = .ok (.iload_n 2, 1) := by decide +kernel
theorem dX9_runs_142 : decode cX9_runs 142 = .ok (.iaload, 1) := by decide +kernel
theorem dX9_runs_143 : decode cX9_runs 143 = .ok (.iconst 1, 1) := by decide +kernel
theorem dX9_runs_144 : decode cX9_runs 144 = .ok (.if_icmp .ne 21, 3) := by decide +kernel
theorem dX9_runs_147 : decode cX9_runs 147 = .ok (.aload_n 0, 1) := by decide +kernel
theorem dX9_runs_148 : decode cX9_runs 148 = .ok (.getfield 113, 3) := by decide +kernel
theorem dX9_runs_151 : decode cX9_runs 151 = .ok (.aload_n 0, 1) := by decide +kernel
theorem dX9_runs_152 : decode cX9_runs 152 = .ok (.getfield 43, 3) := by decide +kernel
theorem dX9_runs_155 : decode cX9_runs 155 = .ok (.iload_n 2, 1) := by decide +kernel
theorem dX9_runs_156 : decode cX9_runs 156 = .ok (.iaload, 1) := by decide +kernel
theorem dX9_runs_157 : decode cX9_runs 157 = .ok (.iaload, 1) := by decide +kernel
theorem dX9_runs_158 : decode cX9_runs 158 = .ok (.ifCond .ne 7, 3) := by decide +kernel
theorem dX9_runs_161 : decode cX9_runs 161 = .ok (.iconst 1, 1) := by decide +kernel
theorem dX9_runs_162 : decode cX9_runs 162 = .ok (.goto 4, 3) := by decide +kernel
theorem dX9_runs_165 : decode cX9_runs 165 = .ok (.iconst 0, 1) := by decide +kernel
theorem dX9_runs_166 : decode cX9_runs 166 = .ok (.iadd, 1) := by decide +kernel
theorem dX9_runs_167 : decode cX9_runs 167 = .ok (.iaload, 1) := by decide +kernel
theorem dX9_runs_168 : decode cX9_runs 168 = .ok (.istore_n 2, 1) := by decide +kernel
theorem dX9_runs_169 : decode cX9_runs 169 = .ok (.iinc 3 1, 3) := by decide +kernel
theorem dX9_runs_172 : decode cX9_runs 172 = .ok (.goto (-118), 3) := by decide +kernel
theorem dX9_runs_175 : decode cX9_runs 175 = .ok (.iconst 2, 1) := by decide +kernel
theorem dX9_runs_176 : decode cX9_runs 176 = .ok (.ireturn, 1) := by decide +kernel
theorem dX9_run_0 : decode cX9_run 0 = .ok (.aload_n 0, 1) := by decide +kernel
theorem dX9_run_1 : decode cX9_run 1 = .ok (.getfield 130, 3) := by decide +kernel
theorem dX9_run_4 : decode cX9_run 4 = .ok (.ifCond .ne 6, 3) := by decide +kernel
theorem dX9_run_7 : decode cX9_run 7 = .ok (.bipush (-2), 2) := by decide +kernel
theorem dX9_run_9 : decode cX9_run 9 = .ok (.ireturn, 1) := by decide +kernel
theorem dX9_run_10 : decode cX9_run 10 = .ok (.aload_n 0, 1) := by decide +kernel
theorem dX9_run_11 : decode cX9_run 11 = .ok (.invokevirtual 282, 3) := by decide +kernel
theorem dX9_run_14 : decode cX9_run 14 = .ok (.istore_n 1, 1) := by decide +kernel
theorem dX9_run_15 : decode cX9_run 15 = .ok (.aload_n 0, 1) := by decide +kernel
theorem dX9_run_16 : decode cX9_run 16 = .ok (.aload_n 0, 1) := by decide +kernel
theorem dX9_run_17 : decode cX9_run 17 = .ok (.getfield 272, 3) := by decide +kernel
theorem dX9_run_20 : decode cX9_run 20 = .ok (.iload_n 1, 1) := by decide +kernel
theorem dX9_run_21 : decode cX9_run 21 = .ok (.invokevirtual 253, 3) := by decide +kernel
theorem dX9_run_24 : decode cX9_run 24 = .ok (.ireturn, 1) := by decide +kernel
theorem dX9_visits_0 : decode cX9_visits 0 = .ok (.aload_n 0, 1) := by decide +kernel
theorem dX9_visits_1 : decode cX9_visits 1 = .ok (.iload_n 1, 1) := by decide +kernel
theorem dX9_visits_2 : decode cX9_visits 2 = .ok (.invokevirtual 257, 3) := by decide +kernel
theorem dX9_visits_5 : decode cX9_visits 5 = .ok (.ifCond .ne 5, 3) := by decide +kernel
theorem dX9_visits_8 : decode cX9_visits 8 = .ok (.iconst (-1), 1) := by decide +kernel
theorem dX9_visits_9 : decode cX9_visits 9 = .ok (.ireturn, 1) := by decide +kernel
theorem dX9_visits_10 : decode cX9_visits 10 = .ok (.aload_n 0, 1) := by decide +kernel
theorem dX9_visits_11 : decode cX9_visits 11 = .ok (.invokevirtual 282, 3) := by decide +kernel
theorem dX9_visits_14 : decode cX9_visits 14 = .ok (.pop, 1) := by decide +kernel
theorem dX9_visits_15 : decode cX9_visits 15 = .ok (.aload_n 0, 1) := by decide +kernel
theorem dX9_visits_16 : decode cX9_visits 16 = .ok (.getfield 119, 3) := by decide +kernel
theorem dX9_visits_19 : decode cX9_visits 19 = .ok (.iload_n 1, 1) := by decide +kernel
theorem dX9_visits_20 : decode cX9_visits 20 = .ok (.iaload, 1) := by decide +kernel
theorem dX9_visits_21 : decode cX9_visits 21 = .ok (.ireturn, 1) := by decide +kernel
theorem dX9_last_0 : decode cX9_last 0 = .ok (.aload_n 0, 1) := by decide +kernel
theorem dX9_last_1 : decode cX9_last 1 = .ok (.iload_n 1, 1) := by decide +kernel
theorem dX9_last_2 : decode cX9_last 2 = .ok (.invokevirtual 246, 3) := by decide +kernel
theorem dX9_last_5 : decode cX9_last 5 = .ok (.ifCond .ne 5, 3) := by decide +kernel
theorem dX9_last_8 : decode cX9_last 8 = .ok (.iconst (-1), 1) := by decide +kernel
theorem dX9_last_9 : decode cX9_last 9 = .ok (.ireturn, 1) := by decide +kernel
theorem dX9_last_10 : decode cX9_last 10 = .ok (.aload_n 0, 1) := by decide +kernel
theorem dX9_last_11 : decode cX9_last 11 = .ok (.invokevirtual 282, 3) := by decide +kernel
theorem dX9_last_14 : decode cX9_last 14 = .ok (.pop, 1) := by decide +kernel
theorem dX9_last_15 : decode cX9_last 15 = .ok (.aload_n 0, 1) := by decide +kernel
theorem dX9_last_16 : decode cX9_last 16 = .ok (.aload_n 0, 1) := by decide +kernel
theorem dX9_last_17 : decode cX9_last 17 = .ok (.getfield 113, 3) := by decide +kernel
theorem dX9_last_20 : decode cX9_last 20 = .ok (.iload_n 1, 1) := by decide +kernel
theorem dX9_last_21 : decode cX9_last 21 = .ok (.iaload, 1) := by decide +kernel
theorem dX9_last_22 : decode cX9_last 22 = .ok (.iconst 1, 1) := by decide +kernel
theorem dX9_last_23 : decode cX9_last 23 = .ok (.invokevirtual 253, 3) := by decide +kernel
theorem dX9_last_26 : decode cX9_last 26 = .ok (.ireturn, 1) := by decide +kernel
theorem dX9_edges_0 : decode cX9_edges 0 = .ok (.iconst 0, 1) := by decide +kernel
theorem dX9_edges_1 : decode cX9_edges 1 = .ok (.istore_n 2, 1) := by decide +kernel
theorem dX9_edges_2 : decode cX9_edges 2 = .ok (.iconst 0, 1) := by decide +kernel
theorem dX9_edges_3 : decode cX9_edges 3 = .ok (.istore_n 3, 1) := by decide +kernel
theorem dX9_edges_4 : decode cX9_edges 4 = .ok (.iload_n 3, 1) := by decide +kernel
theorem dX9_edges_5 : decode cX9_edges 5 = .ok (.aload_n 0, 1) := by decide +kernel
theorem dX9_edges_6 : decode cX9_edges 6 = .ok (.getfield 130, 3) := by decide +kernel
theorem dX9_edges_9 : decode cX9_edges 9 = .ok (.if_icmp .ge 66, 3) := by decide +kernel
theorem dX9_edges_12 : decode cX9_edges 12 = .ok (.iconst 0, 1) := by decide +kernel
theorem dX9_edges_13 : decode cX9_edges 13 = .ok (.istore 4, 2) := by decide +kernel
theorem dX9_edges_15 : decode cX9_edges 15 = .ok (.iload 4, 2) := by decide +kernel
theorem dX9_edges_17 : decode cX9_edges 17 = .ok (.iconst 2, 1) := by decide +kernel
theorem dX9_edges_18 : decode cX9_edges 18 = .ok (.if_icmp .ge 51, 3) := by decide +kernel
theorem dX9_edges_21 : decode cX9_edges 21 = .ok (.iload_n 2, 1) := by decide +kernel
theorem dX9_edges_22 : decode cX9_edges 22 = .ok (.aload_n 0, 1) := by decide +kernel
theorem dX9_edges_23 : decode cX9_edges 23 = .ok (.getfield 49, 3) := by decide +kernel
theorem dX9_edges_26 : decode cX9_edges 26 = .ok (.bipush 96, 2) := by decide +kernel
theorem dX9_edges_28 : decode cX9_edges 28 = .ok (.iconst 2, 1) := by decide +kernel
theorem dX9_edges_29 : decode cX9_edges 29 = .ok (.iload_n 3, 1) := by decide +kernel
theorem dX9_edges_30 : decode cX9_edges 30 = .ok (.imul, 1) := by decide +kernel
theorem dX9_edges_31 : decode cX9_edges 31 = .ok (.iadd, 1) := by decide +kernel
theorem dX9_edges_32 : decode cX9_edges 32 = .ok (.iload 4, 2) := by decide +kernel
theorem dX9_edges_34 : decode cX9_edges 34 = .ok (.iadd, 1) := by decide +kernel
theorem dX9_edges_35 : decode cX9_edges 35 = .ok (.iaload, 1) := by decide +kernel
theorem dX9_edges_36 : decode cX9_edges 36 = .ok (.bipush (-9), 2) := by decide +kernel
theorem dX9_edges_38 : decode cX9_edges 38 = .ok (.if_icmp .eq 22, 3) := by decide +kernel
theorem dX9_edges_41 : decode cX9_edges 41 = .ok (.iload_n 1, 1) := by decide +kernel
theorem dX9_edges_42 : decode cX9_edges 42 = .ok (.ifCond .eq 14, 3) := by decide +kernel
theorem dX9_edges_45 : decode cX9_edges 45 = .ok (.aload_n 0, 1) := by decide +kernel
theorem dX9_edges_46 : decode cX9_edges 46 = .ok (.iload_n 3, 1) := by decide +kernel
theorem dX9_edges_47 : decode cX9_edges 47 = .ok (.iload 4, 2) := by decide +kernel
theorem dX9_edges_49 : decode cX9_edges 49 = .ok (.iconst 0, 1) := by decide +kernel
theorem dX9_edges_50 : decode cX9_edges 50 = .ok (.invokevirtual 222, 3) := by decide +kernel
theorem dX9_edges_53 : decode cX9_edges 53 = .ok (.ifCond .eq 7, 3) := by decide +kernel
theorem dX9_edges_56 : decode cX9_edges 56 = .ok (.iconst 1, 1) := by decide +kernel
theorem dX9_edges_57 : decode cX9_edges 57 = .ok (.goto 4, 3) := by decide +kernel
theorem dX9_edges_60 : decode cX9_edges 60 = .ok (.iconst 0, 1) := by decide +kernel
theorem dX9_edges_61 : decode cX9_edges 61 = .ok (.iadd, 1) := by decide +kernel
theorem dX9_edges_62 : decode cX9_edges 62 = .ok (.istore_n 2, 1) := by decide +kernel
theorem dX9_edges_63 : decode cX9_edges 63 = .ok (.iinc 4 1, 3) := by decide +kernel
theorem dX9_edges_66 : decode cX9_edges 66 = .ok (.goto (-51), 3) := by decide +kernel
theorem dX9_edges_69 : decode cX9_edges 69 = .ok (.iinc 3 1, 3) := by decide +kernel
theorem dX9_edges_72 : decode cX9_edges 72 = .ok (.goto (-68), 3) := by decide +kernel
theorem dX9_edges_75 : decode cX9_edges 75 = .ok (.iload_n 2, 1) := by decide +kernel
theorem dX9_edges_76 : decode cX9_edges 76 = .ok (.ireturn, 1) := by decide +kernel
theorem dX9_folds_0 : decode cX9_folds 0 = .ok (.iconst 0, 1) := by decide +kernel
theorem dX9_folds_1 : decode cX9_folds 1 = .ok (.istore_n 1, 1) := by decide +kernel
theorem dX9_folds_2 : decode cX9_folds 2 = .ok (.iconst 0, 1) := by decide +kernel
theorem dX9_folds_3 : decode cX9_folds 3 = .ok (.istore_n 2, 1) := by decide +kernel
theorem dX9_folds_4 : decode cX9_folds 4 = .ok (.iload_n 2, 1) := by decide +kernel
theorem dX9_folds_5 : decode cX9_folds 5 = .ok (.aload_n 0, 1) := by decide +kernel
theorem dX9_folds_6 : decode cX9_folds 6 = .ok (.getfield 122, 3) := by decide +kernel
theorem dX9_folds_9 : decode cX9_folds 9 = .ok (.if_icmp .ge 36, 3) := by decide +kernel
theorem dX9_folds_12 : decode cX9_folds 12 = .ok (.iload_n 1, 1) := by decide +kernel
theorem dX9_folds_13 : decode cX9_folds 13 = .ok (.aload_n 0, 1) := by decide +kernel
theorem dX9_folds_14 : decode cX9_folds 14 = .ok (.getfield 101, 3) := by decide +kernel
theorem dX9_folds_17 : decode cX9_folds 17 = .ok (.iload_n 2, 1) := by decide +kernel
theorem dX9_folds_18 : decode cX9_folds 18 = .ok (.iaload, 1) := by decide +kernel
theorem dX9_folds_19 : decode cX9_folds 19 = .ok (.iconst 1, 1) := by decide +kernel
theorem dX9_folds_20 : decode cX9_folds 20 = .ok (.if_icmp .ne 16, 3) := by decide +kernel
theorem dX9_folds_23 : decode cX9_folds 23 = .ok (.aload_n 0, 1) := by decide +kernel
theorem dX9_folds_24 : decode cX9_folds 24 = .ok (.getfield 13, 3) := by decide +kernel
theorem dX9_folds_27 : decode cX9_folds 27 = .ok (.iload_n 2, 1) := by decide +kernel
theorem dX9_folds_28 : decode cX9_folds 28 = .ok (.iaload, 1) := by decide +kernel
theorem dX9_folds_29 : decode cX9_folds 29 = .ok (.ifCond .eq 7, 3) := by decide +kernel
theorem dX9_folds_32 : decode cX9_folds 32 = .ok (.iconst 1, 1) := by decide +kernel
theorem dX9_folds_33 : decode cX9_folds 33 = .ok (.goto 4, 3) := by decide +kernel
theorem dX9_folds_36 : decode cX9_folds 36 = .ok (.iconst 0, 1) := by decide +kernel
theorem dX9_folds_37 : decode cX9_folds 37 = .ok (.iadd, 1) := by decide +kernel
theorem dX9_folds_38 : decode cX9_folds 38 = .ok (.istore_n 1, 1) := by decide +kernel
theorem dX9_folds_39 : decode cX9_folds 39 = .ok (.iinc 2 1, 3) := by decide +kernel
theorem dX9_folds_42 : decode cX9_folds 42 = .ok (.goto (-38), 3) := by decide +kernel
theorem dX9_folds_45 : decode cX9_folds 45 = .ok (.iload_n 1, 1) := by decide +kernel
theorem dX9_folds_46 : decode cX9_folds 46 = .ok (.ireturn, 1) := by decide +kernel
theorem dX9_foldedEnds_0 : decode cX9_foldedEnds 0 = .ok (.iconst 0, 1) := by decide +kernel
theorem dX9_foldedEnds_1 : decode cX9_foldedEnds 1 = .ok (.istore_n 1, 1) := by decide +kernel
theorem dX9_foldedEnds_2 : decode cX9_foldedEnds 2 = .ok (.iconst 0, 1) := by decide +kernel
theorem dX9_foldedEnds_3 : decode cX9_foldedEnds 3 = .ok (.istore_n 2, 1) := by decide +kernel
theorem dX9_foldedEnds_4 : decode cX9_foldedEnds 4 = .ok (.iload_n 2, 1) := by decide +kernel
theorem dX9_foldedEnds_5 : decode cX9_foldedEnds 5 = .ok (.aload_n 0, 1) := by decide +kernel
theorem dX9_foldedEnds_6 : decode cX9_foldedEnds 6 = .ok (.getfield 130, 3) := by decide +kernel
theorem dX9_foldedEnds_9 : decode cX9_foldedEnds 9 = .ok (.if_icmp .ge 44, 3) := by decide +kernel
theorem dX9_foldedEnds_12 : decode cX9_foldedEnds 12 = .ok (.iload_n 1, 1) := by decide +kernel
theorem dX9_foldedEnds_13 : decode cX9_foldedEnds 13 = .ok (.aload_n 0, 1) := by decide +kernel
theorem dX9_foldedEnds_14 : decode cX9_foldedEnds 14 = .ok (.getfield 40, 3) := by decide +kernel
theorem dX9_foldedEnds_17 : decode cX9_foldedEnds 17 = .ok (.iload_n 2, 1) := by decide +kernel
theorem dX9_foldedEnds_18 : decode cX9_foldedEnds 18 = .ok (.iaload, 1) := by decide +kernel
theorem dX9_foldedEnds_19 : decode cX9_foldedEnds 19 = .ok (.iconst 1, 1) := by decide +kernel
theorem dX9_foldedEnds_20 : decode cX9_foldedEnds 20 = .ok (.if_icmp .ne 24, 3) := by decide +kernel
theorem dX9_foldedEnds_23 : decode cX9_foldedEnds 23 = .ok (.aload_n 0, 1) := by decide +kernel
theorem dX9_foldedEnds_24 : decode cX9_foldedEnds 24 = .ok (.iload_n 2, 1) := by decide +kernel
theorem dX9_foldedEnds_25 : decode cX9_foldedEnds 25 = .ok (.iconst 0, 1) := by decide +kernel
theorem dX9_foldedEnds_26 : decode cX9_foldedEnds 26 = .ok (.iconst 0, 1) := by decide +kernel
theorem dX9_foldedEnds_27 : decode cX9_foldedEnds 27 = .ok (.invokevirtual 222, 3) := by decide +kernel
theorem dX9_foldedEnds_30 : decode cX9_foldedEnds 30 = .ok (.aload_n 0, 1) := by decide +kernel
theorem dX9_foldedEnds_31 : decode cX9_foldedEnds 31 = .ok (.iload_n 2, 1) := by decide +kernel
theorem dX9_foldedEnds_32 : decode cX9_foldedEnds 32 = .ok (.iconst 1, 1) := by decide +kernel
theorem dX9_foldedEnds_33 : decode cX9_foldedEnds 33 = .ok (.iconst 0, 1) := by decide +kernel
theorem dX9_foldedEnds_34 : decode cX9_foldedEnds 34 = .ok (.invokevirtual 222, 3) := by decide +kernel
theorem dX9_foldedEnds_37 : decode cX9_foldedEnds 37 = .ok (.if_icmp .eq 7, 3) := by decide +kernel
theorem dX9_foldedEnds_40 : decode cX9_foldedEnds 40 = .ok (.iconst 1, 1) := by decide +kernel
theorem dX9_foldedEnds_41 : decode cX9_foldedEnds 41 = .ok (.goto 4, 3) := by decide +kernel
theorem dX9_foldedEnds_44 : decode cX9_foldedEnds 44 = .ok (.iconst 0, 1) := by decide +kernel
theorem dX9_foldedEnds_45 : decode cX9_foldedEnds 45 = .ok (.iadd, 1) := by decide +kernel
theorem dX9_foldedEnds_46 : decode cX9_foldedEnds 46 = .ok (.istore_n 1, 1) := by decide +kernel
theorem dX9_foldedEnds_47 : decode cX9_foldedEnds 47 = .ok (.iinc 2 1, 3) := by decide +kernel
theorem dX9_foldedEnds_50 : decode cX9_foldedEnds 50 = .ok (.goto (-46), 3) := by decide +kernel
theorem dX9_foldedEnds_53 : decode cX9_foldedEnds 53 = .ok (.iload_n 1, 1) := by decide +kernel
theorem dX9_foldedEnds_54 : decode cX9_foldedEnds 54 = .ok (.ireturn, 1) := by decide +kernel
theorem dX9_stays_0 : decode cX9_stays 0 = .ok (.iconst 0, 1) := by decide +kernel
theorem dX9_stays_1 : decode cX9_stays 1 = .ok (.istore_n 1, 1) := by decide +kernel
theorem dX9_stays_2 : decode cX9_stays 2 = .ok (.iconst 0, 1) := by decide +kernel
theorem dX9_stays_3 : decode cX9_stays 3 = .ok (.istore_n 2, 1) := by decide +kernel
theorem dX9_stays_4 : decode cX9_stays 4 = .ok (.iload_n 2, 1) := by decide +kernel
theorem dX9_stays_5 : decode cX9_stays 5 = .ok (.aload_n 0, 1) := by decide +kernel
theorem dX9_stays_6 : decode cX9_stays 6 = .ok (.getfield 122, 3) := by decide +kernel
theorem dX9_stays_9 : decode cX9_stays 9 = .ok (.if_icmp .ge 50, 3) := by decide +kernel
theorem dX9_stays_12 : decode cX9_stays 12 = .ok (.iload_n 1, 1) := by decide +kernel
theorem dX9_stays_13 : decode cX9_stays 13 = .ok (.aload_n 0, 1) := by decide +kernel
theorem dX9_stays_14 : decode cX9_stays 14 = .ok (.getfield 107, 3) := by decide +kernel
theorem dX9_stays_17 : decode cX9_stays 17 = .ok (.aload_n 0, 1) := by decide +kernel
theorem dX9_stays_18 : decode cX9_stays 18 = .ok (.getfield 16, 3) := by decide +kernel
theorem dX9_stays_21 : decode cX9_stays 21 = .ok (.iload_n 2, 1) := by decide +kernel
theorem dX9_stays_22 : decode cX9_stays 22 = .ok (.iaload, 1) := by decide +kernel
theorem dX9_stays_23 : decode cX9_stays 23 = .ok (.baload, 1) := by decide +kernel
theorem dX9_stays_24 : decode cX9_stays 24 = .ok (.ifCond .eq 26, 3) := by decide +kernel
theorem dX9_stays_27 : decode cX9_stays 27 = .ok (.aload_n 0, 1) := by decide +kernel
theorem dX9_stays_28 : decode cX9_stays 28 = .ok (.getfield 13, 3) := by decide +kernel
theorem dX9_stays_31 : decode cX9_stays 31 = .ok (.iload_n 2, 1) := by decide +kernel
theorem dX9_stays_32 : decode cX9_stays 32 = .ok (.iaload, 1) := by decide +kernel
theorem dX9_stays_33 : decode cX9_stays 33 = .ok (.ifCond .eq 17, 3) := by decide +kernel
theorem dX9_stays_36 : decode cX9_stays 36 = .ok (.aload_n 0, 1) := by decide +kernel
theorem dX9_stays_37 : decode cX9_stays 37 = .ok (.getfield 101, 3) := by decide +kernel
theorem dX9_stays_40 : decode cX9_stays 40 = .ok (.iload_n 2, 1) := by decide +kernel
theorem dX9_stays_41 : decode cX9_stays 41 = .ok (.iaload, 1) := by decide +kernel
theorem dX9_stays_42 : decode cX9_stays 42 = .ok (.iconst 1, 1) := by decide +kernel
theorem dX9_stays_43 : decode cX9_stays 43 = .ok (.if_icmp .eq 7, 3) := by decide +kernel
theorem dX9_stays_46 : decode cX9_stays 46 = .ok (.iconst 1, 1) := by decide +kernel
theorem dX9_stays_47 : decode cX9_stays 47 = .ok (.goto 4, 3) := by decide +kernel
theorem dX9_stays_50 : decode cX9_stays 50 = .ok (.iconst 0, 1) := by decide +kernel
theorem dX9_stays_51 : decode cX9_stays 51 = .ok (.iadd, 1) := by decide +kernel
theorem dX9_stays_52 : decode cX9_stays 52 = .ok (.istore_n 1, 1) := by decide +kernel
theorem dX9_stays_53 : decode cX9_stays 53 = .ok (.iinc 2 1, 3) := by decide +kernel
theorem dX9_stays_56 : decode cX9_stays 56 = .ok (.goto (-52), 3) := by decide +kernel
theorem dX9_stays_59 : decode cX9_stays 59 = .ok (.iload_n 1, 1) := by decide +kernel
theorem dX9_stays_60 : decode cX9_stays 60 = .ok (.ireturn, 1) := by decide +kernel
theorem dX9_gain_0 : decode cX9_gain 0 = .ok (.aload_n 0, 1) := by decide +kernel
theorem dX9_gain_1 : decode cX9_gain 1 = .ok (.iconst 1, 1) := by decide +kernel
theorem dX9_gain_2 : decode cX9_gain 2 = .ok (.invokevirtual 249, 3) := by decide +kernel
theorem dX9_gain_5 : decode cX9_gain 5 = .ok (.aload_n 0, 1) := by decide +kernel
theorem dX9_gain_6 : decode cX9_gain 6 = .ok (.getfield 101, 3) := by decide +kernel
theorem dX9_gain_9 : decode cX9_gain 9 = .ok (.iconst 0, 1) := by decide +kernel
theorem dX9_gain_10 : decode cX9_gain 10 = .ok (.aload_n 0, 1) := by decide +kernel
theorem dX9_gain_11 : decode cX9_gain 11 = .ok (.getfield 110, 3) := by decide +kernel
theorem dX9_gain_14 : decode cX9_gain 14 = .ok (.iconst 0, 1) := by decide +kernel
theorem dX9_gain_15 : decode cX9_gain 15 = .ok (.bipush 24, 2) := by decide +kernel
theorem dX9_gain_17 : decode cX9_gain 17 = .ok (.invokestatic 212, 3) := by decide +kernel
theorem dX9_gain_20 : decode cX9_gain 20 = .ok (.aload_n 0, 1) := by decide +kernel
theorem dX9_gain_21 : decode cX9_gain 21 = .ok (.iconst 0, 1) := by decide +kernel
theorem dX9_gain_22 : decode cX9_gain 22 = .ok (.invokevirtual 249, 3) := by decide +kernel
theorem dX9_gain_25 : decode cX9_gain 25 = .ok (.iconst 0, 1) := by decide +kernel
theorem dX9_gain_26 : decode cX9_gain 26 = .ok (.istore_n 1, 1) := by decide +kernel
theorem dX9_gain_27 : decode cX9_gain 27 = .ok (.iconst 0, 1) := by decide +kernel
theorem dX9_gain_28 : decode cX9_gain 28 = .ok (.istore_n 2, 1) := by decide +kernel
theorem dX9_gain_29 : decode cX9_gain 29 = .ok (.iload_n 2, 1) := by decide +kernel
theorem dX9_gain_30 : decode cX9_gain 30 = .ok (.aload_n 0, 1) := by decide +kernel
theorem dX9_gain_31 : decode cX9_gain 31 = .ok (.getfield 122, 3) := by decide +kernel
theorem dX9_gain_34 : decode cX9_gain 34 = .ok (.if_icmp .ge 37, 3) := by decide +kernel
theorem dX9_gain_37 : decode cX9_gain 37 = .ok (.iload_n 1, 1) := by decide +kernel
theorem dX9_gain_38 : decode cX9_gain 38 = .ok (.aload_n 0, 1) := by decide +kernel
theorem dX9_gain_39 : decode cX9_gain 39 = .ok (.getfield 110, 3) := by decide +kernel
theorem dX9_gain_42 : decode cX9_gain 42 = .ok (.iload_n 2, 1) := by decide +kernel
theorem dX9_gain_43 : decode cX9_gain 43 = .ok (.iaload, 1) := by decide +kernel
theorem dX9_gain_44 : decode cX9_gain 44 = .ok (.iconst 2, 1) := by decide +kernel
theorem dX9_gain_45 : decode cX9_gain 45 = .ok (.if_icmp .ne 17, 3) := by decide +kernel
theorem dX9_gain_48 : decode cX9_gain 48 = .ok (.aload_n 0, 1) := by decide +kernel
theorem dX9_gain_49 : decode cX9_gain 49 = .ok (.getfield 101, 3) := by decide +kernel
theorem dX9_gain_52 : decode cX9_gain 52 = .ok (.iload_n 2, 1) := by decide +kernel
theorem dX9_gain_53 : decode cX9_gain 53 = .ok (.iaload, 1) := by decide +kernel
theorem dX9_gain_54 : decode cX9_gain 54 = .ok (.iconst 2, 1) := by decide +kernel
theorem dX9_gain_55 : decode cX9_gain 55 = .ok (.if_icmp .eq 7, 3) := by decide +kernel
theorem dX9_gain_58 : decode cX9_gain 58 = .ok (.iconst 1, 1) := by decide +kernel
theorem dX9_gain_59 : decode cX9_gain 59 = .ok (.goto 4, 3) := by decide +kernel
theorem dX9_gain_62 : decode cX9_gain 62 = .ok (.iconst 0, 1) := by decide +kernel
theorem dX9_gain_63 : decode cX9_gain 63 = .ok (.iadd, 1) := by decide +kernel
theorem dX9_gain_64 : decode cX9_gain 64 = .ok (.istore_n 1, 1) := by decide +kernel
theorem dX9_gain_65 : decode cX9_gain 65 = .ok (.iinc 2 1, 3) := by decide +kernel
theorem dX9_gain_68 : decode cX9_gain 68 = .ok (.goto (-39), 3) := by decide +kernel
theorem dX9_gain_71 : decode cX9_gain 71 = .ok (.iload_n 1, 1) := by decide +kernel
theorem dX9_gain_72 : decode cX9_gain 72 = .ok (.ireturn, 1) := by decide +kernel
theorem dX9_count_0 : decode cX9_count 0 = .ok (.aload_n 0, 1) := by decide +kernel
theorem dX9_count_1 : decode cX9_count 1 = .ok (.iconst 0, 1) := by decide +kernel
theorem dX9_count_2 : decode cX9_count 2 = .ok (.invokevirtual 249, 3) := by decide +kernel
theorem dX9_count_5 : decode cX9_count 5 = .ok (.iload_n 1, 1) := by decide +kernel
theorem dX9_count_6 : decode cX9_count 6 = .ok (.tableswitch 135 0 12 #[66, 71, 76, 82, 87, 93, 99, 105, 110, 115, 120, 125, 130], 66) := by decide +kernel
theorem dX9_count_72 : decode cX9_count 72 = .ok (.aload_n 0, 1) := by decide +kernel
theorem dX9_count_73 : decode cX9_count 73 = .ok (.getfield 122, 3) := by decide +kernel
theorem dX9_count_76 : decode cX9_count 76 = .ok (.ireturn, 1) := by decide +kernel
theorem dX9_count_77 : decode cX9_count 77 = .ok (.aload_n 0, 1) := by decide +kernel
theorem dX9_count_78 : decode cX9_count 78 = .ok (.getfield 130, 3) := by decide +kernel
theorem dX9_count_81 : decode cX9_count 81 = .ok (.ireturn, 1) := by decide +kernel
theorem dX9_count_82 : decode cX9_count 82 = .ok (.aload_n 0, 1) := by decide +kernel
theorem dX9_count_83 : decode cX9_count 83 = .ok (.iconst 0, 1) := by decide +kernel
theorem dX9_count_84 : decode cX9_count 84 = .ok (.invokevirtual 285, 3) := by decide +kernel
theorem dX9_count_87 : decode cX9_count 87 = .ok (.ireturn, 1) := by decide +kernel
theorem dX9_count_88 : decode cX9_count 88 = .ok (.aload_n 0, 1) := by decide +kernel
theorem dX9_count_89 : decode cX9_count 89 = .ok (.invokevirtual 269, 3) := by decide +kernel
theorem dX9_count_92 : decode cX9_count 92 = .ok (.ireturn, 1) := by decide +kernel
theorem dX9_count_93 : decode cX9_count 93 = .ok (.aload_n 0, 1) := by decide +kernel
theorem dX9_count_94 : decode cX9_count 94 = .ok (.iconst 1, 1) := by decide +kernel
theorem dX9_count_95 : decode cX9_count 95 = .ok (.invokevirtual 285, 3) := by decide +kernel
theorem dX9_count_98 : decode cX9_count 98 = .ok (.ireturn, 1) := by decide +kernel
theorem dX9_count_99 : decode cX9_count 99 = .ok (.aload_n 0, 1) := by decide +kernel
theorem dX9_count_100 : decode cX9_count 100 = .ok (.iconst 1, 1) := by decide +kernel
theorem dX9_count_101 : decode cX9_count 101 = .ok (.invokevirtual 266, 3) := by decide +kernel
theorem dX9_count_104 : decode cX9_count 104 = .ok (.ireturn, 1) := by decide +kernel
theorem dX9_count_105 : decode cX9_count 105 = .ok (.aload_n 0, 1) := by decide +kernel
theorem dX9_count_106 : decode cX9_count 106 = .ok (.iconst 0, 1) := by decide +kernel
theorem dX9_count_107 : decode cX9_count 107 = .ok (.invokevirtual 266, 3) := by decide +kernel
theorem dX9_count_110 : decode cX9_count 110 = .ok (.ireturn, 1) := by decide +kernel
theorem dX9_count_111 : decode cX9_count 111 = .ok (.aload_n 0, 1) := by decide +kernel
theorem dX9_count_112 : decode cX9_count 112 = .ok (.invokevirtual 289, 3) := by decide +kernel
theorem dX9_count_115 : decode cX9_count 115 = .ok (.ireturn, 1) := by decide +kernel
theorem dX9_count_116 : decode cX9_count 116 = .ok (.aload_n 0, 1) := by decide +kernel
theorem dX9_count_117 : decode cX9_count 117 = .ok (.invokevirtual 292, 3) := by decide +kernel
theorem dX9_count_120 : decode cX9_count 120 = .ok (.ireturn, 1) := by decide +kernel
theorem dX9_count_121 : decode cX9_count 121 = .ok (.aload_n 0, 1) := by decide +kernel
theorem dX9_count_122 : decode cX9_count 122 = .ok (.invokevirtual 295, 3) := by decide +kernel
theorem dX9_count_125 : decode cX9_count 125 = .ok (.ireturn, 1) := by decide +kernel
theorem dX9_count_126 : decode cX9_count 126 = .ok (.aload_n 0, 1) := by decide +kernel
theorem dX9_count_127 : decode cX9_count 127 = .ok (.invokevirtual 298, 3) := by decide +kernel
theorem dX9_count_130 : decode cX9_count 130 = .ok (.ireturn, 1) := by decide +kernel
theorem dX9_count_131 : decode cX9_count 131 = .ok (.aload_n 0, 1) := by decide +kernel
theorem dX9_count_132 : decode cX9_count 132 = .ok (.getfield 216, 3) := by decide +kernel
theorem dX9_count_135 : decode cX9_count 135 = .ok (.ireturn, 1) := by decide +kernel
theorem dX9_count_136 : decode cX9_count 136 = .ok (.aload_n 0, 1) := by decide +kernel
theorem dX9_count_137 : decode cX9_count 137 = .ok (.getfield 133, 3) := by decide +kernel
theorem dX9_count_140 : decode cX9_count 140 = .ok (.ireturn, 1) := by decide +kernel
theorem dX9_count_141 : decode cX9_count 141 = .ok (.iconst (-1), 1) := by decide +kernel
theorem dX9_count_142 : decode cX9_count 142 = .ok (.ireturn, 1) := by decide +kernel
theorem dX9_best_0 : decode cX9_best 0 = .ok (.iload_n 1, 1) := by decide +kernel
theorem dX9_best_1 : decode cX9_best 1 = .ok (.iconst 0, 1) := by decide +kernel
theorem dX9_best_2 : decode cX9_best 2 = .ok (.iconst 1, 1) := by decide +kernel
theorem dX9_best_3 : decode cX9_best 3 = .ok (.invokestatic 126, 3) := by decide +kernel
theorem dX9_best_6 : decode cX9_best 6 = .ok (.ifCond .ne 5, 3) := by decide +kernel
theorem dX9_best_9 : decode cX9_best 9 = .ok (.iconst (-1), 1) := by decide +kernel
theorem dX9_best_10 : decode cX9_best 10 = .ok (.ireturn, 1) := by decide +kernel
theorem dX9_best_11 : decode cX9_best 11 = .ok (.aload_n 0, 1) := by decide +kernel
theorem dX9_best_12 : decode cX9_best 12 = .ok (.iconst 0, 1) := by decide +kernel
theorem dX9_best_13 : decode cX9_best 13 = .ok (.invokevirtual 249, 3) := by decide +kernel
theorem dX9_best_16 : decode cX9_best 16 = .ok (.aload_n 0, 1) := by decide +kernel
theorem dX9_best_17 : decode cX9_best 17 = .ok (.iconst 2, 1) := by decide +kernel
theorem dX9_best_18 : decode cX9_best 18 = .ok (.invokevirtual 266, 3) := by decide +kernel
theorem dX9_best_21 : decode cX9_best 21 = .ok (.istore_n 2, 1) := by decide +kernel
theorem dX9_best_22 : decode cX9_best 22 = .ok (.bipush (-9), 2) := by decide +kernel
theorem dX9_best_24 : decode cX9_best 24 = .ok (.istore_n 3, 1) := by decide +kernel
theorem dX9_best_25 : decode cX9_best 25 = .ok (.sipush (-1000), 3) := by decide +kernel
theorem dX9_best_28 : decode cX9_best 28 = .ok (.istore 4, 2) := by decide +kernel
theorem dX9_best_30 : decode cX9_best 30 = .ok (.iconst 0, 1) := by decide +kernel
theorem dX9_best_31 : decode cX9_best 31 = .ok (.istore 5, 2) := by decide +kernel
theorem dX9_best_33 : decode cX9_best 33 = .ok (.iload 5, 2) := by decide +kernel
theorem dX9_best_35 : decode cX9_best 35 = .ok (.aload_n 0, 1) := by decide +kernel
theorem dX9_best_36 : decode cX9_best 36 = .ok (.getfield 122, 3) := by decide +kernel
theorem dX9_best_39 : decode cX9_best 39 = .ok (.if_icmp .ge 140, 3) := by decide +kernel
theorem dX9_best_42 : decode cX9_best 42 = .ok (.aload_n 0, 1) := by decide +kernel
theorem dX9_best_43 : decode cX9_best 43 = .ok (.getfield 13, 3) := by decide +kernel
theorem dX9_best_46 : decode cX9_best 46 = .ok (.iload 5, 2) := by decide +kernel
theorem dX9_best_48 : decode cX9_best 48 = .ok (.iaload, 1) := by decide +kernel
theorem dX9_best_49 : decode cX9_best 49 = .ok (.iconst 1, 1) := by decide +kernel
theorem dX9_best_50 : decode cX9_best 50 = .ok (.if_icmp .ne 123, 3) := by decide +kernel
theorem dX9_best_53 : decode cX9_best 53 = .ok (.aload_n 0, 1) := by decide +kernel
theorem dX9_best_54 : decode cX9_best 54 = .ok (.getfield 49, 3) := by decide +kernel
theorem dX9_best_57 : decode cX9_best 57 = .ok (.iconst 0, 1) := by decide +kernel
theorem dX9_best_58 : decode cX9_best 58 = .ok (.iload 5, 2) := by decide +kernel
theorem dX9_best_60 : decode cX9_best 60 = .ok (.iadd, 1) := by decide +kernel
theorem dX9_best_61 : decode cX9_best 61 = .ok (.iaload, 1) := by decide +kernel
theorem dX9_best_62 : decode cX9_best 62 = .ok (.ifCond .ne 111, 3) := by decide +kernel
theorem dX9_best_65 : decode cX9_best 65 = .ok (.aload_n 0, 1) := by decide +kernel
theorem dX9_best_66 : decode cX9_best 66 = .ok (.getfield 49, 3) := by decide +kernel
theorem dX9_best_69 : decode cX9_best 69 = .ok (.bipush 24, 2) := by decide +kernel
theorem dX9_best_71 : decode cX9_best 71 = .ok (.iload 5, 2) := by decide +kernel
theorem dX9_best_73 : decode cX9_best 73 = .ok (.iadd, 1) := by decide +kernel
theorem dX9_best_74 : decode cX9_best 74 = .ok (.iaload, 1) := by decide +kernel
theorem dX9_best_75 : decode cX9_best 75 = .ok (.istore 6, 2) := by decide +kernel
theorem dX9_best_77 : decode cX9_best 77 = .ok (.aload_n 0, 1) := by decide +kernel
theorem dX9_best_78 : decode cX9_best 78 = .ok (.getfield 49, 3) := by decide +kernel
theorem dX9_best_81 : decode cX9_best 81 = .ok (.iconst 0, 1) := by decide +kernel
theorem dX9_best_82 : decode cX9_best 82 = .ok (.iload 5, 2) := by decide +kernel
theorem dX9_best_84 : decode cX9_best 84 = .ok (.iadd, 1) := by decide +kernel
theorem dX9_best_85 : decode cX9_best 85 = .ok (.iconst 1, 1) := by decide +kernel
theorem dX9_best_86 : decode cX9_best 86 = .ok (.iastore, 1) := by decide +kernel
theorem dX9_best_87 : decode cX9_best 87 = .ok (.aload_n 0, 1) := by decide +kernel
theorem dX9_best_88 : decode cX9_best 88 = .ok (.getfield 49, 3) := by decide +kernel
theorem dX9_best_91 : decode cX9_best 91 = .ok (.bipush 24, 2) := by decide +kernel
theorem dX9_best_93 : decode cX9_best 93 = .ok (.iload 5, 2) := by decide +kernel
theorem dX9_best_95 : decode cX9_best 95 = .ok (.iadd, 1) := by decide +kernel
theorem dX9_best_96 : decode cX9_best 96 = .ok (.aload_n 0, 1) := by decide +kernel
theorem dX9_best_97 : decode cX9_best 97 = .ok (.getfield 49, 3) := by decide +kernel
theorem dX9_best_100 : decode cX9_best 100 = .ok (.bipush 48, 2) := by decide +kernel
theorem dX9_best_102 : decode cX9_best 102 = .ok (.iload 5, 2) := by decide +kernel
theorem dX9_best_104 : decode cX9_best 104 = .ok (.iadd, 1) := by decide +kernel
theorem dX9_best_105 : decode cX9_best 105 = .ok (.iaload, 1) := by decide +kernel
theorem dX9_best_106 : decode cX9_best 106 = .ok (.iastore, 1) := by decide +kernel
theorem dX9_best_107 : decode cX9_best 107 = .ok (.aload_n 0, 1) := by decide +kernel
theorem dX9_best_108 : decode cX9_best 108 = .ok (.iconst 0, 1) := by decide +kernel
theorem dX9_best_109 : decode cX9_best 109 = .ok (.invokevirtual 249, 3) := by decide +kernel
theorem dX9_best_112 : decode cX9_best 112 = .ok (.iload_n 2, 1) := by decide +kernel
theorem dX9_best_113 : decode cX9_best 113 = .ok (.aload_n 0, 1) := by decide +kernel
theorem dX9_best_114 : decode cX9_best 114 = .ok (.iconst 2, 1) := by decide +kernel
theorem dX9_best_115 : decode cX9_best 115 = .ok (.invokevirtual 266, 3) := by decide +kernel
theorem dX9_best_118 : decode cX9_best 118 = .ok (.isub, 1) := by decide +kernel
theorem dX9_best_119 : decode cX9_best 119 = .ok (.istore 7, 2) := by decide +kernel
theorem dX9_best_121 : decode cX9_best 121 = .ok (.aload_n 0, 1) := by decide +kernel
theorem dX9_best_122 : decode cX9_best 122 = .ok (.getfield 49, 3) := by decide +kernel
theorem dX9_best_125 : decode cX9_best 125 = .ok (.iconst 0, 1) := by decide +kernel
theorem dX9_best_126 : decode cX9_best 126 = .ok (.iload 5, 2) := by decide +kernel
theorem dX9_best_128 : decode cX9_best 128 = .ok (.iadd, 1) := by decide +kernel
theorem dX9_best_129 : decode cX9_best 129 = .ok (.iconst 0, 1) := by decide +kernel
theorem dX9_best_130 : decode cX9_best 130 = .ok (.iastore, 1) := by decide +kernel
theorem dX9_best_131 : decode cX9_best 131 = .ok (.aload_n 0, 1) := by decide +kernel
theorem dX9_best_132 : decode cX9_best 132 = .ok (.getfield 49, 3) := by decide +kernel
theorem dX9_best_135 : decode cX9_best 135 = .ok (.bipush 24, 2) := by decide +kernel
theorem dX9_best_137 : decode cX9_best 137 = .ok (.iload 5, 2) := by decide +kernel
theorem dX9_best_139 : decode cX9_best 139 = .ok (.iadd, 1) := by decide +kernel
theorem dX9_best_140 : decode cX9_best 140 = .ok (.iload 6, 2) := by decide +kernel
theorem dX9_best_142 : decode cX9_best 142 = .ok (.iastore, 1) := by decide +kernel
theorem dX9_best_143 : decode cX9_best 143 = .ok (.iload 7, 2) := by decide +kernel
theorem dX9_best_145 : decode cX9_best 145 = .ok (.iload 4, 2) := by decide +kernel
theorem dX9_best_147 : decode cX9_best 147 = .ok (.if_icmp .le 8, 3) := by decide +kernel
theorem dX9_best_150 : decode cX9_best 150 = .ok (.iload 5, 2) := by decide +kernel
theorem dX9_best_152 : decode cX9_best 152 = .ok (.goto 4, 3) := by decide +kernel
theorem dX9_best_155 : decode cX9_best 155 = .ok (.iload_n 3, 1) := by decide +kernel
theorem dX9_best_156 : decode cX9_best 156 = .ok (.istore_n 3, 1) := by decide +kernel
theorem dX9_best_157 : decode cX9_best 157 = .ok (.iload 7, 2) := by decide +kernel
theorem dX9_best_159 : decode cX9_best 159 = .ok (.iload 4, 2) := by decide +kernel
theorem dX9_best_161 : decode cX9_best 161 = .ok (.if_icmp .le 8, 3) := by decide +kernel
theorem dX9_best_164 : decode cX9_best 164 = .ok (.iload 7, 2) := by decide +kernel
theorem dX9_best_166 : decode cX9_best 166 = .ok (.goto 5, 3) := by decide +kernel
theorem dX9_best_169 : decode cX9_best 169 = .ok (.iload 4, 2) := by decide +kernel
theorem dX9_best_171 : decode cX9_best 171 = .ok (.istore 4, 2) := by decide +kernel
theorem dX9_best_173 : decode cX9_best 173 = .ok (.iinc 5 1, 3) := by decide +kernel
theorem dX9_best_176 : decode cX9_best 176 = .ok (.goto (-143), 3) := by decide +kernel
theorem dX9_best_179 : decode cX9_best 179 = .ok (.iload_n 3, 1) := by decide +kernel
theorem dX9_best_180 : decode cX9_best 180 = .ok (.bipush (-9), 2) := by decide +kernel
theorem dX9_best_182 : decode cX9_best 182 = .ok (.if_icmp .eq 7, 3) := by decide +kernel
theorem dX9_best_185 : decode cX9_best 185 = .ok (.iload_n 1, 1) := by decide +kernel
theorem dX9_best_186 : decode cX9_best 186 = .ok (.ifCond .ne 7, 3) := by decide +kernel
theorem dX9_best_189 : decode cX9_best 189 = .ok (.iload_n 3, 1) := by decide +kernel
theorem dX9_best_190 : decode cX9_best 190 = .ok (.goto 5, 3) := by decide +kernel
theorem dX9_best_193 : decode cX9_best 193 = .ok (.iload 4, 2) := by decide +kernel
theorem dX9_best_195 : decode cX9_best 195 = .ok (.ireturn, 1) := by decide +kernel
theorem dX9_keep_0 : decode cX9_keep 0 = .ok (.iload_n 1, 1) := by decide +kernel
theorem dX9_keep_1 : decode cX9_keep 1 = .ok (.iconst 0, 1) := by decide +kernel
theorem dX9_keep_2 : decode cX9_keep 2 = .ok (.iconst 1, 1) := by decide +kernel
theorem dX9_keep_3 : decode cX9_keep 3 = .ok (.invokestatic 126, 3) := by decide +kernel
theorem dX9_keep_6 : decode cX9_keep 6 = .ok (.ifCond .ne 5, 3) := by decide +kernel
theorem dX9_keep_9 : decode cX9_keep 9 = .ok (.iconst (-1), 1) := by decide +kernel
theorem dX9_keep_10 : decode cX9_keep 10 = .ok (.ireturn, 1) := by decide +kernel
theorem dX9_keep_11 : decode cX9_keep 11 = .ok (.aload_n 0, 1) := by decide +kernel
theorem dX9_keep_12 : decode cX9_keep 12 = .ok (.getfield 49, 3) := by decide +kernel
theorem dX9_keep_15 : decode cX9_keep 15 = .ok (.iconst 0, 1) := by decide +kernel
theorem dX9_keep_16 : decode cX9_keep 16 = .ok (.aload_n 0, 1) := by decide +kernel
theorem dX9_keep_17 : decode cX9_keep 17 = .ok (.getfield 55, 3) := by decide +kernel
theorem dX9_keep_20 : decode cX9_keep 20 = .ok (.bipush 112, 2) := by decide +kernel
theorem dX9_keep_22 : decode cX9_keep 22 = .ok (.iload_n 1, 1) := by decide +kernel
theorem dX9_keep_23 : decode cX9_keep 23 = .ok (.imul, 1) := by decide +kernel
theorem dX9_keep_24 : decode cX9_keep 24 = .ok (.bipush 112, 2) := by decide +kernel
theorem dX9_keep_26 : decode cX9_keep 26 = .ok (.invokestatic 212, 3) := by decide +kernel
theorem dX9_keep_29 : decode cX9_keep 29 = .ok (.aload_n 0, 1) := by decide +kernel
theorem dX9_keep_30 : decode cX9_keep 30 = .ok (.getfield 58, 3) := by decide +kernel
theorem dX9_keep_33 : decode cX9_keep 33 = .ok (.iload_n 1, 1) := by decide +kernel
theorem dX9_keep_34 : decode cX9_keep 34 = .ok (.iconst 1, 1) := by decide +kernel
theorem dX9_keep_35 : decode cX9_keep 35 = .ok (.bastore, 1) := by decide +kernel
theorem dX9_keep_36 : decode cX9_keep 36 = .ok (.aload_n 0, 1) := by decide +kernel
theorem dX9_keep_37 : decode cX9_keep 37 = .ok (.getfield 122, 3) := by decide +kernel
theorem dX9_keep_40 : decode cX9_keep 40 = .ok (.ireturn, 1) := by decide +kernel
theorem dX9_back_0 : decode cX9_back 0 = .ok (.iload_n 1, 1) := by decide +kernel
theorem dX9_back_1 : decode cX9_back 1 = .ok (.iconst 0, 1) := by decide +kernel
theorem dX9_back_2 : decode cX9_back 2 = .ok (.iconst 1, 1) := by decide +kernel
theorem dX9_back_3 : decode cX9_back 3 = .ok (.invokestatic 126, 3) := by decide +kernel
theorem dX9_back_6 : decode cX9_back 6 = .ok (.ifCond .ne 5, 3) := by decide +kernel
theorem dX9_back_9 : decode cX9_back 9 = .ok (.iconst (-1), 1) := by decide +kernel
theorem dX9_back_10 : decode cX9_back 10 = .ok (.ireturn, 1) := by decide +kernel
theorem dX9_back_11 : decode cX9_back 11 = .ok (.aload_n 0, 1) := by decide +kernel
theorem dX9_back_12 : decode cX9_back 12 = .ok (.getfield 58, 3) := by decide +kernel
theorem dX9_back_15 : decode cX9_back 15 = .ok (.iload_n 1, 1) := by decide +kernel
theorem dX9_back_16 : decode cX9_back 16 = .ok (.baload, 1) := by decide +kernel
theorem dX9_back_17 : decode cX9_back 17 = .ok (.ifCond .ne 6, 3) := by decide +kernel
theorem dX9_back_20 : decode cX9_back 20 = .ok (.bipush (-2), 2) := by decide +kernel
theorem dX9_back_22 : decode cX9_back 22 = .ok (.ireturn, 1) := by decide +kernel
theorem dX9_back_23 : decode cX9_back 23 = .ok (.aload_n 0, 1) := by decide +kernel
theorem dX9_back_24 : decode cX9_back 24 = .ok (.getfield 55, 3) := by decide +kernel
theorem dX9_back_27 : decode cX9_back 27 = .ok (.bipush 112, 2) := by decide +kernel
theorem dX9_back_29 : decode cX9_back 29 = .ok (.iload_n 1, 1) := by decide +kernel
theorem dX9_back_30 : decode cX9_back 30 = .ok (.imul, 1) := by decide +kernel
theorem dX9_back_31 : decode cX9_back 31 = .ok (.aload_n 0, 1) := by decide +kernel
theorem dX9_back_32 : decode cX9_back 32 = .ok (.getfield 49, 3) := by decide +kernel
theorem dX9_back_35 : decode cX9_back 35 = .ok (.iconst 0, 1) := by decide +kernel
theorem dX9_back_36 : decode cX9_back 36 = .ok (.bipush 112, 2) := by decide +kernel
theorem dX9_back_38 : decode cX9_back 38 = .ok (.invokestatic 212, 3) := by decide +kernel
theorem dX9_back_41 : decode cX9_back 41 = .ok (.aload_n 0, 1) := by decide +kernel
theorem dX9_back_42 : decode cX9_back 42 = .ok (.iconst 0, 1) := by decide +kernel
theorem dX9_back_43 : decode cX9_back 43 = .ok (.putfield 216, 3) := by decide +kernel
theorem dX9_back_46 : decode cX9_back 46 = .ok (.aload_n 0, 1) := by decide +kernel
theorem dX9_back_47 : decode cX9_back 47 = .ok (.getfield 122, 3) := by decide +kernel
theorem dX9_back_50 : decode cX9_back 50 = .ok (.ireturn, 1) := by decide +kernel
theorem dX9_asked_0 : decode cX9_asked 0 = .ok (.aload_n 0, 1) := by decide +kernel
theorem dX9_asked_1 : decode cX9_asked 1 = .ok (.getfield 243, 3) := by decide +kernel
theorem dX9_asked_4 : decode cX9_asked 4 = .ok (.ireturn, 1) := by decide +kernel
theorem dJ7_fill_53178_0 : decode cJ7_fill_53178 0 = .ok (.iconst 0, 1) := by decide +kernel
theorem dJ7_fill_53178_1 : decode cJ7_fill_53178 1 = .ok (.istore_n 2, 1) := by decide +kernel
theorem dJ7_fill_53178_2 : decode cJ7_fill_53178 2 = .ok (.aload_n 0, 1) := by decide +kernel
theorem dJ7_fill_53178_3 : decode cJ7_fill_53178 3 = .ok (.arraylength, 1) := by decide +kernel
theorem dJ7_fill_53178_4 : decode cJ7_fill_53178 4 = .ok (.istore_n 3, 1) := by decide +kernel
theorem dJ7_fill_53178_5 : decode cJ7_fill_53178 5 = .ok (.iload_n 2, 1) := by decide +kernel
theorem dJ7_fill_53178_6 : decode cJ7_fill_53178 6 = .ok (.iload_n 3, 1) := by decide +kernel
theorem dJ7_fill_53178_7 : decode cJ7_fill_53178 7 = .ok (.if_icmp .ge 13, 3) := by decide +kernel
theorem dJ7_fill_53178_10 : decode cJ7_fill_53178 10 = .ok (.aload_n 0, 1) := by decide +kernel
theorem dJ7_fill_53178_11 : decode cJ7_fill_53178 11 = .ok (.iload_n 2, 1) := by decide +kernel
theorem dJ7_fill_53178_12 : decode cJ7_fill_53178 12 = .ok (.iload_n 1, 1) := by decide +kernel
theorem dJ7_fill_53178_13 : decode cJ7_fill_53178 13 = .ok (.iastore, 1) := by decide +kernel
theorem dJ7_fill_53178_14 : decode cJ7_fill_53178 14 = .ok (.iinc 2 1, 3) := by decide +kernel
theorem dJ7_fill_53178_17 : decode cJ7_fill_53178 17 = .ok (.goto (-12), 3) := by decide +kernel
theorem dJ7_fill_53178_20 : decode cJ7_fill_53178 20 = .ok (.return_, 1) := by decide +kernel
theorem dL_law_0 : decode cL_law 0 = .ok (.new 7, 3) := by decide +kernel
theorem dL_law_3 : decode cL_law 3 = .ok (.dup, 1) := by decide +kernel
theorem dL_law_4 : decode cL_law 4 = .ok (.invokespecial 9, 3) := by decide +kernel
theorem dL_law_7 : decode cL_law 7 = .ok (.astore_n 1, 1) := by decide +kernel
theorem dL_law_8 : decode cL_law 8 = .ok (.new 10, 3) := by decide +kernel
theorem dL_law_11 : decode cL_law 11 = .ok (.dup, 1) := by decide +kernel
theorem dL_law_12 : decode cL_law 12 = .ok (.invokespecial 12, 3) := by decide +kernel
theorem dL_law_15 : decode cL_law 15 = .ok (.astore_n 2, 1) := by decide +kernel
theorem dL_law_16 : decode cL_law 16 = .ok (.iconst 0, 1) := by decide +kernel
theorem dL_law_17 : decode cL_law 17 = .ok (.istore_n 3, 1) := by decide +kernel
theorem dL_law_18 : decode cL_law 18 = .ok (.iload_n 3, 1) := by decide +kernel
theorem dL_law_19 : decode cL_law 19 = .ok (.aload_n 0, 1) := by decide +kernel
theorem dL_law_20 : decode cL_law 20 = .ok (.arraylength, 1) := by decide +kernel
theorem dL_law_21 : decode cL_law 21 = .ok (.iconst 3, 1) := by decide +kernel
theorem dL_law_22 : decode cL_law 22 = .ok (.isub, 1) := by decide +kernel
theorem dL_law_23 : decode cL_law 23 = .ok (.if_icmp .gt 571, 3) := by decide +kernel
theorem dL_law_26 : decode cL_law 26 = .ok (.aload_n 0, 1) := by decide +kernel
theorem dL_law_27 : decode cL_law 27 = .ok (.iload_n 3, 1) := by decide +kernel
theorem dL_law_28 : decode cL_law 28 = .ok (.iaload, 1) := by decide +kernel
theorem dL_law_29 : decode cL_law 29 = .ok (.bipush 31, 2) := by decide +kernel
theorem dL_law_31 : decode cL_law 31 = .ok (.iand, 1) := by decide +kernel
theorem dL_law_32 : decode cL_law 32 = .ok (.tableswitch 556 0 19 #[96, 119, 132, 145, 178, 201, 234, 267, 290, 323, 356, 379, 392, 405, 428, 451, 474, 497, 520, 543], 96) := by decide +kernel
theorem dL_law_128 : decode cL_law 128 = .ok (.aload_n 1, 1) := by decide +kernel
theorem dL_law_129 : decode cL_law 129 = .ok (.aload_n 0, 1) := by decide +kernel
theorem dL_law_130 : decode cL_law 130 = .ok (.iload_n 3, 1) := by decide +kernel
theorem dL_law_131 : decode cL_law 131 = .ok (.iconst 1, 1) := by decide +kernel
theorem dL_law_132 : decode cL_law 132 = .ok (.iadd, 1) := by decide +kernel
theorem dL_law_133 : decode cL_law 133 = .ok (.iaload, 1) := by decide +kernel
theorem dL_law_134 : decode cL_law 134 = .ok (.invokevirtual 13, 3) := by decide +kernel
theorem dL_law_137 : decode cL_law 137 = .ok (.aload_n 2, 1) := by decide +kernel
theorem dL_law_138 : decode cL_law 138 = .ok (.aload_n 0, 1) := by decide +kernel
theorem dL_law_139 : decode cL_law 139 = .ok (.iload_n 3, 1) := by decide +kernel
theorem dL_law_140 : decode cL_law 140 = .ok (.iconst 1, 1) := by decide +kernel
theorem dL_law_141 : decode cL_law 141 = .ok (.iadd, 1) := by decide +kernel
theorem dL_law_142 : decode cL_law 142 = .ok (.iaload, 1) := by decide +kernel
theorem dL_law_143 : decode cL_law 143 = .ok (.invokevirtual 17, 3) := by decide +kernel
theorem dL_law_146 : decode cL_law 146 = .ok (.if_icmp .eq 442, 3) := by decide +kernel
theorem dL_law_149 : decode cL_law 149 = .ok (.iconst 0, 1) := by decide +kernel
theorem dL_law_150 : decode cL_law 150 = .ok (.ireturn, 1) := by decide +kernel
theorem dL_law_151 : decode cL_law 151 = .ok (.aload_n 1, 1) := by decide +kernel
theorem dL_law_152 : decode cL_law 152 = .ok (.invokevirtual 18, 3) := by decide +kernel
theorem dL_law_155 : decode cL_law 155 = .ok (.aload_n 2, 1) := by decide +kernel
theorem dL_law_156 : decode cL_law 156 = .ok (.invokevirtual 22, 3) := by decide +kernel
theorem dL_law_159 : decode cL_law 159 = .ok (.if_icmp .eq 429, 3) := by decide +kernel
theorem dL_law_162 : decode cL_law 162 = .ok (.iconst 0, 1) := by decide +kernel
theorem dL_law_163 : decode cL_law 163 = .ok (.ireturn, 1) := by decide +kernel
theorem dL_law_164 : decode cL_law 164 = .ok (.aload_n 1, 1) := by decide +kernel
theorem dL_law_165 : decode cL_law 165 = .ok (.invokevirtual 23, 3) := by decide +kernel
theorem dL_law_168 : decode cL_law 168 = .ok (.aload_n 2, 1) := by decide +kernel
theorem dL_law_169 : decode cL_law 169 = .ok (.invokevirtual 26, 3) := by decide +kernel
theorem dL_law_172 : decode cL_law 172 = .ok (.if_icmp .eq 416, 3) := by decide +kernel
theorem dL_law_175 : decode cL_law 175 = .ok (.iconst 0, 1) := by decide +kernel
theorem dL_law_176 : decode cL_law 176 = .ok (.ireturn, 1) := by decide +kernel
theorem dL_law_177 : decode cL_law 177 = .ok (.aload_n 1, 1) := by decide +kernel
theorem dL_law_178 : decode cL_law 178 = .ok (.aload_n 0, 1) := by decide +kernel
theorem dL_law_179 : decode cL_law 179 = .ok (.iload_n 3, 1) := by decide +kernel
theorem dL_law_180 : decode cL_law 180 = .ok (.iconst 1, 1) := by decide +kernel
theorem dL_law_181 : decode cL_law 181 = .ok (.iadd, 1) := by decide +kernel
theorem dL_law_182 : decode cL_law 182 = .ok (.iaload, 1) := by decide +kernel
theorem dL_law_183 : decode cL_law 183 = .ok (.aload_n 0, 1) := by decide +kernel
theorem dL_law_184 : decode cL_law 184 = .ok (.iload_n 3, 1) := by decide +kernel
theorem dL_law_185 : decode cL_law 185 = .ok (.iconst 2, 1) := by decide +kernel
theorem dL_law_186 : decode cL_law 186 = .ok (.iadd, 1) := by decide +kernel
theorem dL_law_187 : decode cL_law 187 = .ok (.iaload, 1) := by decide +kernel
theorem dL_law_188 : decode cL_law 188 = .ok (.invokevirtual 27, 3) := by decide +kernel
theorem dL_law_191 : decode cL_law 191 = .ok (.aload_n 2, 1) := by decide +kernel
theorem dL_law_192 : decode cL_law 192 = .ok (.aload_n 0, 1) := by decide +kernel
theorem dL_law_193 : decode cL_law 193 = .ok (.iload_n 3, 1) := by decide +kernel
theorem dL_law_194 : decode cL_law 194 = .ok (.iconst 1, 1) := by decide +kernel
theorem dL_law_195 : decode cL_law 195 = .ok (.iadd, 1) := by decide +kernel
theorem dL_law_196 : decode cL_law 196 = .ok (.iaload, 1) := by decide +kernel
theorem dL_law_197 : decode cL_law 197 = .ok (.aload_n 0, 1) := by decide +kernel
theorem dL_law_198 : decode cL_law 198 = .ok (.iload_n 3, 1) := by decide +kernel
theorem dL_law_199 : decode cL_law 199 = .ok (.iconst 2, 1) := by decide +kernel
theorem dL_law_200 : decode cL_law 200 = .ok (.iadd, 1) := by decide +kernel
theorem dL_law_201 : decode cL_law 201 = .ok (.iaload, 1) := by decide +kernel
theorem dL_law_202 : decode cL_law 202 = .ok (.invokevirtual 31, 3) := by decide +kernel
theorem dL_law_205 : decode cL_law 205 = .ok (.if_icmp .eq 383, 3) := by decide +kernel
theorem dL_law_208 : decode cL_law 208 = .ok (.iconst 0, 1) := by decide +kernel
theorem dL_law_209 : decode cL_law 209 = .ok (.ireturn, 1) := by decide +kernel
theorem dL_law_210 : decode cL_law 210 = .ok (.aload_n 1, 1) := by decide +kernel
theorem dL_law_211 : decode cL_law 211 = .ok (.aload_n 0, 1) := by decide +kernel
theorem dL_law_212 : decode cL_law 212 = .ok (.iload_n 3, 1) := by decide +kernel
theorem dL_law_213 : decode cL_law 213 = .ok (.iconst 1, 1) := by decide +kernel
theorem dL_law_214 : decode cL_law 214 = .ok (.iadd, 1) := by decide +kernel
theorem dL_law_215 : decode cL_law 215 = .ok (.iaload, 1) := by decide +kernel
theorem dL_law_216 : decode cL_law 216 = .ok (.invokevirtual 32, 3) := by decide +kernel
theorem dL_law_219 : decode cL_law 219 = .ok (.aload_n 2, 1) := by decide +kernel
theorem dL_law_220 : decode cL_law 220 = .ok (.aload_n 0, 1) := by decide +kernel
theorem dL_law_221 : decode cL_law 221 = .ok (.iload_n 3, 1) := by decide +kernel
theorem dL_law_222 : decode cL_law 222 = .ok (.iconst 1, 1) := by decide +kernel
theorem dL_law_223 : decode cL_law 223 = .ok (.iadd, 1) := by decide +kernel
theorem dL_law_224 : decode cL_law 224 = .ok (.iaload, 1) := by decide +kernel
theorem dL_law_225 : decode cL_law 225 = .ok (.invokevirtual 35, 3) := by decide +kernel
theorem dL_law_228 : decode cL_law 228 = .ok (.if_icmp .eq 360, 3) := by decide +kernel
theorem dL_law_231 : decode cL_law 231 = .ok (.iconst 0, 1) := by decide +kernel
theorem dL_law_232 : decode cL_law 232 = .ok (.ireturn, 1) := by decide +kernel
theorem dL_law_233 : decode cL_law 233 = .ok (.aload_n 1, 1) := by decide +kernel
theorem dL_law_234 : decode cL_law 234 = .ok (.aload_n 0, 1) := by decide +kernel
theorem dL_law_235 : decode cL_law 235 = .ok (.iload_n 3, 1) := by decide +kernel
theorem dL_law_236 : decode cL_law 236 = .ok (.iconst 1, 1) := by decide +kernel
theorem dL_law_237 : decode cL_law 237 = .ok (.iadd, 1) := by decide +kernel
theorem dL_law_238 : decode cL_law 238 = .ok (.iaload, 1) := by decide +kernel
theorem dL_law_239 : decode cL_law 239 = .ok (.aload_n 0, 1) := by decide +kernel
theorem dL_law_240 : decode cL_law 240 = .ok (.iload_n 3, 1) := by decide +kernel
theorem dL_law_241 : decode cL_law 241 = .ok (.iconst 2, 1) := by decide +kernel
theorem dL_law_242 : decode cL_law 242 = .ok (.iadd, 1) := by decide +kernel
theorem dL_law_243 : decode cL_law 243 = .ok (.iaload, 1) := by decide +kernel
theorem dL_law_244 : decode cL_law 244 = .ok (.invokevirtual 36, 3) := by decide +kernel
theorem dL_law_247 : decode cL_law 247 = .ok (.aload_n 2, 1) := by decide +kernel
theorem dL_law_248 : decode cL_law 248 = .ok (.aload_n 0, 1) := by decide +kernel
theorem dL_law_249 : decode cL_law 249 = .ok (.iload_n 3, 1) := by decide +kernel
theorem dL_law_250 : decode cL_law 250 = .ok (.iconst 1, 1) := by decide +kernel
theorem dL_law_251 : decode cL_law 251 = .ok (.iadd, 1) := by decide +kernel
theorem dL_law_252 : decode cL_law 252 = .ok (.iaload, 1) := by decide +kernel
theorem dL_law_253 : decode cL_law 253 = .ok (.aload_n 0, 1) := by decide +kernel
theorem dL_law_254 : decode cL_law 254 = .ok (.iload_n 3, 1) := by decide +kernel
theorem dL_law_255 : decode cL_law 255 = .ok (.iconst 2, 1) := by decide +kernel
theorem dL_law_256 : decode cL_law 256 = .ok (.iadd, 1) := by decide +kernel
theorem dL_law_257 : decode cL_law 257 = .ok (.iaload, 1) := by decide +kernel
theorem dL_law_258 : decode cL_law 258 = .ok (.invokevirtual 39, 3) := by decide +kernel
theorem dL_law_261 : decode cL_law 261 = .ok (.if_icmp .eq 327, 3) := by decide +kernel
theorem dL_law_264 : decode cL_law 264 = .ok (.iconst 0, 1) := by decide +kernel
theorem dL_law_265 : decode cL_law 265 = .ok (.ireturn, 1) := by decide +kernel
theorem dL_law_266 : decode cL_law 266 = .ok (.aload_n 1, 1) := by decide +kernel
theorem dL_law_267 : decode cL_law 267 = .ok (.aload_n 0, 1) := by decide +kernel
theorem dL_law_268 : decode cL_law 268 = .ok (.iload_n 3, 1) := by decide +kernel
theorem dL_law_269 : decode cL_law 269 = .ok (.iconst 1, 1) := by decide +kernel
theorem dL_law_270 : decode cL_law 270 = .ok (.iadd, 1) := by decide +kernel
theorem dL_law_271 : decode cL_law 271 = .ok (.iaload, 1) := by decide +kernel
theorem dL_law_272 : decode cL_law 272 = .ok (.aload_n 0, 1) := by decide +kernel
theorem dL_law_273 : decode cL_law 273 = .ok (.iload_n 3, 1) := by decide +kernel
theorem dL_law_274 : decode cL_law 274 = .ok (.iconst 2, 1) := by decide +kernel
theorem dL_law_275 : decode cL_law 275 = .ok (.iadd, 1) := by decide +kernel
theorem dL_law_276 : decode cL_law 276 = .ok (.iaload, 1) := by decide +kernel
theorem dL_law_277 : decode cL_law 277 = .ok (.invokevirtual 40, 3) := by decide +kernel
theorem dL_law_280 : decode cL_law 280 = .ok (.aload_n 2, 1) := by decide +kernel
theorem dL_law_281 : decode cL_law 281 = .ok (.aload_n 0, 1) := by decide +kernel
theorem dL_law_282 : decode cL_law 282 = .ok (.iload_n 3, 1) := by decide +kernel
theorem dL_law_283 : decode cL_law 283 = .ok (.iconst 1, 1) := by decide +kernel
theorem dL_law_284 : decode cL_law 284 = .ok (.iadd, 1) := by decide +kernel
theorem dL_law_285 : decode cL_law 285 = .ok (.iaload, 1) := by decide +kernel
theorem dL_law_286 : decode cL_law 286 = .ok (.aload_n 0, 1) := by decide +kernel
theorem dL_law_287 : decode cL_law 287 = .ok (.iload_n 3, 1) := by decide +kernel
theorem dL_law_288 : decode cL_law 288 = .ok (.iconst 2, 1) := by decide +kernel
theorem dL_law_289 : decode cL_law 289 = .ok (.iadd, 1) := by decide +kernel
theorem dL_law_290 : decode cL_law 290 = .ok (.iaload, 1) := by decide +kernel
theorem dL_law_291 : decode cL_law 291 = .ok (.invokevirtual 43, 3) := by decide +kernel
theorem dL_law_294 : decode cL_law 294 = .ok (.if_icmp .eq 294, 3) := by decide +kernel
theorem dL_law_297 : decode cL_law 297 = .ok (.iconst 0, 1) := by decide +kernel
theorem dL_law_298 : decode cL_law 298 = .ok (.ireturn, 1) := by decide +kernel
theorem dL_law_299 : decode cL_law 299 = .ok (.aload_n 1, 1) := by decide +kernel
theorem dL_law_300 : decode cL_law 300 = .ok (.aload_n 0, 1) := by decide +kernel
theorem dL_law_301 : decode cL_law 301 = .ok (.iload_n 3, 1) := by decide +kernel
theorem dL_law_302 : decode cL_law 302 = .ok (.iconst 1, 1) := by decide +kernel
theorem dL_law_303 : decode cL_law 303 = .ok (.iadd, 1) := by decide +kernel
theorem dL_law_304 : decode cL_law 304 = .ok (.iaload, 1) := by decide +kernel
theorem dL_law_305 : decode cL_law 305 = .ok (.invokevirtual 44, 3) := by decide +kernel
theorem dL_law_308 : decode cL_law 308 = .ok (.aload_n 2, 1) := by decide +kernel
theorem dL_law_309 : decode cL_law 309 = .ok (.aload_n 0, 1) := by decide +kernel
theorem dL_law_310 : decode cL_law 310 = .ok (.iload_n 3, 1) := by decide +kernel
theorem dL_law_311 : decode cL_law 311 = .ok (.iconst 1, 1) := by decide +kernel
theorem dL_law_312 : decode cL_law 312 = .ok (.iadd, 1) := by decide +kernel
theorem dL_law_313 : decode cL_law 313 = .ok (.iaload, 1) := by decide +kernel
theorem dL_law_314 : decode cL_law 314 = .ok (.invokevirtual 47, 3) := by decide +kernel
theorem dL_law_317 : decode cL_law 317 = .ok (.if_icmp .eq 271, 3) := by decide +kernel
theorem dL_law_320 : decode cL_law 320 = .ok (.iconst 0, 1) := by decide +kernel
theorem dL_law_321 : decode cL_law 321 = .ok (.ireturn, 1) := by decide +kernel
theorem dL_law_322 : decode cL_law 322 = .ok (.aload_n 1, 1) := by decide +kernel
theorem dL_law_323 : decode cL_law 323 = .ok (.aload_n 0, 1) := by decide +kernel
theorem dL_law_324 : decode cL_law 324 = .ok (.iload_n 3, 1) := by decide +kernel
theorem dL_law_325 : decode cL_law 325 = .ok (.iconst 1, 1) := by decide +kernel
theorem dL_law_326 : decode cL_law 326 = .ok (.iadd, 1) := by decide +kernel
theorem dL_law_327 : decode cL_law 327 = .ok (.iaload, 1) := by decide +kernel
theorem dL_law_328 : decode cL_law 328 = .ok (.aload_n 0, 1) := by decide +kernel
theorem dL_law_329 : decode cL_law 329 = .ok (.iload_n 3, 1) := by decide +kernel
theorem dL_law_330 : decode cL_law 330 = .ok (.iconst 2, 1) := by decide +kernel
theorem dL_law_331 : decode cL_law 331 = .ok (.iadd, 1) := by decide +kernel
theorem dL_law_332 : decode cL_law 332 = .ok (.iaload, 1) := by decide +kernel
theorem dL_law_333 : decode cL_law 333 = .ok (.invokevirtual 48, 3) := by decide +kernel
theorem dL_law_336 : decode cL_law 336 = .ok (.aload_n 2, 1) := by decide +kernel
theorem dL_law_337 : decode cL_law 337 = .ok (.aload_n 0, 1) := by decide +kernel
theorem dL_law_338 : decode cL_law 338 = .ok (.iload_n 3, 1) := by decide +kernel
theorem dL_law_339 : decode cL_law 339 = .ok (.iconst 1, 1) := by decide +kernel
theorem dL_law_340 : decode cL_law 340 = .ok (.iadd, 1) := by decide +kernel
theorem dL_law_341 : decode cL_law 341 = .ok (.iaload, 1) := by decide +kernel
theorem dL_law_342 : decode cL_law 342 = .ok (.aload_n 0, 1) := by decide +kernel
theorem dL_law_343 : decode cL_law 343 = .ok (.iload_n 3, 1) := by decide +kernel
theorem dL_law_344 : decode cL_law 344 = .ok (.iconst 2, 1) := by decide +kernel
theorem dL_law_345 : decode cL_law 345 = .ok (.iadd, 1) := by decide +kernel
theorem dL_law_346 : decode cL_law 346 = .ok (.iaload, 1) := by decide +kernel
theorem dL_law_347 : decode cL_law 347 = .ok (.invokevirtual 51, 3) := by decide +kernel
theorem dL_law_350 : decode cL_law 350 = .ok (.if_icmp .eq 238, 3) := by decide +kernel
theorem dL_law_353 : decode cL_law 353 = .ok (.iconst 0, 1) := by decide +kernel
theorem dL_law_354 : decode cL_law 354 = .ok (.ireturn, 1) := by decide +kernel
theorem dL_law_355 : decode cL_law 355 = .ok (.aload_n 1, 1) := by decide +kernel
theorem dL_law_356 : decode cL_law 356 = .ok (.aload_n 0, 1) := by decide +kernel
theorem dL_law_357 : decode cL_law 357 = .ok (.iload_n 3, 1) := by decide +kernel
theorem dL_law_358 : decode cL_law 358 = .ok (.iconst 1, 1) := by decide +kernel
theorem dL_law_359 : decode cL_law 359 = .ok (.iadd, 1) := by decide +kernel
theorem dL_law_360 : decode cL_law 360 = .ok (.iaload, 1) := by decide +kernel
theorem dL_law_361 : decode cL_law 361 = .ok (.aload_n 0, 1) := by decide +kernel
theorem dL_law_362 : decode cL_law 362 = .ok (.iload_n 3, 1) := by decide +kernel
theorem dL_law_363 : decode cL_law 363 = .ok (.iconst 2, 1) := by decide +kernel
theorem dL_law_364 : decode cL_law 364 = .ok (.iadd, 1) := by decide +kernel
theorem dL_law_365 : decode cL_law 365 = .ok (.iaload, 1) := by decide +kernel
theorem dL_law_366 : decode cL_law 366 = .ok (.invokevirtual 52, 3) := by decide +kernel
theorem dL_law_369 : decode cL_law 369 = .ok (.aload_n 2, 1) := by decide +kernel
theorem dL_law_370 : decode cL_law 370 = .ok (.aload_n 0, 1) := by decide +kernel
theorem dL_law_371 : decode cL_law 371 = .ok (.iload_n 3, 1) := by decide +kernel
theorem dL_law_372 : decode cL_law 372 = .ok (.iconst 1, 1) := by decide +kernel
theorem dL_law_373 : decode cL_law 373 = .ok (.iadd, 1) := by decide +kernel
theorem dL_law_374 : decode cL_law 374 = .ok (.iaload, 1) := by decide +kernel
theorem dL_law_375 : decode cL_law 375 = .ok (.aload_n 0, 1) := by decide +kernel
theorem dL_law_376 : decode cL_law 376 = .ok (.iload_n 3, 1) := by decide +kernel
theorem dL_law_377 : decode cL_law 377 = .ok (.iconst 2, 1) := by decide +kernel
theorem dL_law_378 : decode cL_law 378 = .ok (.iadd, 1) := by decide +kernel
theorem dL_law_379 : decode cL_law 379 = .ok (.iaload, 1) := by decide +kernel
theorem dL_law_380 : decode cL_law 380 = .ok (.invokevirtual 55, 3) := by decide +kernel
theorem dL_law_383 : decode cL_law 383 = .ok (.if_icmp .eq 205, 3) := by decide +kernel
theorem dL_law_386 : decode cL_law 386 = .ok (.iconst 0, 1) := by decide +kernel
theorem dL_law_387 : decode cL_law 387 = .ok (.ireturn, 1) := by decide +kernel
theorem dL_law_388 : decode cL_law 388 = .ok (.aload_n 1, 1) := by decide +kernel
theorem dL_law_389 : decode cL_law 389 = .ok (.aload_n 0, 1) := by decide +kernel
theorem dL_law_390 : decode cL_law 390 = .ok (.iload_n 3, 1) := by decide +kernel
theorem dL_law_391 : decode cL_law 391 = .ok (.iconst 1, 1) := by decide +kernel
theorem dL_law_392 : decode cL_law 392 = .ok (.iadd, 1) := by decide +kernel
theorem dL_law_393 : decode cL_law 393 = .ok (.iaload, 1) := by decide +kernel
theorem dL_law_394 : decode cL_law 394 = .ok (.invokevirtual 56, 3) := by decide +kernel
theorem dL_law_397 : decode cL_law 397 = .ok (.aload_n 2, 1) := by decide +kernel
theorem dL_law_398 : decode cL_law 398 = .ok (.aload_n 0, 1) := by decide +kernel
theorem dL_law_399 : decode cL_law 399 = .ok (.iload_n 3, 1) := by decide +kernel
theorem dL_law_400 : decode cL_law 400 = .ok (.iconst 1, 1) := by decide +kernel
theorem dL_law_401 : decode cL_law 401 = .ok (.iadd, 1) := by decide +kernel
theorem dL_law_402 : decode cL_law 402 = .ok (.iaload, 1) := by decide +kernel
theorem dL_law_403 : decode cL_law 403 = .ok (.invokevirtual 59, 3) := by decide +kernel
theorem dL_law_406 : decode cL_law 406 = .ok (.if_icmp .eq 182, 3) := by decide +kernel
theorem dL_law_409 : decode cL_law 409 = .ok (.iconst 0, 1) := by decide +kernel
theorem dL_law_410 : decode cL_law 410 = .ok (.ireturn, 1) := by decide +kernel
theorem dL_law_411 : decode cL_law 411 = .ok (.aload_n 1, 1) := by decide +kernel
theorem dL_law_412 : decode cL_law 412 = .ok (.invokevirtual 60, 3) := by decide +kernel
theorem dL_law_415 : decode cL_law 415 = .ok (.aload_n 2, 1) := by decide +kernel
theorem dL_law_416 : decode cL_law 416 = .ok (.invokevirtual 63, 3) := by decide +kernel
theorem dL_law_419 : decode cL_law 419 = .ok (.if_icmp .eq 169, 3) := by decide +kernel
theorem dL_law_422 : decode cL_law 422 = .ok (.iconst 0, 1) := by decide +kernel
theorem dL_law_423 : decode cL_law 423 = .ok (.ireturn, 1) := by decide +kernel
theorem dL_law_424 : decode cL_law 424 = .ok (.aload_n 1, 1) := by decide +kernel
theorem dL_law_425 : decode cL_law 425 = .ok (.invokevirtual 64, 3) := by decide +kernel
theorem dL_law_428 : decode cL_law 428 = .ok (.aload_n 2, 1) := by decide +kernel
theorem dL_law_429 : decode cL_law 429 = .ok (.invokevirtual 67, 3) := by decide +kernel
theorem dL_law_432 : decode cL_law 432 = .ok (.if_icmp .eq 156, 3) := by decide +kernel
theorem dL_law_435 : decode cL_law 435 = .ok (.iconst 0, 1) := by decide +kernel
theorem dL_law_436 : decode cL_law 436 = .ok (.ireturn, 1) := by decide +kernel
theorem dL_law_437 : decode cL_law 437 = .ok (.aload_n 1, 1) := by decide +kernel
theorem dL_law_438 : decode cL_law 438 = .ok (.aload_n 0, 1) := by decide +kernel
theorem dL_law_439 : decode cL_law 439 = .ok (.iload_n 3, 1) := by decide +kernel
theorem dL_law_440 : decode cL_law 440 = .ok (.iconst 1, 1) := by decide +kernel
theorem dL_law_441 : decode cL_law 441 = .ok (.iadd, 1) := by decide +kernel
theorem dL_law_442 : decode cL_law 442 = .ok (.iaload, 1) := by decide +kernel
theorem dL_law_443 : decode cL_law 443 = .ok (.invokevirtual 68, 3) := by decide +kernel
theorem dL_law_446 : decode cL_law 446 = .ok (.aload_n 2, 1) := by decide +kernel
theorem dL_law_447 : decode cL_law 447 = .ok (.aload_n 0, 1) := by decide +kernel
theorem dL_law_448 : decode cL_law 448 = .ok (.iload_n 3, 1) := by decide +kernel
theorem dL_law_449 : decode cL_law 449 = .ok (.iconst 1, 1) := by decide +kernel
theorem dL_law_450 : decode cL_law 450 = .ok (.iadd, 1) := by decide +kernel
theorem dL_law_451 : decode cL_law 451 = .ok (.iaload, 1) := by decide +kernel
theorem dL_law_452 : decode cL_law 452 = .ok (.invokevirtual 71, 3) := by decide +kernel
theorem dL_law_455 : decode cL_law 455 = .ok (.if_icmp .eq 133, 3) := by decide +kernel
theorem dL_law_458 : decode cL_law 458 = .ok (.iconst 0, 1) := by decide +kernel
theorem dL_law_459 : decode cL_law 459 = .ok (.ireturn, 1) := by decide +kernel
theorem dL_law_460 : decode cL_law 460 = .ok (.aload_n 1, 1) := by decide +kernel
theorem dL_law_461 : decode cL_law 461 = .ok (.aload_n 0, 1) := by decide +kernel
theorem dL_law_462 : decode cL_law 462 = .ok (.iload_n 3, 1) := by decide +kernel
theorem dL_law_463 : decode cL_law 463 = .ok (.iconst 1, 1) := by decide +kernel
theorem dL_law_464 : decode cL_law 464 = .ok (.iadd, 1) := by decide +kernel
theorem dL_law_465 : decode cL_law 465 = .ok (.iaload, 1) := by decide +kernel
theorem dL_law_466 : decode cL_law 466 = .ok (.invokevirtual 72, 3) := by decide +kernel
theorem dL_law_469 : decode cL_law 469 = .ok (.aload_n 2, 1) := by decide +kernel
theorem dL_law_470 : decode cL_law 470 = .ok (.aload_n 0, 1) := by decide +kernel
theorem dL_law_471 : decode cL_law 471 = .ok (.iload_n 3, 1) := by decide +kernel
theorem dL_law_472 : decode cL_law 472 = .ok (.iconst 1, 1) := by decide +kernel
theorem dL_law_473 : decode cL_law 473 = .ok (.iadd, 1) := by decide +kernel
theorem dL_law_474 : decode cL_law 474 = .ok (.iaload, 1) := by decide +kernel
theorem dL_law_475 : decode cL_law 475 = .ok (.invokevirtual 75, 3) := by decide +kernel
theorem dL_law_478 : decode cL_law 478 = .ok (.if_icmp .eq 110, 3) := by decide +kernel
theorem dL_law_481 : decode cL_law 481 = .ok (.iconst 0, 1) := by decide +kernel
theorem dL_law_482 : decode cL_law 482 = .ok (.ireturn, 1) := by decide +kernel
theorem dL_law_483 : decode cL_law 483 = .ok (.aload_n 1, 1) := by decide +kernel
theorem dL_law_484 : decode cL_law 484 = .ok (.aload_n 0, 1) := by decide +kernel
theorem dL_law_485 : decode cL_law 485 = .ok (.iload_n 3, 1) := by decide +kernel
theorem dL_law_486 : decode cL_law 486 = .ok (.iconst 1, 1) := by decide +kernel
theorem dL_law_487 : decode cL_law 487 = .ok (.iadd, 1) := by decide +kernel
theorem dL_law_488 : decode cL_law 488 = .ok (.iaload, 1) := by decide +kernel
theorem dL_law_489 : decode cL_law 489 = .ok (.invokevirtual 76, 3) := by decide +kernel
theorem dL_law_492 : decode cL_law 492 = .ok (.aload_n 2, 1) := by decide +kernel
theorem dL_law_493 : decode cL_law 493 = .ok (.aload_n 0, 1) := by decide +kernel
theorem dL_law_494 : decode cL_law 494 = .ok (.iload_n 3, 1) := by decide +kernel
theorem dL_law_495 : decode cL_law 495 = .ok (.iconst 1, 1) := by decide +kernel
theorem dL_law_496 : decode cL_law 496 = .ok (.iadd, 1) := by decide +kernel
theorem dL_law_497 : decode cL_law 497 = .ok (.iaload, 1) := by decide +kernel
theorem dL_law_498 : decode cL_law 498 = .ok (.invokevirtual 79, 3) := by decide +kernel
theorem dL_law_501 : decode cL_law 501 = .ok (.if_icmp .eq 87, 3) := by decide +kernel
theorem dL_law_504 : decode cL_law 504 = .ok (.iconst 0, 1) := by decide +kernel
theorem dL_law_505 : decode cL_law 505 = .ok (.ireturn, 1) := by decide +kernel
theorem dL_law_506 : decode cL_law 506 = .ok (.aload_n 1, 1) := by decide +kernel
theorem dL_law_507 : decode cL_law 507 = .ok (.aload_n 0, 1) := by decide +kernel
theorem dL_law_508 : decode cL_law 508 = .ok (.iload_n 3, 1) := by decide +kernel
theorem dL_law_509 : decode cL_law 509 = .ok (.iconst 1, 1) := by decide +kernel
theorem dL_law_510 : decode cL_law 510 = .ok (.iadd, 1) := by decide +kernel
theorem dL_law_511 : decode cL_law 511 = .ok (.iaload, 1) := by decide +kernel
theorem dL_law_512 : decode cL_law 512 = .ok (.invokevirtual 80, 3) := by decide +kernel
theorem dL_law_515 : decode cL_law 515 = .ok (.aload_n 2, 1) := by decide +kernel
theorem dL_law_516 : decode cL_law 516 = .ok (.aload_n 0, 1) := by decide +kernel
theorem dL_law_517 : decode cL_law 517 = .ok (.iload_n 3, 1) := by decide +kernel
theorem dL_law_518 : decode cL_law 518 = .ok (.iconst 1, 1) := by decide +kernel
theorem dL_law_519 : decode cL_law 519 = .ok (.iadd, 1) := by decide +kernel
theorem dL_law_520 : decode cL_law 520 = .ok (.iaload, 1) := by decide +kernel
theorem dL_law_521 : decode cL_law 521 = .ok (.invokevirtual 83, 3) := by decide +kernel
theorem dL_law_524 : decode cL_law 524 = .ok (.if_icmp .eq 64, 3) := by decide +kernel
theorem dL_law_527 : decode cL_law 527 = .ok (.iconst 0, 1) := by decide +kernel
theorem dL_law_528 : decode cL_law 528 = .ok (.ireturn, 1) := by decide +kernel
theorem dL_law_529 : decode cL_law 529 = .ok (.aload_n 1, 1) := by decide +kernel
theorem dL_law_530 : decode cL_law 530 = .ok (.aload_n 0, 1) := by decide +kernel
theorem dL_law_531 : decode cL_law 531 = .ok (.iload_n 3, 1) := by decide +kernel
theorem dL_law_532 : decode cL_law 532 = .ok (.iconst 1, 1) := by decide +kernel
theorem dL_law_533 : decode cL_law 533 = .ok (.iadd, 1) := by decide +kernel
theorem dL_law_534 : decode cL_law 534 = .ok (.iaload, 1) := by decide +kernel
theorem dL_law_535 : decode cL_law 535 = .ok (.invokevirtual 84, 3) := by decide +kernel
theorem dL_law_538 : decode cL_law 538 = .ok (.aload_n 2, 1) := by decide +kernel
theorem dL_law_539 : decode cL_law 539 = .ok (.aload_n 0, 1) := by decide +kernel
theorem dL_law_540 : decode cL_law 540 = .ok (.iload_n 3, 1) := by decide +kernel
theorem dL_law_541 : decode cL_law 541 = .ok (.iconst 1, 1) := by decide +kernel
theorem dL_law_542 : decode cL_law 542 = .ok (.iadd, 1) := by decide +kernel
theorem dL_law_543 : decode cL_law 543 = .ok (.iaload, 1) := by decide +kernel
theorem dL_law_544 : decode cL_law 544 = .ok (.invokevirtual 87, 3) := by decide +kernel
theorem dL_law_547 : decode cL_law 547 = .ok (.if_icmp .eq 41, 3) := by decide +kernel
theorem dL_law_550 : decode cL_law 550 = .ok (.iconst 0, 1) := by decide +kernel
theorem dL_law_551 : decode cL_law 551 = .ok (.ireturn, 1) := by decide +kernel
theorem dL_law_552 : decode cL_law 552 = .ok (.aload_n 1, 1) := by decide +kernel
theorem dL_law_553 : decode cL_law 553 = .ok (.aload_n 0, 1) := by decide +kernel
theorem dL_law_554 : decode cL_law 554 = .ok (.iload_n 3, 1) := by decide +kernel
theorem dL_law_555 : decode cL_law 555 = .ok (.iconst 1, 1) := by decide +kernel
theorem dL_law_556 : decode cL_law 556 = .ok (.iadd, 1) := by decide +kernel
theorem dL_law_557 : decode cL_law 557 = .ok (.iaload, 1) := by decide +kernel
theorem dL_law_558 : decode cL_law 558 = .ok (.invokevirtual 88, 3) := by decide +kernel
theorem dL_law_561 : decode cL_law 561 = .ok (.aload_n 2, 1) := by decide +kernel
theorem dL_law_562 : decode cL_law 562 = .ok (.aload_n 0, 1) := by decide +kernel
theorem dL_law_563 : decode cL_law 563 = .ok (.iload_n 3, 1) := by decide +kernel
theorem dL_law_564 : decode cL_law 564 = .ok (.iconst 1, 1) := by decide +kernel
theorem dL_law_565 : decode cL_law 565 = .ok (.iadd, 1) := by decide +kernel
theorem dL_law_566 : decode cL_law 566 = .ok (.iaload, 1) := by decide +kernel
theorem dL_law_567 : decode cL_law 567 = .ok (.invokevirtual 91, 3) := by decide +kernel
theorem dL_law_570 : decode cL_law 570 = .ok (.if_icmp .eq 18, 3) := by decide +kernel
theorem dL_law_573 : decode cL_law 573 = .ok (.iconst 0, 1) := by decide +kernel
theorem dL_law_574 : decode cL_law 574 = .ok (.ireturn, 1) := by decide +kernel
theorem dL_law_575 : decode cL_law 575 = .ok (.aload_n 1, 1) := by decide +kernel
theorem dL_law_576 : decode cL_law 576 = .ok (.invokevirtual 92, 3) := by decide +kernel
theorem dL_law_579 : decode cL_law 579 = .ok (.aload_n 2, 1) := by decide +kernel
theorem dL_law_580 : decode cL_law 580 = .ok (.invokevirtual 95, 3) := by decide +kernel
theorem dL_law_583 : decode cL_law 583 = .ok (.if_icmp .eq 5, 3) := by decide +kernel
theorem dL_law_586 : decode cL_law 586 = .ok (.iconst 0, 1) := by decide +kernel
theorem dL_law_587 : decode cL_law 587 = .ok (.ireturn, 1) := by decide +kernel
theorem dL_law_588 : decode cL_law 588 = .ok (.iinc 3 3, 3) := by decide +kernel
theorem dL_law_591 : decode cL_law 591 = .ok (.goto (-573), 3) := by decide +kernel
theorem dL_law_594 : decode cL_law 594 = .ok (.iconst 1, 1) := by decide +kernel
theorem dL_law_595 : decode cL_law 595 = .ok (.ireturn, 1) := by decide +kernel
end
section
theorem q_0 : (Cond.initialized RL : Cond) ∈ lw_gt := lw_gt_of (List.mem_of_getElem? (i := 39) (by decide +kernel)) rfl
theorem q_1 : (Cond.initialized RX8 : Cond) ∈ lw_gt := lw_gt_of (List.mem_of_getElem? (i := 40) (by decide +kernel)) rfl
theorem q_2 : (Cond.initialized RX6 : Cond) ∈ lw_gt := lw_gt_of (List.mem_of_getElem? (i := 41) (by decide +kernel)) rfl
theorem q_3 : (Cond.initialized RX4 : Cond) ∈ lw_gt := lw_gt_of (List.mem_of_getElem? (i := 42) (by decide +kernel)) rfl
theorem q_4 : (Cond.initialized RX2 : Cond) ∈ lw_gt := lw_gt_of (List.mem_of_getElem? (i := 43) (by decide +kernel)) rfl
theorem q_5 : (Cond.initialized RX0 : Cond) ∈ lw_gt := lw_gt_of (List.mem_of_getElem? (i := 44) (by decide +kernel)) rfl
theorem q_6 : (Cond.initialized RX7 : Cond) ∈ lw_gt := lw_gt_of (List.mem_of_getElem? (i := 45) (by decide +kernel)) rfl
theorem q_7 : (Cond.initialized RX1 : Cond) ∈ lw_gt := lw_gt_of (List.mem_of_getElem? (i := 46) (by decide +kernel)) rfl
theorem q_8 : (Cond.initialized RX9 : Cond) ∈ lw_gt := lw_gt_of (List.mem_of_getElem? (i := 47) (by decide +kernel)) rfl
theorem q_9 : (Cond.initialized RX3 : Cond) ∈ lw_gt := lw_gt_of (List.mem_of_getElem? (i := 48) (by decide +kernel)) rfl
theorem q_10 : (Cond.initialized RX5 : Cond) ∈ lw_gt := lw_gt_of (List.mem_of_getElem? (i := 49) (by decide +kernel)) rfl
theorem q_11 : (Cond.initialized RJ7 : Cond) ∈ lw_gt := lw_gt_of (List.mem_of_getElem? (i := 50) (by decide +kernel)) rfl
theorem q_12 : (Cond.initialized RJ10 : Cond) ∈ lw_gt := lw_gt_of (List.mem_of_getElem? (i := 51) (by decide +kernel)) rfl
theorem q_13 : (Cond.classLink RL 7 "FlowConstants" : Cond) ∈ lw_gt := lw_gt_of (List.mem_of_getElem? (i := 52) (by decide +kernel)) rfl
theorem q_14 : (Cond.instantiable RX8 12 : Cond) ∈ lw_gt := lw_gt_of (List.mem_of_getElem? (i := 53) (by decide +kernel)) rfl
theorem q_15 : (Cond.methodLink RL 9 yX8_init : Cond) ∈ lw_gt := lw_gt_of (List.mem_of_getElem? (i := 54) (by decide +kernel)) rfl
theorem q_16 : (Cond.instanceMethod yX8_init : Cond) ∈ lw_gt := lw_gt_of (List.mem_of_getElem? (i := 55) (by decide +kernel)) rfl
theorem q_17 : (Cond.code yX8_init cX8_init 2 none : Cond) ∈ lw_gt := lw_gt_of (List.mem_of_getElem? (i := 56) (by decide +kernel)) rfl
theorem q_18 : (Cond.methodLink RX8 3 objectInit : Cond) ∈ lw_gt := lw_gt_of (List.mem_of_getElem? (i := 57) (by decide +kernel)) rfl
theorem q_19 : (Cond.instanceMethod objectInit : Cond) ∈ lw_gt := lw_gt_of (List.mem_of_getElem? (i := 58) (by decide +kernel)) rfl
theorem q_20 : (Cond.code objectInit ⟨#[0xb1]⟩ 1 none : Cond) ∈ lw_gt := lw_gt_of (List.mem_of_getElem? (i := 59) (by decide +kernel)) rfl
theorem q_21 : (Cond.classLink RX8 9 "FlowConstants$Text" : Cond) ∈ lw_gt := lw_gt_of (List.mem_of_getElem? (i := 60) (by decide +kernel)) rfl
theorem q_22 : (Cond.instantiable RX6 7 : Cond) ∈ lw_gt := lw_gt_of (List.mem_of_getElem? (i := 61) (by decide +kernel)) rfl
theorem q_24 : (Cond.instanceMethod yX6_init : Cond) ∈ lw_gt := lw_gt_of (List.mem_of_getElem? (i := 63) (by decide +kernel)) rfl
theorem q_25 : (Cond.code yX6_init cX6_init 1 none : Cond) ∈ lw_gt := lw_gt_of (List.mem_of_getElem? (i := 64) (by decide +kernel)) rfl
theorem q_26 : (Cond.methodLink RX6 3 objectInit : Cond) ∈ lw_gt := lw_gt_of (List.mem_of_getElem? (i := 65) (by decide +kernel)) rfl
theorem q_27 : (Cond.fieldLink RX6 9 "FlowConstants$Text" "bytes" "[I" : Cond) ∈ lw_gt := lw_gt_of (List.mem_of_getElem? (i := 66) (by decide +kernel)) rfl
theorem q_28 : (Cond.fieldLink RX8 75 "FlowConstants$Text" "bytes" "[I" : Cond) ∈ lw_gt := lw_gt_of (List.mem_of_getElem? (i := 67) (by decide +kernel)) rfl
theorem q_29 : (Cond.fieldLink RX6 15 "FlowConstants$Text" "length" "I" : Cond) ∈ lw_gt := lw_gt_of (List.mem_of_getElem? (i := 68) (by decide +kernel)) rfl
theorem q_30 : (Cond.fieldLink RX8 72 "FlowConstants$Text" "length" "I" : Cond) ∈ lw_gt := lw_gt_of (List.mem_of_getElem? (i := 69) (by decide +kernel)) rfl
theorem q_31 : (Cond.fieldLink RX6 19 "FlowConstants$Text" "kind" "I" : Cond) ∈ lw_gt := lw_gt_of (List.mem_of_getElem? (i := 70) (by decide +kernel)) rfl
theorem q_32 : (Cond.fieldLink RX3 43 "FlowConstants$Text" "kind" "I" : Cond) ∈ lw_gt := lw_gt_of (List.mem_of_getElem? (i := 71) (by decide +kernel)) rfl
theorem q_33 : (Cond.fieldLink RX6 22 "FlowConstants$Text" "place" "I" : Cond) ∈ lw_gt := lw_gt_of (List.mem_of_getElem? (i := 72) (by decide +kernel)) rfl
theorem q_34 : (Cond.fieldLink RX3 39 "FlowConstants$Text" "place" "I" : Cond) ∈ lw_gt := lw_gt_of (List.mem_of_getElem? (i := 73) (by decide +kernel)) rfl
theorem q_35 : (Cond.fieldLink RX6 25 "FlowConstants$Text" "behind" "I" : Cond) ∈ lw_gt := lw_gt_of (List.mem_of_getElem? (i := 74) (by decide +kernel)) rfl
theorem q_36 : (Cond.fieldLink RX6 28 "FlowConstants$Text" "meaning" "I" : Cond) ∈ lw_gt := lw_gt_of (List.mem_of_getElem? (i := 75) (by decide +kernel)) rfl
theorem q_37 : (Cond.fieldLink RX3 46 "FlowConstants$Text" "meaning" "I" : Cond) ∈ lw_gt := lw_gt_of (List.mem_of_getElem? (i := 76) (by decide +kernel)) rfl
theorem q_38 : (Cond.fieldLink RX6 31 "FlowConstants$Text" "stuck" "Z" : Cond) ∈ lw_gt := lw_gt_of (List.mem_of_getElem? (i := 77) (by decide +kernel)) rfl
theorem q_39 : (Cond.fieldLink RX3 29 "FlowConstants$Text" "stuck" "Z" : Cond) ∈ lw_gt := lw_gt_of (List.mem_of_getElem? (i := 78) (by decide +kernel)) rfl
theorem q_55 : (Cond.arrayClass .int : Cond) ∈ lw_gt := lw_gt_of (List.mem_of_getElem? (i := 94) (by decide +kernel)) rfl
theorem q_56 : (Cond.classLink RX8 16 "FlowConstants$Shape" : Cond) ∈ lw_gt := lw_gt_of (List.mem_of_getElem? (i := 95) (by decide +kernel)) rfl
theorem q_57 : (Cond.instantiable RX4 17 : Cond) ∈ lw_gt := lw_gt_of (List.mem_of_getElem? (i := 96) (by decide +kernel)) rfl
theorem q_59 : (Cond.instanceMethod yX4_init : Cond) ∈ lw_gt := lw_gt_of (List.mem_of_getElem? (i := 98) (by decide +kernel)) rfl
theorem q_60 : (Cond.code yX4_init cX4_init 1 none : Cond) ∈ lw_gt := lw_gt_of (List.mem_of_getElem? (i := 99) (by decide +kernel)) rfl
theorem q_61 : (Cond.methodLink RX4 3 objectInit : Cond) ∈ lw_gt := lw_gt_of (List.mem_of_getElem? (i := 100) (by decide +kernel)) rfl
theorem q_62 : (Cond.fieldLink RX4 9 "FlowConstants$Shape" "blocks" "I" : Cond) ∈ lw_gt := lw_gt_of (List.mem_of_getElem? (i := 101) (by decide +kernel)) rfl
theorem q_63 : (Cond.fieldLink RX0 30 "FlowConstants$Shape" "blocks" "I" : Cond) ∈ lw_gt := lw_gt_of (List.mem_of_getElem? (i := 102) (by decide +kernel)) rfl
theorem q_64 : (Cond.fieldLink RX8 190 "FlowConstants$Shape" "blocks" "I" : Cond) ∈ lw_gt := lw_gt_of (List.mem_of_getElem? (i := 103) (by decide +kernel)) rfl
theorem q_65 : (Cond.fieldLink RX4 15 "FlowConstants$Shape" "names" "I" : Cond) ∈ lw_gt := lw_gt_of (List.mem_of_getElem? (i := 104) (by decide +kernel)) rfl
theorem q_66 : (Cond.fieldLink RX8 100 "FlowConstants$Shape" "names" "I" : Cond) ∈ lw_gt := lw_gt_of (List.mem_of_getElem? (i := 105) (by decide +kernel)) rfl
theorem q_67 : (Cond.fieldLink RX0 128 "FlowConstants$Shape" "names" "I" : Cond) ∈ lw_gt := lw_gt_of (List.mem_of_getElem? (i := 106) (by decide +kernel)) rfl
theorem q_68 : (Cond.fieldLink RX4 18 "FlowConstants$Shape" "home" "[I" : Cond) ∈ lw_gt := lw_gt_of (List.mem_of_getElem? (i := 107) (by decide +kernel)) rfl
theorem q_69 : (Cond.fieldLink RX0 105 "FlowConstants$Shape" "home" "[I" : Cond) ∈ lw_gt := lw_gt_of (List.mem_of_getElem? (i := 108) (by decide +kernel)) rfl
theorem q_70 : (Cond.fieldLink RX8 107 "FlowConstants$Shape" "home" "[I" : Cond) ∈ lw_gt := lw_gt_of (List.mem_of_getElem? (i := 109) (by decide +kernel)) rfl
theorem q_71 : (Cond.fieldLink RX4 22 "FlowConstants$Shape" "make" "[I" : Cond) ∈ lw_gt := lw_gt_of (List.mem_of_getElem? (i := 110) (by decide +kernel)) rfl
theorem q_72 : (Cond.fieldLink RX0 50 "FlowConstants$Shape" "make" "[I" : Cond) ∈ lw_gt := lw_gt_of (List.mem_of_getElem? (i := 111) (by decide +kernel)) rfl
theorem q_73 : (Cond.fieldLink RX7 70 "FlowConstants$Shape" "make" "[I" : Cond) ∈ lw_gt := lw_gt_of (List.mem_of_getElem? (i := 112) (by decide +kernel)) rfl
theorem q_74 : (Cond.fieldLink RX8 110 "FlowConstants$Shape" "make" "[I" : Cond) ∈ lw_gt := lw_gt_of (List.mem_of_getElem? (i := 113) (by decide +kernel)) rfl
theorem q_75 : (Cond.fieldLink RX4 25 "FlowConstants$Shape" "number" "[I" : Cond) ∈ lw_gt := lw_gt_of (List.mem_of_getElem? (i := 114) (by decide +kernel)) rfl
theorem q_76 : (Cond.fieldLink RX2 33 "FlowConstants$Shape" "number" "[I" : Cond) ∈ lw_gt := lw_gt_of (List.mem_of_getElem? (i := 115) (by decide +kernel)) rfl
theorem q_77 : (Cond.fieldLink RX3 84 "FlowConstants$Shape" "number" "[I" : Cond) ∈ lw_gt := lw_gt_of (List.mem_of_getElem? (i := 116) (by decide +kernel)) rfl
theorem q_78 : (Cond.fieldLink RX4 28 "FlowConstants$Shape" "sign" "[I" : Cond) ∈ lw_gt := lw_gt_of (List.mem_of_getElem? (i := 117) (by decide +kernel)) rfl
theorem q_79 : (Cond.fieldLink RX0 83 "FlowConstants$Shape" "sign" "[I" : Cond) ∈ lw_gt := lw_gt_of (List.mem_of_getElem? (i := 118) (by decide +kernel)) rfl
theorem q_80 : (Cond.fieldLink RX7 88 "FlowConstants$Shape" "sign" "[I" : Cond) ∈ lw_gt := lw_gt_of (List.mem_of_getElem? (i := 119) (by decide +kernel)) rfl
theorem q_81 : (Cond.fieldLink RX3 94 "FlowConstants$Shape" "sign" "[I" : Cond) ∈ lw_gt := lw_gt_of (List.mem_of_getElem? (i := 120) (by decide +kernel)) rfl
theorem q_82 : (Cond.fieldLink RX8 113 "FlowConstants$Shape" "sign" "[I" : Cond) ∈ lw_gt := lw_gt_of (List.mem_of_getElem? (i := 121) (by decide +kernel)) rfl
theorem q_83 : (Cond.fieldLink RX4 31 "FlowConstants$Shape" "left" "[I" : Cond) ∈ lw_gt := lw_gt_of (List.mem_of_getElem? (i := 122) (by decide +kernel)) rfl
theorem q_84 : (Cond.fieldLink RX0 77 "FlowConstants$Shape" "left" "[I" : Cond) ∈ lw_gt := lw_gt_of (List.mem_of_getElem? (i := 123) (by decide +kernel)) rfl
theorem q_85 : (Cond.fieldLink RX7 82 "FlowConstants$Shape" "left" "[I" : Cond) ∈ lw_gt := lw_gt_of (List.mem_of_getElem? (i := 124) (by decide +kernel)) rfl
theorem q_86 : (Cond.fieldLink RX3 88 "FlowConstants$Shape" "left" "[I" : Cond) ∈ lw_gt := lw_gt_of (List.mem_of_getElem? (i := 125) (by decide +kernel)) rfl
theorem q_87 : (Cond.fieldLink RX8 119 "FlowConstants$Shape" "left" "[I" : Cond) ∈ lw_gt := lw_gt_of (List.mem_of_getElem? (i := 126) (by decide +kernel)) rfl
theorem q_88 : (Cond.fieldLink RX4 34 "FlowConstants$Shape" "right" "[I" : Cond) ∈ lw_gt := lw_gt_of (List.mem_of_getElem? (i := 127) (by decide +kernel)) rfl
theorem q_89 : (Cond.fieldLink RX0 80 "FlowConstants$Shape" "right" "[I" : Cond) ∈ lw_gt := lw_gt_of (List.mem_of_getElem? (i := 128) (by decide +kernel)) rfl
theorem q_90 : (Cond.fieldLink RX7 85 "FlowConstants$Shape" "right" "[I" : Cond) ∈ lw_gt := lw_gt_of (List.mem_of_getElem? (i := 129) (by decide +kernel)) rfl
theorem q_91 : (Cond.fieldLink RX3 97 "FlowConstants$Shape" "right" "[I" : Cond) ∈ lw_gt := lw_gt_of (List.mem_of_getElem? (i := 130) (by decide +kernel)) rfl
theorem q_92 : (Cond.fieldLink RX8 122 "FlowConstants$Shape" "right" "[I" : Cond) ∈ lw_gt := lw_gt_of (List.mem_of_getElem? (i := 131) (by decide +kernel)) rfl
theorem q_93 : (Cond.fieldLink RX4 37 "FlowConstants$Shape" "arms" "[I" : Cond) ∈ lw_gt := lw_gt_of (List.mem_of_getElem? (i := 132) (by decide +kernel)) rfl
theorem q_94 : (Cond.fieldLink RX0 96 "FlowConstants$Shape" "arms" "[I" : Cond) ∈ lw_gt := lw_gt_of (List.mem_of_getElem? (i := 133) (by decide +kernel)) rfl
theorem q_95 : (Cond.fieldLink RX8 116 "FlowConstants$Shape" "arms" "[I" : Cond) ∈ lw_gt := lw_gt_of (List.mem_of_getElem? (i := 134) (by decide +kernel)) rfl
theorem q_96 : (Cond.fieldLink RX4 40 "FlowConstants$Shape" "armBlock" "[I" : Cond) ∈ lw_gt := lw_gt_of (List.mem_of_getElem? (i := 135) (by decide +kernel)) rfl
theorem q_97 : (Cond.fieldLink RX0 102 "FlowConstants$Shape" "armBlock" "[I" : Cond) ∈ lw_gt := lw_gt_of (List.mem_of_getElem? (i := 136) (by decide +kernel)) rfl
theorem q_98 : (Cond.fieldLink RX4 43 "FlowConstants$Shape" "armName" "[I" : Cond) ∈ lw_gt := lw_gt_of (List.mem_of_getElem? (i := 137) (by decide +kernel)) rfl
theorem q_99 : (Cond.fieldLink RX7 67 "FlowConstants$Shape" "armName" "[I" : Cond) ∈ lw_gt := lw_gt_of (List.mem_of_getElem? (i := 138) (by decide +kernel)) rfl
theorem q_100 : (Cond.fieldLink RX0 99 "FlowConstants$Shape" "armName" "[I" : Cond) ∈ lw_gt := lw_gt_of (List.mem_of_getElem? (i := 139) (by decide +kernel)) rfl
theorem q_101 : (Cond.fieldLink RX4 46 "FlowConstants$Shape" "start" "[I" : Cond) ∈ lw_gt := lw_gt_of (List.mem_of_getElem? (i := 140) (by decide +kernel)) rfl
theorem q_102 : (Cond.fieldLink RX7 57 "FlowConstants$Shape" "start" "[I" : Cond) ∈ lw_gt := lw_gt_of (List.mem_of_getElem? (i := 141) (by decide +kernel)) rfl
theorem q_103 : (Cond.fieldLink RX0 44 "FlowConstants$Shape" "start" "[I" : Cond) ∈ lw_gt := lw_gt_of (List.mem_of_getElem? (i := 142) (by decide +kernel)) rfl
theorem q_104 : (Cond.fieldLink RX4 49 "FlowConstants$Shape" "size" "[I" : Cond) ∈ lw_gt := lw_gt_of (List.mem_of_getElem? (i := 143) (by decide +kernel)) rfl
theorem q_105 : (Cond.fieldLink RX7 60 "FlowConstants$Shape" "size" "[I" : Cond) ∈ lw_gt := lw_gt_of (List.mem_of_getElem? (i := 144) (by decide +kernel)) rfl
theorem q_106 : (Cond.fieldLink RX0 47 "FlowConstants$Shape" "size" "[I" : Cond) ∈ lw_gt := lw_gt_of (List.mem_of_getElem? (i := 145) (by decide +kernel)) rfl
theorem q_107 : (Cond.fieldLink RX8 140 "FlowConstants$Shape" "size" "[I" : Cond) ∈ lw_gt := lw_gt_of (List.mem_of_getElem? (i := 146) (by decide +kernel)) rfl
theorem q_108 : (Cond.fieldLink RX4 52 "FlowConstants$Shape" "end" "[I" : Cond) ∈ lw_gt := lw_gt_of (List.mem_of_getElem? (i := 147) (by decide +kernel)) rfl
theorem q_109 : (Cond.fieldLink RX7 48 "FlowConstants$Shape" "end" "[I" : Cond) ∈ lw_gt := lw_gt_of (List.mem_of_getElem? (i := 148) (by decide +kernel)) rfl
theorem q_110 : (Cond.fieldLink RX8 142 "FlowConstants$Shape" "end" "[I" : Cond) ∈ lw_gt := lw_gt_of (List.mem_of_getElem? (i := 149) (by decide +kernel)) rfl
theorem q_111 : (Cond.fieldLink RX0 119 "FlowConstants$Shape" "end" "[I" : Cond) ∈ lw_gt := lw_gt_of (List.mem_of_getElem? (i := 150) (by decide +kernel)) rfl
theorem q_112 : (Cond.fieldLink RX4 55 "FlowConstants$Shape" "endName" "[I" : Cond) ∈ lw_gt := lw_gt_of (List.mem_of_getElem? (i := 151) (by decide +kernel)) rfl
theorem q_113 : (Cond.fieldLink RX7 51 "FlowConstants$Shape" "endName" "[I" : Cond) ∈ lw_gt := lw_gt_of (List.mem_of_getElem? (i := 152) (by decide +kernel)) rfl
theorem q_114 : (Cond.fieldLink RX8 145 "FlowConstants$Shape" "endName" "[I" : Cond) ∈ lw_gt := lw_gt_of (List.mem_of_getElem? (i := 153) (by decide +kernel)) rfl
theorem q_115 : (Cond.fieldLink RX3 114 "FlowConstants$Shape" "endName" "[I" : Cond) ∈ lw_gt := lw_gt_of (List.mem_of_getElem? (i := 154) (by decide +kernel)) rfl
theorem q_116 : (Cond.fieldLink RX0 122 "FlowConstants$Shape" "endName" "[I" : Cond) ∈ lw_gt := lw_gt_of (List.mem_of_getElem? (i := 155) (by decide +kernel)) rfl
theorem q_117 : (Cond.fieldLink RX4 58 "FlowConstants$Shape" "way" "[I" : Cond) ∈ lw_gt := lw_gt_of (List.mem_of_getElem? (i := 156) (by decide +kernel)) rfl
theorem q_118 : (Cond.fieldLink RX2 42 "FlowConstants$Shape" "way" "[I" : Cond) ∈ lw_gt := lw_gt_of (List.mem_of_getElem? (i := 157) (by decide +kernel)) rfl
theorem q_119 : (Cond.fieldLink RX3 111 "FlowConstants$Shape" "way" "[I" : Cond) ∈ lw_gt := lw_gt_of (List.mem_of_getElem? (i := 158) (by decide +kernel)) rfl
theorem q_120 : (Cond.fieldLink RX4 61 "FlowConstants$Shape" "dominators" "[I" : Cond) ∈ lw_gt := lw_gt_of (List.mem_of_getElem? (i := 159) (by decide +kernel)) rfl
theorem q_121 : (Cond.fieldLink RX8 154 "FlowConstants$Shape" "dominators" "[I" : Cond) ∈ lw_gt := lw_gt_of (List.mem_of_getElem? (i := 160) (by decide +kernel)) rfl
theorem q_157 : (Cond.classLink RX8 26 "FlowConstants$Now" : Cond) ∈ lw_gt := lw_gt_of (List.mem_of_getElem? (i := 196) (by decide +kernel)) rfl
theorem q_158 : (Cond.instantiable RX2 5 : Cond) ∈ lw_gt := lw_gt_of (List.mem_of_getElem? (i := 197) (by decide +kernel)) rfl
theorem q_160 : (Cond.instanceMethod yX2_init : Cond) ∈ lw_gt := lw_gt_of (List.mem_of_getElem? (i := 199) (by decide +kernel)) rfl
theorem q_161 : (Cond.code yX2_init cX2_init 1 none : Cond) ∈ lw_gt := lw_gt_of (List.mem_of_getElem? (i := 200) (by decide +kernel)) rfl
theorem q_162 : (Cond.methodLink RX2 3 objectInit : Cond) ∈ lw_gt := lw_gt_of (List.mem_of_getElem? (i := 201) (by decide +kernel)) rfl
theorem q_163 : (Cond.fieldLink RX2 9 "FlowConstants$Now" "known" "[I" : Cond) ∈ lw_gt := lw_gt_of (List.mem_of_getElem? (i := 202) (by decide +kernel)) rfl
theorem q_164 : (Cond.fieldLink RX1 31 "FlowConstants$Now" "known" "[I" : Cond) ∈ lw_gt := lw_gt_of (List.mem_of_getElem? (i := 203) (by decide +kernel)) rfl
theorem q_165 : (Cond.fieldLink RX0 62 "FlowConstants$Now" "known" "[I" : Cond) ∈ lw_gt := lw_gt_of (List.mem_of_getElem? (i := 204) (by decide +kernel)) rfl
theorem q_166 : (Cond.fieldLink RX8 125 "FlowConstants$Now" "known" "[I" : Cond) ∈ lw_gt := lw_gt_of (List.mem_of_getElem? (i := 205) (by decide +kernel)) rfl
theorem q_167 : (Cond.fieldLink RX2 15 "FlowConstants$Now" "knownAs" "[I" : Cond) ∈ lw_gt := lw_gt_of (List.mem_of_getElem? (i := 206) (by decide +kernel)) rfl
theorem q_168 : (Cond.fieldLink RX1 36 "FlowConstants$Now" "knownAs" "[I" : Cond) ∈ lw_gt := lw_gt_of (List.mem_of_getElem? (i := 207) (by decide +kernel)) rfl
theorem q_169 : (Cond.fieldLink RX8 165 "FlowConstants$Now" "knownAs" "[I" : Cond) ∈ lw_gt := lw_gt_of (List.mem_of_getElem? (i := 208) (by decide +kernel)) rfl
theorem q_170 : (Cond.fieldLink RX2 18 "FlowConstants$Now" "given" "[I" : Cond) ∈ lw_gt := lw_gt_of (List.mem_of_getElem? (i := 209) (by decide +kernel)) rfl
theorem q_171 : (Cond.fieldLink RX1 39 "FlowConstants$Now" "given" "[I" : Cond) ∈ lw_gt := lw_gt_of (List.mem_of_getElem? (i := 210) (by decide +kernel)) rfl
theorem q_172 : (Cond.fieldLink RX8 172 "FlowConstants$Now" "given" "[I" : Cond) ∈ lw_gt := lw_gt_of (List.mem_of_getElem? (i := 211) (by decide +kernel)) rfl
theorem q_173 : (Cond.fieldLink RX2 21 "FlowConstants$Now" "number" "[I" : Cond) ∈ lw_gt := lw_gt_of (List.mem_of_getElem? (i := 212) (by decide +kernel)) rfl
theorem q_174 : (Cond.fieldLink RX1 42 "FlowConstants$Now" "number" "[I" : Cond) ∈ lw_gt := lw_gt_of (List.mem_of_getElem? (i := 213) (by decide +kernel)) rfl
theorem q_175 : (Cond.fieldLink RX0 53 "FlowConstants$Now" "number" "[I" : Cond) ∈ lw_gt := lw_gt_of (List.mem_of_getElem? (i := 214) (by decide +kernel)) rfl
theorem q_176 : (Cond.fieldLink RX7 73 "FlowConstants$Now" "number" "[I" : Cond) ∈ lw_gt := lw_gt_of (List.mem_of_getElem? (i := 215) (by decide +kernel)) rfl
theorem q_177 : (Cond.fieldLink RX8 175 "FlowConstants$Now" "number" "[I" : Cond) ∈ lw_gt := lw_gt_of (List.mem_of_getElem? (i := 216) (by decide +kernel)) rfl
theorem q_178 : (Cond.fieldLink RX2 24 "FlowConstants$Now" "way" "[I" : Cond) ∈ lw_gt := lw_gt_of (List.mem_of_getElem? (i := 217) (by decide +kernel)) rfl
theorem q_179 : (Cond.fieldLink RX7 104 "FlowConstants$Now" "way" "[I" : Cond) ∈ lw_gt := lw_gt_of (List.mem_of_getElem? (i := 218) (by decide +kernel)) rfl
theorem q_180 : (Cond.fieldLink RX0 112 "FlowConstants$Now" "way" "[I" : Cond) ∈ lw_gt := lw_gt_of (List.mem_of_getElem? (i := 219) (by decide +kernel)) rfl
theorem q_181 : (Cond.fieldLink RX8 148 "FlowConstants$Now" "way" "[I" : Cond) ∈ lw_gt := lw_gt_of (List.mem_of_getElem? (i := 220) (by decide +kernel)) rfl
theorem q_193 : (Cond.classLink RX8 33 "FlowConstants$Flow" : Cond) ∈ lw_gt := lw_gt_of (List.mem_of_getElem? (i := 232) (by decide +kernel)) rfl
theorem q_194 : (Cond.instantiable RX0 4 : Cond) ∈ lw_gt := lw_gt_of (List.mem_of_getElem? (i := 233) (by decide +kernel)) rfl
theorem q_196 : (Cond.instanceMethod yX0_init : Cond) ∈ lw_gt := lw_gt_of (List.mem_of_getElem? (i := 235) (by decide +kernel)) rfl
theorem q_197 : (Cond.code yX0_init cX0_init 1 none : Cond) ∈ lw_gt := lw_gt_of (List.mem_of_getElem? (i := 236) (by decide +kernel)) rfl
theorem q_198 : (Cond.methodLink RX0 3 objectInit : Cond) ∈ lw_gt := lw_gt_of (List.mem_of_getElem? (i := 237) (by decide +kernel)) rfl
theorem q_199 : (Cond.fieldLink RX0 9 "FlowConstants$Flow" "state" "[I" : Cond) ∈ lw_gt := lw_gt_of (List.mem_of_getElem? (i := 238) (by decide +kernel)) rfl
theorem q_200 : (Cond.fieldLink RX8 128 "FlowConstants$Flow" "state" "[I" : Cond) ∈ lw_gt := lw_gt_of (List.mem_of_getElem? (i := 239) (by decide +kernel)) rfl
theorem q_201 : (Cond.fieldLink RX0 15 "FlowConstants$Flow" "value" "[I" : Cond) ∈ lw_gt := lw_gt_of (List.mem_of_getElem? (i := 240) (by decide +kernel)) rfl
theorem q_202 : (Cond.fieldLink RX8 131 "FlowConstants$Flow" "value" "[I" : Cond) ∈ lw_gt := lw_gt_of (List.mem_of_getElem? (i := 241) (by decide +kernel)) rfl
theorem q_203 : (Cond.fieldLink RX0 18 "FlowConstants$Flow" "live" "[I" : Cond) ∈ lw_gt := lw_gt_of (List.mem_of_getElem? (i := 242) (by decide +kernel)) rfl
theorem q_204 : (Cond.fieldLink RX8 137 "FlowConstants$Flow" "live" "[I" : Cond) ∈ lw_gt := lw_gt_of (List.mem_of_getElem? (i := 243) (by decide +kernel)) rfl
theorem q_205 : (Cond.fieldLink RX0 21 "FlowConstants$Flow" "open" "[I" : Cond) ∈ lw_gt := lw_gt_of (List.mem_of_getElem? (i := 244) (by decide +kernel)) rfl
theorem q_206 : (Cond.fieldLink RX8 151 "FlowConstants$Flow" "open" "[I" : Cond) ∈ lw_gt := lw_gt_of (List.mem_of_getElem? (i := 245) (by decide +kernel)) rfl
theorem q_216 : (Cond.classLink RX8 46 "FlowConstants$Walk" : Cond) ∈ lw_gt := lw_gt_of (List.mem_of_getElem? (i := 255) (by decide +kernel)) rfl
theorem q_217 : (Cond.instantiable RX7 5 : Cond) ∈ lw_gt := lw_gt_of (List.mem_of_getElem? (i := 256) (by decide +kernel)) rfl
theorem q_219 : (Cond.instanceMethod yX7_init : Cond) ∈ lw_gt := lw_gt_of (List.mem_of_getElem? (i := 258) (by decide +kernel)) rfl
theorem q_220 : (Cond.code yX7_init cX7_init 1 none : Cond) ∈ lw_gt := lw_gt_of (List.mem_of_getElem? (i := 259) (by decide +kernel)) rfl
theorem q_221 : (Cond.methodLink RX7 3 objectInit : Cond) ∈ lw_gt := lw_gt_of (List.mem_of_getElem? (i := 260) (by decide +kernel)) rfl
theorem q_222 : (Cond.fieldLink RX7 11 "FlowConstants$Walk" "outcome" "I" : Cond) ∈ lw_gt := lw_gt_of (List.mem_of_getElem? (i := 261) (by decide +kernel)) rfl
theorem q_223 : (Cond.fieldLink RX8 196 "FlowConstants$Walk" "outcome" "I" : Cond) ∈ lw_gt := lw_gt_of (List.mem_of_getElem? (i := 262) (by decide +kernel)) rfl
theorem q_224 : (Cond.fieldLink RX7 15 "FlowConstants$Walk" "answer" "I" : Cond) ∈ lw_gt := lw_gt_of (List.mem_of_getElem? (i := 263) (by decide +kernel)) rfl
theorem q_225 : (Cond.fieldLink RX8 193 "FlowConstants$Walk" "answer" "I" : Cond) ∈ lw_gt := lw_gt_of (List.mem_of_getElem? (i := 264) (by decide +kernel)) rfl
theorem q_226 : (Cond.fieldLink RX7 18 "FlowConstants$Walk" "value" "[I" : Cond) ∈ lw_gt := lw_gt_of (List.mem_of_getElem? (i := 265) (by decide +kernel)) rfl
theorem q_227 : (Cond.fieldLink RX8 202 "FlowConstants$Walk" "value" "[I" : Cond) ∈ lw_gt := lw_gt_of (List.mem_of_getElem? (i := 266) (by decide +kernel)) rfl
theorem q_228 : (Cond.fieldLink RX7 22 "FlowConstants$Walk" "brought" "[I" : Cond) ∈ lw_gt := lw_gt_of (List.mem_of_getElem? (i := 267) (by decide +kernel)) rfl
theorem q_229 : (Cond.fieldLink RX7 25 "FlowConstants$Walk" "times" "[I" : Cond) ∈ lw_gt := lw_gt_of (List.mem_of_getElem? (i := 268) (by decide +kernel)) rfl
theorem q_230 : (Cond.fieldLink RX8 199 "FlowConstants$Walk" "times" "[I" : Cond) ∈ lw_gt := lw_gt_of (List.mem_of_getElem? (i := 269) (by decide +kernel)) rfl
theorem q_242 : (Cond.classLink RX8 53 "FlowConstants$History" : Cond) ∈ lw_gt := lw_gt_of (List.mem_of_getElem? (i := 281) (by decide +kernel)) rfl
theorem q_243 : (Cond.instantiable RX1 5 : Cond) ∈ lw_gt := lw_gt_of (List.mem_of_getElem? (i := 282) (by decide +kernel)) rfl
theorem q_245 : (Cond.instanceMethod yX1_init : Cond) ∈ lw_gt := lw_gt_of (List.mem_of_getElem? (i := 284) (by decide +kernel)) rfl
theorem q_246 : (Cond.code yX1_init cX1_init 1 none : Cond) ∈ lw_gt := lw_gt_of (List.mem_of_getElem? (i := 285) (by decide +kernel)) rfl
theorem q_247 : (Cond.methodLink RX1 3 objectInit : Cond) ∈ lw_gt := lw_gt_of (List.mem_of_getElem? (i := 286) (by decide +kernel)) rfl
theorem q_248 : (Cond.fieldLink RX1 9 "FlowConstants$History" "size" "I" : Cond) ∈ lw_gt := lw_gt_of (List.mem_of_getElem? (i := 287) (by decide +kernel)) rfl
theorem q_249 : (Cond.fieldLink RX8 88 "FlowConstants$History" "size" "I" : Cond) ∈ lw_gt := lw_gt_of (List.mem_of_getElem? (i := 288) (by decide +kernel)) rfl
theorem q_250 : (Cond.fieldLink RX1 15 "FlowConstants$History" "deed" "[I" : Cond) ∈ lw_gt := lw_gt_of (List.mem_of_getElem? (i := 289) (by decide +kernel)) rfl
theorem q_251 : (Cond.fieldLink RX1 19 "FlowConstants$History" "place" "[I" : Cond) ∈ lw_gt := lw_gt_of (List.mem_of_getElem? (i := 290) (by decide +kernel)) rfl
theorem q_252 : (Cond.fieldLink RX1 22 "FlowConstants$History" "wasKnown" "[I" : Cond) ∈ lw_gt := lw_gt_of (List.mem_of_getElem? (i := 291) (by decide +kernel)) rfl
theorem q_253 : (Cond.fieldLink RX1 25 "FlowConstants$History" "was" "[I" : Cond) ∈ lw_gt := lw_gt_of (List.mem_of_getElem? (i := 292) (by decide +kernel)) rfl
theorem q_266 : (Cond.fieldLink RX8 12 "FlowConstants" "text" "LFlowConstants$Text;" : Cond) ∈ lw_gt := lw_gt_of (List.mem_of_getElem? (i := 305) (by decide +kernel)) rfl
theorem q_267 : (Cond.fieldLink RX8 19 "FlowConstants" "shape" "LFlowConstants$Shape;" : Cond) ∈ lw_gt := lw_gt_of (List.mem_of_getElem? (i := 306) (by decide +kernel)) rfl
theorem q_268 : (Cond.fieldLink RX8 23 "FlowConstants" "draft" "LFlowConstants$Shape;" : Cond) ∈ lw_gt := lw_gt_of (List.mem_of_getElem? (i := 307) (by decide +kernel)) rfl
theorem q_269 : (Cond.fieldLink RX8 29 "FlowConstants" "now" "LFlowConstants$Now;" : Cond) ∈ lw_gt := lw_gt_of (List.mem_of_getElem? (i := 308) (by decide +kernel)) rfl
theorem q_270 : (Cond.fieldLink RX8 36 "FlowConstants" "flow" "LFlowConstants$Flow;" : Cond) ∈ lw_gt := lw_gt_of (List.mem_of_getElem? (i := 309) (by decide +kernel)) rfl
theorem q_271 : (Cond.fieldLink RX8 40 "FlowConstants" "plain" "LFlowConstants$Flow;" : Cond) ∈ lw_gt := lw_gt_of (List.mem_of_getElem? (i := 310) (by decide +kernel)) rfl
theorem q_272 : (Cond.fieldLink RX8 43 "FlowConstants" "trial" "LFlowConstants$Flow;" : Cond) ∈ lw_gt := lw_gt_of (List.mem_of_getElem? (i := 311) (by decide +kernel)) rfl
theorem q_273 : (Cond.fieldLink RX8 49 "FlowConstants" "walk" "LFlowConstants$Walk;" : Cond) ∈ lw_gt := lw_gt_of (List.mem_of_getElem? (i := 312) (by decide +kernel)) rfl
theorem q_274 : (Cond.fieldLink RX8 56 "FlowConstants" "history" "LFlowConstants$History;" : Cond) ∈ lw_gt := lw_gt_of (List.mem_of_getElem? (i := 313) (by decide +kernel)) rfl
theorem q_275 : (Cond.fieldLink RX8 60 "FlowConstants" "images" "[LFlowConstants$Now;" : Cond) ∈ lw_gt := lw_gt_of (List.mem_of_getElem? (i := 314) (by decide +kernel)) rfl
theorem q_276 : (Cond.fieldLink RX8 64 "FlowConstants" "kept" "[I" : Cond) ∈ lw_gt := lw_gt_of (List.mem_of_getElem? (i := 315) (by decide +kernel)) rfl
theorem q_277 : (Cond.fieldLink RX8 68 "FlowConstants" "told" "I" : Cond) ∈ lw_gt := lw_gt_of (List.mem_of_getElem? (i := 316) (by decide +kernel)) rfl
theorem q_303 : (Cond.methodLink RL 13 yX8_type : Cond) ∈ lw_gt := lw_gt_of (List.mem_of_getElem? (i := 342) (by decide +kernel)) rfl
theorem q_304 : (Cond.instanceMethod yX8_type : Cond) ∈ lw_gt := lw_gt_of (List.mem_of_getElem? (i := 343) (by decide +kernel)) rfl
theorem q_305 : (Cond.selects RX8 yX8_type yX8_type : Cond) ∈ lw_gt := lw_gt_of (List.mem_of_getElem? (i := 344) (by decide +kernel)) rfl
theorem q_306 : (Cond.code yX8_type cX8_type 2 (some .int) : Cond) ∈ lw_gt := lw_gt_of (List.mem_of_getElem? (i := 345) (by decide +kernel)) rfl
theorem q_307 : (Cond.methodLink RL 18 yX8_clear : Cond) ∈ lw_gt := lw_gt_of (List.mem_of_getElem? (i := 346) (by decide +kernel)) rfl
theorem q_308 : (Cond.instanceMethod yX8_clear : Cond) ∈ lw_gt := lw_gt_of (List.mem_of_getElem? (i := 347) (by decide +kernel)) rfl
theorem q_309 : (Cond.selects RX8 yX8_clear yX8_clear : Cond) ∈ lw_gt := lw_gt_of (List.mem_of_getElem? (i := 348) (by decide +kernel)) rfl
theorem q_310 : (Cond.code yX8_clear cX8_clear 2 (some .int) : Cond) ∈ lw_gt := lw_gt_of (List.mem_of_getElem? (i := 349) (by decide +kernel)) rfl
theorem q_311 : (Cond.methodLink RL 23 yX8_program : Cond) ∈ lw_gt := lw_gt_of (List.mem_of_getElem? (i := 350) (by decide +kernel)) rfl
theorem q_312 : (Cond.instanceMethod yX8_program : Cond) ∈ lw_gt := lw_gt_of (List.mem_of_getElem? (i := 351) (by decide +kernel)) rfl
theorem q_313 : (Cond.selects RX8 yX8_program yX8_program : Cond) ∈ lw_gt := lw_gt_of (List.mem_of_getElem? (i := 352) (by decide +kernel)) rfl
theorem q_314 : (Cond.code yX8_program cX8_program 3 (some .int) : Cond) ∈ lw_gt := lw_gt_of (List.mem_of_getElem? (i := 353) (by decide +kernel)) rfl
theorem q_315 : (Cond.methodLink RX8 78 yX3_faultOf : Cond) ∈ lw_gt := lw_gt_of (List.mem_of_getElem? (i := 354) (by decide +kernel)) rfl
theorem q_316 : (Cond.static yX3_faultOf : Cond) ∈ lw_gt := lw_gt_of (List.mem_of_getElem? (i := 355) (by decide +kernel)) rfl
theorem q_317 : (Cond.code yX3_faultOf cX3_faultOf 3 (some .int) : Cond) ∈ lw_gt := lw_gt_of (List.mem_of_getElem? (i := 356) (by decide +kernel)) rfl
theorem q_318 : (Cond.methodLink RX3 9 yX4_empty : Cond) ∈ lw_gt := lw_gt_of (List.mem_of_getElem? (i := 357) (by decide +kernel)) rfl
theorem q_319 : (Cond.instanceMethod yX4_empty : Cond) ∈ lw_gt := lw_gt_of (List.mem_of_getElem? (i := 358) (by decide +kernel)) rfl
theorem q_320 : (Cond.selects RX4 yX4_empty yX4_empty : Cond) ∈ lw_gt := lw_gt_of (List.mem_of_getElem? (i := 359) (by decide +kernel)) rfl
theorem q_321 : (Cond.code yX4_empty cX4_empty 1 none : Cond) ∈ lw_gt := lw_gt_of (List.mem_of_getElem? (i := 360) (by decide +kernel)) rfl
theorem q_322 : (Cond.methodLink RX3 14 yX6_rewind : Cond) ∈ lw_gt := lw_gt_of (List.mem_of_getElem? (i := 361) (by decide +kernel)) rfl
theorem q_323 : (Cond.instanceMethod yX6_rewind : Cond) ∈ lw_gt := lw_gt_of (List.mem_of_getElem? (i := 362) (by decide +kernel)) rfl
theorem q_324 : (Cond.selects RX6 yX6_rewind yX6_rewind : Cond) ∈ lw_gt := lw_gt_of (List.mem_of_getElem? (i := 363) (by decide +kernel)) rfl
theorem q_325 : (Cond.code yX6_rewind cX6_rewind 1 none : Cond) ∈ lw_gt := lw_gt_of (List.mem_of_getElem? (i := 364) (by decide +kernel)) rfl
theorem q_326 : (Cond.methodLink RX6 35 yX6_step : Cond) ∈ lw_gt := lw_gt_of (List.mem_of_getElem? (i := 365) (by decide +kernel)) rfl
theorem q_327 : (Cond.instanceMethod yX6_step : Cond) ∈ lw_gt := lw_gt_of (List.mem_of_getElem? (i := 366) (by decide +kernel)) rfl
theorem q_328 : (Cond.selects RX6 yX6_step yX6_step : Cond) ∈ lw_gt := lw_gt_of (List.mem_of_getElem? (i := 367) (by decide +kernel)) rfl
theorem q_329 : (Cond.code yX6_step cX6_step 2 none : Cond) ∈ lw_gt := lw_gt_of (List.mem_of_getElem? (i := 368) (by decide +kernel)) rfl
theorem q_330 : (Cond.methodLink RX6 38 yX6_readLetters : Cond) ∈ lw_gt := lw_gt_of (List.mem_of_getElem? (i := 369) (by decide +kernel)) rfl
theorem q_331 : (Cond.instanceMethod yX6_readLetters : Cond) ∈ lw_gt := lw_gt_of (List.mem_of_getElem? (i := 370) (by decide +kernel)) rfl
theorem q_332 : (Cond.selects RX6 yX6_readLetters yX6_readLetters : Cond) ∈ lw_gt := lw_gt_of (List.mem_of_getElem? (i := 371) (by decide +kernel)) rfl
theorem q_333 : (Cond.code yX6_readLetters cX6_readLetters 2 none : Cond) ∈ lw_gt := lw_gt_of (List.mem_of_getElem? (i := 372) (by decide +kernel)) rfl
theorem q_334 : (Cond.methodLink RX6 42 yX6_readNumeral : Cond) ∈ lw_gt := lw_gt_of (List.mem_of_getElem? (i := 373) (by decide +kernel)) rfl
theorem q_335 : (Cond.instanceMethod yX6_readNumeral : Cond) ∈ lw_gt := lw_gt_of (List.mem_of_getElem? (i := 374) (by decide +kernel)) rfl
theorem q_336 : (Cond.selects RX6 yX6_readNumeral yX6_readNumeral : Cond) ∈ lw_gt := lw_gt_of (List.mem_of_getElem? (i := 375) (by decide +kernel)) rfl
theorem q_337 : (Cond.code yX6_readNumeral cX6_readNumeral 2 none : Cond) ∈ lw_gt := lw_gt_of (List.mem_of_getElem? (i := 376) (by decide +kernel)) rfl
theorem q_338 : (Cond.methodLink RX6 45 yX5_isSign : Cond) ∈ lw_gt := lw_gt_of (List.mem_of_getElem? (i := 377) (by decide +kernel)) rfl
theorem q_339 : (Cond.static yX5_isSign : Cond) ∈ lw_gt := lw_gt_of (List.mem_of_getElem? (i := 378) (by decide +kernel)) rfl
theorem q_340 : (Cond.code yX5_isSign cX5_isSign 1 (some .boolean) : Cond) ∈ lw_gt := lw_gt_of (List.mem_of_getElem? (i := 379) (by decide +kernel)) rfl
theorem q_341 : (Cond.methodLink RX3 19 yX6_hasMore : Cond) ∈ lw_gt := lw_gt_of (List.mem_of_getElem? (i := 380) (by decide +kernel)) rfl
theorem q_342 : (Cond.instanceMethod yX6_hasMore : Cond) ∈ lw_gt := lw_gt_of (List.mem_of_getElem? (i := 381) (by decide +kernel)) rfl
theorem q_343 : (Cond.selects RX6 yX6_hasMore yX6_hasMore : Cond) ∈ lw_gt := lw_gt_of (List.mem_of_getElem? (i := 382) (by decide +kernel)) rfl
theorem q_344 : (Cond.code yX6_hasMore cX6_hasMore 1 (some .boolean) : Cond) ∈ lw_gt := lw_gt_of (List.mem_of_getElem? (i := 383) (by decide +kernel)) rfl
theorem q_345 : (Cond.methodLink RX3 23 yX3_readItem : Cond) ∈ lw_gt := lw_gt_of (List.mem_of_getElem? (i := 384) (by decide +kernel)) rfl
theorem q_346 : (Cond.static yX3_readItem : Cond) ∈ lw_gt := lw_gt_of (List.mem_of_getElem? (i := 385) (by decide +kernel)) rfl
theorem q_347 : (Cond.code yX3_readItem cX3_readItem 3 none : Cond) ∈ lw_gt := lw_gt_of (List.mem_of_getElem? (i := 386) (by decide +kernel)) rfl
theorem q_348 : (Cond.methodLink RX3 49 yX4_admits : Cond) ∈ lw_gt := lw_gt_of (List.mem_of_getElem? (i := 387) (by decide +kernel)) rfl
theorem q_349 : (Cond.instanceMethod yX4_admits : Cond) ∈ lw_gt := lw_gt_of (List.mem_of_getElem? (i := 388) (by decide +kernel)) rfl
theorem q_350 : (Cond.selects RX4 yX4_admits yX4_admits : Cond) ∈ lw_gt := lw_gt_of (List.mem_of_getElem? (i := 389) (by decide +kernel)) rfl
theorem q_351 : (Cond.code yX4_admits cX4_admits 3 (some .boolean) : Cond) ∈ lw_gt := lw_gt_of (List.mem_of_getElem? (i := 390) (by decide +kernel)) rfl
theorem q_352 : (Cond.methodLink RX4 68 yX4_admitsJoin : Cond) ∈ lw_gt := lw_gt_of (List.mem_of_getElem? (i := 391) (by decide +kernel)) rfl
theorem q_353 : (Cond.instanceMethod yX4_admitsJoin : Cond) ∈ lw_gt := lw_gt_of (List.mem_of_getElem? (i := 392) (by decide +kernel)) rfl
theorem q_354 : (Cond.selects RX4 yX4_admitsJoin yX4_admitsJoin : Cond) ∈ lw_gt := lw_gt_of (List.mem_of_getElem? (i := 393) (by decide +kernel)) rfl
theorem q_355 : (Cond.code yX4_admitsJoin cX4_admitsJoin 1 (some .boolean) : Cond) ∈ lw_gt := lw_gt_of (List.mem_of_getElem? (i := 394) (by decide +kernel)) rfl
theorem q_356 : (Cond.methodLink RX4 72 yX4_isMade : Cond) ∈ lw_gt := lw_gt_of (List.mem_of_getElem? (i := 395) (by decide +kernel)) rfl
theorem q_357 : (Cond.instanceMethod yX4_isMade : Cond) ∈ lw_gt := lw_gt_of (List.mem_of_getElem? (i := 396) (by decide +kernel)) rfl
theorem q_358 : (Cond.selects RX4 yX4_isMade yX4_isMade : Cond) ∈ lw_gt := lw_gt_of (List.mem_of_getElem? (i := 397) (by decide +kernel)) rfl
theorem q_359 : (Cond.code yX4_isMade cX4_isMade 3 (some .boolean) : Cond) ∈ lw_gt := lw_gt_of (List.mem_of_getElem? (i := 398) (by decide +kernel)) rfl
theorem q_360 : (Cond.methodLink RX4 64 yX4_hasName : Cond) ∈ lw_gt := lw_gt_of (List.mem_of_getElem? (i := 399) (by decide +kernel)) rfl
theorem q_361 : (Cond.instanceMethod yX4_hasName : Cond) ∈ lw_gt := lw_gt_of (List.mem_of_getElem? (i := 400) (by decide +kernel)) rfl
theorem q_362 : (Cond.selects RX4 yX4_hasName yX4_hasName : Cond) ∈ lw_gt := lw_gt_of (List.mem_of_getElem? (i := 401) (by decide +kernel)) rfl
theorem q_363 : (Cond.code yX4_hasName cX4_hasName 2 (some .boolean) : Cond) ∈ lw_gt := lw_gt_of (List.mem_of_getElem? (i := 402) (by decide +kernel)) rfl
theorem q_364 : (Cond.methodLink RX3 53 yX6_step : Cond) ∈ lw_gt := lw_gt_of (List.mem_of_getElem? (i := 403) (by decide +kernel)) rfl
theorem q_365 : (Cond.methodLink RX3 56 yX4_beginBlock : Cond) ∈ lw_gt := lw_gt_of (List.mem_of_getElem? (i := 404) (by decide +kernel)) rfl
theorem q_366 : (Cond.instanceMethod yX4_beginBlock : Cond) ∈ lw_gt := lw_gt_of (List.mem_of_getElem? (i := 405) (by decide +kernel)) rfl
theorem q_367 : (Cond.selects RX4 yX4_beginBlock yX4_beginBlock : Cond) ∈ lw_gt := lw_gt_of (List.mem_of_getElem? (i := 406) (by decide +kernel)) rfl
theorem q_368 : (Cond.code yX4_beginBlock cX4_beginBlock 2 none : Cond) ∈ lw_gt := lw_gt_of (List.mem_of_getElem? (i := 407) (by decide +kernel)) rfl
theorem q_369 : (Cond.methodLink RX3 59 yX4_addName : Cond) ∈ lw_gt := lw_gt_of (List.mem_of_getElem? (i := 408) (by decide +kernel)) rfl
theorem q_370 : (Cond.instanceMethod yX4_addName : Cond) ∈ lw_gt := lw_gt_of (List.mem_of_getElem? (i := 409) (by decide +kernel)) rfl
theorem q_371 : (Cond.selects RX4 yX4_addName yX4_addName : Cond) ∈ lw_gt := lw_gt_of (List.mem_of_getElem? (i := 410) (by decide +kernel)) rfl
theorem q_372 : (Cond.code yX4_addName cX4_addName 3 (some .int) : Cond) ∈ lw_gt := lw_gt_of (List.mem_of_getElem? (i := 411) (by decide +kernel)) rfl
theorem q_373 : (Cond.methodLink RX3 63 yX3_readNumber : Cond) ∈ lw_gt := lw_gt_of (List.mem_of_getElem? (i := 412) (by decide +kernel)) rfl
theorem q_374 : (Cond.static yX3_readNumber : Cond) ∈ lw_gt := lw_gt_of (List.mem_of_getElem? (i := 413) (by decide +kernel)) rfl
theorem q_375 : (Cond.code yX3_readNumber cX3_readNumber 3 none : Cond) ∈ lw_gt := lw_gt_of (List.mem_of_getElem? (i := 414) (by decide +kernel)) rfl
theorem q_376 : (Cond.methodLink RX3 81 yX6_take : Cond) ∈ lw_gt := lw_gt_of (List.mem_of_getElem? (i := 415) (by decide +kernel)) rfl
theorem q_377 : (Cond.instanceMethod yX6_take : Cond) ∈ lw_gt := lw_gt_of (List.mem_of_getElem? (i := 416) (by decide +kernel)) rfl
theorem q_378 : (Cond.selects RX6 yX6_take yX6_take : Cond) ∈ lw_gt := lw_gt_of (List.mem_of_getElem? (i := 417) (by decide +kernel)) rfl
theorem q_379 : (Cond.code yX6_take cX6_take 3 (some .int) : Cond) ∈ lw_gt := lw_gt_of (List.mem_of_getElem? (i := 418) (by decide +kernel)) rfl
theorem q_380 : (Cond.methodLink RX3 66 yX3_readOperation : Cond) ∈ lw_gt := lw_gt_of (List.mem_of_getElem? (i := 419) (by decide +kernel)) rfl
theorem q_381 : (Cond.static yX3_readOperation : Cond) ∈ lw_gt := lw_gt_of (List.mem_of_getElem? (i := 420) (by decide +kernel)) rfl
theorem q_382 : (Cond.code yX3_readOperation cX3_readOperation 3 none : Cond) ∈ lw_gt := lw_gt_of (List.mem_of_getElem? (i := 421) (by decide +kernel)) rfl
theorem q_383 : (Cond.methodLink RX3 91 yX6_takeNumeralBelow : Cond) ∈ lw_gt := lw_gt_of (List.mem_of_getElem? (i := 422) (by decide +kernel)) rfl
theorem q_384 : (Cond.instanceMethod yX6_takeNumeralBelow : Cond) ∈ lw_gt := lw_gt_of (List.mem_of_getElem? (i := 423) (by decide +kernel)) rfl
theorem q_385 : (Cond.selects RX6 yX6_takeNumeralBelow yX6_takeNumeralBelow : Cond) ∈ lw_gt := lw_gt_of (List.mem_of_getElem? (i := 424) (by decide +kernel)) rfl
theorem q_386 : (Cond.code yX6_takeNumeralBelow cX6_takeNumeralBelow 2 (some .int) : Cond) ∈ lw_gt := lw_gt_of (List.mem_of_getElem? (i := 425) (by decide +kernel)) rfl
theorem q_387 : (Cond.methodLink RX6 51 yX6_take : Cond) ∈ lw_gt := lw_gt_of (List.mem_of_getElem? (i := 426) (by decide +kernel)) rfl
theorem q_388 : (Cond.methodLink RX3 69 yX3_readArms : Cond) ∈ lw_gt := lw_gt_of (List.mem_of_getElem? (i := 427) (by decide +kernel)) rfl
theorem q_389 : (Cond.static yX3_readArms : Cond) ∈ lw_gt := lw_gt_of (List.mem_of_getElem? (i := 428) (by decide +kernel)) rfl
theorem q_390 : (Cond.code yX3_readArms cX3_readArms 6 none : Cond) ∈ lw_gt := lw_gt_of (List.mem_of_getElem? (i := 429) (by decide +kernel)) rfl
theorem q_391 : (Cond.methodLink RX3 100 yX4_hasArm : Cond) ∈ lw_gt := lw_gt_of (List.mem_of_getElem? (i := 430) (by decide +kernel)) rfl
theorem q_392 : (Cond.instanceMethod yX4_hasArm : Cond) ∈ lw_gt := lw_gt_of (List.mem_of_getElem? (i := 431) (by decide +kernel)) rfl
theorem q_393 : (Cond.selects RX4 yX4_hasArm yX4_hasArm : Cond) ∈ lw_gt := lw_gt_of (List.mem_of_getElem? (i := 432) (by decide +kernel)) rfl
theorem q_394 : (Cond.code yX4_hasArm cX4_hasArm 3 (some .boolean) : Cond) ∈ lw_gt := lw_gt_of (List.mem_of_getElem? (i := 433) (by decide +kernel)) rfl
theorem q_395 : (Cond.methodLink RX4 76 yX4_armFrom : Cond) ∈ lw_gt := lw_gt_of (List.mem_of_getElem? (i := 434) (by decide +kernel)) rfl
theorem q_396 : (Cond.instanceMethod yX4_armFrom : Cond) ∈ lw_gt := lw_gt_of (List.mem_of_getElem? (i := 435) (by decide +kernel)) rfl
theorem q_397 : (Cond.selects RX4 yX4_armFrom yX4_armFrom : Cond) ∈ lw_gt := lw_gt_of (List.mem_of_getElem? (i := 436) (by decide +kernel)) rfl
theorem q_398 : (Cond.code yX4_armFrom cX4_armFrom 4 (some .int) : Cond) ∈ lw_gt := lw_gt_of (List.mem_of_getElem? (i := 437) (by decide +kernel)) rfl
theorem q_399 : (Cond.methodLink RX3 104 yX4_addArm : Cond) ∈ lw_gt := lw_gt_of (List.mem_of_getElem? (i := 438) (by decide +kernel)) rfl
theorem q_400 : (Cond.instanceMethod yX4_addArm : Cond) ∈ lw_gt := lw_gt_of (List.mem_of_getElem? (i := 439) (by decide +kernel)) rfl
theorem q_401 : (Cond.selects RX4 yX4_addArm yX4_addArm : Cond) ∈ lw_gt := lw_gt_of (List.mem_of_getElem? (i := 440) (by decide +kernel)) rfl
theorem q_402 : (Cond.code yX4_addArm cX4_addArm 5 none : Cond) ∈ lw_gt := lw_gt_of (List.mem_of_getElem? (i := 441) (by decide +kernel)) rfl
theorem q_403 : (Cond.methodLink RX3 72 yX3_readGoing : Cond) ∈ lw_gt := lw_gt_of (List.mem_of_getElem? (i := 442) (by decide +kernel)) rfl
theorem q_404 : (Cond.static yX3_readGoing : Cond) ∈ lw_gt := lw_gt_of (List.mem_of_getElem? (i := 443) (by decide +kernel)) rfl
theorem q_405 : (Cond.code yX3_readGoing cX3_readGoing 3 none : Cond) ∈ lw_gt := lw_gt_of (List.mem_of_getElem? (i := 444) (by decide +kernel)) rfl
theorem q_406 : (Cond.methodLink RX3 108 yX4_endBlock : Cond) ∈ lw_gt := lw_gt_of (List.mem_of_getElem? (i := 445) (by decide +kernel)) rfl
theorem q_407 : (Cond.instanceMethod yX4_endBlock : Cond) ∈ lw_gt := lw_gt_of (List.mem_of_getElem? (i := 446) (by decide +kernel)) rfl
theorem q_408 : (Cond.selects RX4 yX4_endBlock yX4_endBlock : Cond) ∈ lw_gt := lw_gt_of (List.mem_of_getElem? (i := 447) (by decide +kernel)) rfl
theorem q_409 : (Cond.code yX4_endBlock cX4_endBlock 2 (some .int) : Cond) ∈ lw_gt := lw_gt_of (List.mem_of_getElem? (i := 448) (by decide +kernel)) rfl
theorem q_410 : (Cond.methodLink RX3 75 yX3_readChoice : Cond) ∈ lw_gt := lw_gt_of (List.mem_of_getElem? (i := 449) (by decide +kernel)) rfl
theorem q_411 : (Cond.static yX3_readChoice : Cond) ∈ lw_gt := lw_gt_of (List.mem_of_getElem? (i := 450) (by decide +kernel)) rfl
theorem q_412 : (Cond.code yX3_readChoice cX3_readChoice 4 none : Cond) ∈ lw_gt := lw_gt_of (List.mem_of_getElem? (i := 451) (by decide +kernel)) rfl
theorem q_413 : (Cond.methodLink RX3 78 yX3_readReturn : Cond) ∈ lw_gt := lw_gt_of (List.mem_of_getElem? (i := 452) (by decide +kernel)) rfl
theorem q_414 : (Cond.static yX3_readReturn : Cond) ∈ lw_gt := lw_gt_of (List.mem_of_getElem? (i := 453) (by decide +kernel)) rfl
theorem q_415 : (Cond.code yX3_readReturn cX3_readReturn 3 none : Cond) ∈ lw_gt := lw_gt_of (List.mem_of_getElem? (i := 454) (by decide +kernel)) rfl
theorem q_416 : (Cond.methodLink RX3 33 yX4_isWhole : Cond) ∈ lw_gt := lw_gt_of (List.mem_of_getElem? (i := 455) (by decide +kernel)) rfl
theorem q_417 : (Cond.instanceMethod yX4_isWhole : Cond) ∈ lw_gt := lw_gt_of (List.mem_of_getElem? (i := 456) (by decide +kernel)) rfl
theorem q_418 : (Cond.selects RX4 yX4_isWhole yX4_isWhole : Cond) ∈ lw_gt := lw_gt_of (List.mem_of_getElem? (i := 457) (by decide +kernel)) rfl
theorem q_419 : (Cond.code yX4_isWhole cX4_isWhole 1 (some .boolean) : Cond) ∈ lw_gt := lw_gt_of (List.mem_of_getElem? (i := 458) (by decide +kernel)) rfl
theorem q_420 : (Cond.methodLink RX3 36 yX4_isStrict : Cond) ∈ lw_gt := lw_gt_of (List.mem_of_getElem? (i := 459) (by decide +kernel)) rfl
theorem q_421 : (Cond.instanceMethod yX4_isStrict : Cond) ∈ lw_gt := lw_gt_of (List.mem_of_getElem? (i := 460) (by decide +kernel)) rfl
theorem q_422 : (Cond.selects RX4 yX4_isStrict yX4_isStrict : Cond) ∈ lw_gt := lw_gt_of (List.mem_of_getElem? (i := 461) (by decide +kernel)) rfl
theorem q_423 : (Cond.code yX4_isStrict cX4_isStrict 2 (some .boolean) : Cond) ∈ lw_gt := lw_gt_of (List.mem_of_getElem? (i := 462) (by decide +kernel)) rfl
theorem q_424 : (Cond.methodLink RX4 80 yX4_endsTellOfWhatIsThere : Cond) ∈ lw_gt := lw_gt_of (List.mem_of_getElem? (i := 463) (by decide +kernel)) rfl
theorem q_425 : (Cond.instanceMethod yX4_endsTellOfWhatIsThere : Cond) ∈ lw_gt := lw_gt_of (List.mem_of_getElem? (i := 464) (by decide +kernel)) rfl
theorem q_426 : (Cond.selects RX4 yX4_endsTellOfWhatIsThere yX4_endsTellOfWhatIsThere : Cond) ∈ lw_gt := lw_gt_of (List.mem_of_getElem? (i := 465) (by decide +kernel)) rfl
theorem q_427 : (Cond.code yX4_endsTellOfWhatIsThere cX4_endsTellOfWhatIsThere 2 (some .boolean) : Cond) ∈ lw_gt := lw_gt_of (List.mem_of_getElem? (i := 466) (by decide +kernel)) rfl
theorem q_428 : (Cond.methodLink RX4 98 yX4_hasBlock : Cond) ∈ lw_gt := lw_gt_of (List.mem_of_getElem? (i := 467) (by decide +kernel)) rfl
theorem q_429 : (Cond.instanceMethod yX4_hasBlock : Cond) ∈ lw_gt := lw_gt_of (List.mem_of_getElem? (i := 468) (by decide +kernel)) rfl
theorem q_430 : (Cond.selects RX4 yX4_hasBlock yX4_hasBlock : Cond) ∈ lw_gt := lw_gt_of (List.mem_of_getElem? (i := 469) (by decide +kernel)) rfl
theorem q_431 : (Cond.code yX4_hasBlock cX4_hasBlock 2 (some .boolean) : Cond) ∈ lw_gt := lw_gt_of (List.mem_of_getElem? (i := 470) (by decide +kernel)) rfl
theorem q_432 : (Cond.methodLink RX4 83 yX4_namesTellOfWhatIsThere : Cond) ∈ lw_gt := lw_gt_of (List.mem_of_getElem? (i := 471) (by decide +kernel)) rfl
theorem q_433 : (Cond.instanceMethod yX4_namesTellOfWhatIsThere : Cond) ∈ lw_gt := lw_gt_of (List.mem_of_getElem? (i := 472) (by decide +kernel)) rfl
theorem q_434 : (Cond.selects RX4 yX4_namesTellOfWhatIsThere yX4_namesTellOfWhatIsThere : Cond) ∈ lw_gt := lw_gt_of (List.mem_of_getElem? (i := 473) (by decide +kernel)) rfl
theorem q_435 : (Cond.code yX4_namesTellOfWhatIsThere cX4_namesTellOfWhatIsThere 3 (some .boolean) : Cond) ∈ lw_gt := lw_gt_of (List.mem_of_getElem? (i := 474) (by decide +kernel)) rfl
theorem q_436 : (Cond.methodLink RX4 86 yX4_findDominators : Cond) ∈ lw_gt := lw_gt_of (List.mem_of_getElem? (i := 475) (by decide +kernel)) rfl
theorem q_437 : (Cond.instanceMethod yX4_findDominators : Cond) ∈ lw_gt := lw_gt_of (List.mem_of_getElem? (i := 476) (by decide +kernel)) rfl
theorem q_438 : (Cond.selects RX4 yX4_findDominators yX4_findDominators : Cond) ∈ lw_gt := lw_gt_of (List.mem_of_getElem? (i := 477) (by decide +kernel)) rfl
theorem q_439 : (Cond.code yX4_findDominators cX4_findDominators 4 none : Cond) ∈ lw_gt := lw_gt_of (List.mem_of_getElem? (i := 478) (by decide +kernel)) rfl
theorem q_440 : (Cond.methodLink RX4 101 yX4_reachedWithout : Cond) ∈ lw_gt := lw_gt_of (List.mem_of_getElem? (i := 479) (by decide +kernel)) rfl
theorem q_441 : (Cond.instanceMethod yX4_reachedWithout : Cond) ∈ lw_gt := lw_gt_of (List.mem_of_getElem? (i := 480) (by decide +kernel)) rfl
theorem q_442 : (Cond.selects RX4 yX4_reachedWithout yX4_reachedWithout : Cond) ∈ lw_gt := lw_gt_of (List.mem_of_getElem? (i := 481) (by decide +kernel)) rfl
theorem q_443 : (Cond.code yX4_reachedWithout cX4_reachedWithout 6 (some .int) : Cond) ∈ lw_gt := lw_gt_of (List.mem_of_getElem? (i := 482) (by decide +kernel)) rfl
theorem q_444 : (Cond.methodLink RX4 105 yX4_isIn : Cond) ∈ lw_gt := lw_gt_of (List.mem_of_getElem? (i := 483) (by decide +kernel)) rfl
theorem q_445 : (Cond.static yX4_isIn : Cond) ∈ lw_gt := lw_gt_of (List.mem_of_getElem? (i := 484) (by decide +kernel)) rfl
theorem q_446 : (Cond.code yX4_isIn cX4_isIn 2 (some .boolean) : Cond) ∈ lw_gt := lw_gt_of (List.mem_of_getElem? (i := 485) (by decide +kernel)) rfl
theorem q_447 : (Cond.methodLink RX4 89 yX4_dominates : Cond) ∈ lw_gt := lw_gt_of (List.mem_of_getElem? (i := 486) (by decide +kernel)) rfl
theorem q_448 : (Cond.instanceMethod yX4_dominates : Cond) ∈ lw_gt := lw_gt_of (List.mem_of_getElem? (i := 487) (by decide +kernel)) rfl
theorem q_449 : (Cond.selects RX4 yX4_dominates yX4_dominates : Cond) ∈ lw_gt := lw_gt_of (List.mem_of_getElem? (i := 488) (by decide +kernel)) rfl
theorem q_450 : (Cond.code yX4_dominates cX4_dominates 3 (some .boolean) : Cond) ∈ lw_gt := lw_gt_of (List.mem_of_getElem? (i := 489) (by decide +kernel)) rfl
theorem q_451 : (Cond.methodLink RX4 92 yX4_isAhead : Cond) ∈ lw_gt := lw_gt_of (List.mem_of_getElem? (i := 490) (by decide +kernel)) rfl
theorem q_452 : (Cond.instanceMethod yX4_isAhead : Cond) ∈ lw_gt := lw_gt_of (List.mem_of_getElem? (i := 491) (by decide +kernel)) rfl
theorem q_453 : (Cond.selects RX4 yX4_isAhead yX4_isAhead : Cond) ∈ lw_gt := lw_gt_of (List.mem_of_getElem? (i := 492) (by decide +kernel)) rfl
theorem q_454 : (Cond.code yX4_isAhead cX4_isAhead 3 (some .boolean) : Cond) ∈ lw_gt := lw_gt_of (List.mem_of_getElem? (i := 493) (by decide +kernel)) rfl
theorem q_455 : (Cond.methodLink RX4 95 yX4_armsFit : Cond) ∈ lw_gt := lw_gt_of (List.mem_of_getElem? (i := 494) (by decide +kernel)) rfl
theorem q_456 : (Cond.instanceMethod yX4_armsFit : Cond) ∈ lw_gt := lw_gt_of (List.mem_of_getElem? (i := 495) (by decide +kernel)) rfl
theorem q_457 : (Cond.selects RX4 yX4_armsFit yX4_armsFit : Cond) ∈ lw_gt := lw_gt_of (List.mem_of_getElem? (i := 496) (by decide +kernel)) rfl
theorem q_458 : (Cond.code yX4_armsFit cX4_armsFit 4 (some .boolean) : Cond) ∈ lw_gt := lw_gt_of (List.mem_of_getElem? (i := 497) (by decide +kernel)) rfl
theorem q_459 : (Cond.methodLink RX4 108 yX4_comingTo : Cond) ∈ lw_gt := lw_gt_of (List.mem_of_getElem? (i := 498) (by decide +kernel)) rfl
theorem q_460 : (Cond.instanceMethod yX4_comingTo : Cond) ∈ lw_gt := lw_gt_of (List.mem_of_getElem? (i := 499) (by decide +kernel)) rfl
theorem q_461 : (Cond.selects RX4 yX4_comingTo yX4_comingTo : Cond) ∈ lw_gt := lw_gt_of (List.mem_of_getElem? (i := 500) (by decide +kernel)) rfl
theorem q_462 : (Cond.code yX4_comingTo cX4_comingTo 4 (some .int) : Cond) ∈ lw_gt := lw_gt_of (List.mem_of_getElem? (i := 501) (by decide +kernel)) rfl
theorem q_463 : (Cond.methodLink RX8 84 yX2_becomesAsTold : Cond) ∈ lw_gt := lw_gt_of (List.mem_of_getElem? (i := 502) (by decide +kernel)) rfl
theorem q_464 : (Cond.instanceMethod yX2_becomesAsTold : Cond) ∈ lw_gt := lw_gt_of (List.mem_of_getElem? (i := 503) (by decide +kernel)) rfl
theorem q_465 : (Cond.selects RX2 yX2_becomesAsTold yX2_becomesAsTold : Cond) ∈ lw_gt := lw_gt_of (List.mem_of_getElem? (i := 504) (by decide +kernel)) rfl
theorem q_466 : (Cond.code yX2_becomesAsTold cX2_becomesAsTold 2 none : Cond) ∈ lw_gt := lw_gt_of (List.mem_of_getElem? (i := 505) (by decide +kernel)) rfl
theorem q_467 : (Cond.methodLink RX2 27 yJ7_fill_53178 : Cond) ∈ lw_gt := lw_gt_of (List.mem_of_getElem? (i := 506) (by decide +kernel)) rfl
theorem q_468 : (Cond.static yJ7_fill_53178 : Cond) ∈ lw_gt := lw_gt_of (List.mem_of_getElem? (i := 507) (by decide +kernel)) rfl
theorem q_469 : (Cond.code yJ7_fill_53178 cJ7_fill_53178 4 none : Cond) ∈ lw_gt := lw_gt_of (List.mem_of_getElem? (i := 508) (by decide +kernel)) rfl
theorem q_470 : (Cond.methodLink RX2 36 arraycopyName : Cond) ∈ lw_gt := lw_gt_of (List.mem_of_getElem? (i := 509) (by decide +kernel)) rfl
theorem q_471 : (Cond.static arraycopyName : Cond) ∈ lw_gt := lw_gt_of (List.mem_of_getElem? (i := 510) (by decide +kernel)) rfl
theorem q_472 : (Cond.native arraycopyName : Cond) ∈ lw_gt := lw_gt_of (List.mem_of_getElem? (i := 511) (by decide +kernel)) rfl
theorem q_473 : (Cond.methodLink RX8 91 yJ7_fill_53178 : Cond) ∈ lw_gt := lw_gt_of (List.mem_of_getElem? (i := 512) (by decide +kernel)) rfl
theorem q_474 : (Cond.methodLink RX8 97 yX8_settle : Cond) ∈ lw_gt := lw_gt_of (List.mem_of_getElem? (i := 513) (by decide +kernel)) rfl
theorem q_476 : (Cond.instanceMethod yX8_settle : Cond) ∈ lw_gt := lw_gt_of (List.mem_of_getElem? (i := 515) (by decide +kernel)) rfl
theorem q_477 : (Cond.code yX8_settle cX8_settle 1 none : Cond) ∈ lw_gt := lw_gt_of (List.mem_of_getElem? (i := 516) (by decide +kernel)) rfl
theorem q_478 : (Cond.methodLink RX8 223 yX0_climb : Cond) ∈ lw_gt := lw_gt_of (List.mem_of_getElem? (i := 517) (by decide +kernel)) rfl
theorem q_479 : (Cond.instanceMethod yX0_climb : Cond) ∈ lw_gt := lw_gt_of (List.mem_of_getElem? (i := 518) (by decide +kernel)) rfl
theorem q_480 : (Cond.selects RX0 yX0_climb yX0_climb : Cond) ∈ lw_gt := lw_gt_of (List.mem_of_getElem? (i := 519) (by decide +kernel)) rfl
theorem q_481 : (Cond.code yX0_climb cX0_climb 8 none : Cond) ∈ lw_gt := lw_gt_of (List.mem_of_getElem? (i := 520) (by decide +kernel)) rfl
theorem q_482 : (Cond.methodLink RX0 24 yJ7_fill_53178 : Cond) ∈ lw_gt := lw_gt_of (List.mem_of_getElem? (i := 521) (by decide +kernel)) rfl
theorem q_483 : (Cond.methodLink RX0 36 yX0_liftNames : Cond) ∈ lw_gt := lw_gt_of (List.mem_of_getElem? (i := 522) (by decide +kernel)) rfl
theorem q_484 : (Cond.instanceMethod yX0_liftNames : Cond) ∈ lw_gt := lw_gt_of (List.mem_of_getElem? (i := 523) (by decide +kernel)) rfl
theorem q_485 : (Cond.selects RX0 yX0_liftNames yX0_liftNames : Cond) ∈ lw_gt := lw_gt_of (List.mem_of_getElem? (i := 524) (by decide +kernel)) rfl
theorem q_486 : (Cond.code yX0_liftNames cX0_liftNames 7 (some .boolean) : Cond) ∈ lw_gt := lw_gt_of (List.mem_of_getElem? (i := 525) (by decide +kernel)) rfl
theorem q_487 : (Cond.methodLink RX0 58 yX0_lift : Cond) ∈ lw_gt := lw_gt_of (List.mem_of_getElem? (i := 526) (by decide +kernel)) rfl
theorem q_488 : (Cond.instanceMethod yX0_lift : Cond) ∈ lw_gt := lw_gt_of (List.mem_of_getElem? (i := 527) (by decide +kernel)) rfl
theorem q_489 : (Cond.selects RX0 yX0_lift yX0_lift : Cond) ∈ lw_gt := lw_gt_of (List.mem_of_getElem? (i := 528) (by decide +kernel)) rfl
theorem q_490 : (Cond.code yX0_lift cX0_lift 5 (some .boolean) : Cond) ∈ lw_gt := lw_gt_of (List.mem_of_getElem? (i := 529) (by decide +kernel)) rfl
theorem q_491 : (Cond.methodLink RX0 65 yX2_inputOf : Cond) ∈ lw_gt := lw_gt_of (List.mem_of_getElem? (i := 530) (by decide +kernel)) rfl
theorem q_492 : (Cond.instanceMethod yX2_inputOf : Cond) ∈ lw_gt := lw_gt_of (List.mem_of_getElem? (i := 531) (by decide +kernel)) rfl
theorem q_493 : (Cond.selects RX2 yX2_inputOf yX2_inputOf : Cond) ∈ lw_gt := lw_gt_of (List.mem_of_getElem? (i := 532) (by decide +kernel)) rfl
theorem q_494 : (Cond.code yX2_inputOf cX2_inputOf 2 (some .int) : Cond) ∈ lw_gt := lw_gt_of (List.mem_of_getElem? (i := 533) (by decide +kernel)) rfl
theorem q_495 : (Cond.methodLink RX0 69 yX0_liftOperation : Cond) ∈ lw_gt := lw_gt_of (List.mem_of_getElem? (i := 534) (by decide +kernel)) rfl
theorem q_496 : (Cond.instanceMethod yX0_liftOperation : Cond) ∈ lw_gt := lw_gt_of (List.mem_of_getElem? (i := 535) (by decide +kernel)) rfl
theorem q_497 : (Cond.selects RX0 yX0_liftOperation yX0_liftOperation : Cond) ∈ lw_gt := lw_gt_of (List.mem_of_getElem? (i := 536) (by decide +kernel)) rfl
theorem q_498 : (Cond.code yX0_liftOperation cX0_liftOperation 5 (some .boolean) : Cond) ∈ lw_gt := lw_gt_of (List.mem_of_getElem? (i := 537) (by decide +kernel)) rfl
theorem q_499 : (Cond.methodLink RX0 86 yX5_traps : Cond) ∈ lw_gt := lw_gt_of (List.mem_of_getElem? (i := 538) (by decide +kernel)) rfl
theorem q_500 : (Cond.static yX5_traps : Cond) ∈ lw_gt := lw_gt_of (List.mem_of_getElem? (i := 539) (by decide +kernel)) rfl
theorem q_501 : (Cond.code yX5_traps cX5_traps 2 (some .boolean) : Cond) ∈ lw_gt := lw_gt_of (List.mem_of_getElem? (i := 540) (by decide +kernel)) rfl
theorem q_502 : (Cond.methodLink RX0 92 yX5_result : Cond) ∈ lw_gt := lw_gt_of (List.mem_of_getElem? (i := 541) (by decide +kernel)) rfl
theorem q_503 : (Cond.static yX5_result : Cond) ∈ lw_gt := lw_gt_of (List.mem_of_getElem? (i := 542) (by decide +kernel)) rfl
theorem q_504 : (Cond.code yX5_result cX5_result 3 (some .int) : Cond) ∈ lw_gt := lw_gt_of (List.mem_of_getElem? (i := 543) (by decide +kernel)) rfl
theorem q_505 : (Cond.methodLink RX0 73 yX0_liftJoin : Cond) ∈ lw_gt := lw_gt_of (List.mem_of_getElem? (i := 544) (by decide +kernel)) rfl
theorem q_506 : (Cond.instanceMethod yX0_liftJoin : Cond) ∈ lw_gt := lw_gt_of (List.mem_of_getElem? (i := 545) (by decide +kernel)) rfl
theorem q_507 : (Cond.selects RX0 yX0_liftJoin yX0_liftJoin : Cond) ∈ lw_gt := lw_gt_of (List.mem_of_getElem? (i := 546) (by decide +kernel)) rfl
theorem q_508 : (Cond.code yX0_liftJoin cX0_liftJoin 7 (some .boolean) : Cond) ∈ lw_gt := lw_gt_of (List.mem_of_getElem? (i := 547) (by decide +kernel)) rfl
theorem q_509 : (Cond.methodLink RX0 108 yX0_isOpen : Cond) ∈ lw_gt := lw_gt_of (List.mem_of_getElem? (i := 548) (by decide +kernel)) rfl
theorem q_510 : (Cond.instanceMethod yX0_isOpen : Cond) ∈ lw_gt := lw_gt_of (List.mem_of_getElem? (i := 549) (by decide +kernel)) rfl
theorem q_511 : (Cond.selects RX0 yX0_isOpen yX0_isOpen : Cond) ∈ lw_gt := lw_gt_of (List.mem_of_getElem? (i := 550) (by decide +kernel)) rfl
theorem q_512 : (Cond.code yX0_isOpen cX0_isOpen 5 (some .boolean) : Cond) ∈ lw_gt := lw_gt_of (List.mem_of_getElem? (i := 551) (by decide +kernel)) rfl
theorem q_513 : (Cond.methodLink RX0 40 yX0_openEdges : Cond) ∈ lw_gt := lw_gt_of (List.mem_of_getElem? (i := 552) (by decide +kernel)) rfl
theorem q_514 : (Cond.instanceMethod yX0_openEdges : Cond) ∈ lw_gt := lw_gt_of (List.mem_of_getElem? (i := 553) (by decide +kernel)) rfl
theorem q_515 : (Cond.selects RX0 yX0_openEdges yX0_openEdges : Cond) ∈ lw_gt := lw_gt_of (List.mem_of_getElem? (i := 554) (by decide +kernel)) rfl
theorem q_516 : (Cond.code yX0_openEdges cX0_openEdges 8 (some .boolean) : Cond) ∈ lw_gt := lw_gt_of (List.mem_of_getElem? (i := 555) (by decide +kernel)) rfl
theorem q_517 : (Cond.methodLink RX0 115 yX0_goes : Cond) ∈ lw_gt := lw_gt_of (List.mem_of_getElem? (i := 556) (by decide +kernel)) rfl
theorem q_518 : (Cond.instanceMethod yX0_goes : Cond) ∈ lw_gt := lw_gt_of (List.mem_of_getElem? (i := 557) (by decide +kernel)) rfl
theorem q_519 : (Cond.selects RX0 yX0_goes yX0_goes : Cond) ∈ lw_gt := lw_gt_of (List.mem_of_getElem? (i := 558) (by decide +kernel)) rfl
theorem q_520 : (Cond.code yX0_goes cX0_goes 5 (some .boolean) : Cond) ∈ lw_gt := lw_gt_of (List.mem_of_getElem? (i := 559) (by decide +kernel)) rfl
theorem q_521 : (Cond.methodLink RX0 125 yX5_side : Cond) ∈ lw_gt := lw_gt_of (List.mem_of_getElem? (i := 560) (by decide +kernel)) rfl
theorem q_522 : (Cond.static yX5_side : Cond) ∈ lw_gt := lw_gt_of (List.mem_of_getElem? (i := 561) (by decide +kernel)) rfl
theorem q_523 : (Cond.code yX5_side cX5_side 1 (some .int) : Cond) ∈ lw_gt := lw_gt_of (List.mem_of_getElem? (i := 562) (by decide +kernel)) rfl
theorem q_524 : (Cond.methodLink RX8 230 yX7_start : Cond) ∈ lw_gt := lw_gt_of (List.mem_of_getElem? (i := 563) (by decide +kernel)) rfl
theorem q_525 : (Cond.instanceMethod yX7_start : Cond) ∈ lw_gt := lw_gt_of (List.mem_of_getElem? (i := 564) (by decide +kernel)) rfl
theorem q_526 : (Cond.selects RX7 yX7_start yX7_start : Cond) ∈ lw_gt := lw_gt_of (List.mem_of_getElem? (i := 565) (by decide +kernel)) rfl
theorem q_527 : (Cond.code yX7_start cX7_start 7 none : Cond) ∈ lw_gt := lw_gt_of (List.mem_of_getElem? (i := 566) (by decide +kernel)) rfl
theorem q_528 : (Cond.methodLink RX7 28 yJ7_fill_53178 : Cond) ∈ lw_gt := lw_gt_of (List.mem_of_getElem? (i := 567) (by decide +kernel)) rfl
theorem q_529 : (Cond.methodLink RX7 34 yX4_hasBlock : Cond) ∈ lw_gt := lw_gt_of (List.mem_of_getElem? (i := 568) (by decide +kernel)) rfl
theorem q_530 : (Cond.methodLink RX7 40 yX7_takeJoins : Cond) ∈ lw_gt := lw_gt_of (List.mem_of_getElem? (i := 569) (by decide +kernel)) rfl
theorem q_531 : (Cond.instanceMethod yX7_takeJoins : Cond) ∈ lw_gt := lw_gt_of (List.mem_of_getElem? (i := 570) (by decide +kernel)) rfl
theorem q_532 : (Cond.selects RX7 yX7_takeJoins yX7_takeJoins : Cond) ∈ lw_gt := lw_gt_of (List.mem_of_getElem? (i := 571) (by decide +kernel)) rfl
theorem q_533 : (Cond.code yX7_takeJoins cX7_takeJoins 7 none : Cond) ∈ lw_gt := lw_gt_of (List.mem_of_getElem? (i := 572) (by decide +kernel)) rfl
theorem q_534 : (Cond.methodLink RX7 63 yX4_armFrom : Cond) ∈ lw_gt := lw_gt_of (List.mem_of_getElem? (i := 573) (by decide +kernel)) rfl
theorem q_535 : (Cond.methodLink RX7 44 yX7_makeNames : Cond) ∈ lw_gt := lw_gt_of (List.mem_of_getElem? (i := 574) (by decide +kernel)) rfl
theorem q_536 : (Cond.instanceMethod yX7_makeNames : Cond) ∈ lw_gt := lw_gt_of (List.mem_of_getElem? (i := 575) (by decide +kernel)) rfl
theorem q_537 : (Cond.selects RX7 yX7_makeNames yX7_makeNames : Cond) ∈ lw_gt := lw_gt_of (List.mem_of_getElem? (i := 576) (by decide +kernel)) rfl
theorem q_538 : (Cond.code yX7_makeNames cX7_makeNames 7 (some .int) : Cond) ∈ lw_gt := lw_gt_of (List.mem_of_getElem? (i := 577) (by decide +kernel)) rfl
theorem q_539 : (Cond.methodLink RX7 78 yX2_inputOf : Cond) ∈ lw_gt := lw_gt_of (List.mem_of_getElem? (i := 578) (by decide +kernel)) rfl
theorem q_540 : (Cond.methodLink RX7 91 yX5_traps : Cond) ∈ lw_gt := lw_gt_of (List.mem_of_getElem? (i := 579) (by decide +kernel)) rfl
theorem q_541 : (Cond.methodLink RX7 97 yX5_result : Cond) ∈ lw_gt := lw_gt_of (List.mem_of_getElem? (i := 580) (by decide +kernel)) rfl
theorem q_542 : (Cond.methodLink RX7 54 yX7_next : Cond) ∈ lw_gt := lw_gt_of (List.mem_of_getElem? (i := 581) (by decide +kernel)) rfl
theorem q_543 : (Cond.instanceMethod yX7_next : Cond) ∈ lw_gt := lw_gt_of (List.mem_of_getElem? (i := 582) (by decide +kernel)) rfl
theorem q_544 : (Cond.selects RX7 yX7_next yX7_next : Cond) ∈ lw_gt := lw_gt_of (List.mem_of_getElem? (i := 583) (by decide +kernel)) rfl
theorem q_545 : (Cond.code yX7_next cX7_next 5 (some .int) : Cond) ∈ lw_gt := lw_gt_of (List.mem_of_getElem? (i := 584) (by decide +kernel)) rfl
theorem q_546 : (Cond.methodLink RX7 101 yX5_side : Cond) ∈ lw_gt := lw_gt_of (List.mem_of_getElem? (i := 585) (by decide +kernel)) rfl
theorem q_547 : (Cond.methodLink RL 27 yX8_name : Cond) ∈ lw_gt := lw_gt_of (List.mem_of_getElem? (i := 586) (by decide +kernel)) rfl
theorem q_548 : (Cond.instanceMethod yX8_name : Cond) ∈ lw_gt := lw_gt_of (List.mem_of_getElem? (i := 587) (by decide +kernel)) rfl
theorem q_549 : (Cond.selects RX8 yX8_name yX8_name : Cond) ∈ lw_gt := lw_gt_of (List.mem_of_getElem? (i := 588) (by decide +kernel)) rfl
theorem q_550 : (Cond.code yX8_name cX8_name 3 (some .int) : Cond) ∈ lw_gt := lw_gt_of (List.mem_of_getElem? (i := 589) (by decide +kernel)) rfl
theorem q_551 : (Cond.methodLink RX8 103 yX4_hasName : Cond) ∈ lw_gt := lw_gt_of (List.mem_of_getElem? (i := 590) (by decide +kernel)) rfl
theorem q_552 : (Cond.methodLink RL 32 yX8_found : Cond) ∈ lw_gt := lw_gt_of (List.mem_of_getElem? (i := 591) (by decide +kernel)) rfl
theorem q_553 : (Cond.instanceMethod yX8_found : Cond) ∈ lw_gt := lw_gt_of (List.mem_of_getElem? (i := 592) (by decide +kernel)) rfl
theorem q_554 : (Cond.selects RX8 yX8_found yX8_found : Cond) ∈ lw_gt := lw_gt_of (List.mem_of_getElem? (i := 593) (by decide +kernel)) rfl
theorem q_555 : (Cond.code yX8_found cX8_found 2 (some .int) : Cond) ∈ lw_gt := lw_gt_of (List.mem_of_getElem? (i := 594) (by decide +kernel)) rfl
theorem q_556 : (Cond.methodLink RL 36 yX8_block : Cond) ∈ lw_gt := lw_gt_of (List.mem_of_getElem? (i := 595) (by decide +kernel)) rfl
theorem q_557 : (Cond.instanceMethod yX8_block : Cond) ∈ lw_gt := lw_gt_of (List.mem_of_getElem? (i := 596) (by decide +kernel)) rfl
theorem q_558 : (Cond.selects RX8 yX8_block yX8_block : Cond) ∈ lw_gt := lw_gt_of (List.mem_of_getElem? (i := 597) (by decide +kernel)) rfl
theorem q_559 : (Cond.code yX8_block cX8_block 3 (some .int) : Cond) ∈ lw_gt := lw_gt_of (List.mem_of_getElem? (i := 598) (by decide +kernel)) rfl
theorem q_560 : (Cond.methodLink RX8 134 yX4_hasBlock : Cond) ∈ lw_gt := lw_gt_of (List.mem_of_getElem? (i := 599) (by decide +kernel)) rfl
theorem q_561 : (Cond.methodLink RL 40 yX8_knows : Cond) ∈ lw_gt := lw_gt_of (List.mem_of_getElem? (i := 600) (by decide +kernel)) rfl
theorem q_562 : (Cond.instanceMethod yX8_knows : Cond) ∈ lw_gt := lw_gt_of (List.mem_of_getElem? (i := 601) (by decide +kernel)) rfl
theorem q_563 : (Cond.selects RX8 yX8_knows yX8_knows : Cond) ∈ lw_gt := lw_gt_of (List.mem_of_getElem? (i := 602) (by decide +kernel)) rfl
theorem q_564 : (Cond.code yX8_knows cX8_knows 3 (some .int) : Cond) ∈ lw_gt := lw_gt_of (List.mem_of_getElem? (i := 603) (by decide +kernel)) rfl
theorem q_565 : (Cond.methodLink RX8 157 yX4_isMade : Cond) ∈ lw_gt := lw_gt_of (List.mem_of_getElem? (i := 604) (by decide +kernel)) rfl
theorem q_566 : (Cond.methodLink RX8 161 yX1_note : Cond) ∈ lw_gt := lw_gt_of (List.mem_of_getElem? (i := 605) (by decide +kernel)) rfl
theorem q_567 : (Cond.instanceMethod yX1_note : Cond) ∈ lw_gt := lw_gt_of (List.mem_of_getElem? (i := 606) (by decide +kernel)) rfl
theorem q_568 : (Cond.selects RX1 yX1_note yX1_note : Cond) ∈ lw_gt := lw_gt_of (List.mem_of_getElem? (i := 607) (by decide +kernel)) rfl
theorem q_569 : (Cond.code yX1_note cX1_note 4 none : Cond) ∈ lw_gt := lw_gt_of (List.mem_of_getElem? (i := 608) (by decide +kernel)) rfl
theorem q_570 : (Cond.methodLink RX1 28 yX1_dropOldest : Cond) ∈ lw_gt := lw_gt_of (List.mem_of_getElem? (i := 609) (by decide +kernel)) rfl
theorem q_571 : (Cond.instanceMethod yX1_dropOldest : Cond) ∈ lw_gt := lw_gt_of (List.mem_of_getElem? (i := 610) (by decide +kernel)) rfl
theorem q_572 : (Cond.selects RX1 yX1_dropOldest yX1_dropOldest : Cond) ∈ lw_gt := lw_gt_of (List.mem_of_getElem? (i := 611) (by decide +kernel)) rfl
theorem q_573 : (Cond.code yX1_dropOldest cX1_dropOldest 2 none : Cond) ∈ lw_gt := lw_gt_of (List.mem_of_getElem? (i := 612) (by decide +kernel)) rfl
theorem q_574 : (Cond.methodLink RX8 168 yX0_namesThatAre : Cond) ∈ lw_gt := lw_gt_of (List.mem_of_getElem? (i := 613) (by decide +kernel)) rfl
theorem q_575 : (Cond.instanceMethod yX0_namesThatAre : Cond) ∈ lw_gt := lw_gt_of (List.mem_of_getElem? (i := 614) (by decide +kernel)) rfl
theorem q_576 : (Cond.selects RX0 yX0_namesThatAre yX0_namesThatAre : Cond) ∈ lw_gt := lw_gt_of (List.mem_of_getElem? (i := 615) (by decide +kernel)) rfl
theorem q_577 : (Cond.code yX0_namesThatAre cX0_namesThatAre 5 (some .int) : Cond) ∈ lw_gt := lw_gt_of (List.mem_of_getElem? (i := 616) (by decide +kernel)) rfl
theorem q_578 : (Cond.methodLink RL 44 yX8_forgets : Cond) ∈ lw_gt := lw_gt_of (List.mem_of_getElem? (i := 617) (by decide +kernel)) rfl
theorem q_579 : (Cond.instanceMethod yX8_forgets : Cond) ∈ lw_gt := lw_gt_of (List.mem_of_getElem? (i := 618) (by decide +kernel)) rfl
theorem q_580 : (Cond.selects RX8 yX8_forgets yX8_forgets : Cond) ∈ lw_gt := lw_gt_of (List.mem_of_getElem? (i := 619) (by decide +kernel)) rfl
theorem q_581 : (Cond.code yX8_forgets cX8_forgets 2 (some .int) : Cond) ∈ lw_gt := lw_gt_of (List.mem_of_getElem? (i := 620) (by decide +kernel)) rfl
theorem q_582 : (Cond.methodLink RL 48 yX8_gives : Cond) ∈ lw_gt := lw_gt_of (List.mem_of_getElem? (i := 621) (by decide +kernel)) rfl
theorem q_583 : (Cond.instanceMethod yX8_gives : Cond) ∈ lw_gt := lw_gt_of (List.mem_of_getElem? (i := 622) (by decide +kernel)) rfl
theorem q_584 : (Cond.selects RX8 yX8_gives yX8_gives : Cond) ∈ lw_gt := lw_gt_of (List.mem_of_getElem? (i := 623) (by decide +kernel)) rfl
theorem q_585 : (Cond.code yX8_gives cX8_gives 3 (some .int) : Cond) ∈ lw_gt := lw_gt_of (List.mem_of_getElem? (i := 624) (by decide +kernel)) rfl
theorem q_586 : (Cond.methodLink RL 52 yX8_patches : Cond) ∈ lw_gt := lw_gt_of (List.mem_of_getElem? (i := 625) (by decide +kernel)) rfl
theorem q_587 : (Cond.instanceMethod yX8_patches : Cond) ∈ lw_gt := lw_gt_of (List.mem_of_getElem? (i := 626) (by decide +kernel)) rfl
theorem q_588 : (Cond.selects RX8 yX8_patches yX8_patches : Cond) ∈ lw_gt := lw_gt_of (List.mem_of_getElem? (i := 627) (by decide +kernel)) rfl
theorem q_589 : (Cond.code yX8_patches cX8_patches 4 (some .int) : Cond) ∈ lw_gt := lw_gt_of (List.mem_of_getElem? (i := 628) (by decide +kernel)) rfl
theorem q_590 : (Cond.methodLink RL 56 yX8_turned : Cond) ∈ lw_gt := lw_gt_of (List.mem_of_getElem? (i := 629) (by decide +kernel)) rfl
theorem q_591 : (Cond.instanceMethod yX8_turned : Cond) ∈ lw_gt := lw_gt_of (List.mem_of_getElem? (i := 630) (by decide +kernel)) rfl
theorem q_592 : (Cond.selects RX8 yX8_turned yX8_turned : Cond) ∈ lw_gt := lw_gt_of (List.mem_of_getElem? (i := 631) (by decide +kernel)) rfl
theorem q_593 : (Cond.code yX8_turned cX8_turned 2 (some .int) : Cond) ∈ lw_gt := lw_gt_of (List.mem_of_getElem? (i := 632) (by decide +kernel)) rfl
theorem q_594 : (Cond.methodLink RX8 178 yX2_turn : Cond) ∈ lw_gt := lw_gt_of (List.mem_of_getElem? (i := 633) (by decide +kernel)) rfl
theorem q_595 : (Cond.instanceMethod yX2_turn : Cond) ∈ lw_gt := lw_gt_of (List.mem_of_getElem? (i := 634) (by decide +kernel)) rfl
theorem q_596 : (Cond.selects RX2 yX2_turn yX2_turn : Cond) ∈ lw_gt := lw_gt_of (List.mem_of_getElem? (i := 635) (by decide +kernel)) rfl
theorem q_597 : (Cond.code yX2_turn cX2_turn 3 none : Cond) ∈ lw_gt := lw_gt_of (List.mem_of_getElem? (i := 636) (by decide +kernel)) rfl
theorem q_598 : (Cond.methodLink RX8 182 yX0_liveBlocks : Cond) ∈ lw_gt := lw_gt_of (List.mem_of_getElem? (i := 637) (by decide +kernel)) rfl
theorem q_599 : (Cond.instanceMethod yX0_liveBlocks : Cond) ∈ lw_gt := lw_gt_of (List.mem_of_getElem? (i := 638) (by decide +kernel)) rfl
theorem q_600 : (Cond.selects RX0 yX0_liveBlocks yX0_liveBlocks : Cond) ∈ lw_gt := lw_gt_of (List.mem_of_getElem? (i := 639) (by decide +kernel)) rfl
theorem q_601 : (Cond.code yX0_liveBlocks cX0_liveBlocks 4 (some .int) : Cond) ∈ lw_gt := lw_gt_of (List.mem_of_getElem? (i := 640) (by decide +kernel)) rfl
theorem q_602 : (Cond.methodLink RL 60 yX8_undo : Cond) ∈ lw_gt := lw_gt_of (List.mem_of_getElem? (i := 641) (by decide +kernel)) rfl
theorem q_603 : (Cond.instanceMethod yX8_undo : Cond) ∈ lw_gt := lw_gt_of (List.mem_of_getElem? (i := 642) (by decide +kernel)) rfl
theorem q_604 : (Cond.selects RX8 yX8_undo yX8_undo : Cond) ∈ lw_gt := lw_gt_of (List.mem_of_getElem? (i := 643) (by decide +kernel)) rfl
theorem q_605 : (Cond.code yX8_undo cX8_undo 1 (some .int) : Cond) ∈ lw_gt := lw_gt_of (List.mem_of_getElem? (i := 644) (by decide +kernel)) rfl
theorem q_606 : (Cond.methodLink RX8 186 yX1_takeBack : Cond) ∈ lw_gt := lw_gt_of (List.mem_of_getElem? (i := 645) (by decide +kernel)) rfl
theorem q_607 : (Cond.instanceMethod yX1_takeBack : Cond) ∈ lw_gt := lw_gt_of (List.mem_of_getElem? (i := 646) (by decide +kernel)) rfl
theorem q_608 : (Cond.selects RX1 yX1_takeBack yX1_takeBack : Cond) ∈ lw_gt := lw_gt_of (List.mem_of_getElem? (i := 647) (by decide +kernel)) rfl
theorem q_609 : (Cond.code yX1_takeBack cX1_takeBack 3 none : Cond) ∈ lw_gt := lw_gt_of (List.mem_of_getElem? (i := 648) (by decide +kernel)) rfl
theorem q_610 : (Cond.methodLink RX1 45 yX2_turn : Cond) ∈ lw_gt := lw_gt_of (List.mem_of_getElem? (i := 649) (by decide +kernel)) rfl
theorem q_611 : (Cond.methodLink RL 64 yX8_run : Cond) ∈ lw_gt := lw_gt_of (List.mem_of_getElem? (i := 650) (by decide +kernel)) rfl
theorem q_612 : (Cond.instanceMethod yX8_run : Cond) ∈ lw_gt := lw_gt_of (List.mem_of_getElem? (i := 651) (by decide +kernel)) rfl
theorem q_613 : (Cond.selects RX8 yX8_run yX8_run : Cond) ∈ lw_gt := lw_gt_of (List.mem_of_getElem? (i := 652) (by decide +kernel)) rfl
theorem q_614 : (Cond.code yX8_run cX8_run 1 (some .int) : Cond) ∈ lw_gt := lw_gt_of (List.mem_of_getElem? (i := 653) (by decide +kernel)) rfl
theorem q_615 : (Cond.methodLink RL 68 yX8_visits : Cond) ∈ lw_gt := lw_gt_of (List.mem_of_getElem? (i := 654) (by decide +kernel)) rfl
theorem q_616 : (Cond.instanceMethod yX8_visits : Cond) ∈ lw_gt := lw_gt_of (List.mem_of_getElem? (i := 655) (by decide +kernel)) rfl
theorem q_617 : (Cond.selects RX8 yX8_visits yX8_visits : Cond) ∈ lw_gt := lw_gt_of (List.mem_of_getElem? (i := 656) (by decide +kernel)) rfl
theorem q_618 : (Cond.code yX8_visits cX8_visits 2 (some .int) : Cond) ∈ lw_gt := lw_gt_of (List.mem_of_getElem? (i := 657) (by decide +kernel)) rfl
theorem q_619 : (Cond.methodLink RL 72 yX8_last : Cond) ∈ lw_gt := lw_gt_of (List.mem_of_getElem? (i := 658) (by decide +kernel)) rfl
theorem q_620 : (Cond.instanceMethod yX8_last : Cond) ∈ lw_gt := lw_gt_of (List.mem_of_getElem? (i := 659) (by decide +kernel)) rfl
theorem q_621 : (Cond.selects RX8 yX8_last yX8_last : Cond) ∈ lw_gt := lw_gt_of (List.mem_of_getElem? (i := 660) (by decide +kernel)) rfl
theorem q_622 : (Cond.code yX8_last cX8_last 2 (some .int) : Cond) ∈ lw_gt := lw_gt_of (List.mem_of_getElem? (i := 661) (by decide +kernel)) rfl
theorem q_623 : (Cond.methodLink RL 76 yX8_count : Cond) ∈ lw_gt := lw_gt_of (List.mem_of_getElem? (i := 662) (by decide +kernel)) rfl
theorem q_624 : (Cond.instanceMethod yX8_count : Cond) ∈ lw_gt := lw_gt_of (List.mem_of_getElem? (i := 663) (by decide +kernel)) rfl
theorem q_625 : (Cond.selects RX8 yX8_count yX8_count : Cond) ∈ lw_gt := lw_gt_of (List.mem_of_getElem? (i := 664) (by decide +kernel)) rfl
theorem q_626 : (Cond.code yX8_count cX8_count 2 (some .int) : Cond) ∈ lw_gt := lw_gt_of (List.mem_of_getElem? (i := 665) (by decide +kernel)) rfl
theorem q_627 : (Cond.methodLink RX8 203 yX4_edges : Cond) ∈ lw_gt := lw_gt_of (List.mem_of_getElem? (i := 666) (by decide +kernel)) rfl
theorem q_628 : (Cond.instanceMethod yX4_edges : Cond) ∈ lw_gt := lw_gt_of (List.mem_of_getElem? (i := 667) (by decide +kernel)) rfl
theorem q_629 : (Cond.selects RX4 yX4_edges yX4_edges : Cond) ∈ lw_gt := lw_gt_of (List.mem_of_getElem? (i := 668) (by decide +kernel)) rfl
theorem q_630 : (Cond.code yX4_edges cX4_edges 3 (some .int) : Cond) ∈ lw_gt := lw_gt_of (List.mem_of_getElem? (i := 669) (by decide +kernel)) rfl
theorem q_631 : (Cond.methodLink RX8 207 yX0_liveEdges : Cond) ∈ lw_gt := lw_gt_of (List.mem_of_getElem? (i := 670) (by decide +kernel)) rfl
theorem q_632 : (Cond.instanceMethod yX0_liveEdges : Cond) ∈ lw_gt := lw_gt_of (List.mem_of_getElem? (i := 671) (by decide +kernel)) rfl
theorem q_633 : (Cond.selects RX0 yX0_liveEdges yX0_liveEdges : Cond) ∈ lw_gt := lw_gt_of (List.mem_of_getElem? (i := 672) (by decide +kernel)) rfl
theorem q_634 : (Cond.code yX0_liveEdges cX0_liveEdges 3 (some .int) : Cond) ∈ lw_gt := lw_gt_of (List.mem_of_getElem? (i := 673) (by decide +kernel)) rfl
theorem q_635 : (Cond.methodLink RX8 210 yX0_foldedNames : Cond) ∈ lw_gt := lw_gt_of (List.mem_of_getElem? (i := 674) (by decide +kernel)) rfl
theorem q_636 : (Cond.instanceMethod yX0_foldedNames : Cond) ∈ lw_gt := lw_gt_of (List.mem_of_getElem? (i := 675) (by decide +kernel)) rfl
theorem q_637 : (Cond.selects RX0 yX0_foldedNames yX0_foldedNames : Cond) ∈ lw_gt := lw_gt_of (List.mem_of_getElem? (i := 676) (by decide +kernel)) rfl
theorem q_638 : (Cond.code yX0_foldedNames cX0_foldedNames 4 (some .int) : Cond) ∈ lw_gt := lw_gt_of (List.mem_of_getElem? (i := 677) (by decide +kernel)) rfl
theorem q_639 : (Cond.methodLink RX8 213 yX0_foldedEnds : Cond) ∈ lw_gt := lw_gt_of (List.mem_of_getElem? (i := 678) (by decide +kernel)) rfl
theorem q_640 : (Cond.instanceMethod yX0_foldedEnds : Cond) ∈ lw_gt := lw_gt_of (List.mem_of_getElem? (i := 679) (by decide +kernel)) rfl
theorem q_641 : (Cond.selects RX0 yX0_foldedEnds yX0_foldedEnds : Cond) ∈ lw_gt := lw_gt_of (List.mem_of_getElem? (i := 680) (by decide +kernel)) rfl
theorem q_642 : (Cond.code yX0_foldedEnds cX0_foldedEnds 5 (some .int) : Cond) ∈ lw_gt := lw_gt_of (List.mem_of_getElem? (i := 681) (by decide +kernel)) rfl
theorem q_643 : (Cond.methodLink RX8 216 yX0_stayingNames : Cond) ∈ lw_gt := lw_gt_of (List.mem_of_getElem? (i := 682) (by decide +kernel)) rfl
theorem q_644 : (Cond.instanceMethod yX0_stayingNames : Cond) ∈ lw_gt := lw_gt_of (List.mem_of_getElem? (i := 683) (by decide +kernel)) rfl
theorem q_645 : (Cond.selects RX0 yX0_stayingNames yX0_stayingNames : Cond) ∈ lw_gt := lw_gt_of (List.mem_of_getElem? (i := 684) (by decide +kernel)) rfl
theorem q_646 : (Cond.code yX0_stayingNames cX0_stayingNames 5 (some .int) : Cond) ∈ lw_gt := lw_gt_of (List.mem_of_getElem? (i := 685) (by decide +kernel)) rfl
theorem q_647 : (Cond.methodLink RX8 219 yX0_gainOver : Cond) ∈ lw_gt := lw_gt_of (List.mem_of_getElem? (i := 686) (by decide +kernel)) rfl
theorem q_648 : (Cond.instanceMethod yX0_gainOver : Cond) ∈ lw_gt := lw_gt_of (List.mem_of_getElem? (i := 687) (by decide +kernel)) rfl
theorem q_649 : (Cond.selects RX0 yX0_gainOver yX0_gainOver : Cond) ∈ lw_gt := lw_gt_of (List.mem_of_getElem? (i := 688) (by decide +kernel)) rfl
theorem q_650 : (Cond.code yX0_gainOver cX0_gainOver 5 (some .int) : Cond) ∈ lw_gt := lw_gt_of (List.mem_of_getElem? (i := 689) (by decide +kernel)) rfl
theorem q_651 : (Cond.methodLink RL 80 yX8_best : Cond) ∈ lw_gt := lw_gt_of (List.mem_of_getElem? (i := 690) (by decide +kernel)) rfl
theorem q_652 : (Cond.instanceMethod yX8_best : Cond) ∈ lw_gt := lw_gt_of (List.mem_of_getElem? (i := 691) (by decide +kernel)) rfl
theorem q_653 : (Cond.selects RX8 yX8_best yX8_best : Cond) ∈ lw_gt := lw_gt_of (List.mem_of_getElem? (i := 692) (by decide +kernel)) rfl
theorem q_654 : (Cond.code yX8_best cX8_best 7 (some .int) : Cond) ∈ lw_gt := lw_gt_of (List.mem_of_getElem? (i := 693) (by decide +kernel)) rfl
theorem q_655 : (Cond.methodLink RL 84 yX8_keep : Cond) ∈ lw_gt := lw_gt_of (List.mem_of_getElem? (i := 694) (by decide +kernel)) rfl
theorem q_656 : (Cond.instanceMethod yX8_keep : Cond) ∈ lw_gt := lw_gt_of (List.mem_of_getElem? (i := 695) (by decide +kernel)) rfl
theorem q_657 : (Cond.selects RX8 yX8_keep yX8_keep : Cond) ∈ lw_gt := lw_gt_of (List.mem_of_getElem? (i := 696) (by decide +kernel)) rfl
theorem q_658 : (Cond.code yX8_keep cX8_keep 2 (some .int) : Cond) ∈ lw_gt := lw_gt_of (List.mem_of_getElem? (i := 697) (by decide +kernel)) rfl
theorem q_659 : (Cond.methodLink RX8 227 yX2_copy : Cond) ∈ lw_gt := lw_gt_of (List.mem_of_getElem? (i := 698) (by decide +kernel)) rfl
theorem q_660 : (Cond.instanceMethod yX2_copy : Cond) ∈ lw_gt := lw_gt_of (List.mem_of_getElem? (i := 699) (by decide +kernel)) rfl
theorem q_661 : (Cond.selects RX2 yX2_copy yX2_copy : Cond) ∈ lw_gt := lw_gt_of (List.mem_of_getElem? (i := 700) (by decide +kernel)) rfl
theorem q_662 : (Cond.code yX2_copy cX2_copy 2 none : Cond) ∈ lw_gt := lw_gt_of (List.mem_of_getElem? (i := 701) (by decide +kernel)) rfl
theorem q_663 : (Cond.methodLink RL 88 yX8_back : Cond) ∈ lw_gt := lw_gt_of (List.mem_of_getElem? (i := 702) (by decide +kernel)) rfl
theorem q_664 : (Cond.instanceMethod yX8_back : Cond) ∈ lw_gt := lw_gt_of (List.mem_of_getElem? (i := 703) (by decide +kernel)) rfl
theorem q_665 : (Cond.selects RX8 yX8_back yX8_back : Cond) ∈ lw_gt := lw_gt_of (List.mem_of_getElem? (i := 704) (by decide +kernel)) rfl
theorem q_666 : (Cond.code yX8_back cX8_back 2 (some .int) : Cond) ∈ lw_gt := lw_gt_of (List.mem_of_getElem? (i := 705) (by decide +kernel)) rfl
theorem q_667 : (Cond.methodLink RL 92 yX8_asked : Cond) ∈ lw_gt := lw_gt_of (List.mem_of_getElem? (i := 706) (by decide +kernel)) rfl
theorem q_668 : (Cond.instanceMethod yX8_asked : Cond) ∈ lw_gt := lw_gt_of (List.mem_of_getElem? (i := 707) (by decide +kernel)) rfl
theorem q_669 : (Cond.selects RX8 yX8_asked yX8_asked : Cond) ∈ lw_gt := lw_gt_of (List.mem_of_getElem? (i := 708) (by decide +kernel)) rfl
theorem q_670 : (Cond.code yX8_asked cX8_asked 1 (some .int) : Cond) ∈ lw_gt := lw_gt_of (List.mem_of_getElem? (i := 709) (by decide +kernel)) rfl
theorem q_671 : (Cond.classLink RL 10 "FlowConstantsModel" : Cond) ∈ lw_gt := lw_gt_of (List.mem_of_getElem? (i := 710) (by decide +kernel)) rfl
theorem q_672 : (Cond.instantiable RX9 49 : Cond) ∈ lw_gt := lw_gt_of (List.mem_of_getElem? (i := 711) (by decide +kernel)) rfl
theorem q_673 : (Cond.methodLink RL 12 yX9_init : Cond) ∈ lw_gt := lw_gt_of (List.mem_of_getElem? (i := 712) (by decide +kernel)) rfl
theorem q_674 : (Cond.instanceMethod yX9_init : Cond) ∈ lw_gt := lw_gt_of (List.mem_of_getElem? (i := 713) (by decide +kernel)) rfl
theorem q_675 : (Cond.code yX9_init cX9_init 1 none : Cond) ∈ lw_gt := lw_gt_of (List.mem_of_getElem? (i := 714) (by decide +kernel)) rfl
theorem q_676 : (Cond.methodLink RX9 1 objectInit : Cond) ∈ lw_gt := lw_gt_of (List.mem_of_getElem? (i := 715) (by decide +kernel)) rfl
theorem q_677 : (Cond.fieldLink RX9 7 "FlowConstantsModel" "text" "[I" : Cond) ∈ lw_gt := lw_gt_of (List.mem_of_getElem? (i := 716) (by decide +kernel)) rfl
theorem q_678 : (Cond.fieldLink RX9 133 "FlowConstantsModel" "length" "I" : Cond) ∈ lw_gt := lw_gt_of (List.mem_of_getElem? (i := 717) (by decide +kernel)) rfl
theorem q_679 : (Cond.fieldLink RX9 122 "FlowConstantsModel" "names" "I" : Cond) ∈ lw_gt := lw_gt_of (List.mem_of_getElem? (i := 718) (by decide +kernel)) rfl
theorem q_680 : (Cond.fieldLink RX9 130 "FlowConstantsModel" "blocks" "I" : Cond) ∈ lw_gt := lw_gt_of (List.mem_of_getElem? (i := 719) (by decide +kernel)) rfl
theorem q_681 : (Cond.fieldLink RX9 13 "FlowConstantsModel" "made" "[I" : Cond) ∈ lw_gt := lw_gt_of (List.mem_of_getElem? (i := 720) (by decide +kernel)) rfl
theorem q_682 : (Cond.fieldLink RX9 16 "FlowConstantsModel" "blockOf" "[I" : Cond) ∈ lw_gt := lw_gt_of (List.mem_of_getElem? (i := 721) (by decide +kernel)) rfl
theorem q_683 : (Cond.fieldLink RX9 19 "FlowConstantsModel" "sign" "[I" : Cond) ∈ lw_gt := lw_gt_of (List.mem_of_getElem? (i := 722) (by decide +kernel)) rfl
theorem q_684 : (Cond.fieldLink RX9 22 "FlowConstantsModel" "one" "[I" : Cond) ∈ lw_gt := lw_gt_of (List.mem_of_getElem? (i := 723) (by decide +kernel)) rfl
theorem q_685 : (Cond.fieldLink RX9 25 "FlowConstantsModel" "other" "[I" : Cond) ∈ lw_gt := lw_gt_of (List.mem_of_getElem? (i := 724) (by decide +kernel)) rfl
theorem q_686 : (Cond.fieldLink RX9 28 "FlowConstantsModel" "arms" "[I" : Cond) ∈ lw_gt := lw_gt_of (List.mem_of_getElem? (i := 725) (by decide +kernel)) rfl
theorem q_687 : (Cond.fieldLink RX9 31 "FlowConstantsModel" "armBlock" "[I" : Cond) ∈ lw_gt := lw_gt_of (List.mem_of_getElem? (i := 726) (by decide +kernel)) rfl
theorem q_688 : (Cond.fieldLink RX9 34 "FlowConstantsModel" "armName" "[I" : Cond) ∈ lw_gt := lw_gt_of (List.mem_of_getElem? (i := 727) (by decide +kernel)) rfl
theorem q_689 : (Cond.fieldLink RX9 37 "FlowConstantsModel" "first" "[I" : Cond) ∈ lw_gt := lw_gt_of (List.mem_of_getElem? (i := 728) (by decide +kernel)) rfl
theorem q_690 : (Cond.fieldLink RX9 40 "FlowConstantsModel" "ends" "[I" : Cond) ∈ lw_gt := lw_gt_of (List.mem_of_getElem? (i := 729) (by decide +kernel)) rfl
theorem q_691 : (Cond.fieldLink RX9 43 "FlowConstantsModel" "endName" "[I" : Cond) ∈ lw_gt := lw_gt_of (List.mem_of_getElem? (i := 730) (by decide +kernel)) rfl
theorem q_692 : (Cond.fieldLink RX9 46 "FlowConstantsModel" "before" "[I" : Cond) ∈ lw_gt := lw_gt_of (List.mem_of_getElem? (i := 731) (by decide +kernel)) rfl
theorem q_693 : (Cond.fieldLink RX9 49 "FlowConstantsModel" "st" "[I" : Cond) ∈ lw_gt := lw_gt_of (List.mem_of_getElem? (i := 732) (by decide +kernel)) rfl
theorem q_694 : (Cond.fieldLink RX9 52 "FlowConstantsModel" "book" "[I" : Cond) ∈ lw_gt := lw_gt_of (List.mem_of_getElem? (i := 733) (by decide +kernel)) rfl
theorem q_695 : (Cond.fieldLink RX9 216 "FlowConstantsModel" "undos" "I" : Cond) ∈ lw_gt := lw_gt_of (List.mem_of_getElem? (i := 734) (by decide +kernel)) rfl
theorem q_696 : (Cond.fieldLink RX9 55 "FlowConstantsModel" "images" "[I" : Cond) ∈ lw_gt := lw_gt_of (List.mem_of_getElem? (i := 735) (by decide +kernel)) rfl
theorem q_697 : (Cond.fieldLink RX9 58 "FlowConstantsModel" "isKept" "[Z" : Cond) ∈ lw_gt := lw_gt_of (List.mem_of_getElem? (i := 736) (by decide +kernel)) rfl
theorem q_698 : (Cond.fieldLink RX9 243 "FlowConstantsModel" "asked" "I" : Cond) ∈ lw_gt := lw_gt_of (List.mem_of_getElem? (i := 737) (by decide +kernel)) rfl
theorem q_699 : (Cond.fieldLink RX9 136 "FlowConstantsModel" "place" "I" : Cond) ∈ lw_gt := lw_gt_of (List.mem_of_getElem? (i := 738) (by decide +kernel)) rfl
theorem q_700 : (Cond.fieldLink RX9 139 "FlowConstantsModel" "isWrong" "Z" : Cond) ∈ lw_gt := lw_gt_of (List.mem_of_getElem? (i := 739) (by decide +kernel)) rfl
theorem q_701 : (Cond.fieldLink RX9 150 "FlowConstantsModel" "readNames" "I" : Cond) ∈ lw_gt := lw_gt_of (List.mem_of_getElem? (i := 740) (by decide +kernel)) rfl
theorem q_702 : (Cond.fieldLink RX9 147 "FlowConstantsModel" "readBlocks" "I" : Cond) ∈ lw_gt := lw_gt_of (List.mem_of_getElem? (i := 741) (by decide +kernel)) rfl
theorem q_703 : (Cond.fieldLink RX9 168 "FlowConstantsModel" "isOpen" "Z" : Cond) ∈ lw_gt := lw_gt_of (List.mem_of_getElem? (i := 742) (by decide +kernel)) rfl
theorem q_704 : (Cond.fieldLink RX9 62 "FlowConstantsModel" "readMade" "[I" : Cond) ∈ lw_gt := lw_gt_of (List.mem_of_getElem? (i := 743) (by decide +kernel)) rfl
theorem q_705 : (Cond.fieldLink RX9 65 "FlowConstantsModel" "readBlockOf" "[I" : Cond) ∈ lw_gt := lw_gt_of (List.mem_of_getElem? (i := 744) (by decide +kernel)) rfl
theorem q_706 : (Cond.fieldLink RX9 68 "FlowConstantsModel" "readSign" "[I" : Cond) ∈ lw_gt := lw_gt_of (List.mem_of_getElem? (i := 745) (by decide +kernel)) rfl
theorem q_707 : (Cond.fieldLink RX9 71 "FlowConstantsModel" "readOne" "[I" : Cond) ∈ lw_gt := lw_gt_of (List.mem_of_getElem? (i := 746) (by decide +kernel)) rfl
theorem q_708 : (Cond.fieldLink RX9 74 "FlowConstantsModel" "readOther" "[I" : Cond) ∈ lw_gt := lw_gt_of (List.mem_of_getElem? (i := 747) (by decide +kernel)) rfl
theorem q_709 : (Cond.fieldLink RX9 77 "FlowConstantsModel" "readArms" "[I" : Cond) ∈ lw_gt := lw_gt_of (List.mem_of_getElem? (i := 748) (by decide +kernel)) rfl
theorem q_710 : (Cond.fieldLink RX9 80 "FlowConstantsModel" "readArmBlock" "[I" : Cond) ∈ lw_gt := lw_gt_of (List.mem_of_getElem? (i := 749) (by decide +kernel)) rfl
theorem q_711 : (Cond.fieldLink RX9 83 "FlowConstantsModel" "readArmName" "[I" : Cond) ∈ lw_gt := lw_gt_of (List.mem_of_getElem? (i := 750) (by decide +kernel)) rfl
theorem q_712 : (Cond.fieldLink RX9 86 "FlowConstantsModel" "readFirst" "[I" : Cond) ∈ lw_gt := lw_gt_of (List.mem_of_getElem? (i := 751) (by decide +kernel)) rfl
theorem q_713 : (Cond.fieldLink RX9 89 "FlowConstantsModel" "readEnds" "[I" : Cond) ∈ lw_gt := lw_gt_of (List.mem_of_getElem? (i := 752) (by decide +kernel)) rfl
theorem q_714 : (Cond.fieldLink RX9 92 "FlowConstantsModel" "readEndName" "[I" : Cond) ∈ lw_gt := lw_gt_of (List.mem_of_getElem? (i := 753) (by decide +kernel)) rfl
theorem q_715 : (Cond.fieldLink RX9 95 "FlowConstantsModel" "read" "[I" : Cond) ∈ lw_gt := lw_gt_of (List.mem_of_getElem? (i := 754) (by decide +kernel)) rfl
theorem q_716 : (Cond.fieldLink RX9 98 "FlowConstantsModel" "readBefore" "[I" : Cond) ∈ lw_gt := lw_gt_of (List.mem_of_getElem? (i := 755) (by decide +kernel)) rfl
theorem q_717 : (Cond.fieldLink RX9 101 "FlowConstantsModel" "found" "[I" : Cond) ∈ lw_gt := lw_gt_of (List.mem_of_getElem? (i := 756) (by decide +kernel)) rfl
theorem q_718 : (Cond.fieldLink RX9 104 "FlowConstantsModel" "value" "[I" : Cond) ∈ lw_gt := lw_gt_of (List.mem_of_getElem? (i := 757) (by decide +kernel)) rfl
theorem q_719 : (Cond.fieldLink RX9 107 "FlowConstantsModel" "isLive" "[Z" : Cond) ∈ lw_gt := lw_gt_of (List.mem_of_getElem? (i := 758) (by decide +kernel)) rfl
theorem q_720 : (Cond.fieldLink RX9 110 "FlowConstantsModel" "plain" "[I" : Cond) ∈ lw_gt := lw_gt_of (List.mem_of_getElem? (i := 759) (by decide +kernel)) rfl
theorem q_721 : (Cond.fieldLink RX9 219 "FlowConstantsModel" "traps" "Z" : Cond) ∈ lw_gt := lw_gt_of (List.mem_of_getElem? (i := 760) (by decide +kernel)) rfl
theorem q_722 : (Cond.fieldLink RX9 113 "FlowConstantsModel" "is" "[I" : Cond) ∈ lw_gt := lw_gt_of (List.mem_of_getElem? (i := 761) (by decide +kernel)) rfl
theorem q_723 : (Cond.fieldLink RX9 116 "FlowConstantsModel" "then" "[I" : Cond) ∈ lw_gt := lw_gt_of (List.mem_of_getElem? (i := 762) (by decide +kernel)) rfl
theorem q_724 : (Cond.fieldLink RX9 119 "FlowConstantsModel" "visited" "[I" : Cond) ∈ lw_gt := lw_gt_of (List.mem_of_getElem? (i := 763) (by decide +kernel)) rfl
theorem q_725 : (Cond.fieldLink RX9 272 "FlowConstantsModel" "told" "I" : Cond) ∈ lw_gt := lw_gt_of (List.mem_of_getElem? (i := 764) (by decide +kernel)) rfl
theorem q_825 : (Cond.arrayClass .boolean : Cond) ∈ lw_gt := lw_gt_of (List.mem_of_getElem? (i := 864) (by decide +kernel)) rfl
theorem q_826 : (Cond.methodLink RL 17 yX9_type : Cond) ∈ lw_gt := lw_gt_of (List.mem_of_getElem? (i := 865) (by decide +kernel)) rfl
theorem q_827 : (Cond.instanceMethod yX9_type : Cond) ∈ lw_gt := lw_gt_of (List.mem_of_getElem? (i := 866) (by decide +kernel)) rfl
theorem q_828 : (Cond.selects RX9 yX9_type yX9_type : Cond) ∈ lw_gt := lw_gt_of (List.mem_of_getElem? (i := 867) (by decide +kernel)) rfl
theorem q_829 : (Cond.code yX9_type cX9_type 2 (some .int) : Cond) ∈ lw_gt := lw_gt_of (List.mem_of_getElem? (i := 868) (by decide +kernel)) rfl
theorem q_830 : (Cond.methodLink RX9 126 yX9_in : Cond) ∈ lw_gt := lw_gt_of (List.mem_of_getElem? (i := 869) (by decide +kernel)) rfl
theorem q_831 : (Cond.static yX9_in : Cond) ∈ lw_gt := lw_gt_of (List.mem_of_getElem? (i := 870) (by decide +kernel)) rfl
theorem q_832 : (Cond.code yX9_in cX9_in 3 (some .boolean) : Cond) ∈ lw_gt := lw_gt_of (List.mem_of_getElem? (i := 871) (by decide +kernel)) rfl
theorem q_833 : (Cond.methodLink RL 22 yX9_clear : Cond) ∈ lw_gt := lw_gt_of (List.mem_of_getElem? (i := 872) (by decide +kernel)) rfl
theorem q_834 : (Cond.instanceMethod yX9_clear : Cond) ∈ lw_gt := lw_gt_of (List.mem_of_getElem? (i := 873) (by decide +kernel)) rfl
theorem q_835 : (Cond.selects RX9 yX9_clear yX9_clear : Cond) ∈ lw_gt := lw_gt_of (List.mem_of_getElem? (i := 874) (by decide +kernel)) rfl
theorem q_836 : (Cond.code yX9_clear cX9_clear 2 (some .int) : Cond) ∈ lw_gt := lw_gt_of (List.mem_of_getElem? (i := 875) (by decide +kernel)) rfl
theorem q_837 : (Cond.methodLink RL 26 yX9_program : Cond) ∈ lw_gt := lw_gt_of (List.mem_of_getElem? (i := 876) (by decide +kernel)) rfl
theorem q_838 : (Cond.instanceMethod yX9_program : Cond) ∈ lw_gt := lw_gt_of (List.mem_of_getElem? (i := 877) (by decide +kernel)) rfl
theorem q_839 : (Cond.selects RX9 yX9_program yX9_program : Cond) ∈ lw_gt := lw_gt_of (List.mem_of_getElem? (i := 878) (by decide +kernel)) rfl
theorem q_840 : (Cond.code yX9_program cX9_program 1 (some .int) : Cond) ∈ lw_gt := lw_gt_of (List.mem_of_getElem? (i := 879) (by decide +kernel)) rfl
theorem q_841 : (Cond.methodLink RX9 203 yX9_startsReading : Cond) ∈ lw_gt := lw_gt_of (List.mem_of_getElem? (i := 880) (by decide +kernel)) rfl
theorem q_843 : (Cond.instanceMethod yX9_startsReading : Cond) ∈ lw_gt := lw_gt_of (List.mem_of_getElem? (i := 882) (by decide +kernel)) rfl
theorem q_844 : (Cond.code yX9_startsReading cX9_startsReading 2 none : Cond) ∈ lw_gt := lw_gt_of (List.mem_of_getElem? (i := 883) (by decide +kernel)) rfl
theorem q_845 : (Cond.methodLink RX9 143 yX9_here : Cond) ∈ lw_gt := lw_gt_of (List.mem_of_getElem? (i := 884) (by decide +kernel)) rfl
theorem q_847 : (Cond.instanceMethod yX9_here : Cond) ∈ lw_gt := lw_gt_of (List.mem_of_getElem? (i := 886) (by decide +kernel)) rfl
theorem q_848 : (Cond.code yX9_here cX9_here 1 (some .int) : Cond) ∈ lw_gt := lw_gt_of (List.mem_of_getElem? (i := 887) (by decide +kernel)) rfl
theorem q_849 : (Cond.methodLink RX9 206 yX9_readsItem : Cond) ∈ lw_gt := lw_gt_of (List.mem_of_getElem? (i := 888) (by decide +kernel)) rfl
theorem q_851 : (Cond.instanceMethod yX9_readsItem : Cond) ∈ lw_gt := lw_gt_of (List.mem_of_getElem? (i := 890) (by decide +kernel)) rfl
theorem q_852 : (Cond.code yX9_readsItem cX9_readsItem 2 none : Cond) ∈ lw_gt := lw_gt_of (List.mem_of_getElem? (i := 891) (by decide +kernel)) rfl
theorem q_853 : (Cond.methodLink RX9 175 yX9_mayBegin : Cond) ∈ lw_gt := lw_gt_of (List.mem_of_getElem? (i := 892) (by decide +kernel)) rfl
theorem q_855 : (Cond.instanceMethod yX9_mayBegin : Cond) ∈ lw_gt := lw_gt_of (List.mem_of_getElem? (i := 894) (by decide +kernel)) rfl
theorem q_856 : (Cond.code yX9_mayBegin cX9_mayBegin 3 (some .boolean) : Cond) ∈ lw_gt := lw_gt_of (List.mem_of_getElem? (i := 895) (by decide +kernel)) rfl
theorem q_857 : (Cond.methodLink RX9 171 yX9_onlyJoins : Cond) ∈ lw_gt := lw_gt_of (List.mem_of_getElem? (i := 896) (by decide +kernel)) rfl
theorem q_859 : (Cond.instanceMethod yX9_onlyJoins : Cond) ∈ lw_gt := lw_gt_of (List.mem_of_getElem? (i := 898) (by decide +kernel)) rfl
theorem q_860 : (Cond.code yX9_onlyJoins cX9_onlyJoins 3 (some .boolean) : Cond) ∈ lw_gt := lw_gt_of (List.mem_of_getElem? (i := 899) (by decide +kernel)) rfl
theorem q_861 : (Cond.methodLink RX9 165 yX9_closes : Cond) ∈ lw_gt := lw_gt_of (List.mem_of_getElem? (i := 900) (by decide +kernel)) rfl
theorem q_863 : (Cond.instanceMethod yX9_closes : Cond) ∈ lw_gt := lw_gt_of (List.mem_of_getElem? (i := 902) (by decide +kernel)) rfl
theorem q_864 : (Cond.code yX9_closes cX9_closes 1 none : Cond) ∈ lw_gt := lw_gt_of (List.mem_of_getElem? (i := 903) (by decide +kernel)) rfl
theorem q_865 : (Cond.methodLink RX9 153 yX9_startsName : Cond) ∈ lw_gt := lw_gt_of (List.mem_of_getElem? (i := 904) (by decide +kernel)) rfl
theorem q_867 : (Cond.instanceMethod yX9_startsName : Cond) ∈ lw_gt := lw_gt_of (List.mem_of_getElem? (i := 906) (by decide +kernel)) rfl
theorem q_868 : (Cond.code yX9_startsName cX9_startsName 2 none : Cond) ∈ lw_gt := lw_gt_of (List.mem_of_getElem? (i := 907) (by decide +kernel)) rfl
theorem q_869 : (Cond.methodLink RX9 157 yX9_numeral : Cond) ∈ lw_gt := lw_gt_of (List.mem_of_getElem? (i := 908) (by decide +kernel)) rfl
theorem q_871 : (Cond.instanceMethod yX9_numeral : Cond) ∈ lw_gt := lw_gt_of (List.mem_of_getElem? (i := 910) (by decide +kernel)) rfl
theorem q_872 : (Cond.code yX9_numeral cX9_numeral 4 (some .int) : Cond) ∈ lw_gt := lw_gt_of (List.mem_of_getElem? (i := 911) (by decide +kernel)) rfl
theorem q_873 : (Cond.methodLink RX9 178 yX9_readsOperation : Cond) ∈ lw_gt := lw_gt_of (List.mem_of_getElem? (i := 912) (by decide +kernel)) rfl
theorem q_875 : (Cond.instanceMethod yX9_readsOperation : Cond) ∈ lw_gt := lw_gt_of (List.mem_of_getElem? (i := 914) (by decide +kernel)) rfl
theorem q_876 : (Cond.code yX9_readsOperation cX9_readsOperation 2 none : Cond) ∈ lw_gt := lw_gt_of (List.mem_of_getElem? (i := 915) (by decide +kernel)) rfl
theorem q_877 : (Cond.methodLink RX9 161 yX9_isSign : Cond) ∈ lw_gt := lw_gt_of (List.mem_of_getElem? (i := 916) (by decide +kernel)) rfl
theorem q_878 : (Cond.static yX9_isSign : Cond) ∈ lw_gt := lw_gt_of (List.mem_of_getElem? (i := 917) (by decide +kernel)) rfl
theorem q_879 : (Cond.code yX9_isSign cX9_isSign 1 (some .boolean) : Cond) ∈ lw_gt := lw_gt_of (List.mem_of_getElem? (i := 918) (by decide +kernel)) rfl
theorem q_880 : (Cond.methodLink RX9 181 yX9_readsJoin : Cond) ∈ lw_gt := lw_gt_of (List.mem_of_getElem? (i := 919) (by decide +kernel)) rfl
theorem q_882 : (Cond.instanceMethod yX9_readsJoin : Cond) ∈ lw_gt := lw_gt_of (List.mem_of_getElem? (i := 921) (by decide +kernel)) rfl
theorem q_883 : (Cond.code yX9_readsJoin cX9_readsJoin 7 none : Cond) ∈ lw_gt := lw_gt_of (List.mem_of_getElem? (i := 922) (by decide +kernel)) rfl
theorem q_884 : (Cond.methodLink RX9 184 yX9_readsEnd : Cond) ∈ lw_gt := lw_gt_of (List.mem_of_getElem? (i := 923) (by decide +kernel)) rfl
theorem q_886 : (Cond.instanceMethod yX9_readsEnd : Cond) ∈ lw_gt := lw_gt_of (List.mem_of_getElem? (i := 925) (by decide +kernel)) rfl
theorem q_887 : (Cond.code yX9_readsEnd cX9_readsEnd 5 none : Cond) ∈ lw_gt := lw_gt_of (List.mem_of_getElem? (i := 926) (by decide +kernel)) rfl
theorem q_888 : (Cond.methodLink RX9 209 yX9_isStrict : Cond) ∈ lw_gt := lw_gt_of (List.mem_of_getElem? (i := 927) (by decide +kernel)) rfl
theorem q_890 : (Cond.instanceMethod yX9_isStrict : Cond) ∈ lw_gt := lw_gt_of (List.mem_of_getElem? (i := 929) (by decide +kernel)) rfl
theorem q_891 : (Cond.code yX9_isStrict cX9_isStrict 4 (some .boolean) : Cond) ∈ lw_gt := lw_gt_of (List.mem_of_getElem? (i := 930) (by decide +kernel)) rfl
theorem q_892 : (Cond.methodLink RX9 197 yX9_laysBefore : Cond) ∈ lw_gt := lw_gt_of (List.mem_of_getElem? (i := 931) (by decide +kernel)) rfl
theorem q_894 : (Cond.instanceMethod yX9_laysBefore : Cond) ∈ lw_gt := lw_gt_of (List.mem_of_getElem? (i := 933) (by decide +kernel)) rfl
theorem q_895 : (Cond.code yX9_laysBefore cX9_laysBefore 6 none : Cond) ∈ lw_gt := lw_gt_of (List.mem_of_getElem? (i := 934) (by decide +kernel)) rfl
theorem q_896 : (Cond.methodLink RX9 187 yX9_goesTo : Cond) ∈ lw_gt := lw_gt_of (List.mem_of_getElem? (i := 935) (by decide +kernel)) rfl
theorem q_898 : (Cond.instanceMethod yX9_goesTo : Cond) ∈ lw_gt := lw_gt_of (List.mem_of_getElem? (i := 937) (by decide +kernel)) rfl
theorem q_899 : (Cond.code yX9_goesTo cX9_goesTo 3 (some .boolean) : Cond) ∈ lw_gt := lw_gt_of (List.mem_of_getElem? (i := 938) (by decide +kernel)) rfl
theorem q_900 : (Cond.methodLink RX9 194 yX9_isBefore : Cond) ∈ lw_gt := lw_gt_of (List.mem_of_getElem? (i := 939) (by decide +kernel)) rfl
theorem q_902 : (Cond.instanceMethod yX9_isBefore : Cond) ∈ lw_gt := lw_gt_of (List.mem_of_getElem? (i := 941) (by decide +kernel)) rfl
theorem q_903 : (Cond.code yX9_isBefore cX9_isBefore 4 (some .boolean) : Cond) ∈ lw_gt := lw_gt_of (List.mem_of_getElem? (i := 942) (by decide +kernel)) rfl
theorem q_904 : (Cond.methodLink RX9 191 yX9_has : Cond) ∈ lw_gt := lw_gt_of (List.mem_of_getElem? (i := 943) (by decide +kernel)) rfl
theorem q_905 : (Cond.static yX9_has : Cond) ∈ lw_gt := lw_gt_of (List.mem_of_getElem? (i := 944) (by decide +kernel)) rfl
theorem q_906 : (Cond.code yX9_has cX9_has 2 (some .boolean) : Cond) ∈ lw_gt := lw_gt_of (List.mem_of_getElem? (i := 945) (by decide +kernel)) rfl
theorem q_907 : (Cond.methodLink RX9 200 yX9_isJoined : Cond) ∈ lw_gt := lw_gt_of (List.mem_of_getElem? (i := 946) (by decide +kernel)) rfl
theorem q_909 : (Cond.instanceMethod yX9_isJoined : Cond) ∈ lw_gt := lw_gt_of (List.mem_of_getElem? (i := 948) (by decide +kernel)) rfl
theorem q_910 : (Cond.code yX9_isJoined cX9_isJoined 7 (some .boolean) : Cond) ∈ lw_gt := lw_gt_of (List.mem_of_getElem? (i := 949) (by decide +kernel)) rfl
theorem q_911 : (Cond.methodLink RX9 212 yX9_bring : Cond) ∈ lw_gt := lw_gt_of (List.mem_of_getElem? (i := 950) (by decide +kernel)) rfl
theorem q_912 : (Cond.static yX9_bring : Cond) ∈ lw_gt := lw_gt_of (List.mem_of_getElem? (i := 951) (by decide +kernel)) rfl
theorem q_913 : (Cond.code yX9_bring cX9_bring 6 none : Cond) ∈ lw_gt := lw_gt_of (List.mem_of_getElem? (i := 952) (by decide +kernel)) rfl
theorem q_914 : (Cond.methodLink RL 31 yX9_name : Cond) ∈ lw_gt := lw_gt_of (List.mem_of_getElem? (i := 953) (by decide +kernel)) rfl
theorem q_915 : (Cond.instanceMethod yX9_name : Cond) ∈ lw_gt := lw_gt_of (List.mem_of_getElem? (i := 954) (by decide +kernel)) rfl
theorem q_916 : (Cond.selects RX9 yX9_name yX9_name : Cond) ∈ lw_gt := lw_gt_of (List.mem_of_getElem? (i := 955) (by decide +kernel)) rfl
theorem q_917 : (Cond.code yX9_name cX9_name 4 (some .int) : Cond) ∈ lw_gt := lw_gt_of (List.mem_of_getElem? (i := 956) (by decide +kernel)) rfl
theorem q_918 : (Cond.methodLink RX9 246 yX9_isName : Cond) ∈ lw_gt := lw_gt_of (List.mem_of_getElem? (i := 957) (by decide +kernel)) rfl
theorem q_920 : (Cond.instanceMethod yX9_isName : Cond) ∈ lw_gt := lw_gt_of (List.mem_of_getElem? (i := 959) (by decide +kernel)) rfl
theorem q_921 : (Cond.code yX9_isName cX9_isName 2 (some .boolean) : Cond) ∈ lw_gt := lw_gt_of (List.mem_of_getElem? (i := 960) (by decide +kernel)) rfl
theorem q_922 : (Cond.methodLink RX9 249 yX9_finds : Cond) ∈ lw_gt := lw_gt_of (List.mem_of_getElem? (i := 961) (by decide +kernel)) rfl
theorem q_924 : (Cond.instanceMethod yX9_finds : Cond) ∈ lw_gt := lw_gt_of (List.mem_of_getElem? (i := 963) (by decide +kernel)) rfl
theorem q_925 : (Cond.code yX9_finds cX9_finds 5 none : Cond) ∈ lw_gt := lw_gt_of (List.mem_of_getElem? (i := 964) (by decide +kernel)) rfl
theorem q_926 : (Cond.methodLink RX9 240 yX9_climbs : Cond) ∈ lw_gt := lw_gt_of (List.mem_of_getElem? (i := 965) (by decide +kernel)) rfl
theorem q_928 : (Cond.instanceMethod yX9_climbs : Cond) ∈ lw_gt := lw_gt_of (List.mem_of_getElem? (i := 967) (by decide +kernel)) rfl
theorem q_929 : (Cond.code yX9_climbs cX9_climbs 3 none : Cond) ∈ lw_gt := lw_gt_of (List.mem_of_getElem? (i := 968) (by decide +kernel)) rfl
theorem q_930 : (Cond.methodLink RX9 233 yX9_climbsOperation : Cond) ∈ lw_gt := lw_gt_of (List.mem_of_getElem? (i := 969) (by decide +kernel)) rfl
theorem q_932 : (Cond.instanceMethod yX9_climbsOperation : Cond) ∈ lw_gt := lw_gt_of (List.mem_of_getElem? (i := 971) (by decide +kernel)) rfl
theorem q_933 : (Cond.code yX9_climbsOperation cX9_climbsOperation 4 none : Cond) ∈ lw_gt := lw_gt_of (List.mem_of_getElem? (i := 972) (by decide +kernel)) rfl
theorem q_934 : (Cond.methodLink RX9 226 yX9_doneBy : Cond) ∈ lw_gt := lw_gt_of (List.mem_of_getElem? (i := 973) (by decide +kernel)) rfl
theorem q_936 : (Cond.instanceMethod yX9_doneBy : Cond) ∈ lw_gt := lw_gt_of (List.mem_of_getElem? (i := 975) (by decide +kernel)) rfl
theorem q_937 : (Cond.code yX9_doneBy cX9_doneBy 4 (some .int) : Cond) ∈ lw_gt := lw_gt_of (List.mem_of_getElem? (i := 976) (by decide +kernel)) rfl
theorem q_938 : (Cond.methodLink RX9 236 yX9_climbsJoin : Cond) ∈ lw_gt := lw_gt_of (List.mem_of_getElem? (i := 977) (by decide +kernel)) rfl
theorem q_940 : (Cond.instanceMethod yX9_climbsJoin : Cond) ∈ lw_gt := lw_gt_of (List.mem_of_getElem? (i := 979) (by decide +kernel)) rfl
theorem q_941 : (Cond.code yX9_climbsJoin cX9_climbsJoin 6 none : Cond) ∈ lw_gt := lw_gt_of (List.mem_of_getElem? (i := 980) (by decide +kernel)) rfl
theorem q_942 : (Cond.methodLink RX9 230 yX9_isWay : Cond) ∈ lw_gt := lw_gt_of (List.mem_of_getElem? (i := 981) (by decide +kernel)) rfl
theorem q_944 : (Cond.instanceMethod yX9_isWay : Cond) ∈ lw_gt := lw_gt_of (List.mem_of_getElem? (i := 983) (by decide +kernel)) rfl
theorem q_945 : (Cond.code yX9_isWay cX9_isWay 4 (some .boolean) : Cond) ∈ lw_gt := lw_gt_of (List.mem_of_getElem? (i := 984) (by decide +kernel)) rfl
theorem q_946 : (Cond.methodLink RX9 222 yX9_isEdge : Cond) ∈ lw_gt := lw_gt_of (List.mem_of_getElem? (i := 985) (by decide +kernel)) rfl
theorem q_948 : (Cond.instanceMethod yX9_isEdge : Cond) ∈ lw_gt := lw_gt_of (List.mem_of_getElem? (i := 987) (by decide +kernel)) rfl
theorem q_949 : (Cond.code yX9_isEdge cX9_isEdge 5 (some .boolean) : Cond) ∈ lw_gt := lw_gt_of (List.mem_of_getElem? (i := 988) (by decide +kernel)) rfl
theorem q_950 : (Cond.methodLink RL 35 yX9_found : Cond) ∈ lw_gt := lw_gt_of (List.mem_of_getElem? (i := 989) (by decide +kernel)) rfl
theorem q_951 : (Cond.instanceMethod yX9_found : Cond) ∈ lw_gt := lw_gt_of (List.mem_of_getElem? (i := 990) (by decide +kernel)) rfl
theorem q_952 : (Cond.selects RX9 yX9_found yX9_found : Cond) ∈ lw_gt := lw_gt_of (List.mem_of_getElem? (i := 991) (by decide +kernel)) rfl
theorem q_953 : (Cond.code yX9_found cX9_found 2 (some .int) : Cond) ∈ lw_gt := lw_gt_of (List.mem_of_getElem? (i := 992) (by decide +kernel)) rfl
theorem q_954 : (Cond.methodLink RX9 253 yX9_tells : Cond) ∈ lw_gt := lw_gt_of (List.mem_of_getElem? (i := 993) (by decide +kernel)) rfl
theorem q_956 : (Cond.instanceMethod yX9_tells : Cond) ∈ lw_gt := lw_gt_of (List.mem_of_getElem? (i := 995) (by decide +kernel)) rfl
theorem q_957 : (Cond.code yX9_tells cX9_tells 3 (some .int) : Cond) ∈ lw_gt := lw_gt_of (List.mem_of_getElem? (i := 996) (by decide +kernel)) rfl
theorem q_958 : (Cond.methodLink RL 39 yX9_block : Cond) ∈ lw_gt := lw_gt_of (List.mem_of_getElem? (i := 997) (by decide +kernel)) rfl
theorem q_959 : (Cond.instanceMethod yX9_block : Cond) ∈ lw_gt := lw_gt_of (List.mem_of_getElem? (i := 998) (by decide +kernel)) rfl
theorem q_960 : (Cond.selects RX9 yX9_block yX9_block : Cond) ∈ lw_gt := lw_gt_of (List.mem_of_getElem? (i := 999) (by decide +kernel)) rfl
theorem q_961 : (Cond.code yX9_block cX9_block 3 (some .int) : Cond) ∈ lw_gt := lw_gt_of (List.mem_of_getElem? (i := 1000) (by decide +kernel)) rfl
theorem q_962 : (Cond.methodLink RX9 257 yX9_isBlock : Cond) ∈ lw_gt := lw_gt_of (List.mem_of_getElem? (i := 1001) (by decide +kernel)) rfl
theorem q_964 : (Cond.instanceMethod yX9_isBlock : Cond) ∈ lw_gt := lw_gt_of (List.mem_of_getElem? (i := 1003) (by decide +kernel)) rfl
theorem q_965 : (Cond.code yX9_isBlock cX9_isBlock 2 (some .boolean) : Cond) ∈ lw_gt := lw_gt_of (List.mem_of_getElem? (i := 1004) (by decide +kernel)) rfl
theorem q_966 : (Cond.methodLink RL 43 yX9_knows : Cond) ∈ lw_gt := lw_gt_of (List.mem_of_getElem? (i := 1005) (by decide +kernel)) rfl
theorem q_967 : (Cond.instanceMethod yX9_knows : Cond) ∈ lw_gt := lw_gt_of (List.mem_of_getElem? (i := 1006) (by decide +kernel)) rfl
theorem q_968 : (Cond.selects RX9 yX9_knows yX9_knows : Cond) ∈ lw_gt := lw_gt_of (List.mem_of_getElem? (i := 1007) (by decide +kernel)) rfl
theorem q_969 : (Cond.code yX9_knows cX9_knows 3 (some .int) : Cond) ∈ lw_gt := lw_gt_of (List.mem_of_getElem? (i := 1008) (by decide +kernel)) rfl
theorem q_970 : (Cond.methodLink RX9 260 yX9_isMade : Cond) ∈ lw_gt := lw_gt_of (List.mem_of_getElem? (i := 1009) (by decide +kernel)) rfl
theorem q_972 : (Cond.instanceMethod yX9_isMade : Cond) ∈ lw_gt := lw_gt_of (List.mem_of_getElem? (i := 1011) (by decide +kernel)) rfl
theorem q_973 : (Cond.code yX9_isMade cX9_isMade 3 (some .boolean) : Cond) ∈ lw_gt := lw_gt_of (List.mem_of_getElem? (i := 1012) (by decide +kernel)) rfl
theorem q_974 : (Cond.methodLink RX9 263 yX9_notes : Cond) ∈ lw_gt := lw_gt_of (List.mem_of_getElem? (i := 1013) (by decide +kernel)) rfl
theorem q_976 : (Cond.instanceMethod yX9_notes : Cond) ∈ lw_gt := lw_gt_of (List.mem_of_getElem? (i := 1015) (by decide +kernel)) rfl
theorem q_977 : (Cond.code yX9_notes cX9_notes 1 none : Cond) ∈ lw_gt := lw_gt_of (List.mem_of_getElem? (i := 1016) (by decide +kernel)) rfl
theorem q_978 : (Cond.methodLink RX9 266 yX9_those : Cond) ∈ lw_gt := lw_gt_of (List.mem_of_getElem? (i := 1017) (by decide +kernel)) rfl
theorem q_980 : (Cond.instanceMethod yX9_those : Cond) ∈ lw_gt := lw_gt_of (List.mem_of_getElem? (i := 1019) (by decide +kernel)) rfl
theorem q_981 : (Cond.code yX9_those cX9_those 4 (some .int) : Cond) ∈ lw_gt := lw_gt_of (List.mem_of_getElem? (i := 1020) (by decide +kernel)) rfl
theorem q_982 : (Cond.methodLink RL 47 yX9_forgets : Cond) ∈ lw_gt := lw_gt_of (List.mem_of_getElem? (i := 1021) (by decide +kernel)) rfl
theorem q_983 : (Cond.instanceMethod yX9_forgets : Cond) ∈ lw_gt := lw_gt_of (List.mem_of_getElem? (i := 1022) (by decide +kernel)) rfl
theorem q_984 : (Cond.selects RX9 yX9_forgets yX9_forgets : Cond) ∈ lw_gt := lw_gt_of (List.mem_of_getElem? (i := 1023) (by decide +kernel)) rfl
theorem q_985 : (Cond.code yX9_forgets cX9_forgets 2 (some .int) : Cond) ∈ lw_gt := lw_gt_of (List.mem_of_getElem? (i := 1024) (by decide +kernel)) rfl
theorem q_986 : (Cond.methodLink RL 51 yX9_gives : Cond) ∈ lw_gt := lw_gt_of (List.mem_of_getElem? (i := 1025) (by decide +kernel)) rfl
theorem q_987 : (Cond.instanceMethod yX9_gives : Cond) ∈ lw_gt := lw_gt_of (List.mem_of_getElem? (i := 1026) (by decide +kernel)) rfl
theorem q_988 : (Cond.selects RX9 yX9_gives yX9_gives : Cond) ∈ lw_gt := lw_gt_of (List.mem_of_getElem? (i := 1027) (by decide +kernel)) rfl
theorem q_989 : (Cond.code yX9_gives cX9_gives 4 (some .int) : Cond) ∈ lw_gt := lw_gt_of (List.mem_of_getElem? (i := 1028) (by decide +kernel)) rfl
theorem q_990 : (Cond.methodLink RL 55 yX9_patches : Cond) ∈ lw_gt := lw_gt_of (List.mem_of_getElem? (i := 1029) (by decide +kernel)) rfl
theorem q_991 : (Cond.instanceMethod yX9_patches : Cond) ∈ lw_gt := lw_gt_of (List.mem_of_getElem? (i := 1030) (by decide +kernel)) rfl
theorem q_992 : (Cond.selects RX9 yX9_patches yX9_patches : Cond) ∈ lw_gt := lw_gt_of (List.mem_of_getElem? (i := 1031) (by decide +kernel)) rfl
theorem q_993 : (Cond.code yX9_patches cX9_patches 4 (some .int) : Cond) ∈ lw_gt := lw_gt_of (List.mem_of_getElem? (i := 1032) (by decide +kernel)) rfl
theorem q_994 : (Cond.methodLink RL 59 yX9_turned : Cond) ∈ lw_gt := lw_gt_of (List.mem_of_getElem? (i := 1033) (by decide +kernel)) rfl
theorem q_995 : (Cond.instanceMethod yX9_turned : Cond) ∈ lw_gt := lw_gt_of (List.mem_of_getElem? (i := 1034) (by decide +kernel)) rfl
theorem q_996 : (Cond.selects RX9 yX9_turned yX9_turned : Cond) ∈ lw_gt := lw_gt_of (List.mem_of_getElem? (i := 1035) (by decide +kernel)) rfl
theorem q_997 : (Cond.code yX9_turned cX9_turned 3 (some .int) : Cond) ∈ lw_gt := lw_gt_of (List.mem_of_getElem? (i := 1036) (by decide +kernel)) rfl
theorem q_998 : (Cond.methodLink RX9 269 yX9_liveBlocks : Cond) ∈ lw_gt := lw_gt_of (List.mem_of_getElem? (i := 1037) (by decide +kernel)) rfl
theorem q_1000 : (Cond.instanceMethod yX9_liveBlocks : Cond) ∈ lw_gt := lw_gt_of (List.mem_of_getElem? (i := 1039) (by decide +kernel)) rfl
theorem q_1001 : (Cond.code yX9_liveBlocks cX9_liveBlocks 3 (some .int) : Cond) ∈ lw_gt := lw_gt_of (List.mem_of_getElem? (i := 1040) (by decide +kernel)) rfl
theorem q_1002 : (Cond.methodLink RL 63 yX9_undo : Cond) ∈ lw_gt := lw_gt_of (List.mem_of_getElem? (i := 1041) (by decide +kernel)) rfl
theorem q_1003 : (Cond.instanceMethod yX9_undo : Cond) ∈ lw_gt := lw_gt_of (List.mem_of_getElem? (i := 1042) (by decide +kernel)) rfl
theorem q_1004 : (Cond.selects RX9 yX9_undo yX9_undo : Cond) ∈ lw_gt := lw_gt_of (List.mem_of_getElem? (i := 1043) (by decide +kernel)) rfl
theorem q_1005 : (Cond.code yX9_undo cX9_undo 1 (some .int) : Cond) ∈ lw_gt := lw_gt_of (List.mem_of_getElem? (i := 1044) (by decide +kernel)) rfl
theorem q_1006 : (Cond.methodLink RL 67 yX9_run : Cond) ∈ lw_gt := lw_gt_of (List.mem_of_getElem? (i := 1045) (by decide +kernel)) rfl
theorem q_1007 : (Cond.instanceMethod yX9_run : Cond) ∈ lw_gt := lw_gt_of (List.mem_of_getElem? (i := 1046) (by decide +kernel)) rfl
theorem q_1008 : (Cond.selects RX9 yX9_run yX9_run : Cond) ∈ lw_gt := lw_gt_of (List.mem_of_getElem? (i := 1047) (by decide +kernel)) rfl
theorem q_1009 : (Cond.code yX9_run cX9_run 2 (some .int) : Cond) ∈ lw_gt := lw_gt_of (List.mem_of_getElem? (i := 1048) (by decide +kernel)) rfl
theorem q_1010 : (Cond.methodLink RX9 282 yX9_runs : Cond) ∈ lw_gt := lw_gt_of (List.mem_of_getElem? (i := 1049) (by decide +kernel)) rfl
theorem q_1012 : (Cond.instanceMethod yX9_runs : Cond) ∈ lw_gt := lw_gt_of (List.mem_of_getElem? (i := 1051) (by decide +kernel)) rfl
theorem q_1013 : (Cond.code yX9_runs cX9_runs 5 (some .int) : Cond) ∈ lw_gt := lw_gt_of (List.mem_of_getElem? (i := 1052) (by decide +kernel)) rfl
theorem q_1014 : (Cond.methodLink RX9 275 yX9_takes : Cond) ∈ lw_gt := lw_gt_of (List.mem_of_getElem? (i := 1053) (by decide +kernel)) rfl
theorem q_1016 : (Cond.instanceMethod yX9_takes : Cond) ∈ lw_gt := lw_gt_of (List.mem_of_getElem? (i := 1055) (by decide +kernel)) rfl
theorem q_1017 : (Cond.code yX9_takes cX9_takes 5 none : Cond) ∈ lw_gt := lw_gt_of (List.mem_of_getElem? (i := 1056) (by decide +kernel)) rfl
theorem q_1018 : (Cond.methodLink RX9 279 yX9_makes : Cond) ∈ lw_gt := lw_gt_of (List.mem_of_getElem? (i := 1057) (by decide +kernel)) rfl
theorem q_1020 : (Cond.instanceMethod yX9_makes : Cond) ∈ lw_gt := lw_gt_of (List.mem_of_getElem? (i := 1059) (by decide +kernel)) rfl
theorem q_1021 : (Cond.code yX9_makes cX9_makes 4 (some .int) : Cond) ∈ lw_gt := lw_gt_of (List.mem_of_getElem? (i := 1060) (by decide +kernel)) rfl
theorem q_1022 : (Cond.methodLink RL 71 yX9_visits : Cond) ∈ lw_gt := lw_gt_of (List.mem_of_getElem? (i := 1061) (by decide +kernel)) rfl
theorem q_1023 : (Cond.instanceMethod yX9_visits : Cond) ∈ lw_gt := lw_gt_of (List.mem_of_getElem? (i := 1062) (by decide +kernel)) rfl
theorem q_1024 : (Cond.selects RX9 yX9_visits yX9_visits : Cond) ∈ lw_gt := lw_gt_of (List.mem_of_getElem? (i := 1063) (by decide +kernel)) rfl
theorem q_1025 : (Cond.code yX9_visits cX9_visits 2 (some .int) : Cond) ∈ lw_gt := lw_gt_of (List.mem_of_getElem? (i := 1064) (by decide +kernel)) rfl
theorem q_1026 : (Cond.methodLink RL 75 yX9_last : Cond) ∈ lw_gt := lw_gt_of (List.mem_of_getElem? (i := 1065) (by decide +kernel)) rfl
theorem q_1027 : (Cond.instanceMethod yX9_last : Cond) ∈ lw_gt := lw_gt_of (List.mem_of_getElem? (i := 1066) (by decide +kernel)) rfl
theorem q_1028 : (Cond.selects RX9 yX9_last yX9_last : Cond) ∈ lw_gt := lw_gt_of (List.mem_of_getElem? (i := 1067) (by decide +kernel)) rfl
theorem q_1029 : (Cond.code yX9_last cX9_last 2 (some .int) : Cond) ∈ lw_gt := lw_gt_of (List.mem_of_getElem? (i := 1068) (by decide +kernel)) rfl
theorem q_1030 : (Cond.methodLink RL 79 yX9_count : Cond) ∈ lw_gt := lw_gt_of (List.mem_of_getElem? (i := 1069) (by decide +kernel)) rfl
theorem q_1031 : (Cond.instanceMethod yX9_count : Cond) ∈ lw_gt := lw_gt_of (List.mem_of_getElem? (i := 1070) (by decide +kernel)) rfl
theorem q_1032 : (Cond.selects RX9 yX9_count yX9_count : Cond) ∈ lw_gt := lw_gt_of (List.mem_of_getElem? (i := 1071) (by decide +kernel)) rfl
theorem q_1033 : (Cond.code yX9_count cX9_count 2 (some .int) : Cond) ∈ lw_gt := lw_gt_of (List.mem_of_getElem? (i := 1072) (by decide +kernel)) rfl
theorem q_1034 : (Cond.methodLink RX9 285 yX9_edges : Cond) ∈ lw_gt := lw_gt_of (List.mem_of_getElem? (i := 1073) (by decide +kernel)) rfl
theorem q_1036 : (Cond.instanceMethod yX9_edges : Cond) ∈ lw_gt := lw_gt_of (List.mem_of_getElem? (i := 1075) (by decide +kernel)) rfl
theorem q_1037 : (Cond.code yX9_edges cX9_edges 5 (some .int) : Cond) ∈ lw_gt := lw_gt_of (List.mem_of_getElem? (i := 1076) (by decide +kernel)) rfl
theorem q_1038 : (Cond.methodLink RX9 289 yX9_folds : Cond) ∈ lw_gt := lw_gt_of (List.mem_of_getElem? (i := 1077) (by decide +kernel)) rfl
theorem q_1040 : (Cond.instanceMethod yX9_folds : Cond) ∈ lw_gt := lw_gt_of (List.mem_of_getElem? (i := 1079) (by decide +kernel)) rfl
theorem q_1041 : (Cond.code yX9_folds cX9_folds 3 (some .int) : Cond) ∈ lw_gt := lw_gt_of (List.mem_of_getElem? (i := 1080) (by decide +kernel)) rfl
theorem q_1042 : (Cond.methodLink RX9 292 yX9_foldedEnds : Cond) ∈ lw_gt := lw_gt_of (List.mem_of_getElem? (i := 1081) (by decide +kernel)) rfl
theorem q_1044 : (Cond.instanceMethod yX9_foldedEnds : Cond) ∈ lw_gt := lw_gt_of (List.mem_of_getElem? (i := 1083) (by decide +kernel)) rfl
theorem q_1045 : (Cond.code yX9_foldedEnds cX9_foldedEnds 3 (some .int) : Cond) ∈ lw_gt := lw_gt_of (List.mem_of_getElem? (i := 1084) (by decide +kernel)) rfl
theorem q_1046 : (Cond.methodLink RX9 295 yX9_stays : Cond) ∈ lw_gt := lw_gt_of (List.mem_of_getElem? (i := 1085) (by decide +kernel)) rfl
theorem q_1048 : (Cond.instanceMethod yX9_stays : Cond) ∈ lw_gt := lw_gt_of (List.mem_of_getElem? (i := 1087) (by decide +kernel)) rfl
theorem q_1049 : (Cond.code yX9_stays cX9_stays 3 (some .int) : Cond) ∈ lw_gt := lw_gt_of (List.mem_of_getElem? (i := 1088) (by decide +kernel)) rfl
theorem q_1050 : (Cond.methodLink RX9 298 yX9_gain : Cond) ∈ lw_gt := lw_gt_of (List.mem_of_getElem? (i := 1089) (by decide +kernel)) rfl
theorem q_1052 : (Cond.instanceMethod yX9_gain : Cond) ∈ lw_gt := lw_gt_of (List.mem_of_getElem? (i := 1091) (by decide +kernel)) rfl
theorem q_1053 : (Cond.code yX9_gain cX9_gain 3 (some .int) : Cond) ∈ lw_gt := lw_gt_of (List.mem_of_getElem? (i := 1092) (by decide +kernel)) rfl
theorem q_1054 : (Cond.methodLink RL 83 yX9_best : Cond) ∈ lw_gt := lw_gt_of (List.mem_of_getElem? (i := 1093) (by decide +kernel)) rfl
theorem q_1055 : (Cond.instanceMethod yX9_best : Cond) ∈ lw_gt := lw_gt_of (List.mem_of_getElem? (i := 1094) (by decide +kernel)) rfl
theorem q_1056 : (Cond.selects RX9 yX9_best yX9_best : Cond) ∈ lw_gt := lw_gt_of (List.mem_of_getElem? (i := 1095) (by decide +kernel)) rfl
theorem q_1057 : (Cond.code yX9_best cX9_best 8 (some .int) : Cond) ∈ lw_gt := lw_gt_of (List.mem_of_getElem? (i := 1096) (by decide +kernel)) rfl
theorem q_1058 : (Cond.methodLink RL 87 yX9_keep : Cond) ∈ lw_gt := lw_gt_of (List.mem_of_getElem? (i := 1097) (by decide +kernel)) rfl
theorem q_1059 : (Cond.instanceMethod yX9_keep : Cond) ∈ lw_gt := lw_gt_of (List.mem_of_getElem? (i := 1098) (by decide +kernel)) rfl
theorem q_1060 : (Cond.selects RX9 yX9_keep yX9_keep : Cond) ∈ lw_gt := lw_gt_of (List.mem_of_getElem? (i := 1099) (by decide +kernel)) rfl
theorem q_1061 : (Cond.code yX9_keep cX9_keep 2 (some .int) : Cond) ∈ lw_gt := lw_gt_of (List.mem_of_getElem? (i := 1100) (by decide +kernel)) rfl
theorem q_1062 : (Cond.methodLink RL 91 yX9_back : Cond) ∈ lw_gt := lw_gt_of (List.mem_of_getElem? (i := 1101) (by decide +kernel)) rfl
theorem q_1063 : (Cond.instanceMethod yX9_back : Cond) ∈ lw_gt := lw_gt_of (List.mem_of_getElem? (i := 1102) (by decide +kernel)) rfl
theorem q_1064 : (Cond.selects RX9 yX9_back yX9_back : Cond) ∈ lw_gt := lw_gt_of (List.mem_of_getElem? (i := 1103) (by decide +kernel)) rfl
theorem q_1065 : (Cond.code yX9_back cX9_back 2 (some .int) : Cond) ∈ lw_gt := lw_gt_of (List.mem_of_getElem? (i := 1104) (by decide +kernel)) rfl
theorem q_1066 : (Cond.methodLink RL 95 yX9_asked : Cond) ∈ lw_gt := lw_gt_of (List.mem_of_getElem? (i := 1105) (by decide +kernel)) rfl
theorem q_1067 : (Cond.instanceMethod yX9_asked : Cond) ∈ lw_gt := lw_gt_of (List.mem_of_getElem? (i := 1106) (by decide +kernel)) rfl
theorem q_1068 : (Cond.selects RX9 yX9_asked yX9_asked : Cond) ∈ lw_gt := lw_gt_of (List.mem_of_getElem? (i := 1107) (by decide +kernel)) rfl
theorem q_1069 : (Cond.code yX9_asked cX9_asked 1 (some .int) : Cond) ∈ lw_gt := lw_gt_of (List.mem_of_getElem? (i := 1108) (by decide +kernel)) rfl
theorem qp_0 : (Cond.selects RX8 yX8_settle yX8_settle : Cond) ∈ lw_gt := lw_gt_of (List.mem_of_getElem? (i := 0) (by decide +kernel)) rfl
theorem qp_1 : (Cond.selects RX9 yX9_startsReading yX9_startsReading : Cond) ∈ lw_gt := lw_gt_of (List.mem_of_getElem? (i := 1) (by decide +kernel)) rfl
theorem qp_2 : (Cond.selects RX9 yX9_here yX9_here : Cond) ∈ lw_gt := lw_gt_of (List.mem_of_getElem? (i := 2) (by decide +kernel)) rfl
theorem qp_3 : (Cond.selects RX9 yX9_readsItem yX9_readsItem : Cond) ∈ lw_gt := lw_gt_of (List.mem_of_getElem? (i := 3) (by decide +kernel)) rfl
theorem qp_4 : (Cond.selects RX9 yX9_mayBegin yX9_mayBegin : Cond) ∈ lw_gt := lw_gt_of (List.mem_of_getElem? (i := 4) (by decide +kernel)) rfl
theorem qp_5 : (Cond.selects RX9 yX9_onlyJoins yX9_onlyJoins : Cond) ∈ lw_gt := lw_gt_of (List.mem_of_getElem? (i := 5) (by decide +kernel)) rfl
theorem qp_6 : (Cond.selects RX9 yX9_closes yX9_closes : Cond) ∈ lw_gt := lw_gt_of (List.mem_of_getElem? (i := 6) (by decide +kernel)) rfl
theorem qp_7 : (Cond.selects RX9 yX9_startsName yX9_startsName : Cond) ∈ lw_gt := lw_gt_of (List.mem_of_getElem? (i := 7) (by decide +kernel)) rfl
theorem qp_8 : (Cond.selects RX9 yX9_numeral yX9_numeral : Cond) ∈ lw_gt := lw_gt_of (List.mem_of_getElem? (i := 8) (by decide +kernel)) rfl
theorem qp_9 : (Cond.selects RX9 yX9_readsOperation yX9_readsOperation : Cond) ∈ lw_gt := lw_gt_of (List.mem_of_getElem? (i := 9) (by decide +kernel)) rfl
theorem qp_10 : (Cond.selects RX9 yX9_readsJoin yX9_readsJoin : Cond) ∈ lw_gt := lw_gt_of (List.mem_of_getElem? (i := 10) (by decide +kernel)) rfl
theorem qp_11 : (Cond.selects RX9 yX9_readsEnd yX9_readsEnd : Cond) ∈ lw_gt := lw_gt_of (List.mem_of_getElem? (i := 11) (by decide +kernel)) rfl
theorem qp_12 : (Cond.selects RX9 yX9_isStrict yX9_isStrict : Cond) ∈ lw_gt := lw_gt_of (List.mem_of_getElem? (i := 12) (by decide +kernel)) rfl
theorem qp_13 : (Cond.selects RX9 yX9_laysBefore yX9_laysBefore : Cond) ∈ lw_gt := lw_gt_of (List.mem_of_getElem? (i := 13) (by decide +kernel)) rfl
theorem qp_14 : (Cond.selects RX9 yX9_goesTo yX9_goesTo : Cond) ∈ lw_gt := lw_gt_of (List.mem_of_getElem? (i := 14) (by decide +kernel)) rfl
theorem qp_15 : (Cond.selects RX9 yX9_isBefore yX9_isBefore : Cond) ∈ lw_gt := lw_gt_of (List.mem_of_getElem? (i := 15) (by decide +kernel)) rfl
theorem qp_16 : (Cond.selects RX9 yX9_isJoined yX9_isJoined : Cond) ∈ lw_gt := lw_gt_of (List.mem_of_getElem? (i := 16) (by decide +kernel)) rfl
theorem qp_17 : (Cond.selects RX9 yX9_isName yX9_isName : Cond) ∈ lw_gt := lw_gt_of (List.mem_of_getElem? (i := 17) (by decide +kernel)) rfl
theorem qp_18 : (Cond.selects RX9 yX9_finds yX9_finds : Cond) ∈ lw_gt := lw_gt_of (List.mem_of_getElem? (i := 18) (by decide +kernel)) rfl
theorem qp_19 : (Cond.selects RX9 yX9_climbs yX9_climbs : Cond) ∈ lw_gt := lw_gt_of (List.mem_of_getElem? (i := 19) (by decide +kernel)) rfl
theorem qp_20 : (Cond.selects RX9 yX9_climbsOperation yX9_climbsOperation : Cond) ∈ lw_gt := lw_gt_of (List.mem_of_getElem? (i := 20) (by decide +kernel)) rfl
theorem qp_21 : (Cond.selects RX9 yX9_doneBy yX9_doneBy : Cond) ∈ lw_gt := lw_gt_of (List.mem_of_getElem? (i := 21) (by decide +kernel)) rfl
theorem qp_22 : (Cond.selects RX9 yX9_climbsJoin yX9_climbsJoin : Cond) ∈ lw_gt := lw_gt_of (List.mem_of_getElem? (i := 22) (by decide +kernel)) rfl
theorem qp_23 : (Cond.selects RX9 yX9_isWay yX9_isWay : Cond) ∈ lw_gt := lw_gt_of (List.mem_of_getElem? (i := 23) (by decide +kernel)) rfl
theorem qp_24 : (Cond.selects RX9 yX9_isEdge yX9_isEdge : Cond) ∈ lw_gt := lw_gt_of (List.mem_of_getElem? (i := 24) (by decide +kernel)) rfl
theorem qp_25 : (Cond.selects RX9 yX9_tells yX9_tells : Cond) ∈ lw_gt := lw_gt_of (List.mem_of_getElem? (i := 25) (by decide +kernel)) rfl
theorem qp_26 : (Cond.selects RX9 yX9_isBlock yX9_isBlock : Cond) ∈ lw_gt := lw_gt_of (List.mem_of_getElem? (i := 26) (by decide +kernel)) rfl
theorem qp_27 : (Cond.selects RX9 yX9_isMade yX9_isMade : Cond) ∈ lw_gt := lw_gt_of (List.mem_of_getElem? (i := 27) (by decide +kernel)) rfl
theorem qp_28 : (Cond.selects RX9 yX9_notes yX9_notes : Cond) ∈ lw_gt := lw_gt_of (List.mem_of_getElem? (i := 28) (by decide +kernel)) rfl
theorem qp_29 : (Cond.selects RX9 yX9_those yX9_those : Cond) ∈ lw_gt := lw_gt_of (List.mem_of_getElem? (i := 29) (by decide +kernel)) rfl
theorem qp_30 : (Cond.selects RX9 yX9_liveBlocks yX9_liveBlocks : Cond) ∈ lw_gt := lw_gt_of (List.mem_of_getElem? (i := 30) (by decide +kernel)) rfl
theorem qp_31 : (Cond.selects RX9 yX9_runs yX9_runs : Cond) ∈ lw_gt := lw_gt_of (List.mem_of_getElem? (i := 31) (by decide +kernel)) rfl
theorem qp_32 : (Cond.selects RX9 yX9_takes yX9_takes : Cond) ∈ lw_gt := lw_gt_of (List.mem_of_getElem? (i := 32) (by decide +kernel)) rfl
theorem qp_33 : (Cond.selects RX9 yX9_makes yX9_makes : Cond) ∈ lw_gt := lw_gt_of (List.mem_of_getElem? (i := 33) (by decide +kernel)) rfl
theorem qp_34 : (Cond.selects RX9 yX9_edges yX9_edges : Cond) ∈ lw_gt := lw_gt_of (List.mem_of_getElem? (i := 34) (by decide +kernel)) rfl
theorem qp_35 : (Cond.selects RX9 yX9_folds yX9_folds : Cond) ∈ lw_gt := lw_gt_of (List.mem_of_getElem? (i := 35) (by decide +kernel)) rfl
theorem qp_36 : (Cond.selects RX9 yX9_foldedEnds yX9_foldedEnds : Cond) ∈ lw_gt := lw_gt_of (List.mem_of_getElem? (i := 36) (by decide +kernel)) rfl
theorem qp_37 : (Cond.selects RX9 yX9_stays yX9_stays : Cond) ∈ lw_gt := lw_gt_of (List.mem_of_getElem? (i := 37) (by decide +kernel)) rfl
theorem qp_38 : (Cond.selects RX9 yX9_gain yX9_gain : Cond) ∈ lw_gt := lw_gt_of (List.mem_of_getElem? (i := 38) (by decide +kernel)) rfl
set_option maxRecDepth 100000 in
theorem iX0 : ∀ w ∈ u_ws RX0 TX0 4, w ∈ lw_gt := by decide +kernel
set_option maxRecDepth 100000 in
theorem iX1 : ∀ w ∈ u_ws RX1 TX1 5, w ∈ lw_gt := by decide +kernel
set_option maxRecDepth 100000 in
theorem iX2 : ∀ w ∈ u_ws RX2 TX2 5, w ∈ lw_gt := by decide +kernel
set_option maxRecDepth 100000 in
theorem iX4 : ∀ w ∈ u_ws RX4 TX4 17, w ∈ lw_gt := by decide +kernel
set_option maxRecDepth 100000 in
theorem iX6 : ∀ w ∈ u_ws RX6 TX6 7, w ∈ lw_gt := by decide +kernel
set_option maxRecDepth 100000 in
theorem iX7 : ∀ w ∈ u_ws RX7 TX7 5, w ∈ lw_gt := by decide +kernel
set_option maxRecDepth 100000 in
theorem iX8 : ∀ w ∈ u_ws RX8 TX8 12, w ∈ lw_gt := by decide +kernel
set_option maxRecDepth 100000 in
theorem iX9 : ∀ w ∈ u_ws RX9 TX9 49, w ∈ lw_gt := by decide +kernel
abbrev classes : List vw_C := [(RX0, TX0, 4), (RX1, TX1, 5), (RX2, TX2, 5), (RX4, TX4, 17), (RX6, TX6, 7), (RX7, TX7, 5), (RX8, TX8, 12), (RX9, TX9, 49)]
end
section
/-! my own layer over the kit: object states as one function, contracts with a continuation, calls with a world cut out -/
def zrp (S : Nat → Nat → Int32) (k : Nat) (f : Nat → Int32) : Nat → Nat → Int32 := fun a => if a = k then f else S a
abbrev zst (S : Nat → Nat → Int32) (k i : Nat) (v : Int32) : Nat → Nat → Int32 := zrp S k (upd (S k) i v)
/-- a value that a boolean may be -/
def isB (v : Int32) : Prop := v = 0 ∨ v = 1
theorem isB_0 : isB 0 := Or.inl rfl
theorem isB_1 : isB 1 := Or.inr rfl
theorem isB.nar {v : Int32} (h : isB v) : narrow .boolean (.int v) = .int v := by rcases h with rfl | rfl <;> rfl
theorem isB.fit {v : Int32} (h : isB v) : fits .boolean (.int v) = true := by rcases h with rfl | rfl <;> rfl
/-- a loop's rounds -/
def fx {α : Type} (F : (α → Prop) → α → Prop) : Nat → α → Prop
  | 0, _ => False
  | n + 1, a => F (fx F n) a
theorem fx_all {α : Type} {F : (α → Prop) → α → Prop} (I : α → Prop) (μ : α → Nat) (h : ∀ (X : α → Prop) a, I a → (∀ b, I b → μ b < μ a → X b) → F X a) : ∀ a, I a → ∃ n, fx F n a := by
  have key : ∀ n a, I a → μ a < n → fx F n a := by
    intro n
    induction n with
    | zero => intro a _ h; exact absurd h (Nat.not_lt_zero _)
    | succ n ih => intro a ha hn; exact h (fx F n) a ha (fun b hb hlt => ih b hb (by omega))
  exact fun a ha => ⟨μ a + 1, key _ a ha (by omega)⟩
abbrev ztys (cI cZ cN : ClassId) : List (ClassId × FieldType) := [(cI, .int), (cZ, .boolean), (cN, .object "FlowConstants$Now")]
abbrev ZG : Type := va_G × ClassId × ClassId × ClassId
abbrev zK (G : ZG) (U : State) : Prop := va_K G.1 classes (ztys G.2.1 G.2.2.1 G.2.2.2) U
def zPc (G : ZG) (av : List Value) (w0 : va_W) (sz : Nat) : Array Value → State → Prop := va_Pc av (fun U => U.heap.size = sz ∧ va_P G.1 classes w0 U.heap ∧ zK G U ∧ va_D (fun _ => True) w0)
def zB (G : ZG) (A : Nat → Prop) {S : Type} (w1 : S → va_W) : S → State → Prop := fun u t => va_P G.1 classes (w1 u) t.heap ∧ zK G t ∧ va_D A (w1 u)
/-- the contract of a method that answers an int (a boolean) -/
def Ki (l : Launch) (G : ZG) (y : MethodName) (b : ByteArray) (n : Nat) (ty : FieldType) (rm : Room) (av : List Value) (w0 : va_W) {S : Type} (w1 : S → va_W) (post : Int32 → S → Prop) : Prop :=
  ∀ sz, Met l y (wc y b n (some ty)) rm (zPc G av w0 sz) (va_Qi post (zB G (va_A w0 sz) w1) (va_A w0 sz)) 0 0 (va_A w0 sz)
def Kv (l : Launch) (G : ZG) (y : MethodName) (b : ByteArray) (n : Nat) (rm : Room) (av : List Value) (w0 : va_W) {S : Type} (w1 : S → va_W) (post : S → Prop) : Prop :=
  ∀ sz, Met l y (wc y b n none) rm (zPc G av w0 sz) (va_Qv post (zB G (va_A w0 sz) w1) (va_A w0 sz)) 0 0 (va_A w0 sz)
/-- what stands in a method's body -/
def zC (p : Program) (s : State) (m : MethodId) (args : Array Value) (c : Code) (b : ByteArray) (n : Nat) (G : ZG) (A : Nat → Prop) (own : String) : Prop :=
  p.tables.exec = Jvm.exec ∧ c.code = b ∧ c.maxLocals = n ∧ s.vm.findClass own = some m.cls ∧ (∀ w ∈ lw_gt, w.before args s = true) ∧ zK G s ∧ (∀ q, s.heap.size ≤ q → A q)
def zRet (p : Program) (l : Launch) (e : Env) (R : Room) (s : State) (m : MethodId) (args : Array Value) (below : List Frame) (meth : Method) (c : Code) (QQ : State → Prop) (b : ByteArray) (ty : FieldType) (G : ZG) (A : Nat → Prop) {S : Type} (w1 : S → va_W) (post : Int32 → S → Prop) : Prop :=
  ∀ (H : Heap) (locs : List Loc) (v : Int32) (u : S) (pc : Nat) (ls : Array Slot), post v u → narrow ty (.int v) = .int v → va_P G.1 classes (w1 u) H → va_D A (w1 u) → va_S A s.heap H locs → decode b pc = .ok (.ireturn, 1) → W p l e R s m args below meth c H locs 0 0 QQ (F0 m pc ls [.int v])
def zRev (p : Program) (l : Launch) (e : Env) (R : Room) (s : State) (m : MethodId) (args : Array Value) (below : List Frame) (meth : Method) (c : Code) (QQ : State → Prop) (b : ByteArray) (G : ZG) (A : Nat → Prop) {S : Type} (w1 : S → va_W) (post : S → Prop) : Prop :=
  ∀ (H : Heap) (locs : List Loc) (u : S) (pc : Nat) (ls : Array Slot), post u → va_P G.1 classes (w1 u) H → va_D A (w1 u) → va_S A s.heap H locs → decode b pc = .ok (.return_, 1) → W p l e R s m args below meth c H locs 0 0 QQ (F0 m pc ls [])
theorem Ki.of {l : Launch} {G : ZG} {y : MethodName} {b : ByteArray} {n : Nat} {ty : FieldType} {rm : Room} {av : List Value} {w0 : va_W} {S : Type} {w1 : S → va_W} {post : Int32 → S → Prop} (hy : plainName y.cls = true) (hn : (lg_sl av).length ≤ n)
    (body : ∀ (p : Program) (e : Env) (s : State) (m : MethodId) (args : Array Value) (below : List Frame) (meth : Method) (c : Code) (A : Nat → Prop) (QQ : State → Prop) (ls : Array Slot), zC p s m args c b n G A y.cls → zRet p l e rm s m args below meth c QQ b ty G A w1 post → lv_has ls n (lv_args 0 av) → va_P G.1 classes w0 s.heap → va_D A w0 → va_S A s.heap s.heap [] →
      W p l e rm s m args below meth c s.heap [] 0 0 QQ (F0 m 0 ls [])) : Ki l G y b n ty rm av w0 w1 post := by
  intro sz
  refine Met.ofW (cc := b) (maxL := n) (ret := some ty) hy rfl ?_
  intro p e s m args below meth c s₁ B hml hv
  obtain ⟨rfl, hsz, hP, hK, hD0⟩ := hv
  have hts := atoms_spec (ws := wc y b n (some ty)) B.pre
  have hown : s.vm.findClass y.cls = some m.cls := findClass_of_methodNamed B.named
  have hlocks := B.notSynchronized
  have hr := B.returns
  subst hsz
  have hD := hD0.self (sz := s.heap.size)
  generalize hAe : va_A w0 s.heap.size = A at hD ⊢
  have hA : ∀ q : Nat, s.heap.size ≤ q → A q := fun q h => by rw [← hAe]; exact Or.inr h
  have hl := lv_entry av (n := n) hn
  rw [lg_entry_eq]
  generalize (lg_sl av ++ List.replicate (n - (lg_sl av).length) Slot.unset).toArray = ls at hl ⊢
  refine body p e s m _ below meth c A _ ls ⟨B.exec, B.bytes, hml, hown, fun w h => hts w (List.mem_cons_of_mem _ h), hK, hA⟩ ?_ hl hP hD va_S.rf
  intro H locs v u pc ls hp hnar hP hD hS hdg
  exact W.zret (v := v) B.exec B.bytes hr hnar (fun t ht hW => ⟨⟨v, u, rfl, hp, by rw [ht]; exact hP, va_K.moved hW.alike hK, hD⟩, hS.F ht⟩) hS.2.2 hdg
theorem Kv.of {l : Launch} {G : ZG} {y : MethodName} {b : ByteArray} {n : Nat} {rm : Room} {av : List Value} {w0 : va_W} {S : Type} {w1 : S → va_W} {post : S → Prop} (hy : plainName y.cls = true) (hn : (lg_sl av).length ≤ n)
    (body : ∀ (p : Program) (e : Env) (s : State) (m : MethodId) (args : Array Value) (below : List Frame) (meth : Method) (c : Code) (A : Nat → Prop) (QQ : State → Prop) (ls : Array Slot), zC p s m args c b n G A y.cls → zRev p l e rm s m args below meth c QQ b G A w1 post → lv_has ls n (lv_args 0 av) → va_P G.1 classes w0 s.heap → va_D A w0 → va_S A s.heap s.heap [] →
      W p l e rm s m args below meth c s.heap [] 0 0 QQ (F0 m 0 ls [])) : Kv l G y b n rm av w0 w1 post := by
  intro sz
  refine Met.ofW (cc := b) (maxL := n) (ret := none) hy rfl ?_
  intro p e s m args below meth c s₁ B hml hv
  obtain ⟨rfl, hsz, hP, hK, hD0⟩ := hv
  have hts := atoms_spec (ws := wc y b n none) B.pre
  have hown : s.vm.findClass y.cls = some m.cls := findClass_of_methodNamed B.named
  have hlocks := B.notSynchronized
  have hr := B.returns
  subst hsz
  have hD := hD0.self (sz := s.heap.size)
  generalize hAe : va_A w0 s.heap.size = A at hD ⊢
  have hA : ∀ q : Nat, s.heap.size ≤ q → A q := fun q h => by rw [← hAe]; exact Or.inr h
  have hl := lv_entry av (n := n) hn
  rw [lg_entry_eq]
  generalize (lg_sl av ++ List.replicate (n - (lg_sl av).length) Slot.unset).toArray = ls at hl ⊢
  refine body p e s m _ below meth c A _ ls ⟨B.exec, B.bytes, hml, hown, fun w h => hts w (List.mem_cons_of_mem _ h), hK, hA⟩ ?_ hl hP hD va_S.rf
  intro H locs u pc ls hp hP hD hS hdg
  exact W.vret B.exec B.bytes hr (fun t ht hW => ⟨⟨u, rfl, hp, by rw [ht]; exact hP, va_K.moved hW.alike hK, hD⟩, hS.F ht⟩) hS.2.2 hdg
/-- a callee's world w0 cut out of the caller's: what comes back (w1) beside the rest is w2 -/
def zJ (G : ZG) (A : Nat → Prop) (w0 : va_W) {S : Type} (w1 w2 : S → va_W) (H : Heap) : Prop :=
  va_P G.1 classes w0 H ∧ va_D (fun _ => True) w0 ∧ (∀ q, va_A w0 H.size q → A q) ∧ ∀ (u : S) (H1 : Heap), (∀ q : Nat, q < H.size → ¬ va_A w0 H.size q → H1[q]? = H[q]?) → va_P G.1 classes (w1 u) H1 → va_D (va_A w0 H.size) (w1 u) → va_P G.1 classes (w2 u) H1 ∧ va_D A (w2 u)
theorem zJ.all {G : ZG} {A : Nat → Prop} {ws : va_W} {S : Type} {w1 : S → va_W} {H0 H : Heap} {locs : List Loc} (hP : va_P G.1 classes ws H) (hD : va_D A ws) (hS : va_S A H0 H locs) (hA : ∀ q, H0.size ≤ q → A q) : zJ G A ws w1 w1 H := by
  have hF : ∀ q, va_A ws H.size q → A q := fun q h => h.elim (fun ⟨k, e, h⟩ => hD.2 k _ h) (fun h => hA q (Nat.le_trans hS.1 h))
  exact ⟨hP, hD.weaken (fun _ _ _ _ => trivial), hF, fun u H1 _ hP1 hD1 => ⟨hP1, hD1.weaken (fun _ q _ h => hF q.1 h)⟩⟩
theorem zJ.none {G : ZG} {A : Nat → Prop} {ws : va_W} {S : Type} {H0 H : Heap} {locs : List Loc} (hP : va_P G.1 classes ws H) (hD : va_D A ws) (hS : va_S A H0 H locs) (hA : ∀ q, H0.size ≤ q → A q) : zJ G A [] (fun _ : S => []) (fun _ => ws) H := by
  refine ⟨fun k q h => by simp at h, ⟨fun i j p q h => by simp at h, fun k q h => by simp at h⟩, fun q h => h.elim (fun ⟨k, e, h⟩ => by simp at h) (fun h => hA q (Nat.le_trans hS.1 h)), fun u H1 hk _ _ => ⟨hP.kept (fun k q hq => ?_), hD⟩⟩
  have hl := (hP k q hq).lt
  exact hk q.1 hl (fun h => h.elim (fun ⟨k, e, h⟩ => by simp at h) (fun h => by omega))
theorem zJ.sub {G : ZG} {A : Nat → Prop} {ws w0 wr : va_W} {S : Type} {w1 w2 : S → va_W} {H0 H : Heap} {locs : List Loc} (hP : va_P G.1 classes ws H) (hD : va_D A ws) (hS : va_S A H0 H locs) (hA : ∀ q, H0.size ≤ q → A q) (isC isR pm : List Nat) (hC : isC.map (fun i => ws[i]?) = w0.map some) (hR : isR.map (fun i => ws[i]?) = wr.map some) (hn : (va_nd isC && va_nd isR && isR.all (fun i => !isC.contains i) && va_nd pm) = true) (hp : ∀ u, pm.map (fun i => (wr ++ w1 u)[i]?) = (w2 u).map some) : zJ G A w0 w1 w2 H := by
  simp only [Bool.and_eq_true] at hn
  obtain ⟨⟨⟨n1, n2⟩, n3⟩, n4⟩ := hn
  have hF := va_free (wc := w0) hD hS hA isC hC
  refine ⟨fun k q hk => ?_, (hD.sub isC n1 hC).weaken (fun _ _ _ _ => trivial), hF, fun u H1 hk hP1 hD1 => ?_⟩
  · have h1 : (isC.map (fun i => ws[i]?))[k]? = some (some q) := by rw [hC, List.getElem?_map, hk]; rfl
    rw [List.getElem?_map] at h1
    cases hi : isC[k]? with
    | none => rw [hi] at h1; cases h1
    | some i => rw [hi] at h1; exact hP i q (Option.some.inj h1)
  · obtain ⟨a, b⟩ := va_join (wr := wr) (w1 := w1 u) hP hD isC isR hC hR n2 (fun i hi hc => by
      have := List.all_eq_true.mp n3 i hi
      simp at this
      exact this hc) hk hF hP1 hD1
    refine ⟨fun k q hk => ?_, b.sub pm n4 (hp u)⟩
    have h1 : (pm.map (fun i => (wr ++ w1 u)[i]?))[k]? = some (some q) := by rw [hp u, List.getElem?_map, hk]; rfl
    rw [List.getElem?_map] at h1
    cases hi : pm[k]? with
    | none => rw [hi] at h1; cases h1
    | some i => rw [hi] at h1; exact a i q (Option.some.inj h1)
/-- what the tables say of a method -/
def zV (y : MethodName) (C : String) (b : ByteArray) (n : Nat) (r : Option FieldType) (k : Nat) : Prop := Cond.instanceMethod y ∈ lw_gt ∧ Cond.selects C y y ∈ lw_gt ∧ Cond.initialized C ∈ lw_gt ∧ Cond.code y b n r ∈ lw_gt ∧ (y.cls = C ∧ y.cls ≠ "java/lang/invoke/MethodHandle" ∧ y.cls ≠ "java/lang/invoke/VarHandle" ∧ (parseMethodDescriptor y.desc).map (fun d => d.parameters.length) = some k)
def zSt (y : MethodName) (b : ByteArray) (n : Nat) (r : Option FieldType) (k : Nat) : Prop := Cond.static y ∈ lw_gt ∧ Cond.initialized y.cls ∈ lw_gt ∧ Cond.code y b n r ∈ lw_gt ∧ (y.cls ≠ "java/lang/invoke/MethodHandle" ∧ y.cls ≠ "java/lang/invoke/VarHandle" ∧ (parseMethodDescriptor y.desc).map (fun d => d.parameters.length) = some k)
theorem zblind {G : ZG} {av : List Value} {w0 : va_W} {sz : Nat} : FrameBlind (zPc G av w0 sz) := fun a U g mk q => by
  obtain ⟨q0, q1, qP, qK, qD⟩ := q
  exact ⟨q0, q1, qP, va_K.moved (u := U) (U := U.calling g mk a) (Vm.Alike.refl U.vm) qK, qD⟩
section ZCALL
variable {p : Program} {l : Launch} {e : Env} {R : Room} {s : State} {m : MethodId} {args : Array Value} {below : List Frame} {meth : Method} {c : Code} {H : Heap} {locs : List Loc} {Q : State → Prop}
variable {cc : ByteArray} {nL : Nat} {G : ZG} {A : Nat → Prop} {own C : String} {y : MethodName} {b : ByteArray} {n k index pc : Nat} {ty : FieldType} {rm : Room} {a : Nat} {As rest st0 : List Value} {w0 : va_W} {S : Type} {w1 w2 : S → va_W} {ls : Array Slot}
theorem zcVi {post : Int32 → S → Prop} (Cx : zC p s m args c cc nL G A own) (hM : Ki l G y b n ty rm (.ref a :: As) w0 w1 post) (hV : zV y C b n (some ty) k) (hL : Cond.methodLink own index y ∈ lw_gt) (hr : (rm.cells = 0 ∧ rm.slots = 0) ∧ rm.frames + 1 ≤ R.frames ∧ 8 + (n + 11) + rm.locals ≤ R.locals) (J : zJ G A w0 w1 w2 H) (hS : va_S A s.heap H locs) (ci : Nat) {q : vw_C} {fs : List Value} (hc : classes[ci]? = some q) (hq : q.1 = C) (he : w0[0]? = some (a, .inr (ci, fs))) (hn : As.length = k) (hsz : ls.size = nL) (hst : st0 = As.reverse ++ .ref a :: rest) (hroom : (rest.map fun v => v.category).sum ≤ 8) (hdg : decode cc pc = .ok (.invokevirtual index, 3))
    (kk : ∀ (r : Int32) (u : S) (H1 : Heap) (locs1 : List Loc), post r u → va_P G.1 classes (w2 u) H1 → va_D A (w2 u) → va_S A s.heap H1 locs1 → W p l e R s m args below meth c H1 locs1 0 0 Q (F0 m (pc + 3) ls (.int r :: rest))) : W p l e R s m args below meth c H locs 0 0 Q (F0 m pc ls st0) := by
  obtain ⟨hx, hb, hml, hown, hT, hK, hA⟩ := Cx
  obtain ⟨v1, v2, v3, v4, v5⟩ := hV
  obtain ⟨hPc, hDc, hF, hj⟩ := J
  subst hst
  refine va_calli (va_runV (As := As) (rest := rest) ⟨hx, hb, hml, hown, hT⟩ (hM H.size) (cwV k hT (gdV hL v1 v2 v3 v4) rfl hr.1.1 hr.1.2 v5 hr.2) ⟨zblind, ?_, fun U hU hW => ⟨rfl, by rw [hU], by rw [hU]; exact hPc, va_K.moved hW.alike hK, hDc⟩⟩ rfl hn hsz rfl (lv_room hroom) hdg ⟨Nat.zero_le _, Nat.zero_le _⟩) hS (fun q _ h => hF q h) hF (fun r u t H1 locs1 ht hvm hw hB hz1 hk1 hS1 => ?_)
  · obtain ⟨cell, g1, g2, g3⟩ := va_recv hK hPc hc he
    exact ⟨cell, g1, g2, by rw [← hq]; exact g3⟩
  · obtain ⟨hP1, hK1, hD1⟩ := hB
    rw [ht] at hP1
    obtain ⟨h1, h2⟩ := hj u H1 hk1 hP1 hD1
    exact kk r u H1 locs1 hw h1 h2 hS1
theorem zcVv {post : S → Prop} (Cx : zC p s m args c cc nL G A own) (hM : Kv l G y b n rm (.ref a :: As) w0 w1 post) (hV : zV y C b n none k) (hL : Cond.methodLink own index y ∈ lw_gt) (hr : (rm.cells = 0 ∧ rm.slots = 0) ∧ rm.frames + 1 ≤ R.frames ∧ 8 + (n + 11) + rm.locals ≤ R.locals) (J : zJ G A w0 w1 w2 H) (hS : va_S A s.heap H locs) (ci : Nat) {q : vw_C} {fs : List Value} (hc : classes[ci]? = some q) (hq : q.1 = C) (he : w0[0]? = some (a, .inr (ci, fs))) (hn : As.length = k) (hsz : ls.size = nL) (hst : st0 = As.reverse ++ .ref a :: rest) (hroom : (rest.map fun v => v.category).sum ≤ 8) (hdg : decode cc pc = .ok (.invokevirtual index, 3))
    (kk : ∀ (u : S) (H1 : Heap) (locs1 : List Loc), post u → va_P G.1 classes (w2 u) H1 → va_D A (w2 u) → va_S A s.heap H1 locs1 → W p l e R s m args below meth c H1 locs1 0 0 Q (F0 m (pc + 3) ls rest)) : W p l e R s m args below meth c H locs 0 0 Q (F0 m pc ls st0) := by
  obtain ⟨hx, hb, hml, hown, hT, hK, hA⟩ := Cx
  obtain ⟨v1, v2, v3, v4, v5⟩ := hV
  obtain ⟨hPc, hDc, hF, hj⟩ := J
  subst hst
  refine va_callv (va_runV (As := As) (rest := rest) ⟨hx, hb, hml, hown, hT⟩ (hM H.size) (cwV k hT (gdV hL v1 v2 v3 v4) rfl hr.1.1 hr.1.2 v5 hr.2) ⟨zblind, ?_, fun U hU hW => ⟨rfl, by rw [hU], by rw [hU]; exact hPc, va_K.moved hW.alike hK, hDc⟩⟩ rfl hn hsz rfl (lv_room hroom) hdg ⟨Nat.zero_le _, Nat.zero_le _⟩) hS (fun q _ h => hF q h) hF (fun u t H1 locs1 ht hvm hw hB hz1 hk1 hS1 => ?_)
  · obtain ⟨cell, g1, g2, g3⟩ := va_recv hK hPc hc he
    exact ⟨cell, g1, g2, by rw [← hq]; exact g3⟩
  · obtain ⟨hP1, hK1, hD1⟩ := hB
    rw [ht] at hP1
    obtain ⟨h1, h2⟩ := hj u H1 hk1 hP1 hD1
    exact kk u H1 locs1 hw h1 h2 hS1
theorem zcSi {post : Int32 → S → Prop} (Cx : zC p s m args c cc nL G A own) (hM : Ki l G y b n ty rm As w0 w1 post) (hV : zSt y b n (some ty) k) (hL : Cond.methodLink own index y ∈ lw_gt) (hr : (rm.cells = 0 ∧ rm.slots = 0) ∧ rm.frames + 1 ≤ R.frames ∧ 8 + (n + 11) + rm.locals ≤ R.locals) (J : zJ G A w0 w1 w2 H) (hS : va_S A s.heap H locs) (hn : As.length = k) (hsz : ls.size = nL) (hst : st0 = As.reverse ++ rest) (hroom : (rest.map fun v => v.category).sum ≤ 8) (hdg : decode cc pc = .ok (.invokestatic index, 3))
    (kk : ∀ (r : Int32) (u : S) (H1 : Heap) (locs1 : List Loc), post r u → va_P G.1 classes (w2 u) H1 → va_D A (w2 u) → va_S A s.heap H1 locs1 → W p l e R s m args below meth c H1 locs1 0 0 Q (F0 m (pc + 3) ls (.int r :: rest))) : W p l e R s m args below meth c H locs 0 0 Q (F0 m pc ls st0) := by
  obtain ⟨hx, hb, hml, hown, hT, hK, hA⟩ := Cx
  obtain ⟨v1, v3, v4, v5⟩ := hV
  obtain ⟨hPc, hDc, hF, hj⟩ := J
  subst hst
  refine va_calli (va_runS (As := As) (rest := rest) ⟨hx, hb, hml, hown, hT⟩ (hM H.size) (va_cwS k hT (gdS hL v1 v3 v4) rfl hr.1.1 hr.1.2 v5 hr.2) ⟨zblind, fun U hU hW => ⟨rfl, by rw [hU], by rw [hU]; exact hPc, va_K.moved hW.alike hK, hDc⟩⟩ rfl hn hsz rfl (lv_room hroom) hdg ⟨Nat.zero_le _, Nat.zero_le _⟩) hS (fun q _ h => hF q h) hF (fun r u t H1 locs1 ht hvm hw hB hz1 hk1 hS1 => ?_)
  obtain ⟨hP1, hK1, hD1⟩ := hB
  rw [ht] at hP1
  obtain ⟨h1, h2⟩ := hj u H1 hk1 hP1 hD1
  exact kk r u H1 locs1 hw h1 h2 hS1
theorem zcSv {post : S → Prop} (Cx : zC p s m args c cc nL G A own) (hM : Kv l G y b n rm As w0 w1 post) (hV : zSt y b n none k) (hL : Cond.methodLink own index y ∈ lw_gt) (hr : (rm.cells = 0 ∧ rm.slots = 0) ∧ rm.frames + 1 ≤ R.frames ∧ 8 + (n + 11) + rm.locals ≤ R.locals) (J : zJ G A w0 w1 w2 H) (hS : va_S A s.heap H locs) (hn : As.length = k) (hsz : ls.size = nL) (hst : st0 = As.reverse ++ rest) (hroom : (rest.map fun v => v.category).sum ≤ 8) (hdg : decode cc pc = .ok (.invokestatic index, 3))
    (kk : ∀ (u : S) (H1 : Heap) (locs1 : List Loc), post u → va_P G.1 classes (w2 u) H1 → va_D A (w2 u) → va_S A s.heap H1 locs1 → W p l e R s m args below meth c H1 locs1 0 0 Q (F0 m (pc + 3) ls rest)) : W p l e R s m args below meth c H locs 0 0 Q (F0 m pc ls st0) := by
  obtain ⟨hx, hb, hml, hown, hT, hK, hA⟩ := Cx
  obtain ⟨v1, v3, v4, v5⟩ := hV
  obtain ⟨hPc, hDc, hF, hj⟩ := J
  subst hst
  refine va_callv (va_runS (As := As) (rest := rest) ⟨hx, hb, hml, hown, hT⟩ (hM H.size) (va_cwS k hT (gdS hL v1 v3 v4) rfl hr.1.1 hr.1.2 v5 hr.2) ⟨zblind, fun U hU hW => ⟨rfl, by rw [hU], by rw [hU]; exact hPc, va_K.moved hW.alike hK, hDc⟩⟩ rfl hn hsz rfl (lv_room hroom) hdg ⟨Nat.zero_le _, Nat.zero_le _⟩) hS (fun q _ h => hF q h) hF (fun u t H1 locs1 ht hvm hw hB hz1 hk1 hS1 => ?_)
  obtain ⟨hP1, hK1, hD1⟩ := hB
  rw [ht] at hP1
  obtain ⟨h1, h2⟩ := hj u H1 hk1 hP1 hD1
  exact kk u H1 locs1 hw h1 h2 hS1
end ZCALL
end
section
/-! the worlds of the objects; stores that name the new state -/
abbrev ZR : Type := Nat → Int32
abbrev ZS : Type := Nat → Nat → Int32
def wX0 (G : ZG) (h : Nat) (d : Nat → Nat) (S : ZS) : va_W := [(h, .inr (0, [.ref (d 0), .ref (d 1), .ref (d 2), .ref (d 3)])), (d 0, .inl (G.2.1, 24, .inl (S 0))), (d 1, .inl (G.2.1, 24, .inl (S 1))), (d 2, .inl (G.2.1, 8, .inl (S 2))), (d 3, .inl (G.2.1, 16, .inl (S 3)))]
def wX1 (G : ZG) (h : Nat) (d : Nat → Nat) (S : ZS) : va_W := [(h, .inr (1, [.int (S 0 0), .ref (d 1), .ref (d 2), .ref (d 3), .ref (d 4)])), (d 1, .inl (G.2.1, 10, .inl (S 1))), (d 2, .inl (G.2.1, 10, .inl (S 2))), (d 3, .inl (G.2.1, 10, .inl (S 3))), (d 4, .inl (G.2.1, 10, .inl (S 4)))]
def wX2 (G : ZG) (h : Nat) (d : Nat → Nat) (S : ZS) : va_W := [(h, .inr (2, [.ref (d 0), .ref (d 1), .ref (d 2), .ref (d 3), .ref (d 4)])), (d 0, .inl (G.2.1, 24, .inl (S 0))), (d 1, .inl (G.2.1, 24, .inl (S 1))), (d 2, .inl (G.2.1, 24, .inl (S 2))), (d 3, .inl (G.2.1, 24, .inl (S 3))), (d 4, .inl (G.2.1, 16, .inl (S 4)))]
def wX4 (G : ZG) (h : Nat) (d : Nat → Nat) (S : ZS) : va_W := [(h, .inr (3, [.int (S 0 0), .int (S 1 0), .ref (d 2), .ref (d 3), .ref (d 4), .ref (d 5), .ref (d 6), .ref (d 7), .ref (d 8), .ref (d 9), .ref (d 10), .ref (d 11), .ref (d 12), .ref (d 13), .ref (d 14), .ref (d 15), .ref (d 16)])), (d 2, .inl (G.2.1, 24, .inl (S 2))), (d 3, .inl (G.2.1, 24, .inl (S 3))), (d 4, .inl (G.2.1, 24, .inl (S 4))), (d 5, .inl (G.2.1, 24, .inl (S 5))), (d 6, .inl (G.2.1, 24, .inl (S 6))), (d 7, .inl (G.2.1, 24, .inl (S 7))), (d 8, .inl (G.2.1, 24, .inl (S 8))), (d 9, .inl (G.2.1, 72, .inl (S 9))), (d 10, .inl (G.2.1, 72, .inl (S 10))), (d 11, .inl (G.2.1, 8, .inl (S 11))), (d 12, .inl (G.2.1, 8, .inl (S 12))), (d 13, .inl (G.2.1, 8, .inl (S 13))), (d 14, .inl (G.2.1, 8, .inl (S 14))), (d 15, .inl (G.2.1, 16, .inl (S 15))), (d 16, .inl (G.2.1, 8, .inl (S 16)))]
def wX6 (G : ZG) (h : Nat) (d : Nat → Nat) (S : ZS) : va_W := [(h, .inr (4, [.ref (d 0), .int (S 1 0), .int (S 2 0), .int (S 3 0), .int (S 4 0), .int (S 5 0), .int (S 6 0)])), (d 0, .inl (G.2.1, 150, .inl (S 0)))]
def wX7 (G : ZG) (h : Nat) (d : Nat → Nat) (S : ZS) : va_W := [(h, .inr (5, [.int (S 0 0), .int (S 1 0), .ref (d 2), .ref (d 3), .ref (d 4)])), (d 2, .inl (G.2.1, 24, .inl (S 2))), (d 3, .inl (G.2.1, 24, .inl (S 3))), (d 4, .inl (G.2.1, 8, .inl (S 4)))]
def wX8 (G : ZG) (h : Nat) (d : Nat → Nat) (i0 i1 : Nat) (S : ZS) : va_W := [(h, .inr (6, [.ref (d 0), .ref (d 1), .ref (d 2), .ref (d 3), .ref (d 4), .ref (d 5), .ref (d 6), .ref (d 7), .ref (d 8), .ref (d 9), .ref (d 10), .int (S 11 0)])), (d 9, .inl (G.2.2.2, 2, .inr (.inr (.inr (.inr (fun k => if k = 0 then some i0 else some i1)))))), (d 10, .inl (G.2.1, 2, .inl (S 10)))]
def wX9 (G : ZG) (h : Nat) (d : Nat → Nat) (S : ZS) : va_W := [(h, .inr (7, [.ref (d 0), .int (S 1 0), .int (S 2 0), .int (S 3 0), .ref (d 4), .ref (d 5), .ref (d 6), .ref (d 7), .ref (d 8), .ref (d 9), .ref (d 10), .ref (d 11), .ref (d 12), .ref (d 13), .ref (d 14), .ref (d 15), .ref (d 16), .ref (d 17), .int (S 18 0), .ref (d 19), .ref (d 20), .int (S 21 0), .int (S 22 0), .int (S 23 0), .int (S 24 0), .int (S 25 0), .int (S 26 0), .ref (d 27), .ref (d 28), .ref (d 29), .ref (d 30), .ref (d 31), .ref (d 32), .ref (d 33), .ref (d 34), .ref (d 35), .ref (d 36), .ref (d 37), .ref (d 38), .ref (d 39), .ref (d 40), .ref (d 41), .ref (d 42), .ref (d 43), .int (S 44 0), .ref (d 45), .ref (d 46), .ref (d 47), .int (S 48 0)])), (d 0, .inl (G.2.1, 150, .inl (S 0))), (d 4, .inl (G.2.1, 24, .inl (S 4))), (d 5, .inl (G.2.1, 24, .inl (S 5))), (d 6, .inl (G.2.1, 24, .inl (S 6))), (d 7, .inl (G.2.1, 24, .inl (S 7))), (d 8, .inl (G.2.1, 24, .inl (S 8))), (d 9, .inl (G.2.1, 24, .inl (S 9))), (d 10, .inl (G.2.1, 72, .inl (S 10))), (d 11, .inl (G.2.1, 72, .inl (S 11))), (d 12, .inl (G.2.1, 9, .inl (S 12))), (d 13, .inl (G.2.1, 8, .inl (S 13))), (d 14, .inl (G.2.1, 8, .inl (S 14))), (d 15, .inl (G.2.1, 8, .inl (S 15))), (d 16, .inl (G.2.1, 112, .inl (S 16))), (d 17, .inl (G.2.1, 1120, .inl (S 17))), (d 19, .inl (G.2.1, 224, .inl (S 19))), (d 20, .inl (G.2.2.1, 2, .inl (S 20))), (d 27, .inl (G.2.1, 24, .inl (S 27))), (d 28, .inl (G.2.1, 24, .inl (S 28))), (d 29, .inl (G.2.1, 24, .inl (S 29))), (d 30, .inl (G.2.1, 24, .inl (S 30))), (d 31, .inl (G.2.1, 24, .inl (S 31))), (d 32, .inl (G.2.1, 24, .inl (S 32))), (d 33, .inl (G.2.1, 72, .inl (S 33))), (d 34, .inl (G.2.1, 72, .inl (S 34))), (d 35, .inl (G.2.1, 9, .inl (S 35))), (d 36, .inl (G.2.1, 8, .inl (S 36))), (d 37, .inl (G.2.1, 8, .inl (S 37))), (d 38, .inl (G.2.1, 112, .inl (S 38))), (d 39, .inl (G.2.1, 8, .inl (S 39))), (d 40, .inl (G.2.1, 24, .inl (S 40))), (d 41, .inl (G.2.1, 24, .inl (S 41))), (d 42, .inl (G.2.2.1, 8, .inl (S 42))), (d 43, .inl (G.2.1, 24, .inl (S 43))), (d 45, .inl (G.2.1, 24, .inl (S 45))), (d 46, .inl (G.2.1, 24, .inl (S 46))), (d 47, .inl (G.2.1, 8, .inl (S 47)))]
theorem q_nat : (Cond.native arraycopyName : Cond) ∈ lw_gt := q_472
theorem q_arrst : (Cond.static arraycopyName : Cond) ∈ lw_gt := q_471
theorem q_sysini : (Cond.initialized "java/lang/System" : Cond) ∈ lw_gt := q_12
theorem z_in {i : Int32} {n : Nat} (h : (decide (i < 0) || Nat.ble n i.toNatClampNeg) = false) : vp_in i n := by
  simp only [Bool.or_eq_false_iff, decide_eq_false_iff_not] at h
  rintro (h1 | h1)
  · exact h.1 h1
  · exact absurd (Nat.ble_eq.mpr h1) (by rw [h.2]; decide)
section ZST
variable {p : Program} {l : Launch} {e : Env} {R : Room} {s : State} {m : MethodId} {args : Array Value} {below : List Frame} {meth : Method} {c : Code} {H : Heap} {locs : List Loc} {cells slots : Nat} {Q : State → Prop} {cc : ByteArray} {pc : Nat} {ls : Array Slot} {rest : List Value} {D : va_G} {cl : List vw_C} {A : Nat → Prop} {a : Nat} {tys : List (ClassId × FieldType)} {ws : va_W} {H0 : Heap}
theorem z_put (hexec : p.tables.exec = Jvm.exec) (hb : c.code = cc) {own ref C : String} {T : u_T} {N ci index : Nat} {Ts : List Cond} (hts : ∀ w ∈ Ts, w.before args s = true) (hin : ∀ w ∈ u_ws C T N, w ∈ Ts) (ty0 : Nat → FieldType) (hty : ∀ k, k < N → parseFieldDescriptor (T k).2.2.1 = some (ty0 k)) (hnm : ∀ a, a < N → ∀ b, b < N → a ≠ b → (T a).2.1 ≠ (T b).2.1) (hown : s.vm.findClass own = some m.cls) (hK : va_K D cl tys s) (hP : va_P D cl ws H) (hD : va_D A ws) (hS0 : va_S A H0 H locs) (q0 : Nat) {fs : List Value} (he : ws[q0]? = some (a, .inr (ci, fs))) (hc : cl[ci]? = some (C, T, N)) (k : Nat) (hk : k < N) (hlink : (Cond.fieldLink own index ref (T k).2.1 (T k).2.2.1).before args s = true) (hsame : ∀ x, s.fieldFound? (T k).1 (T k).2.1 (T k).2.2.1 = some x → s.fieldFound? ref (T k).2.1 (T k).2.2.1 = some x) (hfin : (T k).2.2.2 = false) {ty : FieldType} {v : Value} (hd : parseFieldDescriptor (T k).2.2.1 = some ty) (hn : narrow ty v = v) (hfit : fits ty v = true) (hl : k < fs.length)
    (hdg : decode cc pc = .ok (.putfield index, 3)) {α : Type} (x : α) (mk : α → va_W) (hmk : ws.set q0 (a, .inr (ci, fs.set k v)) = mk x)
    (kk : ∀ (y : α) (H1 : Heap) (locs1 : List Loc), y = x → va_P D cl (mk y) H1 → va_D A (mk y) → va_S A H0 H1 locs1 → W p l e R s m args below meth c H1 locs1 cells slots Q (F0 m (pc + 3) ls rest)) : W p l e R s m args below meth c H locs cells slots Q (F0 m pc ls (v :: .ref a :: rest)) :=
  va_put hexec hb hts hin ty0 hty hnm hown hK hP hD hS0 q0 he hc k hk hlink hsame hfin hd hn hfit hl hdg (fun H1 locs1 h1 h2 h3 => kk x H1 locs1 rfl (hmk ▸ h1) (hmk ▸ h2) h3)
theorem z_iast (hexec : p.tables.exec = Jvm.exec) (hb : c.code = cc) (hK : va_K D cl tys s) (hP : va_P D cl ws H) (hD : va_D A ws) (hS : va_S A H0 H locs) (q0 t0 : Nat) {cA : ClassId} {n : Nat} {f : Nat → Int32} (ha : ws[q0]? = some (a, .inl (cA, n, .inl f))) (ht : tys[t0]? = some (cA, .int)) {i : Int32} {x : Int32} (hin : vp_in i n) (hdg : decode cc pc = .ok (.iastore, 1)) {α : Type} (z : α) (mk : α → va_W) (hmk : ws.set q0 (a, .inl (cA, n, .inl (upd f i.toNatClampNeg x))) = mk z)
    (kk : ∀ (y : α) (H1 : Heap) (locs1 : List Loc), y = z → va_P D cl (mk y) H1 → va_D A (mk y) → va_S A H0 H1 locs1 → W p l e R s m args below meth c H1 locs1 cells slots Q (F0 m (pc + 1) ls rest)) : W p l e R s m args below meth c H locs cells slots Q (F0 m pc ls (.int x :: .int i :: .ref a :: rest)) :=
  va_iast hexec hb hK hP hD hS q0 t0 ha ht hin hdg (fun H1 locs1 h1 h2 h3 => kk z H1 locs1 rfl (hmk ▸ h1) (hmk ▸ h2) h3)
theorem z_zast (hexec : p.tables.exec = Jvm.exec) (hb : c.code = cc) (hK : va_K D cl tys s) (hP : va_P D cl ws H) (hD : va_D A ws) (hS : va_S A H0 H locs) (q0 t0 : Nat) {cA : ClassId} {n : Nat} {f : Nat → Int32} (ha : ws[q0]? = some (a, .inl (cA, n, .inl f))) (ht : tys[t0]? = some (cA, .boolean)) {i : Int32} {x : Int32} (hin : vp_in i n) (hdg : decode cc pc = .ok (.bastore, 1)) {α : Type} (z : α) (mk : α → va_W) (hmk : ws.set q0 (a, .inl (cA, n, .inl (upd f i.toNatClampNeg (vp_nar .boolean x)))) = mk z)
    (kk : ∀ (y : α) (H1 : Heap) (locs1 : List Loc), y = z → va_P D cl (mk y) H1 → va_D A (mk y) → va_S A H0 H1 locs1 → W p l e R s m args below meth c H1 locs1 cells slots Q (F0 m (pc + 1) ls rest)) : W p l e R s m args below meth c H locs cells slots Q (F0 m pc ls (.int x :: .int i :: .ref a :: rest)) :=
  va_zast hexec hb hK hP hD hS q0 t0 ha ht hin hdg (fun H1 locs1 h1 h2 h3 => kk z H1 locs1 rfl (hmk ▸ h1) (hmk ▸ h2) h3)
theorem z_copy (hexec : p.tables.exec = Jvm.exec) (hb : c.code = cc) (hml : c.maxLocals = ls.size) {own : String} {index : Nat} (hown : s.vm.findClass own = some m.cls) (hlink : (Cond.methodLink own index arraycopyName).before args s = true) (hnat : (Cond.native arraycopyName).before args s = true) (hstat : (Cond.static arraycopyName).before args s = true) (hini : (Cond.initialized "java/lang/System").before args s = true)
    (hK : va_K D cl tys s) (hP : va_P D cl ws H) (hD : va_D A ws) (hS : va_S A H0 H locs) (q0 q1 t0 t1 : Nat) {a0 : Nat} {c0 c1 : ClassId} {n0 n1 : Nat} {f g : Nat → Int32} {ty : FieldType} (ha0 : ws[q0]? = some (a0, .inl (c0, n0, .inl f))) (ha1 : ws[q1]? = some (a, .inl (c1, n1, .inl g))) (ht0 : tys[t0]? = some (c0, ty)) (ht1 : tys[t1]? = some (c1, ty)) (hprim : refKind ty = false)
    {sp dp n : Int32} (h1 : ¬ sp < 0) (h2 : ¬ dp < 0) (h3 : ¬ n < 0) (h4 : sp.toNatClampNeg + n.toNatClampNeg ≤ n0) (h5 : dp.toNatClampNeg + n.toNatClampNeg ≤ n1) (hfit : ∀ i, i < n.toNatClampNeg → fits ty (.int (f (sp.toNatClampNeg + i))) = true)
    (hframes : 1 ≤ R.frames) (hlocals : (rest.map fun v => v.category).sum + (nativeFrameWords "java/lang/System" "arraycopy" 5 + 11) ≤ R.locals) (hdg : decode cc pc = .ok (.invokestatic index, 3)) {α : Type} (z : α) (mk : α → va_W) (hmk : ws.set q1 (a, .inl (c1, n1, .inl (va_cpy f g sp.toNatClampNeg dp.toNatClampNeg n.toNatClampNeg))) = mk z)
    (kk : ∀ (y : α) (H1 : Heap) (locs1 : List Loc), y = z → va_P D cl (mk y) H1 → va_D A (mk y) → va_S A H0 H1 locs1 → W p l e R s m args below meth c H1 locs1 cells slots Q (F0 m (pc + 3) ls rest)) : W p l e R s m args below meth c H locs cells slots Q (F0 m pc ls (.int n :: .int dp :: .ref a :: .int sp :: .ref a0 :: rest)) :=
  va_copyi hexec hb hml hown hlink hnat hstat hini hK hP hD hS q0 q1 t0 t1 ha0 ha1 ht0 ht1 hprim h1 h2 h3 h4 h5 hfit hframes hlocals hdg (fun H1 locs1 h1 h2 h3 => kk z H1 locs1 rfl (hmk ▸ h1) (hmk ▸ h2) h3)
end ZST
end
section
def G_X0_lift_64 (x1 : Int32) (x2 : Int32) (x3 : Int32) (Q : Int32 → ZS → Prop) (t1 : Int32) (t2 : Int32) (S0 : ZS) : Prop := vp_in t1 24 ∧ (∀ S0_1, S0_1 = zst S0 0 t1.toNatClampNeg t2 → vp_in x1 24 ∧ (∀ S0_2, S0_2 = zst S0_1 1 x1.toNatClampNeg x3 → Q 1 S0_2))
def G_X0_lift_49 (x1 : Int32) (x2 : Int32) (x3 : Int32) (Q : Int32 → ZS → Prop) (x4 : Int32) (S0 : ZS) : Prop := (((x4 = 0) → G_X0_lift_64 x1 x2 x3 Q x1 x2 S0) ∧ (¬ x4 = 0 → G_X0_lift_64 x1 x2 x3 Q x1 2 S0))
def G_X0_lift_30 (x1 : Int32) (x2 : Int32) (x3 : Int32) (Q : Int32 → ZS → Prop) (t0 : Int32) (S0 : ZS) : Prop := vp_in x1 24 ∧ (((((S0 0 x1.toNatClampNeg) < x2) → G_X0_lift_49 x1 x2 x3 Q t0 S0) ∧ (¬ (S0 0 x1.toNatClampNeg) < x2 → (((t0 = 0) → Q 0 S0) ∧ (¬ t0 = 0 → G_X0_lift_49 x1 x2 x3 Q t0 S0)))))
def G_X0_lift_29 (x1 : Int32) (x2 : Int32) (x3 : Int32) (Q : Int32 → ZS → Prop) (S0 : ZS) : Prop := G_X0_lift_30 x1 x2 x3 Q 0 S0
def g_X0_lift (x1 : Int32) (x2 : Int32) (x3 : Int32) (S0 : ZS) (Q : Int32 → ZS → Prop) : Prop := vp_in x1 24 ∧ (((((S0 0 x1.toNatClampNeg) = 1) → (((x2 = 1) → vp_in x1 24 ∧ (((((S0 1 x1.toNatClampNeg) = x3) → G_X0_lift_29 x1 x2 x3 Q S0) ∧ (¬ (S0 1 x1.toNatClampNeg) = x3 → G_X0_lift_30 x1 x2 x3 Q 1 S0)))) ∧ (¬ x2 = 1 → G_X0_lift_29 x1 x2 x3 Q S0))) ∧ (¬ (S0 0 x1.toNatClampNeg) = 1 → G_X0_lift_29 x1 x2 x3 Q S0)))
def rm_X0_lift : Room := { frames := 0, cells := 0, slots := 0, locals := 0 }
def g_X9_in (x0 : Int32) (x1 : Int32) (x2 : Int32) (Q : Int32 → Prop) : Prop := (((x0 < x1) → Q 0) ∧ (¬ x0 < x1 → (((x2 < x0) → Q 0) ∧ (¬ x2 < x0 → Q 1))))
def rm_X9_in : Room := { frames := 0, cells := 0, slots := 0, locals := 0 }
def G_X9_here_38 (Q : Int32 → ZS → Prop) (S0 : ZS) : Prop := ((((S0 1 0) ≤ (S0 22 0)) → Q (-1) S0) ∧ (¬ (S0 1 0) ≤ (S0 22 0) → vp_in (S0 22 0) 150 ∧ (Q (S0 0 (S0 22 0).toNatClampNeg) S0)))
def F_X9_here_0 (Q : Int32 → ZS → Prop) (X0 : ZS → Prop) : ZS → Prop := fun S0 => ((((S0 1 0) ≤ (S0 22 0)) → G_X9_here_38 Q S0) ∧ (¬ (S0 1 0) ≤ (S0 22 0) → vp_in (S0 22 0) 150 ∧ (((((S0 0 (S0 22 0).toNatClampNeg) = 32) → ∀ S0_3, S0_3 = zst S0 22 0 ((S0 22 0) + 1) → X0 (S0_3)) ∧ (¬ (S0 0 (S0 22 0).toNatClampNeg) = 32 → G_X9_here_38 Q S0)))))
def g_X9_here (S0 : ZS) (Q : Int32 → ZS → Prop) : Prop := ∃ n, fx (F_X9_here_0 Q) n (S0)
def rm_X9_here : Room := { frames := 0, cells := 0, slots := 0, locals := 0 }
def G_X9_numeral_126 (x1 : Int32) (Q : Int32 → ZS → Prop) (x2 : Int32) (x3 : Int32) (t1 : Int32) (S0 : ZS) : Prop := isB t1 ∧ (∀ S0_1, S0_1 = zst S0 23 0 t1 → ((((S0_1 23 0) = 0) → ∀ S0_3, S0_3 = zst S0_1 22 0 ((S0_1 22 0) + x2) → Q x3 S0_3) ∧ (¬ (S0_1 23 0) = 0 → ∀ S0_4, S0_4 = zst S0_1 22 0 ((S0_1 22 0) + 0) → Q x3 S0_4)))
def G_X9_numeral_121 (x1 : Int32) (Q : Int32 → ZS → Prop) (x2 : Int32) (x3 : Int32) (S0 : ZS) : Prop := G_X9_numeral_126 x1 Q x2 x3 1 S0
def G_X9_numeral_116 (x1 : Int32) (Q : Int32 → ZS → Prop) (x2 : Int32) (x3 : Int32) (S0 : ZS) : Prop := (((x3 ≤ x1) → G_X9_numeral_126 x1 Q x2 x3 0 S0) ∧ (¬ x3 ≤ x1 → G_X9_numeral_121 x1 Q x2 x3 S0))
def G_X9_numeral_87 (x1 : Int32) (Q : Int32 → ZS → Prop) (x2 : Int32) (x3 : Int32) (S0 : ZS) : Prop := g_X9_in x2 1 3 (fun r_1 => (((r_1 = 0) → G_X9_numeral_121 x1 Q x2 x3 S0) ∧ (¬ r_1 = 0 → (((x2 ≤ 1) → G_X9_numeral_116 x1 Q x2 x3 S0) ∧ (¬ x2 ≤ 1 → vp_in (S0 22 0) 150 ∧ (((((S0 0 (S0 22 0).toNatClampNeg) = 48) → G_X9_numeral_121 x1 Q x2 x3 S0) ∧ (¬ (S0 0 (S0 22 0).toNatClampNeg) = 48 → G_X9_numeral_116 x1 Q x2 x3 S0))))))))
def F_X9_numeral_18 (x1 : Int32) (Q : Int32 → ZS → Prop) (X18 : Int32 × Int32 × ZS → Prop) : Int32 × Int32 × ZS → Prop := fun (x2, x3, S0) => ((((S0 1 0) ≤ ((S0 22 0) + x2)) → G_X9_numeral_87 x1 Q x2 x3 S0) ∧ (¬ (S0 1 0) ≤ ((S0 22 0) + x2) → vp_in ((S0 22 0) + x2) 150 ∧ (g_X9_in (S0 0 ((S0 22 0) + x2).toNatClampNeg) 48 57 (fun r_2 => (((r_2 = 0) → G_X9_numeral_87 x1 Q x2 x3 S0) ∧ (¬ r_2 = 0 → (((4 ≤ x2) → ∀ x2_5, x2_5 = x2 + 1 → X18 (x2_5, x3, S0)) ∧ (¬ 4 ≤ x2 → vp_in ((S0 22 0) + x2) 150 ∧ (∀ x3_6, x3_6 = ((10 * x3) + (S0 0 ((S0 22 0) + x2).toNatClampNeg)) - 48 → ∀ x2_7, x2_7 = x2 + 1 → X18 (x2_7, x3_6, S0))))))))))
def g_X9_numeral (x1 : Int32) (S0 : ZS) (Q : Int32 → ZS → Prop) : Prop := ((((S0 23 0) = 0) → g_X9_here S0 (fun r_3 S0_2 => ∃ n, fx (F_X9_numeral_18 x1 Q) n (0, 0, S0_2))) ∧ (¬ (S0 23 0) = 0 → Q 0 S0))
def rm_X9_numeral : Room := { frames := 1, cells := 0, slots := 0, locals := 22 }
theorem zv_X0_lift : zV yX0_lift RX0 cX0_lift 5 (some .boolean) 3 := ⟨q_488, q_489, q_5, q_490, by decide +kernel⟩
set_option maxHeartbeats 4000000 in
set_option maxRecDepth 100000 in
theorem c_X0_lift (l : Launch) (G : ZG) (o0 : Nat) (d0 : Nat → Nat) (x1 : Int32) (x2 : Int32) (x3 : Int32) (S0 : ZS) (Q : Int32 → ZS → Prop) (hg : g_X0_lift x1 x2 x3 S0 Q) : Ki l G yX0_lift cX0_lift 5 .boolean rm_X0_lift [.ref o0, .int x1, .int x2, .int x3] (wX0 G o0 d0 S0) (fun u : ZS => wX0 G o0 d0 u) (fun r u => Q r u) := by
  refine Ki.of (by decide) (Nat.le_of_ble_eq_true rfl) ?_
  intro p e s m args below meth c A QQ ls Cx hret hl hP hD hS
  obtain ⟨hx, hb, hml, hown, hT, hK, hA⟩ := id Cx
  have hl : lv_has ls 5 [(0, .ref o0), (1, .int x1), (2, .int x2), (3, .int x3)] := hl
  have J64 : ∀ (t1 : Int32) (t2 : Int32) (S0 : ZS) (H : Heap) (locs : List Loc) (ls : Array Slot), G_X0_lift_64 x1 x2 x3 Q t1 t2 S0 → va_P G.1 classes (wX0 G o0 d0 S0) H → va_D A (wX0 G o0 d0 S0) → va_S A s.heap H locs → lv_has ls 5 [(0, .ref o0), (1, .int x1), (3, .int x3)] → W p l e rm_X0_lift s m args below meth c H locs 0 0 QQ (F0 m 64 ls [.int t2, .int t1, .ref (d0 0)]) := by
    intro t1 t2 S0 H locs ls hg hP hD hS hl
    refine z_iast hx hb hK hP hD hS 1 0 rfl rfl hg.1 dX0_lift_64 (zst S0 0 t1.toNatClampNeg t2) (fun S : ZS => wX0 G o0 d0 S) rfl (fun S0_1 H locs eS0_1 hP hD hS => ?_)
    have hg := hg.2 S0_1 eS0_1
    refine lv_aload_n hx hb dX0_lift_65 rfl (lv_at hl 0 rfl) ?_
    refine va_get (D := G.1) (ci := 0) (v := .ref (d0 1)) (C := RX0) (T := TX0) (N := 4) hx hb hT iX0 hown hK hP 0 rfl rfl 1 (by decide) (hT _ q_201) (fun _ h9 => h9) rfl dX0_lift_66 ?_
    refine lv_iload_n hx hb dX0_lift_69 rfl (lv_at hl 1 rfl) ?_
    refine lv_iload_n hx hb dX0_lift_70 rfl (lv_at hl 2 rfl) ?_
    refine z_iast hx hb hK hP hD hS 2 0 rfl rfl hg.1 dX0_lift_71 (zst S0_1 1 x1.toNatClampNeg x3) (fun S : ZS => wX0 G o0 d0 S) rfl (fun S0_2 H locs eS0_2 hP hD hS => ?_)
    have hg := hg.2 S0_2 eS0_2
    refine lv_iconst (v := 1) hx hb dX0_lift_72 (by decide) ?_
    exact hret _ _ _ (S0_2) _ _ hg rfl hP hD hS dX0_lift_73
  have J49 : ∀ (x4 : Int32) (S0 : ZS) (H : Heap) (locs : List Loc) (ls : Array Slot), G_X0_lift_49 x1 x2 x3 Q x4 S0 → va_P G.1 classes (wX0 G o0 d0 S0) H → va_D A (wX0 G o0 d0 S0) → va_S A s.heap H locs → lv_has ls 5 [(0, .ref o0), (1, .int x1), (2, .int x2), (3, .int x3), (4, .int x4)] → W p l e rm_X0_lift s m args below meth c H locs 0 0 QQ (F0 m 49 ls []) := by
    intro x4 S0 H locs ls hg hP hD hS hl
    refine lv_aload_n hx hb dX0_lift_49 rfl (lv_at hl 0 rfl) ?_
    refine va_get (D := G.1) (ci := 0) (v := .ref (d0 0)) (C := RX0) (T := TX0) (N := 4) hx hb hT iX0 hown hK hP 0 rfl rfl 0 (by decide) (hT _ q_199) (fun _ h9 => h9) rfl dX0_lift_50 ?_
    refine lv_iload_n hx hb dX0_lift_53 rfl (lv_at hl 1 rfl) ?_
    refine lv_iload hx hb dX0_lift_54 (lv_at hl 4 rfl) ?_
    refine lv_if_eq (tgt := 63) hx hb dX0_lift_56 (by decide) (fun c_1 => ?_) (fun c_1 => ?_)
    · have hg := hg.1 c_1
      refine lv_iload_n hx hb dX0_lift_63 rfl (lv_at hl 2 rfl) ?_
      exact J64 _ _ _ _ _ _ hg hP hD hS (lv_sub hl [0, 1, 3] rfl)
    · have hg := hg.2 c_1
      refine lv_iconst (v := 2) hx hb dX0_lift_59 (by decide) ?_
      refine lv_goto (tgt := 64) hx hb dX0_lift_60 (by decide) ?_
      exact J64 _ _ _ _ _ _ hg hP hD hS (lv_sub hl [0, 1, 3] rfl)
  have J30 : ∀ (t0 : Int32) (S0 : ZS) (H : Heap) (locs : List Loc) (ls : Array Slot), G_X0_lift_30 x1 x2 x3 Q t0 S0 → va_P G.1 classes (wX0 G o0 d0 S0) H → va_D A (wX0 G o0 d0 S0) → va_S A s.heap H locs → lv_has ls 5 [(0, .ref o0), (1, .int x1), (2, .int x2), (3, .int x3)] → W p l e rm_X0_lift s m args below meth c H locs 0 0 QQ (F0 m 30 ls [.int t0]) := by
    intro t0 S0 H locs ls hg hP hD hS hl
    refine lv_istore (lv' := [(4, .int t0), (0, .ref o0), (1, .int x1), (2, .int x2), (3, .int x3)]) hx hb dX0_lift_30 hl (by decide) rfl (fun ls hl => ?_)
    refine lv_iload_n hx hb dX0_lift_32 rfl (lv_at hl 3 rfl) ?_
    refine lv_aload_n hx hb dX0_lift_33 rfl (lv_at hl 1 rfl) ?_
    refine va_get (D := G.1) (ci := 0) (v := .ref (d0 0)) (C := RX0) (T := TX0) (N := 4) hx hb hT iX0 hown hK hP 0 rfl rfl 0 (by decide) (hT _ q_199) (fun _ h9 => h9) rfl dX0_lift_34 ?_
    refine lv_iload_n hx hb dX0_lift_37 rfl (lv_at hl 2 rfl) ?_
    refine va_iald hx hb hK hP 1 0 rfl rfl hg.1 dX0_lift_38 ?_
    have hg := hg.2
    refine lv_icmp_gt (tgt := 49) hx hb dX0_lift_39 (by decide) (fun c_1 => ?_) (fun c_1 => ?_)
    · have hg := hg.1 c_1
      exact J49 _ _ _ _ _ hg hP hD hS (lv_sub hl [1, 2, 3, 4, 0] rfl)
    · have hg := hg.2 c_1
      refine lv_iload hx hb dX0_lift_42 (lv_at hl 0 rfl) ?_
      refine lv_if_ne (tgt := 49) hx hb dX0_lift_44 (by decide) (fun c_2 => ?_) (fun c_2 => ?_)
      · have hg := hg.2 c_2
        exact J49 _ _ _ _ _ hg hP hD hS (lv_sub hl [1, 2, 3, 4, 0] rfl)
      · have hg := hg.1 c_2
        refine lv_iconst (v := 0) hx hb dX0_lift_47 (by decide) ?_
        exact hret _ _ _ (S0) _ _ hg rfl hP hD hS dX0_lift_48
  have J29 : ∀ (S0 : ZS) (H : Heap) (locs : List Loc) (ls : Array Slot), G_X0_lift_29 x1 x2 x3 Q S0 → va_P G.1 classes (wX0 G o0 d0 S0) H → va_D A (wX0 G o0 d0 S0) → va_S A s.heap H locs → lv_has ls 5 [(0, .ref o0), (1, .int x1), (2, .int x2), (3, .int x3)] → W p l e rm_X0_lift s m args below meth c H locs 0 0 QQ (F0 m 29 ls []) := by
    intro S0 H locs ls hg hP hD hS hl
    refine lv_iconst (v := 0) hx hb dX0_lift_29 (by decide) ?_
    exact J30 _ _ _ _ _ hg hP hD hS (lv_sub hl [0, 1, 2, 3] rfl)
  refine lv_aload_n hx hb dX0_lift_0 rfl (lv_at hl 0 rfl) ?_
  refine va_get (D := G.1) (ci := 0) (v := .ref (d0 0)) (C := RX0) (T := TX0) (N := 4) hx hb hT iX0 hown hK hP 0 rfl rfl 0 (by decide) (hT _ q_199) (fun _ h9 => h9) rfl dX0_lift_1 ?_
  refine lv_iload_n hx hb dX0_lift_4 rfl (lv_at hl 1 rfl) ?_
  refine va_iald hx hb hK hP 1 0 rfl rfl hg.1 dX0_lift_5 ?_
  have hg := hg.2
  refine lv_iconst (v := 1) hx hb dX0_lift_6 (by decide) ?_
  refine lv_icmp_ne (tgt := 29) hx hb dX0_lift_7 (by decide) (fun c_1 => ?_) (fun c_1 => ?_)
  · have hg := hg.2 c_1
    exact J29 _ _ _ _ hg hP hD hS (lv_sub hl [0, 1, 2, 3] rfl)
  · have hg := hg.1 c_1
    refine lv_iload_n hx hb dX0_lift_10 rfl (lv_at hl 2 rfl) ?_
    refine lv_iconst (v := 1) hx hb dX0_lift_11 (by decide) ?_
    refine lv_icmp_ne (tgt := 29) hx hb dX0_lift_12 (by decide) (fun c_2 => ?_) (fun c_2 => ?_)
    · have hg := hg.2 c_2
      exact J29 _ _ _ _ hg hP hD hS (lv_sub hl [0, 1, 2, 3] rfl)
    · have hg := hg.1 c_2
      refine lv_aload_n hx hb dX0_lift_15 rfl (lv_at hl 0 rfl) ?_
      refine va_get (D := G.1) (ci := 0) (v := .ref (d0 1)) (C := RX0) (T := TX0) (N := 4) hx hb hT iX0 hown hK hP 0 rfl rfl 1 (by decide) (hT _ q_201) (fun _ h9 => h9) rfl dX0_lift_16 ?_
      refine lv_iload_n hx hb dX0_lift_19 rfl (lv_at hl 1 rfl) ?_
      refine va_iald hx hb hK hP 2 0 rfl rfl hg.1 dX0_lift_20 ?_
      have hg := hg.2
      refine lv_iload_n hx hb dX0_lift_21 rfl (lv_at hl 3 rfl) ?_
      refine lv_icmp_eq (tgt := 29) hx hb dX0_lift_22 (by decide) (fun c_3 => ?_) (fun c_3 => ?_)
      · have hg := hg.1 c_3
        exact J29 _ _ _ _ hg hP hD hS (lv_sub hl [0, 1, 2, 3] rfl)
      · have hg := hg.2 c_3
        refine lv_iconst (v := 1) hx hb dX0_lift_25 (by decide) ?_
        refine lv_goto (tgt := 30) hx hb dX0_lift_26 (by decide) ?_
        exact J30 _ _ _ _ _ hg hP hD hS (lv_sub hl [0, 1, 2, 3] rfl)
theorem zv_X9_in : zSt yX9_in cX9_in 3 (some .boolean) 3 := ⟨q_831, q_8, q_832, by decide +kernel⟩
set_option maxHeartbeats 4000000 in
set_option maxRecDepth 100000 in
theorem c_X9_in (l : Launch) (G : ZG) (x0 : Int32) (x1 : Int32) (x2 : Int32) (Q : Int32 → Prop) (hg : g_X9_in x0 x1 x2 Q) : Ki l G yX9_in cX9_in 3 .boolean rm_X9_in [.int x0, .int x1, .int x2] (([] : va_W)) (fun _ : Unit => ([] : va_W)) (fun r _ => Q r ) := by
  refine Ki.of (by decide) (Nat.le_of_ble_eq_true rfl) ?_
  intro p e s m args below meth c A QQ ls Cx hret hl hP hD hS
  obtain ⟨hx, hb, hml, hown, hT, hK, hA⟩ := id Cx
  have hl : lv_has ls 3 [(0, .int x0), (1, .int x1), (2, .int x2)] := hl
  refine lv_iload_n hx hb dX9_in_0 rfl (lv_at hl 0 rfl) ?_
  refine lv_iload_n hx hb dX9_in_1 rfl (lv_at hl 1 rfl) ?_
  refine lv_icmp_lt (tgt := 14) hx hb dX9_in_2 (by decide) (fun c_1 => ?_) (fun c_1 => ?_)
  · have hg := hg.1 c_1
    refine lv_iconst (v := 0) hx hb dX9_in_14 (by decide) ?_
    exact hret _ _ _ () _ _ hg rfl hP hD hS dX9_in_15
  · have hg := hg.2 c_1
    refine lv_iload_n hx hb dX9_in_5 rfl (lv_at hl 0 rfl) ?_
    refine lv_iload_n hx hb dX9_in_6 rfl (lv_at hl 2 rfl) ?_
    refine lv_icmp_gt (tgt := 14) hx hb dX9_in_7 (by decide) (fun c_2 => ?_) (fun c_2 => ?_)
    · have hg := hg.1 c_2
      refine lv_iconst (v := 0) hx hb dX9_in_14 (by decide) ?_
      exact hret _ _ _ () _ _ hg rfl hP hD hS dX9_in_15
    · have hg := hg.2 c_2
      refine lv_iconst (v := 1) hx hb dX9_in_10 (by decide) ?_
      refine lv_goto (tgt := 15) hx hb dX9_in_11 (by decide) ?_
      exact hret _ _ _ () _ _ hg rfl hP hD hS dX9_in_15
theorem zv_X9_here : zV yX9_here RX9 cX9_here 1 (some .int) 0 := ⟨q_847, qp_2, q_8, q_848, by decide +kernel⟩
set_option maxHeartbeats 4000000 in
set_option maxRecDepth 100000 in
theorem c_X9_here (l : Launch) (G : ZG) (o0 : Nat) (d0 : Nat → Nat) (S0 : ZS) (Q : Int32 → ZS → Prop) (hg : g_X9_here S0 Q) : Ki l G yX9_here cX9_here 1 .int rm_X9_here [.ref o0] (wX9 G o0 d0 S0) (fun u : ZS => wX9 G o0 d0 u) (fun r u => Q r u) := by
  refine Ki.of (by decide) (Nat.le_of_ble_eq_true rfl) ?_
  intro p e s m args below meth c A QQ ls Cx hret hl hP hD hS
  obtain ⟨hx, hb, hml, hown, hT, hK, hA⟩ := id Cx
  have hl : lv_has ls 1 [(0, .ref o0)] := hl
  have J38 : ∀ (S0 : ZS) (H : Heap) (locs : List Loc) (ls : Array Slot), G_X9_here_38 Q S0 → va_P G.1 classes (wX9 G o0 d0 S0) H → va_D A (wX9 G o0 d0 S0) → va_S A s.heap H locs → lv_has ls 1 [(0, .ref o0)] → W p l e rm_X9_here s m args below meth c H locs 0 0 QQ (F0 m 38 ls []) := by
    intro S0 H locs ls hg hP hD hS hl
    refine lv_aload_n hx hb dX9_here_38 rfl (lv_at hl 0 rfl) ?_
    refine va_get (D := G.1) (ci := 7) (v := .int (S0 22 0)) (C := RX9) (T := TX9) (N := 49) hx hb hT iX9 hown hK hP 0 rfl rfl 22 (by decide) (hT _ q_699) (fun _ h9 => h9) rfl dX9_here_39 ?_
    refine lv_aload_n hx hb dX9_here_42 rfl (lv_at hl 0 rfl) ?_
    refine va_get (D := G.1) (ci := 7) (v := .int (S0 1 0)) (C := RX9) (T := TX9) (N := 49) hx hb hT iX9 hown hK hP 0 rfl rfl 1 (by decide) (hT _ q_678) (fun _ h9 => h9) rfl dX9_here_43 ?_
    refine lv_icmp_ge (tgt := 61) hx hb dX9_here_46 (by decide) (fun c_1 => ?_) (fun c_1 => ?_)
    · have hg := hg.1 c_1
      refine lv_iconst (v := (-1)) hx hb dX9_here_61 (by decide) ?_
      exact hret _ _ _ (S0) _ _ hg rfl hP hD hS dX9_here_62
    · have hg := hg.2 c_1
      refine lv_aload_n hx hb dX9_here_49 rfl (lv_at hl 0 rfl) ?_
      refine va_get (D := G.1) (ci := 7) (v := .ref (d0 0)) (C := RX9) (T := TX9) (N := 49) hx hb hT iX9 hown hK hP 0 rfl rfl 0 (by decide) (hT _ q_677) (fun _ h9 => h9) rfl dX9_here_50 ?_
      refine lv_aload_n hx hb dX9_here_53 rfl (lv_at hl 0 rfl) ?_
      refine va_get (D := G.1) (ci := 7) (v := .int (S0 22 0)) (C := RX9) (T := TX9) (N := 49) hx hb hT iX9 hown hK hP 0 rfl rfl 22 (by decide) (hT _ q_699) (fun _ h9 => h9) rfl dX9_here_54 ?_
      refine va_iald hx hb hK hP 1 0 rfl rfl hg.1 dX9_here_57 ?_
      have hg := hg.2
      refine lv_goto (tgt := 62) hx hb dX9_here_58 (by decide) ?_
      exact hret _ _ _ (S0) _ _ hg rfl hP hD hS dX9_here_62
  have L0 : ∀ (n : Nat) (S0 : ZS) (H : Heap) (locs : List Loc) (ls : Array Slot), fx (F_X9_here_0 Q) n S0 → va_P G.1 classes (wX9 G o0 d0 S0) H → va_D A (wX9 G o0 d0 S0) → va_S A s.heap H locs → lv_has ls 1 [(0, .ref o0)] → W p l e rm_X9_here s m args below meth c H locs 0 0 QQ (F0 m 0 ls []) := by
    intro n
    induction n with
    | zero => intro S0 H locs ls hg; exact hg.elim
    | succ n ih =>
      have hX0 := ih
      intro S0 H locs ls hg hP hD hS hl
      refine lv_aload_n hx hb dX9_here_0 rfl (lv_at hl 0 rfl) ?_
      refine va_get (D := G.1) (ci := 7) (v := .int (S0 22 0)) (C := RX9) (T := TX9) (N := 49) hx hb hT iX9 hown hK hP 0 rfl rfl 22 (by decide) (hT _ q_699) (fun _ h9 => h9) rfl dX9_here_1 ?_
      refine lv_aload_n hx hb dX9_here_4 rfl (lv_at hl 0 rfl) ?_
      refine va_get (D := G.1) (ci := 7) (v := .int (S0 1 0)) (C := RX9) (T := TX9) (N := 49) hx hb hT iX9 hown hK hP 0 rfl rfl 1 (by decide) (hT _ q_678) (fun _ h9 => h9) rfl dX9_here_5 ?_
      refine lv_icmp_ge (tgt := 38) hx hb dX9_here_8 (by decide) (fun c_1 => ?_) (fun c_1 => ?_)
      · have hg := hg.1 c_1
        exact J38 _ _ _ _ hg hP hD hS (lv_sub hl [0] rfl)
      · have hg := hg.2 c_1
        refine lv_aload_n hx hb dX9_here_11 rfl (lv_at hl 0 rfl) ?_
        refine va_get (D := G.1) (ci := 7) (v := .ref (d0 0)) (C := RX9) (T := TX9) (N := 49) hx hb hT iX9 hown hK hP 0 rfl rfl 0 (by decide) (hT _ q_677) (fun _ h9 => h9) rfl dX9_here_12 ?_
        refine lv_aload_n hx hb dX9_here_15 rfl (lv_at hl 0 rfl) ?_
        refine va_get (D := G.1) (ci := 7) (v := .int (S0 22 0)) (C := RX9) (T := TX9) (N := 49) hx hb hT iX9 hown hK hP 0 rfl rfl 22 (by decide) (hT _ q_699) (fun _ h9 => h9) rfl dX9_here_16 ?_
        refine va_iald hx hb hK hP 1 0 rfl rfl hg.1 dX9_here_19 ?_
        have hg := hg.2
        refine lv_bipush (v := 32) hx hb dX9_here_20 (by decide) ?_
        refine lv_icmp_ne (tgt := 38) hx hb dX9_here_22 (by decide) (fun c_2 => ?_) (fun c_2 => ?_)
        · have hg := hg.2 c_2
          exact J38 _ _ _ _ hg hP hD hS (lv_sub hl [0] rfl)
        · have hg := hg.1 c_2
          refine lv_aload_n hx hb dX9_here_25 rfl (lv_at hl 0 rfl) ?_
          refine lv_dup hx hb dX9_here_26 rfl ?_
          refine va_get (D := G.1) (ci := 7) (v := .int (S0 22 0)) (C := RX9) (T := TX9) (N := 49) hx hb hT iX9 hown hK hP 0 rfl rfl 22 (by decide) (hT _ q_699) (fun _ h9 => h9) rfl dX9_here_27 ?_
          refine lv_iconst (v := 1) hx hb dX9_here_30 (by decide) ?_
          refine lv_iadd hx hb dX9_here_31 ?_
          refine z_put (D := G.1) (ci := 7) (v := .int ((S0 22 0) + 1)) (ty := .int) (C := RX9) (T := TX9) (N := 49) hx hb hT iX9 tyX9 tyX9_ok nmX9 hown hK hP hD hS 0 rfl rfl 22 (by decide) (hT _ q_699) (fun _ h9 => h9) rfl (by decide +kernel) rfl rfl (Nat.le_of_ble_eq_true rfl) dX9_here_32 (zst S0 22 0 ((S0 22 0) + 1)) (fun S : ZS => wX9 G o0 d0 S) rfl (fun S0_3 H locs eS0_3 hP hD hS => ?_)
          have hg := hg S0_3 eS0_3
          refine lv_goto (tgt := 0) hx hb dX9_here_35 (by decide) ?_
          exact hX0 _ _ _ _ hg hP hD hS (lv_sub hl [0] rfl)
  obtain ⟨n, hg⟩ := hg
  exact L0 n _ _ _ _ hg hP hD hS (lv_sub hl [0] rfl)
theorem zv_X9_numeral : zV yX9_numeral RX9 cX9_numeral 4 (some .int) 1 := ⟨q_871, qp_8, q_8, q_872, by decide +kernel⟩
set_option maxHeartbeats 4000000 in
set_option maxRecDepth 100000 in
theorem c_X9_numeral (l : Launch) (G : ZG) (o0 : Nat) (d0 : Nat → Nat) (x1 : Int32) (S0 : ZS) (Q : Int32 → ZS → Prop) (hg : g_X9_numeral x1 S0 Q) : Ki l G yX9_numeral cX9_numeral 4 .int rm_X9_numeral [.ref o0, .int x1] (wX9 G o0 d0 S0) (fun u : ZS => wX9 G o0 d0 u) (fun r u => Q r u) := by
  refine Ki.of (by decide) (Nat.le_of_ble_eq_true rfl) ?_
  intro p e s m args below meth c A QQ ls Cx hret hl hP hD hS
  obtain ⟨hx, hb, hml, hown, hT, hK, hA⟩ := id Cx
  have hl : lv_has ls 4 [(0, .ref o0), (1, .int x1)] := hl
  have J126 : ∀ (x2 : Int32) (x3 : Int32) (t1 : Int32) (S0 : ZS) (H : Heap) (locs : List Loc) (ls : Array Slot), G_X9_numeral_126 x1 Q x2 x3 t1 S0 → va_P G.1 classes (wX9 G o0 d0 S0) H → va_D A (wX9 G o0 d0 S0) → va_S A s.heap H locs → lv_has ls 4 [(0, .ref o0), (2, .int x2), (3, .int x3)] → W p l e rm_X9_numeral s m args below meth c H locs 0 0 QQ (F0 m 126 ls [.int t1, .ref o0]) := by
    intro x2 x3 t1 S0 H locs ls hg hP hD hS hl
    refine z_put (D := G.1) (ci := 7) (v := .int t1) (ty := .boolean) (C := RX9) (T := TX9) (N := 49) hx hb hT iX9 tyX9 tyX9_ok nmX9 hown hK hP hD hS 0 rfl rfl 23 (by decide) (hT _ q_700) (fun _ h9 => h9) rfl (by decide +kernel) hg.1.nar hg.1.fit (Nat.le_of_ble_eq_true rfl) dX9_numeral_126 (zst S0 23 0 t1) (fun S : ZS => wX9 G o0 d0 S) rfl (fun S0_1 H locs eS0_1 hP hD hS => ?_)
    have hg := hg.2 S0_1 eS0_1
    refine lv_aload_n hx hb dX9_numeral_129 rfl (lv_at hl 0 rfl) ?_
    refine lv_dup hx hb dX9_numeral_130 rfl ?_
    refine va_get (D := G.1) (ci := 7) (v := .int (S0_1 22 0)) (C := RX9) (T := TX9) (N := 49) hx hb hT iX9 hown hK hP 0 rfl rfl 22 (by decide) (hT _ q_699) (fun _ h9 => h9) rfl dX9_numeral_131 ?_
    refine lv_aload_n hx hb dX9_numeral_134 rfl (lv_at hl 0 rfl) ?_
    refine va_get (D := G.1) (ci := 7) (v := .int (S0_1 23 0)) (C := RX9) (T := TX9) (N := 49) hx hb hT iX9 hown hK hP 0 rfl rfl 23 (by decide) (hT _ q_700) (fun _ h9 => h9) rfl dX9_numeral_135 ?_
    refine lv_if_eq (tgt := 145) hx hb dX9_numeral_138 (by decide) (fun c_2 => ?_) (fun c_2 => ?_)
    · have hg := hg.1 c_2
      refine lv_iload_n hx hb dX9_numeral_145 rfl (lv_at hl 1 rfl) ?_
      refine lv_iadd hx hb dX9_numeral_146 ?_
      refine z_put (D := G.1) (ci := 7) (v := .int ((S0_1 22 0) + x2)) (ty := .int) (C := RX9) (T := TX9) (N := 49) hx hb hT iX9 tyX9 tyX9_ok nmX9 hown hK hP hD hS 0 rfl rfl 22 (by decide) (hT _ q_699) (fun _ h9 => h9) rfl (by decide +kernel) rfl rfl (Nat.le_of_ble_eq_true rfl) dX9_numeral_147 (zst S0_1 22 0 ((S0_1 22 0) + x2)) (fun S : ZS => wX9 G o0 d0 S) rfl (fun S0_3 H locs eS0_3 hP hD hS => ?_)
      have hg := hg S0_3 eS0_3
      refine lv_iload_n hx hb dX9_numeral_150 rfl (lv_at hl 2 rfl) ?_
      exact hret _ _ _ (S0_3) _ _ hg rfl hP hD hS dX9_numeral_151
    · have hg := hg.2 c_2
      refine lv_iconst (v := 0) hx hb dX9_numeral_141 (by decide) ?_
      refine lv_goto (tgt := 146) hx hb dX9_numeral_142 (by decide) ?_
      refine lv_iadd hx hb dX9_numeral_146 ?_
      refine z_put (D := G.1) (ci := 7) (v := .int ((S0_1 22 0) + 0)) (ty := .int) (C := RX9) (T := TX9) (N := 49) hx hb hT iX9 tyX9 tyX9_ok nmX9 hown hK hP hD hS 0 rfl rfl 22 (by decide) (hT _ q_699) (fun _ h9 => h9) rfl (by decide +kernel) rfl rfl (Nat.le_of_ble_eq_true rfl) dX9_numeral_147 (zst S0_1 22 0 ((S0_1 22 0) + 0)) (fun S : ZS => wX9 G o0 d0 S) rfl (fun S0_4 H locs eS0_4 hP hD hS => ?_)
      have hg := hg S0_4 eS0_4
      refine lv_iload_n hx hb dX9_numeral_150 rfl (lv_at hl 2 rfl) ?_
      exact hret _ _ _ (S0_4) _ _ hg rfl hP hD hS dX9_numeral_151
  have J121 : ∀ (x2 : Int32) (x3 : Int32) (S0 : ZS) (H : Heap) (locs : List Loc) (ls : Array Slot), G_X9_numeral_121 x1 Q x2 x3 S0 → va_P G.1 classes (wX9 G o0 d0 S0) H → va_D A (wX9 G o0 d0 S0) → va_S A s.heap H locs → lv_has ls 4 [(0, .ref o0), (2, .int x2), (3, .int x3)] → W p l e rm_X9_numeral s m args below meth c H locs 0 0 QQ (F0 m 121 ls [.ref o0]) := by
    intro x2 x3 S0 H locs ls hg hP hD hS hl
    refine lv_iconst (v := 1) hx hb dX9_numeral_121 (by decide) ?_
    refine lv_goto (tgt := 126) hx hb dX9_numeral_122 (by decide) ?_
    exact J126 _ _ _ _ _ _ _ hg hP hD hS (lv_sub hl [0, 1, 2] rfl)
  have J116 : ∀ (x2 : Int32) (x3 : Int32) (S0 : ZS) (H : Heap) (locs : List Loc) (ls : Array Slot), G_X9_numeral_116 x1 Q x2 x3 S0 → va_P G.1 classes (wX9 G o0 d0 S0) H → va_D A (wX9 G o0 d0 S0) → va_S A s.heap H locs → lv_has ls 4 [(0, .ref o0), (1, .int x1), (2, .int x2), (3, .int x3)] → W p l e rm_X9_numeral s m args below meth c H locs 0 0 QQ (F0 m 116 ls [.ref o0]) := by
    intro x2 x3 S0 H locs ls hg hP hD hS hl
    refine lv_iload_n hx hb dX9_numeral_116 rfl (lv_at hl 3 rfl) ?_
    refine lv_iload_n hx hb dX9_numeral_117 rfl (lv_at hl 1 rfl) ?_
    refine lv_icmp_le (tgt := 125) hx hb dX9_numeral_118 (by decide) (fun c_1 => ?_) (fun c_1 => ?_)
    · have hg := hg.1 c_1
      refine lv_iconst (v := 0) hx hb dX9_numeral_125 (by decide) ?_
      exact J126 _ _ _ _ _ _ _ hg hP hD hS (lv_sub hl [0, 2, 3] rfl)
    · have hg := hg.2 c_1
      exact J121 _ _ _ _ _ _ hg hP hD hS (lv_sub hl [0, 2, 3] rfl)
  have J87 : ∀ (x2 : Int32) (x3 : Int32) (S0 : ZS) (H : Heap) (locs : List Loc) (ls : Array Slot), G_X9_numeral_87 x1 Q x2 x3 S0 → va_P G.1 classes (wX9 G o0 d0 S0) H → va_D A (wX9 G o0 d0 S0) → va_S A s.heap H locs → lv_has ls 4 [(0, .ref o0), (1, .int x1), (2, .int x2), (3, .int x3)] → W p l e rm_X9_numeral s m args below meth c H locs 0 0 QQ (F0 m 87 ls []) := by
    intro x2 x3 S0 H locs ls hg hP hD hS hl
    refine lv_aload_n hx hb dX9_numeral_87 rfl (lv_at hl 0 rfl) ?_
    refine lv_iload_n hx hb dX9_numeral_88 rfl (lv_at hl 2 rfl) ?_
    refine lv_iconst (v := 1) hx hb dX9_numeral_89 (by decide) ?_
    refine lv_iconst (v := 3) hx hb dX9_numeral_90 (by decide) ?_
    refine zcSi (As := [.int x2, .int 1, .int 3]) (rest := [.ref o0]) Cx (c_X9_in l G x2 1 3 _ hg) zv_X9_in q_830 ⟨⟨rfl, rfl⟩, Nat.le_of_ble_eq_true rfl, Nat.le_of_ble_eq_true rfl⟩ (zJ.none (S := Unit) hP hD hS hA) hS rfl hl.1 rfl (Nat.le_of_ble_eq_true rfl) dX9_numeral_91 (fun r_1 _u H locs hg hP hD hS => ?_)
    refine lv_if_eq (tgt := 121) hx hb dX9_numeral_94 (by decide) (fun c_2 => ?_) (fun c_2 => ?_)
    · have hg := hg.1 c_2
      exact J121 _ _ _ _ _ _ hg hP hD hS (lv_sub hl [0, 2, 3] rfl)
    · have hg := hg.2 c_2
      refine lv_iload_n hx hb dX9_numeral_97 rfl (lv_at hl 2 rfl) ?_
      refine lv_iconst (v := 1) hx hb dX9_numeral_98 (by decide) ?_
      refine lv_icmp_le (tgt := 116) hx hb dX9_numeral_99 (by decide) (fun c_3 => ?_) (fun c_3 => ?_)
      · have hg := hg.1 c_3
        exact J116 _ _ _ _ _ _ hg hP hD hS (lv_sub hl [0, 1, 2, 3] rfl)
      · have hg := hg.2 c_3
        refine lv_aload_n hx hb dX9_numeral_102 rfl (lv_at hl 0 rfl) ?_
        refine va_get (D := G.1) (ci := 7) (v := .ref (d0 0)) (C := RX9) (T := TX9) (N := 49) hx hb hT iX9 hown hK hP 0 rfl rfl 0 (by decide) (hT _ q_677) (fun _ h9 => h9) rfl dX9_numeral_103 ?_
        refine lv_aload_n hx hb dX9_numeral_106 rfl (lv_at hl 0 rfl) ?_
        refine va_get (D := G.1) (ci := 7) (v := .int (S0 22 0)) (C := RX9) (T := TX9) (N := 49) hx hb hT iX9 hown hK hP 0 rfl rfl 22 (by decide) (hT _ q_699) (fun _ h9 => h9) rfl dX9_numeral_107 ?_
        refine va_iald hx hb hK hP 1 0 rfl rfl hg.1 dX9_numeral_110 ?_
        have hg := hg.2
        refine lv_bipush (v := 48) hx hb dX9_numeral_111 (by decide) ?_
        refine lv_icmp_eq (tgt := 121) hx hb dX9_numeral_113 (by decide) (fun c_4 => ?_) (fun c_4 => ?_)
        · have hg := hg.1 c_4
          exact J121 _ _ _ _ _ _ hg hP hD hS (lv_sub hl [0, 2, 3] rfl)
        · have hg := hg.2 c_4
          exact J116 _ _ _ _ _ _ hg hP hD hS (lv_sub hl [0, 1, 2, 3] rfl)
  have L18 : ∀ (n : Nat) (x2 : Int32) (x3 : Int32) (S0 : ZS) (H : Heap) (locs : List Loc) (ls : Array Slot), fx (F_X9_numeral_18 x1 Q) n (x2, x3, S0) → va_P G.1 classes (wX9 G o0 d0 S0) H → va_D A (wX9 G o0 d0 S0) → va_S A s.heap H locs → lv_has ls 4 [(0, .ref o0), (1, .int x1), (2, .int x2), (3, .int x3)] → W p l e rm_X9_numeral s m args below meth c H locs 0 0 QQ (F0 m 18 ls []) := by
    intro n
    induction n with
    | zero => intro x2 x3 S0 H locs ls hg; exact hg.elim
    | succ n ih =>
      have hX18 := ih
      intro x2 x3 S0 H locs ls hg hP hD hS hl
      refine lv_aload_n hx hb dX9_numeral_18 rfl (lv_at hl 0 rfl) ?_
      refine va_get (D := G.1) (ci := 7) (v := .int (S0 22 0)) (C := RX9) (T := TX9) (N := 49) hx hb hT iX9 hown hK hP 0 rfl rfl 22 (by decide) (hT _ q_699) (fun _ h9 => h9) rfl dX9_numeral_19 ?_
      refine lv_iload_n hx hb dX9_numeral_22 rfl (lv_at hl 2 rfl) ?_
      refine lv_iadd hx hb dX9_numeral_23 ?_
      refine lv_aload_n hx hb dX9_numeral_24 rfl (lv_at hl 0 rfl) ?_
      refine va_get (D := G.1) (ci := 7) (v := .int (S0 1 0)) (C := RX9) (T := TX9) (N := 49) hx hb hT iX9 hown hK hP 0 rfl rfl 1 (by decide) (hT _ q_678) (fun _ h9 => h9) rfl dX9_numeral_25 ?_
      refine lv_icmp_ge (tgt := 87) hx hb dX9_numeral_28 (by decide) (fun c_1 => ?_) (fun c_1 => ?_)
      · have hg := hg.1 c_1
        exact J87 _ _ _ _ _ _ hg hP hD hS (lv_sub hl [0, 1, 2, 3] rfl)
      · have hg := hg.2 c_1
        refine lv_aload_n hx hb dX9_numeral_31 rfl (lv_at hl 0 rfl) ?_
        refine va_get (D := G.1) (ci := 7) (v := .ref (d0 0)) (C := RX9) (T := TX9) (N := 49) hx hb hT iX9 hown hK hP 0 rfl rfl 0 (by decide) (hT _ q_677) (fun _ h9 => h9) rfl dX9_numeral_32 ?_
        refine lv_aload_n hx hb dX9_numeral_35 rfl (lv_at hl 0 rfl) ?_
        refine va_get (D := G.1) (ci := 7) (v := .int (S0 22 0)) (C := RX9) (T := TX9) (N := 49) hx hb hT iX9 hown hK hP 0 rfl rfl 22 (by decide) (hT _ q_699) (fun _ h9 => h9) rfl dX9_numeral_36 ?_
        refine lv_iload_n hx hb dX9_numeral_39 rfl (lv_at hl 2 rfl) ?_
        refine lv_iadd hx hb dX9_numeral_40 ?_
        refine va_iald hx hb hK hP 1 0 rfl rfl hg.1 dX9_numeral_41 ?_
        have hg := hg.2
        refine lv_bipush (v := 48) hx hb dX9_numeral_42 (by decide) ?_
        refine lv_bipush (v := 57) hx hb dX9_numeral_44 (by decide) ?_
        refine zcSi (As := [.int (S0 0 ((S0 22 0) + x2).toNatClampNeg), .int 48, .int 57]) (rest := []) Cx (c_X9_in l G (S0 0 ((S0 22 0) + x2).toNatClampNeg) 48 57 _ hg) zv_X9_in q_830 ⟨⟨rfl, rfl⟩, Nat.le_of_ble_eq_true rfl, Nat.le_of_ble_eq_true rfl⟩ (zJ.none (S := Unit) hP hD hS hA) hS rfl hl.1 rfl (Nat.le_of_ble_eq_true rfl) dX9_numeral_46 (fun r_2 _u H locs hg hP hD hS => ?_)
        refine lv_if_eq (tgt := 87) hx hb dX9_numeral_49 (by decide) (fun c_3 => ?_) (fun c_3 => ?_)
        · have hg := hg.1 c_3
          exact J87 _ _ _ _ _ _ hg hP hD hS (lv_sub hl [0, 1, 2, 3] rfl)
        · have hg := hg.2 c_3
          refine lv_iload_n hx hb dX9_numeral_52 rfl (lv_at hl 2 rfl) ?_
          refine lv_iconst (v := 4) hx hb dX9_numeral_53 (by decide) ?_
          refine lv_icmp_ge (tgt := 79) hx hb dX9_numeral_54 (by decide) (fun c_4 => ?_) (fun c_4 => ?_)
          · have hg := hg.1 c_4
            refine lv_iload_n hx hb dX9_numeral_79 rfl (lv_at hl 3 rfl) ?_
            refine lv_istore_n (lv' := [(3, .int x3), (0, .ref o0), (1, .int x1), (2, .int x2)]) hx hb dX9_numeral_80 rfl hl (by decide) rfl (fun ls hl => ?_)
            obtain ⟨x2_5, ex2_5⟩ : ∃ y : Int32, y = x2 + 1 := ⟨_, rfl⟩
            have hg := hg x2_5 ex2_5
            refine lv_iinc (v := x2_5) (lv' := [(2, .int x2_5), (3, .int x3), (0, .ref o0), (1, .int x1)]) hx hb dX9_numeral_81 hl (k := 3) rfl (by rw [ex2_5]; rfl) (by decide) rfl (fun ls hl => ?_)
            refine lv_goto (tgt := 18) hx hb dX9_numeral_84 (by decide) ?_
            exact hX18 _ _ _ _ _ _ hg hP hD hS (lv_sub hl [2, 3, 0, 1] rfl)
          · have hg := hg.2 c_4
            refine lv_bipush (v := 10) hx hb dX9_numeral_57 (by decide) ?_
            refine lv_iload_n hx hb dX9_numeral_59 rfl (lv_at hl 3 rfl) ?_
            refine lv_imul hx hb dX9_numeral_60 ?_
            refine lv_aload_n hx hb dX9_numeral_61 rfl (lv_at hl 0 rfl) ?_
            refine va_get (D := G.1) (ci := 7) (v := .ref (d0 0)) (C := RX9) (T := TX9) (N := 49) hx hb hT iX9 hown hK hP 0 rfl rfl 0 (by decide) (hT _ q_677) (fun _ h9 => h9) rfl dX9_numeral_62 ?_
            refine lv_aload_n hx hb dX9_numeral_65 rfl (lv_at hl 0 rfl) ?_
            refine va_get (D := G.1) (ci := 7) (v := .int (S0 22 0)) (C := RX9) (T := TX9) (N := 49) hx hb hT iX9 hown hK hP 0 rfl rfl 22 (by decide) (hT _ q_699) (fun _ h9 => h9) rfl dX9_numeral_66 ?_
            refine lv_iload_n hx hb dX9_numeral_69 rfl (lv_at hl 2 rfl) ?_
            refine lv_iadd hx hb dX9_numeral_70 ?_
            refine va_iald hx hb hK hP 1 0 rfl rfl hg.1 dX9_numeral_71 ?_
            have hg := hg.2
            refine lv_iadd hx hb dX9_numeral_72 ?_
            refine lv_bipush (v := 48) hx hb dX9_numeral_73 (by decide) ?_
            refine lv_isub hx hb dX9_numeral_75 ?_
            refine lv_goto (tgt := 80) hx hb dX9_numeral_76 (by decide) ?_
            refine lv_topi (fun x3_6 ex3_6 => ?_)
            have hg := hg x3_6 ex3_6
            refine lv_istore_n (lv' := [(3, .int x3_6), (0, .ref o0), (1, .int x1), (2, .int x2)]) hx hb dX9_numeral_80 rfl hl (by decide) rfl (fun ls hl => ?_)
            obtain ⟨x2_7, ex2_7⟩ : ∃ y : Int32, y = x2 + 1 := ⟨_, rfl⟩
            have hg := hg x2_7 ex2_7
            refine lv_iinc (v := x2_7) (lv' := [(2, .int x2_7), (3, .int x3_6), (0, .ref o0), (1, .int x1)]) hx hb dX9_numeral_81 hl (k := 3) rfl (by rw [ex2_7]; rfl) (by decide) rfl (fun ls hl => ?_)
            refine lv_goto (tgt := 18) hx hb dX9_numeral_84 (by decide) ?_
            exact hX18 _ _ _ _ _ _ hg hP hD hS (lv_sub hl [2, 3, 0, 1] rfl)
  refine lv_aload_n hx hb dX9_numeral_0 rfl (lv_at hl 0 rfl) ?_
  refine va_get (D := G.1) (ci := 7) (v := .int (S0 23 0)) (C := RX9) (T := TX9) (N := 49) hx hb hT iX9 hown hK hP 0 rfl rfl 23 (by decide) (hT _ q_700) (fun _ h9 => h9) rfl dX9_numeral_1 ?_
  refine lv_if_eq (tgt := 9) hx hb dX9_numeral_4 (by decide) (fun c_1 => ?_) (fun c_1 => ?_)
  · have hg := hg.1 c_1
    refine lv_aload_n hx hb dX9_numeral_9 rfl (lv_at hl 0 rfl) ?_
    refine zcVi (As := []) (rest := []) (C := RX9) Cx (c_X9_here l G o0 d0 S0 _ hg) zv_X9_here q_845 ⟨⟨rfl, rfl⟩, Nat.le_of_ble_eq_true rfl, Nat.le_of_ble_eq_true rfl⟩ (zJ.all hP hD hS hA) hS 7 rfl rfl rfl rfl hl.1 rfl (Nat.le_of_ble_eq_true rfl) dX9_numeral_10 (fun r_3 S0_2 H locs hg hP hD hS => ?_)
    have hP : va_P G.1 classes (wX9 G o0 d0 S0_2) H := hP
    have hD : va_D A (wX9 G o0 d0 S0_2) := hD
    refine lv_pop hx hb dX9_numeral_13 rfl ?_
    refine lv_iconst (v := 0) hx hb dX9_numeral_14 (by decide) ?_
    refine lv_istore_n (lv' := [(2, .int 0), (0, .ref o0), (1, .int x1)]) hx hb dX9_numeral_15 rfl hl (by decide) rfl (fun ls hl => ?_)
    refine lv_iconst (v := 0) hx hb dX9_numeral_16 (by decide) ?_
    refine lv_istore_n (lv' := [(3, .int 0), (2, .int 0), (0, .ref o0), (1, .int x1)]) hx hb dX9_numeral_17 rfl hl (by decide) rfl (fun ls hl => ?_)
    obtain ⟨n, hg⟩ := hg
    exact L18 n _ _ _ _ _ _ hg hP hD hS (lv_sub hl [2, 3, 1, 0] rfl)
  · have hg := hg.2 c_1
    refine lv_iconst (v := 0) hx hb dX9_numeral_7 (by decide) ?_
    exact hret _ _ _ (S0) _ _ hg rfl hP hD hS dX9_numeral_8
end
